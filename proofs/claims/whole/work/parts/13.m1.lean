-- LooseHeapModel.thrown
def FX3_thrown (n : Nat) (st : St) : Option (Int32 × St) := some ((st.1 14 0), st)
set_option maxHeartbeats 4000000 in
set_option maxRecDepth 100000 in
theorem kX3_thrown (l : Launch) (D : va_G) (h : Nat → Nat) (cI cJ cZ : ClassId) (n : Nat) (st : St) (r : Int32) (u : St) (hF : FX3_thrown n  st = some (r, u)) : Ci l yX3_thrown cX3_thrown 1 (some .int) 0 0 D (tyL cI cJ cZ) (wM h cI cJ cZ) st [.ref (h 14)] r u := by
  refine body_i (by decide +kernel) (Nat.le_of_ble_eq_true rfl) ?_
  intro p e s m below meth c A ls E hr hlocks hA hP hD hS hl
  have E : Env1 p s m _ c cX3_thrown 1 RX3 D (tyL cI cJ cZ) := E
  have hl : lv_has ls 1 [(0, .ref (h 14))] := hl
  have hx := E.1.1
  have hb := E.1.2.1
  have hml := E.1.2.2.1
  unfold FX3_thrown at hF
  refine lv_aload_n hx hb dX3_thrown_0 rfl (lv_at hl 0 rfl) ?_
  refine g_14_0 E hP dX3_thrown_1 ?_
  exact endI E hr hlocks hP hD hS dX3_thrown_4 hF
-- LooseHeapModel.throwing
def FX3_throwing (n : Nat) (x1 : Int32) (st : St) : Option (Int32 × St) := some ((0 : Int32), (pt st 14 0 x1))
set_option maxHeartbeats 4000000 in
set_option maxRecDepth 100000 in
theorem kX3_throwing (l : Launch) (D : va_G) (h : Nat → Nat) (cI cJ cZ : ClassId) (n : Nat) (x1 : Int32) (st : St) (r : Int32) (u : St) (hF : FX3_throwing n x1 st = some (r, u)) : Ci l yX3_throwing cX3_throwing 2 (some .int) 0 0 D (tyL cI cJ cZ) (wM h cI cJ cZ) st [.ref (h 14), .int x1] r u := by
  refine body_i (by decide +kernel) (Nat.le_of_ble_eq_true rfl) ?_
  intro p e s m below meth c A ls E hr hlocks hA hP hD hS hl
  have E : Env1 p s m _ c cX3_throwing 2 RX3 D (tyL cI cJ cZ) := E
  have hl : lv_has ls 2 [(0, .ref (h 14)), (1, .int x1)] := hl
  have hx := E.1.1
  have hb := E.1.2.1
  have hml := E.1.2.2.1
  unfold FX3_throwing at hF
  refine lv_aload_n hx hb dX3_throwing_0 rfl (lv_at hl 0 rfl) ?_
  refine lv_iload_n hx hb dX3_throwing_1 rfl (lv_at hl 1 rfl) ?_
  refine s_14_0 E hP hD hS dX3_throwing_2 (fun H locs hP hD hS => ?_)
  refine lv_iconst (v := 0) hx hb dX3_throwing_5 (by decide) ?_
  exact endI E hr hlocks hP hD hS dX3_throwing_6 hF
-- LooseHeapModel.anew
def LX3_anew_90 : Nat → Int32 → Int32 → Int32 → St → Option (Int32 × St)
  | 0 => fun _ _ _ _ => none
  | n + 1 => fun x1 x2 x3 st => (if (13 : Int32) ≤ x3 then some ((0 : Int32), st) else gd x3 13 (LX3_anew_90 n x1 x2 (x3 + (1 : Int32)) (pt st 25 x3.toNatClampNeg (0 : Int32))))
set_option maxHeartbeats 4000000 in
set_option maxRecDepth 100000 in
theorem lX3_anew_90 {l : Launch} {D : va_G} {h : Nat → Nat} {cI cJ cZ : ClassId} {p : Program} {e : Env} {s : State} {m : MethodId} {args : Array Value} {below : List Frame} {meth : Method} {c : Code} {A : Nat → Prop} {r : Int32} {u : St} (E : Env1 p s m args c cX3_anew 4 RX3 D (tyL cI cJ cZ)) (hr : meth.sig.returnType = none) (hlocks : meth.locks = false) (hA : ∀ q : Nat, s.heap.size ≤ q → A q) : ∀ (n : Nat) (x1 x2 x3 : Int32) (st : St) (H : Heap) (locs : List Loc) (ls : Array Slot), va_P D vwCl (wM h cI cJ cZ st) H → va_D A (wM h cI cJ cZ st) → va_S A s.heap H locs → lv_has ls 4 [(0, .ref (h 14)), (1, .int x1), (2, .int x2), (3, .int x3)] → LX3_anew_90 n x1 x2 x3 st = some (r, u) → W p l e (rm 0 0) s m args below meth c H locs 0 0 (MQ below (CQv D (tyL cI cJ cZ) (wM h cI cJ cZ) A u) args s 0 0 A) (F0 m 90 ls []) := by
  have hx := E.1.1
  have hb := E.1.2.1
  have hml := E.1.2.2.1
  intro n
  induction n with
  | zero => intro x1 x2 x3 st H locs ls hP hD hS hl hF; simp only [LX3_anew_90] at hF; cases hF
  | succ n ih =>
    intro x1 x2 x3 st H locs ls hP hD hS hl hF
    simp only [LX3_anew_90] at hF
    refine lv_iload_n hx hb dX3_anew_90 rfl (lv_at hl 3 rfl) ?_
    refine lv_bipush (v := 13) hx hb dX3_anew_91 (by decide) ?_
    refine lv_icmp_ge (tgt := 109) hx hb dX3_anew_93 (by decide) (fun hc => ?_) (fun hc => ?_)
    · have hF := if_t hc hF
      exact endV E hr hlocks hP hD hS dX3_anew_109 hF
    · have hF := if_f hc hF
      refine lv_aload_n hx hb dX3_anew_96 rfl (lv_at hl 0 rfl) ?_
      refine g_14_16 E hP dX3_anew_97 ?_
      refine lv_iload_n hx hb dX3_anew_100 rfl (lv_at hl 3 rfl) ?_
      refine lv_iconst (v := 0) hx hb dX3_anew_101 (by decide) ?_
      obtain ⟨hi1, hF⟩ := gd_some hF
      refine sa_25 E hP hD hS hi1 dX3_anew_102 (fun H locs hP hD hS => ?_)
      refine lv_iinc (v := (x3 + (1 : Int32))) (lv' := [(3, .int (x3 + (1 : Int32))), (0, .ref (h 14)), (1, .int x1), (2, .int x2)]) hx hb dX3_anew_103 hl (k := 3) rfl rfl (by decide) rfl (fun ls hl => ?_)
      refine lv_goto (tgt := 90) hx hb dX3_anew_106 (by decide) ?_
      exact ih _ _ _ _ _ _ _ hP hD hS (lv_sub hl [1, 2, 3, 0] rfl) hF
def LX3_anew_62 : Nat → Int32 → Int32 → Int32 → St → Option (Int32 × St)
  | 0 => fun _ _ _ _ => none
  | n + 1 => fun x1 x2 x3 st => (if (32 : Int32) ≤ x3 then LX3_anew_90 n x1 x2 (0 : Int32) st else gd x3 32 (gd x3 32 (LX3_anew_62 n x1 x2 (x3 + (1 : Int32)) (pt (pt st 23 x3.toNatClampNeg (-1 : Int32)) 24 x3.toNatClampNeg (-1 : Int32)))))
set_option maxHeartbeats 4000000 in
set_option maxRecDepth 100000 in
theorem lX3_anew_62 {l : Launch} {D : va_G} {h : Nat → Nat} {cI cJ cZ : ClassId} {p : Program} {e : Env} {s : State} {m : MethodId} {args : Array Value} {below : List Frame} {meth : Method} {c : Code} {A : Nat → Prop} {r : Int32} {u : St} (E : Env1 p s m args c cX3_anew 4 RX3 D (tyL cI cJ cZ)) (hr : meth.sig.returnType = none) (hlocks : meth.locks = false) (hA : ∀ q : Nat, s.heap.size ≤ q → A q) : ∀ (n : Nat) (x1 x2 x3 : Int32) (st : St) (H : Heap) (locs : List Loc) (ls : Array Slot), va_P D vwCl (wM h cI cJ cZ st) H → va_D A (wM h cI cJ cZ st) → va_S A s.heap H locs → lv_has ls 4 [(0, .ref (h 14)), (1, .int x1), (2, .int x2), (3, .int x3)] → LX3_anew_62 n x1 x2 x3 st = some (r, u) → W p l e (rm 0 0) s m args below meth c H locs 0 0 (MQ below (CQv D (tyL cI cJ cZ) (wM h cI cJ cZ) A u) args s 0 0 A) (F0 m 62 ls []) := by
  have hx := E.1.1
  have hb := E.1.2.1
  have hml := E.1.2.2.1
  intro n
  induction n with
  | zero => intro x1 x2 x3 st H locs ls hP hD hS hl hF; simp only [LX3_anew_62] at hF; cases hF
  | succ n ih =>
    intro x1 x2 x3 st H locs ls hP hD hS hl hF
    simp only [LX3_anew_62] at hF
    refine lv_iload_n hx hb dX3_anew_62 rfl (lv_at hl 3 rfl) ?_
    refine lv_bipush (v := 32) hx hb dX3_anew_63 (by decide) ?_
    refine lv_icmp_ge (tgt := 88) hx hb dX3_anew_65 (by decide) (fun hc => ?_) (fun hc => ?_)
    · have hF := if_t hc hF
      refine lv_iconst (v := 0) hx hb dX3_anew_88 (by decide) ?_
      refine lv_istore_n (lv' := [(3, .int (0 : Int32)), (0, .ref (h 14)), (1, .int x1), (2, .int x2)]) hx hb dX3_anew_89 rfl hl (by decide) rfl (fun ls hl => ?_)
      exact lX3_anew_90 E hr hlocks hA n x1 x2 (0 : Int32) st _ _ _ hP hD hS (lv_sub hl [1, 2, 3, 0] rfl) hF
    · have hF := if_f hc hF
      refine lv_aload_n hx hb dX3_anew_68 rfl (lv_at hl 0 rfl) ?_
      refine g_14_14 E hP dX3_anew_69 ?_
      refine lv_iload_n hx hb dX3_anew_72 rfl (lv_at hl 3 rfl) ?_
      refine lv_iconst (v := (-1)) hx hb dX3_anew_73 (by decide) ?_
      obtain ⟨hi2, hF⟩ := gd_some hF
      refine sa_23 E hP hD hS hi2 dX3_anew_74 (fun H locs hP hD hS => ?_)
      refine lv_aload_n hx hb dX3_anew_75 rfl (lv_at hl 0 rfl) ?_
      refine g_14_15 E hP dX3_anew_76 ?_
      refine lv_iload_n hx hb dX3_anew_79 rfl (lv_at hl 3 rfl) ?_
      refine lv_iconst (v := (-1)) hx hb dX3_anew_80 (by decide) ?_
      obtain ⟨hi3, hF⟩ := gd_some hF
      refine sa_24 E hP hD hS hi3 dX3_anew_81 (fun H locs hP hD hS => ?_)
      refine lv_iinc (v := (x3 + (1 : Int32))) (lv' := [(3, .int (x3 + (1 : Int32))), (0, .ref (h 14)), (1, .int x1), (2, .int x2)]) hx hb dX3_anew_82 hl (k := 3) rfl rfl (by decide) rfl (fun ls hl => ?_)
      refine lv_goto (tgt := 62) hx hb dX3_anew_85 (by decide) ?_
      exact ih _ _ _ _ _ _ _ hP hD hS (lv_sub hl [1, 2, 3, 0] rfl) hF
def LX3_anew_27 : Nat → Int32 → Int32 → Int32 → St → Option (Int32 × St)
  | 0 => fun _ _ _ _ => none
  | n + 1 => fun x1 x2 x3 st => (if (64 : Int32) ≤ x3 then LX3_anew_62 n x1 x2 (0 : Int32) st else gd x3 64 (gd x3 64 (gd x3 64 (LX3_anew_27 n x1 x2 (x3 + (1 : Int32)) (pt (pt (pt st 15 x3.toNatClampNeg (0 : Int32)) 16 x3.toNatClampNeg (0 : Int32)) 17 x3.toNatClampNeg (vp_nar .boolean (0 : Int32)))))))
set_option maxHeartbeats 4000000 in
set_option maxRecDepth 100000 in
theorem lX3_anew_27 {l : Launch} {D : va_G} {h : Nat → Nat} {cI cJ cZ : ClassId} {p : Program} {e : Env} {s : State} {m : MethodId} {args : Array Value} {below : List Frame} {meth : Method} {c : Code} {A : Nat → Prop} {r : Int32} {u : St} (E : Env1 p s m args c cX3_anew 4 RX3 D (tyL cI cJ cZ)) (hr : meth.sig.returnType = none) (hlocks : meth.locks = false) (hA : ∀ q : Nat, s.heap.size ≤ q → A q) : ∀ (n : Nat) (x1 x2 x3 : Int32) (st : St) (H : Heap) (locs : List Loc) (ls : Array Slot), va_P D vwCl (wM h cI cJ cZ st) H → va_D A (wM h cI cJ cZ st) → va_S A s.heap H locs → lv_has ls 4 [(0, .ref (h 14)), (1, .int x1), (2, .int x2), (3, .int x3)] → LX3_anew_27 n x1 x2 x3 st = some (r, u) → W p l e (rm 0 0) s m args below meth c H locs 0 0 (MQ below (CQv D (tyL cI cJ cZ) (wM h cI cJ cZ) A u) args s 0 0 A) (F0 m 27 ls []) := by
  have hx := E.1.1
  have hb := E.1.2.1
  have hml := E.1.2.2.1
  intro n
  induction n with
  | zero => intro x1 x2 x3 st H locs ls hP hD hS hl hF; simp only [LX3_anew_27] at hF; cases hF
  | succ n ih =>
    intro x1 x2 x3 st H locs ls hP hD hS hl hF
    simp only [LX3_anew_27] at hF
    refine lv_iload_n hx hb dX3_anew_27 rfl (lv_at hl 3 rfl) ?_
    refine lv_bipush (v := 64) hx hb dX3_anew_28 (by decide) ?_
    refine lv_icmp_ge (tgt := 60) hx hb dX3_anew_30 (by decide) (fun hc => ?_) (fun hc => ?_)
    · have hF := if_t hc hF
      refine lv_iconst (v := 0) hx hb dX3_anew_60 (by decide) ?_
      refine lv_istore_n (lv' := [(3, .int (0 : Int32)), (0, .ref (h 14)), (1, .int x1), (2, .int x2)]) hx hb dX3_anew_61 rfl hl (by decide) rfl (fun ls hl => ?_)
      exact lX3_anew_62 E hr hlocks hA n x1 x2 (0 : Int32) st _ _ _ hP hD hS (lv_sub hl [1, 2, 3, 0] rfl) hF
    · have hF := if_f hc hF
      refine lv_aload_n hx hb dX3_anew_33 rfl (lv_at hl 0 rfl) ?_
      refine g_14_3 E hP dX3_anew_34 ?_
      refine lv_iload_n hx hb dX3_anew_37 rfl (lv_at hl 3 rfl) ?_
      refine lv_iconst (v := 0) hx hb dX3_anew_38 (by decide) ?_
      obtain ⟨hi4, hF⟩ := gd_some hF
      refine sa_15 E hP hD hS hi4 dX3_anew_39 (fun H locs hP hD hS => ?_)
      refine lv_aload_n hx hb dX3_anew_40 rfl (lv_at hl 0 rfl) ?_
      refine g_14_4 E hP dX3_anew_41 ?_
      refine lv_iload_n hx hb dX3_anew_44 rfl (lv_at hl 3 rfl) ?_
      refine lv_iconst (v := 0) hx hb dX3_anew_45 (by decide) ?_
      obtain ⟨hi5, hF⟩ := gd_some hF
      refine sa_16 E hP hD hS hi5 dX3_anew_46 (fun H locs hP hD hS => ?_)
      refine lv_aload_n hx hb dX3_anew_47 rfl (lv_at hl 0 rfl) ?_
      refine g_14_5 E hP dX3_anew_48 ?_
      refine lv_iload_n hx hb dX3_anew_51 rfl (lv_at hl 3 rfl) ?_
      refine lv_iconst (v := 0) hx hb dX3_anew_52 (by decide) ?_
      obtain ⟨hi6, hF⟩ := gd_some hF
      refine sa_17 E hP hD hS hi6 dX3_anew_53 (fun H locs hP hD hS => ?_)
      refine lv_iinc (v := (x3 + (1 : Int32))) (lv' := [(3, .int (x3 + (1 : Int32))), (0, .ref (h 14)), (1, .int x1), (2, .int x2)]) hx hb dX3_anew_54 hl (k := 3) rfl rfl (by decide) rfl (fun ls hl => ?_)
      refine lv_goto (tgt := 27) hx hb dX3_anew_57 (by decide) ?_
      exact ih _ _ _ _ _ _ _ hP hD hS (lv_sub hl [1, 2, 3, 0] rfl) hF
def FX3_anew (n : Nat) (x1 x2 : Int32) (st : St) : Option (Int32 × St) := LX3_anew_27 n x1 x2 (0 : Int32) (pt (pt (pt (pt (pt st 14 1 x1) 14 2 x2) 14 6 (-1 : Int32)) 14 7 (0 : Int32)) 14 13 (0 : Int32))
set_option maxHeartbeats 4000000 in
set_option maxRecDepth 100000 in
theorem kX3_anew (l : Launch) (D : va_G) (h : Nat → Nat) (cI cJ cZ : ClassId) (n : Nat) (x1 x2 : Int32) (st : St) (r : Int32) (u : St) (hF : FX3_anew n x1 x2 st = some (r, u)) : Cv l yX3_anew cX3_anew 4 0 0 D (tyL cI cJ cZ) (wM h cI cJ cZ) st [.ref (h 14), .int x1, .int x2] u := by
  refine body_v (by decide +kernel) (Nat.le_of_ble_eq_true rfl) ?_
  intro p e s m below meth c A ls E hr hlocks hA hP hD hS hl
  have E : Env1 p s m _ c cX3_anew 4 RX3 D (tyL cI cJ cZ) := E
  have hl : lv_has ls 4 [(0, .ref (h 14)), (1, .int x1), (2, .int x2)] := hl
  have hx := E.1.1
  have hb := E.1.2.1
  have hml := E.1.2.2.1
  unfold FX3_anew at hF
  refine lv_aload_n hx hb dX3_anew_0 rfl (lv_at hl 0 rfl) ?_
  refine lv_iload_n hx hb dX3_anew_1 rfl (lv_at hl 1 rfl) ?_
  refine s_14_1 E hP hD hS dX3_anew_2 (fun H locs hP hD hS => ?_)
  refine lv_aload_n hx hb dX3_anew_5 rfl (lv_at hl 0 rfl) ?_
  refine lv_iload_n hx hb dX3_anew_6 rfl (lv_at hl 2 rfl) ?_
  refine s_14_2 E hP hD hS dX3_anew_7 (fun H locs hP hD hS => ?_)
  refine lv_aload_n hx hb dX3_anew_10 rfl (lv_at hl 0 rfl) ?_
  refine lv_iconst (v := (-1)) hx hb dX3_anew_11 (by decide) ?_
  refine s_14_6 E hP hD hS dX3_anew_12 (fun H locs hP hD hS => ?_)
  refine lv_aload_n hx hb dX3_anew_15 rfl (lv_at hl 0 rfl) ?_
  refine lv_iconst (v := 0) hx hb dX3_anew_16 (by decide) ?_
  refine s_14_7 E hP hD hS dX3_anew_17 (fun H locs hP hD hS => ?_)
  refine lv_aload_n hx hb dX3_anew_20 rfl (lv_at hl 0 rfl) ?_
  refine lv_iconst (v := 0) hx hb dX3_anew_21 (by decide) ?_
  refine s_14_13 E hP hD hS dX3_anew_22 (fun H locs hP hD hS => ?_)
  refine lv_iconst (v := 0) hx hb dX3_anew_25 (by decide) ?_
  refine lv_istore_n (lv' := [(3, .int (0 : Int32)), (0, .ref (h 14)), (1, .int x1), (2, .int x2)]) hx hb dX3_anew_26 rfl hl (by decide) rfl (fun ls hl => ?_)
  exact lX3_anew_27 E hr hlocks hA n x1 x2 (0 : Int32) (pt (pt (pt (pt (pt st 14 1 x1) 14 2 x2) 14 6 (-1 : Int32)) 14 7 (0 : Int32)) 14 13 (0 : Int32)) _ _ _ hP hD hS (lv_sub hl [1, 2, 3, 0] rfl) hF
theorem cw_X3_63 : cwd RX3 63 RX3 yX3_anew cX3_anew 4 none 2 := ⟨tb_V (tb_in 694 (by decide +kernel) (by decide +kernel)) (tb_in 696 (by decide +kernel) (by decide +kernel)) (tb_in 27 (by decide +kernel) (by decide +kernel)) (tb_in 50 (by decide +kernel) (by decide +kernel)) (tb_in 697 (by decide +kernel) (by decide +kernel)), by decide +kernel⟩
-- LooseHeapModel.format
def FX3_format (n : Nat) (x1 x2 : Int32) (st : St) : Option (Int32 × St) := (if x1 < (4 : Int32) then some ((0 : Int32), (pt (pt st 14 0 (0 : Int32)) 14 0 (1 : Int32))) else (if (64 : Int32) < x1 then some ((0 : Int32), (pt (pt st 14 0 (0 : Int32)) 14 0 (1 : Int32))) else (if x2 < (8 : Int32) then some ((0 : Int32), (pt (pt st 14 0 (0 : Int32)) 14 0 (1 : Int32))) else (if x2 ≤ (64 : Int32) then bd (FX3_anew n x1 x2 (pt st 14 0 (0 : Int32))) (fun r1 u2 => some ((0 : Int32), u2)) else some ((0 : Int32), (pt (pt st 14 0 (0 : Int32)) 14 0 (1 : Int32)))))))
set_option maxHeartbeats 4000000 in
set_option maxRecDepth 100000 in
theorem kX3_format (l : Launch) (D : va_G) (h : Nat → Nat) (cI cJ cZ : ClassId) (n : Nat) (x1 x2 : Int32) (st : St) (r : Int32) (u : St) (hF : FX3_format n x1 x2 st = some (r, u)) : Cv l yX3_format cX3_format 3 1 23 D (tyL cI cJ cZ) (wM h cI cJ cZ) st [.ref (h 14), .int x1, .int x2] u := by
  refine body_v (by decide +kernel) (Nat.le_of_ble_eq_true rfl) ?_
  intro p e s m below meth c A ls E hr hlocks hA hP hD hS hl
  have E : Env1 p s m _ c cX3_format 3 RX3 D (tyL cI cJ cZ) := E
  have hl : lv_has ls 3 [(0, .ref (h 14)), (1, .int x1), (2, .int x2)] := hl
  have hx := E.1.1
  have hb := E.1.2.1
  have hml := E.1.2.2.1
  unfold FX3_format at hF
  refine lv_aload_n hx hb dX3_format_0 rfl (lv_at hl 0 rfl) ?_
  refine lv_iconst (v := 0) hx hb dX3_format_1 (by decide) ?_
  refine s_14_0 E hP hD hS dX3_format_2 (fun H locs hP hD hS => ?_)
  refine lv_iload_n hx hb dX3_format_5 rfl (lv_at hl 1 rfl) ?_
  refine lv_iconst (v := 4) hx hb dX3_format_6 (by decide) ?_
  refine lv_icmp_lt (tgt := 28) hx hb dX3_format_7 (by decide) (fun hc => ?_) (fun hc => ?_)
  · have hF := if_t hc hF
    refine lv_aload_n hx hb dX3_format_28 rfl (lv_at hl 0 rfl) ?_
    refine lv_iconst (v := 1) hx hb dX3_format_29 (by decide) ?_
    refine s_14_0 E hP hD hS dX3_format_30 (fun H locs hP hD hS => ?_)
    exact endV E hr hlocks hP hD hS dX3_format_33 hF
  · have hF := if_f hc hF
    refine lv_iload_n hx hb dX3_format_10 rfl (lv_at hl 1 rfl) ?_
    refine lv_bipush (v := 64) hx hb dX3_format_11 (by decide) ?_
    refine lv_icmp_gt (tgt := 28) hx hb dX3_format_13 (by decide) (fun hc => ?_) (fun hc => ?_)
    · have hF := if_t hc hF
      refine lv_aload_n hx hb dX3_format_28 rfl (lv_at hl 0 rfl) ?_
      refine lv_iconst (v := 1) hx hb dX3_format_29 (by decide) ?_
      refine s_14_0 E hP hD hS dX3_format_30 (fun H locs hP hD hS => ?_)
      exact endV E hr hlocks hP hD hS dX3_format_33 hF
    · have hF := if_f hc hF
      refine lv_iload_n hx hb dX3_format_16 rfl (lv_at hl 2 rfl) ?_
      refine lv_bipush (v := 8) hx hb dX3_format_17 (by decide) ?_
      refine lv_icmp_lt (tgt := 28) hx hb dX3_format_19 (by decide) (fun hc => ?_) (fun hc => ?_)
      · have hF := if_t hc hF
        refine lv_aload_n hx hb dX3_format_28 rfl (lv_at hl 0 rfl) ?_
        refine lv_iconst (v := 1) hx hb dX3_format_29 (by decide) ?_
        refine s_14_0 E hP hD hS dX3_format_30 (fun H locs hP hD hS => ?_)
        exact endV E hr hlocks hP hD hS dX3_format_33 hF
      · have hF := if_f hc hF
        refine lv_iload_n hx hb dX3_format_22 rfl (lv_at hl 2 rfl) ?_
        refine lv_bipush (v := 64) hx hb dX3_format_23 (by decide) ?_
        refine lv_icmp_le (tgt := 34) hx hb dX3_format_25 (by decide) (fun hc => ?_) (fun hc => ?_)
        · have hF := if_t hc hF
          refine lv_aload_n hx hb dX3_format_34 rfl (lv_at hl 0 rfl) ?_
          refine lv_iload_n hx hb dX3_format_35 rfl (lv_at hl 1 rfl) ?_
          refine lv_iload_n hx hb dX3_format_36 rfl (lv_at hl 2 rfl) ?_
          obtain ⟨r1, u2, hc3, hF⟩ := bd_some hF
          refine call_v (rest := []) E hA hP hD hS hl.1 (kX3_anew l D h cI cJ cZ n x1 x2 (pt st 14 0 (0 : Int32)) r1 u2 hc3) cw_X3_63 0 rfl rfl rfl rfl rfl (Nat.le_of_ble_eq_true rfl) ⟨Nat.le_of_ble_eq_true rfl, Nat.le_of_ble_eq_true rfl⟩ ⟨Nat.zero_le _, Nat.zero_le _⟩ dX3_format_37 (fun H locs hP hD hS => ?_)
          exact endV E hr hlocks hP hD hS dX3_format_40 hF
        · have hF := if_f hc hF
          refine lv_aload_n hx hb dX3_format_28 rfl (lv_at hl 0 rfl) ?_
          refine lv_iconst (v := 1) hx hb dX3_format_29 (by decide) ?_
          refine s_14_0 E hP hD hS dX3_format_30 (fun H locs hP hD hS => ?_)
          exact endV E hr hlocks hP hD hS dX3_format_33 hF
-- LooseHeapModel.sizeOf
def FX3_sizeOf (n : Nat) (x1 : Int32) (st : St) : Option (Int32 × St) := gd x1 4200 (gd x1 4200 (some ((((1 : Int32) + (st.1 19 x1.toNatClampNeg)) + (st.1 20 x1.toNatClampNeg)), st)))
set_option maxHeartbeats 4000000 in
set_option maxRecDepth 100000 in
theorem kX3_sizeOf (l : Launch) (D : va_G) (h : Nat → Nat) (cI cJ cZ : ClassId) (n : Nat) (x1 : Int32) (st : St) (r : Int32) (u : St) (hF : FX3_sizeOf n x1 st = some (r, u)) : Ci l yX3_sizeOf cX3_sizeOf 2 (some .int) 0 0 D (tyL cI cJ cZ) (wM h cI cJ cZ) st [.ref (h 14), .int x1] r u := by
  refine body_i (by decide +kernel) (Nat.le_of_ble_eq_true rfl) ?_
  intro p e s m below meth c A ls E hr hlocks hA hP hD hS hl
  have E : Env1 p s m _ c cX3_sizeOf 2 RX3 D (tyL cI cJ cZ) := E
  have hl : lv_has ls 2 [(0, .ref (h 14)), (1, .int x1)] := hl
  have hx := E.1.1
  have hb := E.1.2.1
  have hml := E.1.2.2.1
  unfold FX3_sizeOf at hF
  refine lv_iconst (v := 1) hx hb dX3_sizeOf_0 (by decide) ?_
  refine lv_aload_n hx hb dX3_sizeOf_1 rfl (lv_at hl 0 rfl) ?_
  refine g_14_9 E hP dX3_sizeOf_2 ?_
  refine lv_iload_n hx hb dX3_sizeOf_5 rfl (lv_at hl 1 rfl) ?_
  obtain ⟨hi1, hF⟩ := gd_some hF
  refine la_19 E hP hi1 dX3_sizeOf_6 ?_
  refine lv_iadd hx hb dX3_sizeOf_7 ?_
  refine lv_aload_n hx hb dX3_sizeOf_8 rfl (lv_at hl 0 rfl) ?_
  refine g_14_10 E hP dX3_sizeOf_9 ?_
  refine lv_iload_n hx hb dX3_sizeOf_12 rfl (lv_at hl 1 rfl) ?_
  obtain ⟨hi2, hF⟩ := gd_some hF
  refine la_20 E hP hi2 dX3_sizeOf_13 ?_
  refine lv_iadd hx hb dX3_sizeOf_14 ?_
  exact endI E hr hlocks hP hD hS dX3_sizeOf_15 hF
theorem cw_X3_82 : cwd RX3 82 RX3 yX3_sizeOf cX3_sizeOf 2 (some .int) 1 := ⟨tb_V (tb_in 832 (by decide +kernel) (by decide +kernel)) (tb_in 834 (by decide +kernel) (by decide +kernel)) (tb_in 38 (by decide +kernel) (by decide +kernel)) (tb_in 50 (by decide +kernel) (by decide +kernel)) (tb_in 835 (by decide +kernel) (by decide +kernel)), by decide +kernel⟩
-- LooseHeapModel.isLong
def FX3_isLong (n : Nat) (x1 : Int32) (st : St) : Option (Int32 × St) := bd (FX3_sizeOf n x1 st) (fun r1 u2 => be (some ((if r1 ≤ (u2.1 14 2) then (0 : Int32) else (1 : Int32)))) (fun v4 => gz v4 (some (v4, u2))))
set_option maxHeartbeats 4000000 in
set_option maxRecDepth 100000 in
theorem kX3_isLong (l : Launch) (D : va_G) (h : Nat → Nat) (cI cJ cZ : ClassId) (n : Nat) (x1 : Int32) (st : St) (r : Int32) (u : St) (hF : FX3_isLong n x1 st = some (r, u)) : Ci l yX3_isLong cX3_isLong 2 (some .boolean) 1 21 D (tyL cI cJ cZ) (wM h cI cJ cZ) st [.ref (h 14), .int x1] r u := by
  refine body_i (by decide +kernel) (Nat.le_of_ble_eq_true rfl) ?_
  intro p e s m below meth c A ls E hr hlocks hA hP hD hS hl
  have E : Env1 p s m _ c cX3_isLong 2 RX3 D (tyL cI cJ cZ) := E
  have hl : lv_has ls 2 [(0, .ref (h 14)), (1, .int x1)] := hl
  have hx := E.1.1
  have hb := E.1.2.1
  have hml := E.1.2.2.1
  unfold FX3_isLong at hF
  refine lv_aload_n hx hb dX3_isLong_0 rfl (lv_at hl 0 rfl) ?_
  refine lv_iload_n hx hb dX3_isLong_1 rfl (lv_at hl 1 rfl) ?_
  obtain ⟨r1, u2, hc3, hF⟩ := bd_some hF
  refine call_i (rest := []) E hA hP hD hS hl.1 (kX3_sizeOf l D h cI cJ cZ n x1 st r1 u2 hc3) cw_X3_82 0 rfl rfl rfl rfl rfl (Nat.le_of_ble_eq_true rfl) ⟨Nat.le_of_ble_eq_true rfl, Nat.le_of_ble_eq_true rfl⟩ ⟨Nat.zero_le _, Nat.zero_le _⟩ dX3_isLong_2 (fun H locs hP hD hS => ?_)
  refine lv_aload_n hx hb dX3_isLong_5 rfl (lv_at hl 0 rfl) ?_
  refine g_14_2 E hP dX3_isLong_6 ?_
  obtain ⟨v4, hv, hF⟩ := be_some hF
  have hv := Option.some.inj hv
  refine dia (jpc := 17) (v1 := v4) (rest := []) (ls := ls) ?_ (fun kont => ?_)
  · skip
    exact endZ E hr hlocks hP hD hS dX3_isLong_17 hF
  · skip
    refine lv_icmp_le (tgt := 16) hx hb dX3_isLong_9 (by decide) (fun hc => ?_) (fun hc => ?_)
    · have hv := if_t hc hv
      refine lv_iconst (v := 0) hx hb dX3_isLong_16 (by decide) ?_
      exact topE hv kont
    · have hv := if_f hc hv
      refine lv_iconst (v := 1) hx hb dX3_isLong_12 (by decide) ?_
      refine lv_goto (tgt := 17) hx hb dX3_isLong_13 (by decide) ?_
      exact topE hv kont
-- LooseHeapModel.used
def LX3_used_4 : Nat → Int32 → Int32 → St → Option (Int32 × St)
  | 0 => fun _ _ _ => none
  | n + 1 => fun x1 x2 st => (if (st.1 14 1) ≤ x2 then some (x1, st) else gd x2 64 ((if (st.1 15 x2.toNatClampNeg) = 0 then LX3_used_4 n (x1 + (0 : Int32)) (x2 + (1 : Int32)) st else LX3_used_4 n (x1 + (1 : Int32)) (x2 + (1 : Int32)) st)))
set_option maxHeartbeats 4000000 in
set_option maxRecDepth 100000 in
theorem lX3_used_4 {l : Launch} {D : va_G} {h : Nat → Nat} {cI cJ cZ : ClassId} {p : Program} {e : Env} {s : State} {m : MethodId} {args : Array Value} {below : List Frame} {meth : Method} {c : Code} {A : Nat → Prop} {r : Int32} {u : St} (E : Env1 p s m args c cX3_used 3 RX3 D (tyL cI cJ cZ)) (hr : meth.sig.returnType = some .int) (hlocks : meth.locks = false) (hA : ∀ q : Nat, s.heap.size ≤ q → A q) : ∀ (n : Nat) (x1 x2 : Int32) (st : St) (H : Heap) (locs : List Loc) (ls : Array Slot), va_P D vwCl (wM h cI cJ cZ st) H → va_D A (wM h cI cJ cZ st) → va_S A s.heap H locs → lv_has ls 3 [(0, .ref (h 14)), (1, .int x1), (2, .int x2)] → LX3_used_4 n x1 x2 st = some (r, u) → W p l e (rm 0 0) s m args below meth c H locs 0 0 (MQ below (CQ D (tyL cI cJ cZ) (wM h cI cJ cZ) A r u) args s 0 0 A) (F0 m 4 ls []) := by
  have hx := E.1.1
  have hb := E.1.2.1
  have hml := E.1.2.2.1
  intro n
  induction n with
  | zero => intro x1 x2 st H locs ls hP hD hS hl hF; simp only [LX3_used_4] at hF; cases hF
  | succ n ih =>
    intro x1 x2 st H locs ls hP hD hS hl hF
    simp only [LX3_used_4] at hF
    refine lv_iload_n hx hb dX3_used_4 rfl (lv_at hl 2 rfl) ?_
    refine lv_aload_n hx hb dX3_used_5 rfl (lv_at hl 0 rfl) ?_
    refine g_14_1 E hP dX3_used_6 ?_
    refine lv_icmp_ge (tgt := 35) hx hb dX3_used_9 (by decide) (fun hc => ?_) (fun hc => ?_)
    · have hF := if_t hc hF
      refine lv_iload_n hx hb dX3_used_35 rfl (lv_at hl 1 rfl) ?_
      exact endI E hr hlocks hP hD hS dX3_used_36 hF
    · have hF := if_f hc hF
      refine lv_iload_n hx hb dX3_used_12 rfl (lv_at hl 1 rfl) ?_
      refine lv_aload_n hx hb dX3_used_13 rfl (lv_at hl 0 rfl) ?_
      refine g_14_3 E hP dX3_used_14 ?_
      refine lv_iload_n hx hb dX3_used_17 rfl (lv_at hl 2 rfl) ?_
      obtain ⟨hi1, hF⟩ := gd_some hF
      refine la_15 E hP hi1 dX3_used_18 ?_
      refine lv_if_ne (tgt := 26) hx hb dX3_used_19 (by decide) (fun hc => ?_) (fun hc => ?_)
      · have hF := if_f hc hF
        refine lv_iconst (v := 1) hx hb dX3_used_26 (by decide) ?_
        refine lv_iadd hx hb dX3_used_27 ?_
        refine lv_istore_n (lv' := [(1, .int (x1 + (1 : Int32))), (0, .ref (h 14)), (2, .int x2)]) hx hb dX3_used_28 rfl hl (by decide) rfl (fun ls hl => ?_)
        refine lv_iinc (v := (x2 + (1 : Int32))) (lv' := [(2, .int (x2 + (1 : Int32))), (1, .int (x1 + (1 : Int32))), (0, .ref (h 14))]) hx hb dX3_used_29 hl (k := 2) rfl rfl (by decide) rfl (fun ls hl => ?_)
        refine lv_goto (tgt := 4) hx hb dX3_used_32 (by decide) ?_
        exact ih _ _ _ _ _ _ hP hD hS (lv_sub hl [2, 1, 0] rfl) hF
      · have hF := if_t hc hF
        refine lv_iconst (v := 0) hx hb dX3_used_22 (by decide) ?_
        refine lv_goto (tgt := 27) hx hb dX3_used_23 (by decide) ?_
        refine lv_iadd hx hb dX3_used_27 ?_
        refine lv_istore_n (lv' := [(1, .int (x1 + (0 : Int32))), (0, .ref (h 14)), (2, .int x2)]) hx hb dX3_used_28 rfl hl (by decide) rfl (fun ls hl => ?_)
        refine lv_iinc (v := (x2 + (1 : Int32))) (lv' := [(2, .int (x2 + (1 : Int32))), (1, .int (x1 + (0 : Int32))), (0, .ref (h 14))]) hx hb dX3_used_29 hl (k := 2) rfl rfl (by decide) rfl (fun ls hl => ?_)
        refine lv_goto (tgt := 4) hx hb dX3_used_32 (by decide) ?_
        exact ih _ _ _ _ _ _ hP hD hS (lv_sub hl [2, 1, 0] rfl) hF
def FX3_used (n : Nat) (st : St) : Option (Int32 × St) := LX3_used_4 n (0 : Int32) (0 : Int32) st
set_option maxHeartbeats 4000000 in
set_option maxRecDepth 100000 in
theorem kX3_used (l : Launch) (D : va_G) (h : Nat → Nat) (cI cJ cZ : ClassId) (n : Nat) (st : St) (r : Int32) (u : St) (hF : FX3_used n  st = some (r, u)) : Ci l yX3_used cX3_used 3 (some .int) 0 0 D (tyL cI cJ cZ) (wM h cI cJ cZ) st [.ref (h 14)] r u := by
  refine body_i (by decide +kernel) (Nat.le_of_ble_eq_true rfl) ?_
  intro p e s m below meth c A ls E hr hlocks hA hP hD hS hl
  have E : Env1 p s m _ c cX3_used 3 RX3 D (tyL cI cJ cZ) := E
  have hl : lv_has ls 3 [(0, .ref (h 14))] := hl
  have hx := E.1.1
  have hb := E.1.2.1
  have hml := E.1.2.2.1
  unfold FX3_used at hF
  refine lv_iconst (v := 0) hx hb dX3_used_0 (by decide) ?_
  refine lv_istore_n (lv' := [(1, .int (0 : Int32)), (0, .ref (h 14))]) hx hb dX3_used_1 rfl hl (by decide) rfl (fun ls hl => ?_)
  refine lv_iconst (v := 0) hx hb dX3_used_2 (by decide) ?_
  refine lv_istore_n (lv' := [(2, .int (0 : Int32)), (1, .int (0 : Int32)), (0, .ref (h 14))]) hx hb dX3_used_3 rfl hl (by decide) rfl (fun ls hl => ?_)
  exact lX3_used_4 E hr hlocks hA n (0 : Int32) (0 : Int32) st _ _ _ hP hD hS (lv_sub hl [2, 1, 0] rfl) hF
theorem cw_X3_86 : cwd RX3 86 RX3 yX3_used cX3_used 3 (some .int) 0 := ⟨tb_V (tb_in 795 (by decide +kernel) (by decide +kernel)) (tb_in 797 (by decide +kernel) (by decide +kernel)) (tb_in 29 (by decide +kernel) (by decide +kernel)) (tb_in 50 (by decide +kernel) (by decide +kernel)) (tb_in 798 (by decide +kernel) (by decide +kernel)), by decide +kernel⟩
-- LooseHeapModel.laid
def JX3_laid_250 (n : Nat) (x1 : Int32) (st : St) : Option (Int32 × St) := gd (st.1 14 6) 64 (gd (st.1 14 6) 64 (gd (st.1 14 6) 64 (some ((((st.1 14 2) * (st.1 14 6)) + (st.1 16 (st.1 14 6).toNatClampNeg)), (pt st 16 (st.1 14 6).toNatClampNeg ((st.1 16 (st.1 14 6).toNatClampNeg) + x1))))))
set_option maxHeartbeats 4000000 in
set_option maxRecDepth 100000 in
theorem jX3_laid_250 {l : Launch} {D : va_G} {h : Nat → Nat} {cI cJ cZ : ClassId} {p : Program} {e : Env} {s : State} {m : MethodId} {args : Array Value} {below : List Frame} {meth : Method} {c : Code} {A : Nat → Prop} {r : Int32} {u : St} (E : Env1 p s m args c cX3_laid 8 RX3 D (tyL cI cJ cZ)) (hr : meth.sig.returnType = some .int) (hlocks : meth.locks = false) (hA : ∀ q : Nat, s.heap.size ≤ q → A q) (n : Nat) (x1 : Int32) (st : St) (H : Heap) (locs : List Loc) (ls : Array Slot) (hP : va_P D vwCl (wM h cI cJ cZ st) H) (hD : va_D A (wM h cI cJ cZ st)) (hS : va_S A s.heap H locs) (hl : lv_has ls 8 [(0, .ref (h 14)), (1, .int x1)]) (hF : JX3_laid_250 n x1 st = some (r, u)) : W p l e (rm 1 40) s m args below meth c H locs 0 0 (MQ below (CQ D (tyL cI cJ cZ) (wM h cI cJ cZ) A r u) args s 0 0 A) (F0 m 250 ls []) := by
  have hx := E.1.1
  have hb := E.1.2.1
  have hml := E.1.2.2.1
  unfold JX3_laid_250 at hF
  refine lv_aload_n hx hb dX3_laid_250 rfl (lv_at hl 0 rfl) ?_
  refine g_14_2 E hP dX3_laid_251 ?_
  refine lv_aload_n hx hb dX3_laid_254 rfl (lv_at hl 0 rfl) ?_
  refine g_14_6 E hP dX3_laid_255 ?_
  refine lv_imul hx hb dX3_laid_258 ?_
  refine lv_aload_n hx hb dX3_laid_259 rfl (lv_at hl 0 rfl) ?_
  refine g_14_4 E hP dX3_laid_260 ?_
  refine lv_aload_n hx hb dX3_laid_263 rfl (lv_at hl 0 rfl) ?_
  refine g_14_6 E hP dX3_laid_264 ?_
  obtain ⟨hi7, hF⟩ := gd_some hF
  refine la_16 E hP hi7 dX3_laid_267 ?_
  refine lv_iadd hx hb dX3_laid_268 ?_
  refine lv_istore_n (lv' := [(3, .int (((st.1 14 2) * (st.1 14 6)) + (st.1 16 (st.1 14 6).toNatClampNeg))), (0, .ref (h 14)), (1, .int x1)]) hx hb dX3_laid_269 rfl hl (by decide) rfl (fun ls hl => ?_)
  refine lv_aload_n hx hb dX3_laid_270 rfl (lv_at hl 1 rfl) ?_
  refine g_14_4 E hP dX3_laid_271 ?_
  refine lv_aload_n hx hb dX3_laid_274 rfl (lv_at hl 1 rfl) ?_
  refine g_14_6 E hP dX3_laid_275 ?_
  refine lv_dup2_11 hx hb dX3_laid_278 rfl rfl ?_
  obtain ⟨hi8, hF⟩ := gd_some hF
  refine la_16 E hP hi8 dX3_laid_279 ?_
  refine lv_iload_n hx hb dX3_laid_280 rfl (lv_at hl 2 rfl) ?_
  refine lv_iadd hx hb dX3_laid_281 ?_
  obtain ⟨hi9, hF⟩ := gd_some hF
  refine sa_16 E hP hD hS hi9 dX3_laid_282 (fun H locs hP hD hS => ?_)
  refine lv_iload_n hx hb dX3_laid_283 rfl (lv_at hl 0 rfl) ?_
  exact endI E hr hlocks hP hD hS dX3_laid_284 hF
def JX3_laid_216 (n : Nat) (x1 x2 x3 : Int32) (st : St) : Option (Int32 × St) := (if x3 = (st.1 14 1) then some ((-1 : Int32), st) else (if (1 : Int32) ≤ x2 then gd x3 64 (gd x3 64 (JX3_laid_250 n x1 (pt (pt (pt st 15 x3.toNatClampNeg (1 : Int32)) 16 x3.toNatClampNeg (0 : Int32)) 14 6 x3))) else some ((-1 : Int32), st)))
set_option maxHeartbeats 4000000 in
set_option maxRecDepth 100000 in
theorem jX3_laid_216 {l : Launch} {D : va_G} {h : Nat → Nat} {cI cJ cZ : ClassId} {p : Program} {e : Env} {s : State} {m : MethodId} {args : Array Value} {below : List Frame} {meth : Method} {c : Code} {A : Nat → Prop} {r : Int32} {u : St} (E : Env1 p s m args c cX3_laid 8 RX3 D (tyL cI cJ cZ)) (hr : meth.sig.returnType = some .int) (hlocks : meth.locks = false) (hA : ∀ q : Nat, s.heap.size ≤ q → A q) (n : Nat) (x1 x2 x3 : Int32) (st : St) (H : Heap) (locs : List Loc) (ls : Array Slot) (hP : va_P D vwCl (wM h cI cJ cZ st) H) (hD : va_D A (wM h cI cJ cZ st)) (hS : va_S A s.heap H locs) (hl : lv_has ls 8 [(0, .ref (h 14)), (1, .int x1), (2, .int x2), (3, .int x3)]) (hF : JX3_laid_216 n x1 x2 x3 st = some (r, u)) : W p l e (rm 1 40) s m args below meth c H locs 0 0 (MQ below (CQ D (tyL cI cJ cZ) (wM h cI cJ cZ) A r u) args s 0 0 A) (F0 m 216 ls []) := by
  have hx := E.1.1
  have hb := E.1.2.1
  have hml := E.1.2.2.1
  unfold JX3_laid_216 at hF
  refine lv_iload_n hx hb dX3_laid_216 rfl (lv_at hl 3 rfl) ?_
  refine lv_aload_n hx hb dX3_laid_217 rfl (lv_at hl 0 rfl) ?_
  refine g_14_1 E hP dX3_laid_218 ?_
  refine lv_icmp_eq (tgt := 229) hx hb dX3_laid_221 (by decide) (fun hc => ?_) (fun hc => ?_)
  · have hF := if_t hc hF
    refine lv_iconst (v := (-1)) hx hb dX3_laid_229 (by decide) ?_
    exact endI E hr hlocks hP hD hS dX3_laid_230 hF
  · have hF := if_f hc hF
    refine lv_iload_n hx hb dX3_laid_224 rfl (lv_at hl 2 rfl) ?_
    refine lv_iconst (v := 1) hx hb dX3_laid_225 (by decide) ?_
    refine lv_icmp_ge (tgt := 231) hx hb dX3_laid_226 (by decide) (fun hc => ?_) (fun hc => ?_)
    · have hF := if_t hc hF
      refine lv_aload_n hx hb dX3_laid_231 rfl (lv_at hl 0 rfl) ?_
      refine g_14_3 E hP dX3_laid_232 ?_
      refine lv_iload_n hx hb dX3_laid_235 rfl (lv_at hl 3 rfl) ?_
      refine lv_iconst (v := 1) hx hb dX3_laid_236 (by decide) ?_
      obtain ⟨hi5, hF⟩ := gd_some hF
      refine sa_15 E hP hD hS hi5 dX3_laid_237 (fun H locs hP hD hS => ?_)
      refine lv_aload_n hx hb dX3_laid_238 rfl (lv_at hl 0 rfl) ?_
      refine g_14_4 E hP dX3_laid_239 ?_
      refine lv_iload_n hx hb dX3_laid_242 rfl (lv_at hl 3 rfl) ?_
      refine lv_iconst (v := 0) hx hb dX3_laid_243 (by decide) ?_
      obtain ⟨hi6, hF⟩ := gd_some hF
      refine sa_16 E hP hD hS hi6 dX3_laid_244 (fun H locs hP hD hS => ?_)
      refine lv_aload_n hx hb dX3_laid_245 rfl (lv_at hl 0 rfl) ?_
      refine lv_iload_n hx hb dX3_laid_246 rfl (lv_at hl 3 rfl) ?_
      refine s_14_6 E hP hD hS dX3_laid_247 (fun H locs hP hD hS => ?_)
      exact jX3_laid_250 E hr hlocks hA n x1 (pt (pt (pt st 15 x3.toNatClampNeg (1 : Int32)) 16 x3.toNatClampNeg (0 : Int32)) 14 6 x3) _ _ _ hP hD hS (lv_sub hl [0, 1] rfl) hF
    · have hF := if_f hc hF
      refine lv_iconst (v := (-1)) hx hb dX3_laid_229 (by decide) ?_
      exact endI E hr hlocks hP hD hS dX3_laid_230 hF
def LX3_laid_193 : Nat → Int32 → Int32 → Int32 → St → Option (Int32 × St)
  | 0 => fun _ _ _ _ => none
  | n + 1 => fun x1 x2 x3 st => (if (st.1 14 1) ≤ x3 then JX3_laid_216 n x1 x2 x3 st else gd x3 64 ((if (st.1 15 x3.toNatClampNeg) = 0 then JX3_laid_216 n x1 x2 x3 st else LX3_laid_193 n x1 x2 (x3 + (1 : Int32)) st)))
set_option maxHeartbeats 4000000 in
set_option maxRecDepth 100000 in
theorem lX3_laid_193 {l : Launch} {D : va_G} {h : Nat → Nat} {cI cJ cZ : ClassId} {p : Program} {e : Env} {s : State} {m : MethodId} {args : Array Value} {below : List Frame} {meth : Method} {c : Code} {A : Nat → Prop} {r : Int32} {u : St} (E : Env1 p s m args c cX3_laid 8 RX3 D (tyL cI cJ cZ)) (hr : meth.sig.returnType = some .int) (hlocks : meth.locks = false) (hA : ∀ q : Nat, s.heap.size ≤ q → A q) : ∀ (n : Nat) (x1 x2 x3 : Int32) (st : St) (H : Heap) (locs : List Loc) (ls : Array Slot), va_P D vwCl (wM h cI cJ cZ st) H → va_D A (wM h cI cJ cZ st) → va_S A s.heap H locs → lv_has ls 8 [(0, .ref (h 14)), (1, .int x1), (2, .int x2), (3, .int x3)] → LX3_laid_193 n x1 x2 x3 st = some (r, u) → W p l e (rm 1 40) s m args below meth c H locs 0 0 (MQ below (CQ D (tyL cI cJ cZ) (wM h cI cJ cZ) A r u) args s 0 0 A) (F0 m 193 ls []) := by
  have hx := E.1.1
  have hb := E.1.2.1
  have hml := E.1.2.2.1
  intro n
  induction n with
  | zero => intro x1 x2 x3 st H locs ls hP hD hS hl hF; simp only [LX3_laid_193] at hF; cases hF
  | succ n ih =>
    intro x1 x2 x3 st H locs ls hP hD hS hl hF
    simp only [LX3_laid_193] at hF
    refine lv_iload_n hx hb dX3_laid_193 rfl (lv_at hl 3 rfl) ?_
    refine lv_aload_n hx hb dX3_laid_194 rfl (lv_at hl 0 rfl) ?_
    refine g_14_1 E hP dX3_laid_195 ?_
    refine lv_icmp_ge (tgt := 216) hx hb dX3_laid_198 (by decide) (fun hc => ?_) (fun hc => ?_)
    · have hF := if_t hc hF
      exact jX3_laid_216 E hr hlocks hA n x1 x2 x3 st _ _ _ hP hD hS (lv_sub hl [0, 1, 2, 3] rfl) hF
    · have hF := if_f hc hF
      refine lv_aload_n hx hb dX3_laid_201 rfl (lv_at hl 0 rfl) ?_
      refine g_14_3 E hP dX3_laid_202 ?_
      refine lv_iload_n hx hb dX3_laid_205 rfl (lv_at hl 3 rfl) ?_
      obtain ⟨hi10, hF⟩ := gd_some hF
      refine la_15 E hP hi10 dX3_laid_206 ?_
      refine lv_if_eq (tgt := 216) hx hb dX3_laid_207 (by decide) (fun hc => ?_) (fun hc => ?_)
      · have hF := if_t hc hF
        exact jX3_laid_216 E hr hlocks hA n x1 x2 x3 st _ _ _ hP hD hS (lv_sub hl [0, 1, 2, 3] rfl) hF
      · have hF := if_f hc hF
        refine lv_iinc (v := (x3 + (1 : Int32))) (lv' := [(3, .int (x3 + (1 : Int32))), (0, .ref (h 14)), (1, .int x1), (2, .int x2)]) hx hb dX3_laid_210 hl (k := 3) rfl rfl (by decide) rfl (fun ls hl => ?_)
        refine lv_goto (tgt := 193) hx hb dX3_laid_213 (by decide) ?_
        exact ih _ _ _ _ _ _ _ hP hD hS (lv_sub hl [1, 2, 3, 0] rfl) hF
def JX3_laid_191 (n : Nat) (x1 x2 : Int32) (st : St) : Option (Int32 × St) := LX3_laid_193 n x1 x2 (0 : Int32) st
set_option maxHeartbeats 4000000 in
set_option maxRecDepth 100000 in
theorem jX3_laid_191 {l : Launch} {D : va_G} {h : Nat → Nat} {cI cJ cZ : ClassId} {p : Program} {e : Env} {s : State} {m : MethodId} {args : Array Value} {below : List Frame} {meth : Method} {c : Code} {A : Nat → Prop} {r : Int32} {u : St} (E : Env1 p s m args c cX3_laid 8 RX3 D (tyL cI cJ cZ)) (hr : meth.sig.returnType = some .int) (hlocks : meth.locks = false) (hA : ∀ q : Nat, s.heap.size ≤ q → A q) (n : Nat) (x1 x2 : Int32) (st : St) (H : Heap) (locs : List Loc) (ls : Array Slot) (hP : va_P D vwCl (wM h cI cJ cZ st) H) (hD : va_D A (wM h cI cJ cZ st)) (hS : va_S A s.heap H locs) (hl : lv_has ls 8 [(0, .ref (h 14)), (1, .int x1), (2, .int x2)]) (hF : JX3_laid_191 n x1 x2 st = some (r, u)) : W p l e (rm 1 40) s m args below meth c H locs 0 0 (MQ below (CQ D (tyL cI cJ cZ) (wM h cI cJ cZ) A r u) args s 0 0 A) (F0 m 191 ls []) := by
  have hx := E.1.1
  have hb := E.1.2.1
  have hml := E.1.2.2.1
  unfold JX3_laid_191 at hF
  refine lv_iconst (v := 0) hx hb dX3_laid_191 (by decide) ?_
  refine lv_istore_n (lv' := [(3, .int (0 : Int32)), (0, .ref (h 14)), (1, .int x1), (2, .int x2)]) hx hb dX3_laid_192 rfl hl (by decide) rfl (fun ls hl => ?_)
  exact lX3_laid_193 E hr hlocks hA n x1 x2 (0 : Int32) st _ _ _ hP hD hS (lv_sub hl [1, 2, 3, 0] rfl) hF
def LX3_laid_91 : Nat → Int32 → Int32 → Int32 → Int32 → Int32 → Int32 → Int32 → St → Option (Int32 × St)
  | 0 => fun _ _ _ _ _ _ _ _ => none
  | n + 1 => fun x1 x2 x3 x4 x5 x6 x7 st => (if x3 ≤ x7 then some (((st.1 14 2) * x6), st) else (if x7 = 0 then gd (x6 + x7) 64 (gd (x6 + x7) 64 (LX3_laid_91 n x1 x2 x3 x4 x5 x6 (x7 + (1 : Int32)) (pt (pt st 15 (x6 + x7).toNatClampNeg (2 : Int32)) 16 (x6 + x7).toNatClampNeg (if (x1 - (((pt st 15 (x6 + x7).toNatClampNeg (2 : Int32)).1 14 2) * x7)) < ((pt st 15 (x6 + x7).toNatClampNeg (2 : Int32)).1 14 2) then (x1 - (((pt st 15 (x6 + x7).toNatClampNeg (2 : Int32)).1 14 2) * x7)) else ((pt st 15 (x6 + x7).toNatClampNeg (2 : Int32)).1 14 2))))) else gd (x6 + x7) 64 (gd (x6 + x7) 64 (LX3_laid_91 n x1 x2 x3 x4 x5 x6 (x7 + (1 : Int32)) (pt (pt st 15 (x6 + x7).toNatClampNeg (3 : Int32)) 16 (x6 + x7).toNatClampNeg (if (x1 - (((pt st 15 (x6 + x7).toNatClampNeg (3 : Int32)).1 14 2) * x7)) < ((pt st 15 (x6 + x7).toNatClampNeg (3 : Int32)).1 14 2) then (x1 - (((pt st 15 (x6 + x7).toNatClampNeg (3 : Int32)).1 14 2) * x7)) else ((pt st 15 (x6 + x7).toNatClampNeg (3 : Int32)).1 14 2)))))))
set_option maxHeartbeats 4000000 in
set_option maxRecDepth 100000 in
theorem lX3_laid_91 {l : Launch} {D : va_G} {h : Nat → Nat} {cI cJ cZ : ClassId} {p : Program} {e : Env} {s : State} {m : MethodId} {args : Array Value} {below : List Frame} {meth : Method} {c : Code} {A : Nat → Prop} {r : Int32} {u : St} (E : Env1 p s m args c cX3_laid 8 RX3 D (tyL cI cJ cZ)) (hr : meth.sig.returnType = some .int) (hlocks : meth.locks = false) (hA : ∀ q : Nat, s.heap.size ≤ q → A q) : ∀ (n : Nat) (x1 x2 x3 x4 x5 x6 x7 : Int32) (st : St) (H : Heap) (locs : List Loc) (ls : Array Slot), va_P D vwCl (wM h cI cJ cZ st) H → va_D A (wM h cI cJ cZ st) → va_S A s.heap H locs → lv_has ls 8 [(0, .ref (h 14)), (1, .int x1), (2, .int x2), (3, .int x3), (4, .int x4), (5, .int x5), (6, .int x6), (7, .int x7)] → LX3_laid_91 n x1 x2 x3 x4 x5 x6 x7 st = some (r, u) → W p l e (rm 1 40) s m args below meth c H locs 0 0 (MQ below (CQ D (tyL cI cJ cZ) (wM h cI cJ cZ) A r u) args s 0 0 A) (F0 m 91 ls []) := by
  have hx := E.1.1
  have hb := E.1.2.1
  have hml := E.1.2.2.1
  intro n
  induction n with
  | zero => intro x1 x2 x3 x4 x5 x6 x7 st H locs ls hP hD hS hl hF; simp only [LX3_laid_91] at hF; cases hF
  | succ n ih =>
    intro x1 x2 x3 x4 x5 x6 x7 st H locs ls hP hD hS hl hF
    simp only [LX3_laid_91] at hF
    refine lv_iload hx hb dX3_laid_91 (lv_at hl 7 rfl) ?_
    refine lv_iload_n hx hb dX3_laid_93 rfl (lv_at hl 3 rfl) ?_
    refine lv_icmp_ge (tgt := 149) hx hb dX3_laid_94 (by decide) (fun hc => ?_) (fun hc => ?_)
    · have hF := if_t hc hF
      refine lv_aload_n hx hb dX3_laid_149 rfl (lv_at hl 0 rfl) ?_
      refine g_14_2 E hP dX3_laid_150 ?_
      refine lv_iload hx hb dX3_laid_153 (lv_at hl 6 rfl) ?_
      refine lv_imul hx hb dX3_laid_155 ?_
      exact endI E hr hlocks hP hD hS dX3_laid_156 hF
    · have hF := if_f hc hF
      refine lv_aload_n hx hb dX3_laid_97 rfl (lv_at hl 0 rfl) ?_
      refine g_14_3 E hP dX3_laid_98 ?_
      refine lv_iload hx hb dX3_laid_101 (lv_at hl 6 rfl) ?_
      refine lv_iload hx hb dX3_laid_103 (lv_at hl 7 rfl) ?_
      refine lv_iadd hx hb dX3_laid_105 ?_
      refine lv_iload hx hb dX3_laid_106 (lv_at hl 7 rfl) ?_
      refine lv_if_ne (tgt := 115) hx hb dX3_laid_108 (by decide) (fun hc => ?_) (fun hc => ?_)
      · have hF := if_f hc hF
        refine lv_iconst (v := 3) hx hb dX3_laid_115 (by decide) ?_
        obtain ⟨hi15, hF⟩ := gd_some hF
        refine sa_15 E hP hD hS hi15 dX3_laid_116 (fun H locs hP hD hS => ?_)
        refine lv_aload_n hx hb dX3_laid_117 rfl (lv_at hl 0 rfl) ?_
        refine g_14_4 E hP dX3_laid_118 ?_
        refine lv_iload hx hb dX3_laid_121 (lv_at hl 6 rfl) ?_
        refine lv_iload hx hb dX3_laid_123 (lv_at hl 7 rfl) ?_
        refine lv_iadd hx hb dX3_laid_125 ?_
        refine lv_aload_n hx hb dX3_laid_126 rfl (lv_at hl 0 rfl) ?_
        refine g_14_2 E hP dX3_laid_127 ?_
        refine lv_iload_n hx hb dX3_laid_130 rfl (lv_at hl 1 rfl) ?_
        refine lv_aload_n hx hb dX3_laid_131 rfl (lv_at hl 0 rfl) ?_
        refine g_14_2 E hP dX3_laid_132 ?_
        refine lv_iload hx hb dX3_laid_135 (lv_at hl 7 rfl) ?_
        refine lv_imul hx hb dX3_laid_137 ?_
        refine lv_isub hx hb dX3_laid_138 ?_
        refine va_mmin hx hb (hml.trans hl.1.symm) E.1.2.2.2.1 (E.1.2.2.2.2 _ ml_X3_90) (E.1.2.2.2.2 _ mm_st) (E.1.2.2.2.2 _ mm_in) (E.1.2.2.2.2 _ mm_co) (Nat.le_of_ble_eq_true rfl) (Nat.le_of_ble_eq_true rfl) (Nat.zero_le _) (Nat.zero_le _) dX3_laid_139 ?_
        obtain ⟨hi16, hF⟩ := gd_some hF
        refine sa_16 E hP hD hS hi16 dX3_laid_142 (fun H locs hP hD hS => ?_)
        refine lv_iinc (v := (x7 + (1 : Int32))) (lv' := [(7, .int (x7 + (1 : Int32))), (0, .ref (h 14)), (1, .int x1), (2, .int x2), (3, .int x3), (4, .int x4), (5, .int x5), (6, .int x6)]) hx hb dX3_laid_143 hl (k := 7) rfl rfl (by decide) rfl (fun ls hl => ?_)
        refine lv_goto (tgt := 91) hx hb dX3_laid_146 (by decide) ?_
        exact ih _ _ _ _ _ _ _ _ _ _ _ hP hD hS (lv_sub hl [1, 2, 3, 4, 5, 6, 7, 0] rfl) hF
      · have hF := if_t hc hF
        refine lv_iconst (v := 2) hx hb dX3_laid_111 (by decide) ?_
        refine lv_goto (tgt := 116) hx hb dX3_laid_112 (by decide) ?_
        obtain ⟨hi17, hF⟩ := gd_some hF
        refine sa_15 E hP hD hS hi17 dX3_laid_116 (fun H locs hP hD hS => ?_)
        refine lv_aload_n hx hb dX3_laid_117 rfl (lv_at hl 0 rfl) ?_
        refine g_14_4 E hP dX3_laid_118 ?_
        refine lv_iload hx hb dX3_laid_121 (lv_at hl 6 rfl) ?_
        refine lv_iload hx hb dX3_laid_123 (lv_at hl 7 rfl) ?_
        refine lv_iadd hx hb dX3_laid_125 ?_
        refine lv_aload_n hx hb dX3_laid_126 rfl (lv_at hl 0 rfl) ?_
        refine g_14_2 E hP dX3_laid_127 ?_
        refine lv_iload_n hx hb dX3_laid_130 rfl (lv_at hl 1 rfl) ?_
        refine lv_aload_n hx hb dX3_laid_131 rfl (lv_at hl 0 rfl) ?_
        refine g_14_2 E hP dX3_laid_132 ?_
        refine lv_iload hx hb dX3_laid_135 (lv_at hl 7 rfl) ?_
        refine lv_imul hx hb dX3_laid_137 ?_
        refine lv_isub hx hb dX3_laid_138 ?_
        refine va_mmin hx hb (hml.trans hl.1.symm) E.1.2.2.2.1 (E.1.2.2.2.2 _ ml_X3_90) (E.1.2.2.2.2 _ mm_st) (E.1.2.2.2.2 _ mm_in) (E.1.2.2.2.2 _ mm_co) (Nat.le_of_ble_eq_true rfl) (Nat.le_of_ble_eq_true rfl) (Nat.zero_le _) (Nat.zero_le _) dX3_laid_139 ?_
        obtain ⟨hi18, hF⟩ := gd_some hF
        refine sa_16 E hP hD hS hi18 dX3_laid_142 (fun H locs hP hD hS => ?_)
        refine lv_iinc (v := (x7 + (1 : Int32))) (lv' := [(7, .int (x7 + (1 : Int32))), (0, .ref (h 14)), (1, .int x1), (2, .int x2), (3, .int x3), (4, .int x4), (5, .int x5), (6, .int x6)]) hx hb dX3_laid_143 hl (k := 7) rfl rfl (by decide) rfl (fun ls hl => ?_)
        refine lv_goto (tgt := 91) hx hb dX3_laid_146 (by decide) ?_
        exact ih _ _ _ _ _ _ _ _ _ _ _ hP hD hS (lv_sub hl [1, 2, 3, 4, 5, 6, 7, 0] rfl) hF
def LX3_laid_40 : Nat → Int32 → Int32 → Int32 → Int32 → Int32 → St → Option (Int32 × St)
  | 0 => fun _ _ _ _ _ _ => none
  | n + 1 => fun x1 x2 x3 x4 x5 st => (if (st.1 14 1) ≤ x5 then some ((-1 : Int32), st) else (if x2 < x3 then some ((-1 : Int32), st) else gd x5 64 (be (some ((if (st.1 15 x5.toNatClampNeg) = 0 then (x4 + (1 : Int32)) else (0 : Int32)))) (fun v14 => (if v14 = x3 then LX3_laid_91 n x1 x2 x3 v14 x5 ((x5 - x3) + (1 : Int32)) (0 : Int32) st else LX3_laid_40 n x1 x2 x3 v14 (x5 + (1 : Int32)) st)))))
set_option maxHeartbeats 4000000 in
set_option maxRecDepth 100000 in
theorem lX3_laid_40 {l : Launch} {D : va_G} {h : Nat → Nat} {cI cJ cZ : ClassId} {p : Program} {e : Env} {s : State} {m : MethodId} {args : Array Value} {below : List Frame} {meth : Method} {c : Code} {A : Nat → Prop} {r : Int32} {u : St} (E : Env1 p s m args c cX3_laid 8 RX3 D (tyL cI cJ cZ)) (hr : meth.sig.returnType = some .int) (hlocks : meth.locks = false) (hA : ∀ q : Nat, s.heap.size ≤ q → A q) : ∀ (n : Nat) (x1 x2 x3 x4 x5 : Int32) (st : St) (H : Heap) (locs : List Loc) (ls : Array Slot), va_P D vwCl (wM h cI cJ cZ st) H → va_D A (wM h cI cJ cZ st) → va_S A s.heap H locs → lv_has ls 8 [(0, .ref (h 14)), (1, .int x1), (2, .int x2), (3, .int x3), (4, .int x4), (5, .int x5)] → LX3_laid_40 n x1 x2 x3 x4 x5 st = some (r, u) → W p l e (rm 1 40) s m args below meth c H locs 0 0 (MQ below (CQ D (tyL cI cJ cZ) (wM h cI cJ cZ) A r u) args s 0 0 A) (F0 m 40 ls []) := by
  have hx := E.1.1
  have hb := E.1.2.1
  have hml := E.1.2.2.1
  intro n
  induction n with
  | zero => intro x1 x2 x3 x4 x5 st H locs ls hP hD hS hl hF; simp only [LX3_laid_40] at hF; cases hF
  | succ n ih =>
    intro x1 x2 x3 x4 x5 st H locs ls hP hD hS hl hF
    simp only [LX3_laid_40] at hF
    refine lv_iload hx hb dX3_laid_40 (lv_at hl 5 rfl) ?_
    refine lv_aload_n hx hb dX3_laid_42 rfl (lv_at hl 0 rfl) ?_
    refine g_14_1 E hP dX3_laid_43 ?_
    refine lv_icmp_ge (tgt := 163) hx hb dX3_laid_46 (by decide) (fun hc => ?_) (fun hc => ?_)
    · have hF := if_t hc hF
      refine lv_iconst (v := (-1)) hx hb dX3_laid_163 (by decide) ?_
      exact endI E hr hlocks hP hD hS dX3_laid_164 hF
    · have hF := if_f hc hF
      refine lv_iload_n hx hb dX3_laid_49 rfl (lv_at hl 3 rfl) ?_
      refine lv_iload_n hx hb dX3_laid_50 rfl (lv_at hl 2 rfl) ?_
      refine lv_icmp_gt (tgt := 163) hx hb dX3_laid_51 (by decide) (fun hc => ?_) (fun hc => ?_)
      · have hF := if_t hc hF
        refine lv_iconst (v := (-1)) hx hb dX3_laid_163 (by decide) ?_
        exact endI E hr hlocks hP hD hS dX3_laid_164 hF
      · have hF := if_f hc hF
        refine lv_aload_n hx hb dX3_laid_54 rfl (lv_at hl 0 rfl) ?_
        refine g_14_3 E hP dX3_laid_55 ?_
        refine lv_iload hx hb dX3_laid_58 (lv_at hl 5 rfl) ?_
        obtain ⟨hi13, hF⟩ := gd_some hF
        refine la_15 E hP hi13 dX3_laid_60 ?_
        obtain ⟨v14, hv, hF⟩ := be_some hF
        have hv := Option.some.inj hv
        refine dia (jpc := 72) (v1 := v14) (rest := []) (ls := ls) ?_ (fun kont => ?_)
        · skip
          refine lv_istore (lv' := [(4, .int v14), (0, .ref (h 14)), (1, .int x1), (2, .int x2), (3, .int x3), (5, .int x5)]) hx hb dX3_laid_72 hl (by decide) rfl (fun ls hl => ?_)
          refine lv_iload hx hb dX3_laid_74 (lv_at hl 0 rfl) ?_
          refine lv_iload_n hx hb dX3_laid_76 rfl (lv_at hl 4 rfl) ?_
          refine lv_icmp_ne (tgt := 157) hx hb dX3_laid_77 (by decide) (fun hc => ?_) (fun hc => ?_)
          · have hF := if_f hc hF
            refine lv_iinc (v := (x5 + (1 : Int32))) (lv' := [(5, .int (x5 + (1 : Int32))), (4, .int v14), (0, .ref (h 14)), (1, .int x1), (2, .int x2), (3, .int x3)]) hx hb dX3_laid_157 hl (k := 5) rfl rfl (by decide) rfl (fun ls hl => ?_)
            refine lv_goto (tgt := 40) hx hb dX3_laid_160 (by decide) ?_
            exact ih _ _ _ _ _ _ _ _ _ hP hD hS (lv_sub hl [2, 3, 4, 5, 1, 0] rfl) hF
          · have hF := if_t hc hF
            refine lv_iload hx hb dX3_laid_80 (lv_at hl 5 rfl) ?_
            refine lv_iload_n hx hb dX3_laid_82 rfl (lv_at hl 4 rfl) ?_
            refine lv_isub hx hb dX3_laid_83 ?_
            refine lv_iconst (v := 1) hx hb dX3_laid_84 (by decide) ?_
            refine lv_iadd hx hb dX3_laid_85 ?_
            refine lv_istore (lv' := [(6, .int ((x5 - x3) + (1 : Int32))), (4, .int v14), (0, .ref (h 14)), (1, .int x1), (2, .int x2), (3, .int x3), (5, .int x5)]) hx hb dX3_laid_86 hl (by decide) rfl (fun ls hl => ?_)
            refine lv_iconst (v := 0) hx hb dX3_laid_88 (by decide) ?_
            refine lv_istore (lv' := [(7, .int (0 : Int32)), (6, .int ((x5 - x3) + (1 : Int32))), (4, .int v14), (0, .ref (h 14)), (1, .int x1), (2, .int x2), (3, .int x3), (5, .int x5)]) hx hb dX3_laid_89 hl (by decide) rfl (fun ls hl => ?_)
            exact lX3_laid_91 E hr hlocks hA n x1 x2 x3 v14 x5 ((x5 - x3) + (1 : Int32)) (0 : Int32) st _ _ _ hP hD hS (lv_sub hl [3, 4, 5, 6, 2, 7, 1, 0] rfl) hF
        · skip
          refine lv_if_ne (tgt := 71) hx hb dX3_laid_61 (by decide) (fun hc => ?_) (fun hc => ?_)
          · have hv := if_f hc hv
            refine lv_iconst (v := 0) hx hb dX3_laid_71 (by decide) ?_
            exact topE hv kont
          · have hv := if_t hc hv
            refine lv_iload hx hb dX3_laid_64 (lv_at hl 4 rfl) ?_
            refine lv_iconst (v := 1) hx hb dX3_laid_66 (by decide) ?_
            refine lv_iadd hx hb dX3_laid_67 ?_
            refine lv_goto (tgt := 72) hx hb dX3_laid_68 (by decide) ?_
            exact topE hv kont
def FX3_laid (n : Nat) (x1 : Int32) (st : St) : Option (Int32 × St) := dz (2 : Int32) (bd (FX3_used n  st) (fun r2 u3 => (if x1 ≤ (u3.1 14 2) then (if (u3.1 14 6) = (-1 : Int32) then JX3_laid_191 n x1 (((st.1 14 1) / (2 : Int32)) - r2) u3 else gd (u3.1 14 6) 64 ((if x1 ≤ ((u3.1 14 2) - (u3.1 16 (u3.1 14 6).toNatClampNeg)) then JX3_laid_250 n x1 u3 else JX3_laid_191 n x1 (((st.1 14 1) / (2 : Int32)) - r2) u3))) else dz (u3.1 14 2) (LX3_laid_40 n x1 (((st.1 14 1) / (2 : Int32)) - r2) (((x1 + (u3.1 14 2)) - (1 : Int32)) / (u3.1 14 2)) (0 : Int32) (0 : Int32) u3))))
set_option maxHeartbeats 4000000 in
set_option maxRecDepth 100000 in
theorem kX3_laid (l : Launch) (D : va_G) (h : Nat → Nat) (cI cJ cZ : ClassId) (n : Nat) (x1 : Int32) (st : St) (r : Int32) (u : St) (hF : FX3_laid n x1 st = some (r, u)) : Ci l yX3_laid cX3_laid 8 (some .int) 1 40 D (tyL cI cJ cZ) (wM h cI cJ cZ) st [.ref (h 14), .int x1] r u := by
  refine body_i (by decide +kernel) (Nat.le_of_ble_eq_true rfl) ?_
  intro p e s m below meth c A ls E hr hlocks hA hP hD hS hl
  have E : Env1 p s m _ c cX3_laid 8 RX3 D (tyL cI cJ cZ) := E
  have hl : lv_has ls 8 [(0, .ref (h 14)), (1, .int x1)] := hl
  have hx := E.1.1
  have hb := E.1.2.1
  have hml := E.1.2.2.1
  unfold FX3_laid at hF
  refine lv_aload_n hx hb dX3_laid_0 rfl (lv_at hl 0 rfl) ?_
  refine g_14_1 E hP dX3_laid_1 ?_
  refine lv_iconst (v := 2) hx hb dX3_laid_4 (by decide) ?_
  obtain ⟨hz1, hF⟩ := dz_some hF
  refine lv_idiv hx hb dX3_laid_5 hz1 ?_
  refine lv_aload_n hx hb dX3_laid_6 rfl (lv_at hl 0 rfl) ?_
  obtain ⟨r2, u3, hc4, hF⟩ := bd_some hF
  refine call_i (rest := [.int ((st.1 14 1) / (2 : Int32))]) E hA hP hD hS hl.1 (kX3_used l D h cI cJ cZ n  st r2 u3 hc4) cw_X3_86 0 rfl rfl rfl rfl rfl (Nat.le_of_ble_eq_true rfl) ⟨Nat.le_of_ble_eq_true rfl, Nat.le_of_ble_eq_true rfl⟩ ⟨Nat.zero_le _, Nat.zero_le _⟩ dX3_laid_7 (fun H locs hP hD hS => ?_)
  refine lv_isub hx hb dX3_laid_10 ?_
  refine lv_istore_n (lv' := [(2, .int (((st.1 14 1) / (2 : Int32)) - r2)), (0, .ref (h 14)), (1, .int x1)]) hx hb dX3_laid_11 rfl hl (by decide) rfl (fun ls hl => ?_)
  refine lv_iload_n hx hb dX3_laid_12 rfl (lv_at hl 2 rfl) ?_
  refine lv_aload_n hx hb dX3_laid_13 rfl (lv_at hl 1 rfl) ?_
  refine g_14_2 E hP dX3_laid_14 ?_
  refine lv_icmp_le (tgt := 165) hx hb dX3_laid_17 (by decide) (fun hc => ?_) (fun hc => ?_)
  · have hF := if_t hc hF
    refine lv_aload_n hx hb dX3_laid_165 rfl (lv_at hl 1 rfl) ?_
    refine g_14_6 E hP dX3_laid_166 ?_
    refine lv_iconst (v := (-1)) hx hb dX3_laid_169 (by decide) ?_
    refine lv_icmp_eq (tgt := 191) hx hb dX3_laid_170 (by decide) (fun hc => ?_) (fun hc => ?_)
    · have hF := if_t hc hF
      exact jX3_laid_191 E hr hlocks hA n x1 (((st.1 14 1) / (2 : Int32)) - r2) u3 _ _ _ hP hD hS (lv_sub hl [1, 2, 0] rfl) hF
    · have hF := if_f hc hF
      refine lv_aload_n hx hb dX3_laid_173 rfl (lv_at hl 1 rfl) ?_
      refine g_14_2 E hP dX3_laid_174 ?_
      refine lv_aload_n hx hb dX3_laid_177 rfl (lv_at hl 1 rfl) ?_
      refine g_14_4 E hP dX3_laid_178 ?_
      refine lv_aload_n hx hb dX3_laid_181 rfl (lv_at hl 1 rfl) ?_
      refine g_14_6 E hP dX3_laid_182 ?_
      obtain ⟨hi11, hF⟩ := gd_some hF
      refine la_16 E hP hi11 dX3_laid_185 ?_
      refine lv_isub hx hb dX3_laid_186 ?_
      refine lv_iload_n hx hb dX3_laid_187 rfl (lv_at hl 2 rfl) ?_
      refine lv_icmp_ge (tgt := 250) hx hb dX3_laid_188 (by decide) (fun hc => ?_) (fun hc => ?_)
      · have hF := if_t hc hF
        exact jX3_laid_250 E hr hlocks hA n x1 u3 _ _ _ hP hD hS (lv_sub hl [1, 2] rfl) hF
      · have hF := if_f hc hF
        exact jX3_laid_191 E hr hlocks hA n x1 (((st.1 14 1) / (2 : Int32)) - r2) u3 _ _ _ hP hD hS (lv_sub hl [1, 2, 0] rfl) hF
  · have hF := if_f hc hF
    refine lv_iload_n hx hb dX3_laid_20 rfl (lv_at hl 2 rfl) ?_
    refine lv_aload_n hx hb dX3_laid_21 rfl (lv_at hl 1 rfl) ?_
    refine g_14_2 E hP dX3_laid_22 ?_
    refine lv_iadd hx hb dX3_laid_25 ?_
    refine lv_iconst (v := 1) hx hb dX3_laid_26 (by decide) ?_
    refine lv_isub hx hb dX3_laid_27 ?_
    refine lv_aload_n hx hb dX3_laid_28 rfl (lv_at hl 1 rfl) ?_
    refine g_14_2 E hP dX3_laid_29 ?_
    obtain ⟨hz12, hF⟩ := dz_some hF
    refine lv_idiv hx hb dX3_laid_32 hz12 ?_
    refine lv_istore_n (lv' := [(3, .int (((x1 + (u3.1 14 2)) - (1 : Int32)) / (u3.1 14 2))), (2, .int (((st.1 14 1) / (2 : Int32)) - r2)), (0, .ref (h 14)), (1, .int x1)]) hx hb dX3_laid_33 rfl hl (by decide) rfl (fun ls hl => ?_)
    refine lv_iconst (v := 0) hx hb dX3_laid_34 (by decide) ?_
    refine lv_istore (lv' := [(4, .int (0 : Int32)), (3, .int (((x1 + (u3.1 14 2)) - (1 : Int32)) / (u3.1 14 2))), (2, .int (((st.1 14 1) / (2 : Int32)) - r2)), (0, .ref (h 14)), (1, .int x1)]) hx hb dX3_laid_35 hl (by decide) rfl (fun ls hl => ?_)
    refine lv_iconst (v := 0) hx hb dX3_laid_37 (by decide) ?_
    refine lv_istore (lv' := [(5, .int (0 : Int32)), (4, .int (0 : Int32)), (3, .int (((x1 + (u3.1 14 2)) - (1 : Int32)) / (u3.1 14 2))), (2, .int (((st.1 14 1) / (2 : Int32)) - r2)), (0, .ref (h 14)), (1, .int x1)]) hx hb dX3_laid_38 hl (by decide) rfl (fun ls hl => ?_)
    exact lX3_laid_40 E hr hlocks hA n x1 (((st.1 14 1) / (2 : Int32)) - r2) (((x1 + (u3.1 14 2)) - (1 : Int32)) / (u3.1 14 2)) (0 : Int32) (0 : Int32) u3 _ _ _ hP hD hS (lv_sub hl [4, 5, 3, 2, 1, 0] rfl) hF
-- LooseHeapModel.isRoot
def FX3_isRoot (n : Nat) (x0 : Int32) (st : St) : Option (Int32 × St) := be (some ((if x0 < 0 then (0 : Int32) else (if (32 : Int32) ≤ x0 then (0 : Int32) else (1 : Int32))))) (fun v1 => gz v1 (some (v1, st)))
set_option maxHeartbeats 4000000 in
set_option maxRecDepth 100000 in
theorem kX3_isRoot (l : Launch) (D : va_G) (h : Nat → Nat) (cI cJ cZ : ClassId) (n : Nat) (x0 : Int32) (st : St) (r : Int32) (u : St) (hF : FX3_isRoot n x0 st = some (r, u)) : Ci l yX3_isRoot cX3_isRoot 1 (some .boolean) 0 0 D (tyL cI cJ cZ) (wM h cI cJ cZ) st [.int x0] r u := by
  refine body_i (by decide +kernel) (Nat.le_of_ble_eq_true rfl) ?_
  intro p e s m below meth c A ls E hr hlocks hA hP hD hS hl
  have E : Env1 p s m _ c cX3_isRoot 1 RX3 D (tyL cI cJ cZ) := E
  have hl : lv_has ls 1 [(0, .int x0)] := hl
  have hx := E.1.1
  have hb := E.1.2.1
  have hml := E.1.2.2.1
  unfold FX3_isRoot at hF
  refine lv_iload_n hx hb dX3_isRoot_0 rfl (lv_at hl 0 rfl) ?_
  obtain ⟨v1, hv, hF⟩ := be_some hF
  have hv := Option.some.inj hv
  refine dia (jpc := 15) (v1 := v1) (rest := []) (ls := ls) ?_ (fun kont => ?_)
  · skip
    exact endZ E hr hlocks hP hD hS dX3_isRoot_15 hF
  · skip
    refine lv_if_lt (tgt := 14) hx hb dX3_isRoot_1 (by decide) (fun hc => ?_) (fun hc => ?_)
    · have hv := if_t hc hv
      refine lv_iconst (v := 0) hx hb dX3_isRoot_14 (by decide) ?_
      exact topE hv kont
    · have hv := if_f hc hv
      refine lv_iload_n hx hb dX3_isRoot_4 rfl (lv_at hl 0 rfl) ?_
      refine lv_bipush (v := 32) hx hb dX3_isRoot_5 (by decide) ?_
      refine lv_icmp_ge (tgt := 14) hx hb dX3_isRoot_7 (by decide) (fun hc => ?_) (fun hc => ?_)
      · have hv := if_t hc hv
        refine lv_iconst (v := 0) hx hb dX3_isRoot_14 (by decide) ?_
        exact topE hv kont
      · have hv := if_f hc hv
        refine lv_iconst (v := 1) hx hb dX3_isRoot_10 (by decide) ?_
        refine lv_goto (tgt := 15) hx hb dX3_isRoot_11 (by decide) ?_
        exact topE hv kont
-- LooseHeapModel.firstOf
def LX3_firstOf_2 : Nat → Int32 → Int32 → St → Option (Int32 × St)
  | 0 => fun _ _ _ => none
  | n + 1 => fun x1 x2 st => gd x2 64 ((if (st.1 15 x2.toNatClampNeg) = (3 : Int32) then LX3_firstOf_2 n x1 (x2 + (-1 : Int32)) st else some (x2, st)))
set_option maxHeartbeats 4000000 in
set_option maxRecDepth 100000 in
theorem lX3_firstOf_2 {l : Launch} {D : va_G} {h : Nat → Nat} {cI cJ cZ : ClassId} {p : Program} {e : Env} {s : State} {m : MethodId} {args : Array Value} {below : List Frame} {meth : Method} {c : Code} {A : Nat → Prop} {r : Int32} {u : St} (E : Env1 p s m args c cX3_firstOf 3 RX3 D (tyL cI cJ cZ)) (hr : meth.sig.returnType = some .int) (hlocks : meth.locks = false) (hA : ∀ q : Nat, s.heap.size ≤ q → A q) : ∀ (n : Nat) (x1 x2 : Int32) (st : St) (H : Heap) (locs : List Loc) (ls : Array Slot), va_P D vwCl (wM h cI cJ cZ st) H → va_D A (wM h cI cJ cZ st) → va_S A s.heap H locs → lv_has ls 3 [(0, .ref (h 14)), (1, .int x1), (2, .int x2)] → LX3_firstOf_2 n x1 x2 st = some (r, u) → W p l e (rm 0 0) s m args below meth c H locs 0 0 (MQ below (CQ D (tyL cI cJ cZ) (wM h cI cJ cZ) A r u) args s 0 0 A) (F0 m 2 ls []) := by
  have hx := E.1.1
  have hb := E.1.2.1
  have hml := E.1.2.2.1
  intro n
  induction n with
  | zero => intro x1 x2 st H locs ls hP hD hS hl hF; simp only [LX3_firstOf_2] at hF; cases hF
  | succ n ih =>
    intro x1 x2 st H locs ls hP hD hS hl hF
    simp only [LX3_firstOf_2] at hF
    refine lv_aload_n hx hb dX3_firstOf_2 rfl (lv_at hl 0 rfl) ?_
    refine g_14_3 E hP dX3_firstOf_3 ?_
    refine lv_iload_n hx hb dX3_firstOf_6 rfl (lv_at hl 2 rfl) ?_
    obtain ⟨hi1, hF⟩ := gd_some hF
    refine la_15 E hP hi1 dX3_firstOf_7 ?_
    refine lv_iconst (v := 3) hx hb dX3_firstOf_8 (by decide) ?_
    refine lv_icmp_ne (tgt := 18) hx hb dX3_firstOf_9 (by decide) (fun hc => ?_) (fun hc => ?_)
    · have hF := if_f hc hF
      refine lv_iload_n hx hb dX3_firstOf_18 rfl (lv_at hl 2 rfl) ?_
      exact endI E hr hlocks hP hD hS dX3_firstOf_19 hF
    · have hF := if_t hc hF
      refine lv_iinc (v := (x2 + (-1 : Int32))) (lv' := [(2, .int (x2 + (-1 : Int32))), (0, .ref (h 14)), (1, .int x1)]) hx hb dX3_firstOf_12 hl (k := 2) rfl rfl (by decide) rfl (fun ls hl => ?_)
      refine lv_goto (tgt := 2) hx hb dX3_firstOf_15 (by decide) ?_
      exact ih _ _ _ _ _ _ hP hD hS (lv_sub hl [1, 2, 0] rfl) hF
def FX3_firstOf (n : Nat) (x1 : Int32) (st : St) : Option (Int32 × St) := LX3_firstOf_2 n x1 x1 st
set_option maxHeartbeats 4000000 in
set_option maxRecDepth 100000 in
theorem kX3_firstOf (l : Launch) (D : va_G) (h : Nat → Nat) (cI cJ cZ : ClassId) (n : Nat) (x1 : Int32) (st : St) (r : Int32) (u : St) (hF : FX3_firstOf n x1 st = some (r, u)) : Ci l yX3_firstOf cX3_firstOf 3 (some .int) 0 0 D (tyL cI cJ cZ) (wM h cI cJ cZ) st [.ref (h 14), .int x1] r u := by
  refine body_i (by decide +kernel) (Nat.le_of_ble_eq_true rfl) ?_
  intro p e s m below meth c A ls E hr hlocks hA hP hD hS hl
  have E : Env1 p s m _ c cX3_firstOf 3 RX3 D (tyL cI cJ cZ) := E
  have hl : lv_has ls 3 [(0, .ref (h 14)), (1, .int x1)] := hl
  have hx := E.1.1
  have hb := E.1.2.1
  have hml := E.1.2.2.1
  unfold FX3_firstOf at hF
  refine lv_iload_n hx hb dX3_firstOf_0 rfl (lv_at hl 1 rfl) ?_
  refine lv_istore_n (lv' := [(2, .int x1), (0, .ref (h 14)), (1, .int x1)]) hx hb dX3_firstOf_1 rfl hl (by decide) rfl (fun ls hl => ?_)
  exact lX3_firstOf_2 E hr hlocks hA n x1 x1 st _ _ _ hP hD hS (lv_sub hl [1, 2, 0] rfl) hF
theorem cw_X3_107 : cwd RX3 107 RX3 yX3_firstOf cX3_firstOf 3 (some .int) 1 := ⟨tb_V (tb_in 812 (by decide +kernel) (by decide +kernel)) (tb_in 814 (by decide +kernel) (by decide +kernel)) (tb_in 33 (by decide +kernel) (by decide +kernel)) (tb_in 50 (by decide +kernel) (by decide +kernel)) (tb_in 815 (by decide +kernel) (by decide +kernel)), by decide +kernel⟩
-- LooseHeapModel.hits
def LX3_hits_105 : Nat → Int32 → Int32 → Int32 → St → Option (Int32 × Int32 × Int32 × St)
  | 0 => fun _ _ _ _ => none
  | n + 1 => fun x1 x2 x3 st => (if (st.1 14 1) ≤ x3 then some (x1, x2, x3, st) else gd x2 64 ((if (st.1 15 x2.toNatClampNeg) = (2 : Int32) then gd x3 64 ((if (st.1 15 x3.toNatClampNeg) = (3 : Int32) then gd x3 64 (LX3_hits_105 n x1 x2 (x3 + (1 : Int32)) (pt st 28 x3.toNatClampNeg (vp_nar .boolean (1 : Int32)))) else some (x1, x2, x3, st))) else some (x1, x2, x3, st))))
set_option maxHeartbeats 4000000 in
set_option maxRecDepth 100000 in
theorem lX3_hits_105 {l : Launch} {D : va_G} {h : Nat → Nat} {cI cJ cZ : ClassId} {p : Program} {e : Env} {s : State} {m : MethodId} {args : Array Value} {below : List Frame} {meth : Method} {c : Code} {A : Nat → Prop} {Q : State → Prop} (E : Env1 p s m args c cX3_hits 4 RX3 D (tyL cI cJ cZ)) (hA : ∀ q : Nat, s.heap.size ≤ q → A q) : ∀ (n : Nat) (x1 x2 x3 : Int32) (st : St) (H : Heap) (locs : List Loc) (ls : Array Slot) (q : Int32 × Int32 × Int32 × St), va_P D vwCl (wM h cI cJ cZ st) H → va_D A (wM h cI cJ cZ st) → va_S A s.heap H locs → lv_has ls 4 [(0, .ref (h 14)), (1, .int x1), (2, .int x2), (3, .int x3)] → LX3_hits_105 n x1 x2 x3 st = some q → (∀ (H : Heap) (locs : List Loc) (ls : Array Slot) (y1 y2 y3 : Int32) (u1 : St), q = (y1, y2, y3, u1) → va_P D vwCl (wM h cI cJ cZ u1) H → va_D A (wM h cI cJ cZ u1) → va_S A s.heap H locs → lv_has ls 4 [(0, .ref (h 14)), (1, .int y1), (2, .int y2), (3, .int y3)] → W p l e (rm 1 22) s m args below meth c H locs 0 0 Q (F0 m 146 ls [])) → W p l e (rm 1 22) s m args below meth c H locs 0 0 Q (F0 m 105 ls []) := by
  have hx := E.1.1
  have hb := E.1.2.1
  have hml := E.1.2.2.1
  intro n
  induction n with
  | zero => intro x1 x2 x3 st H locs ls q hP hD hS hl hF; simp only [LX3_hits_105] at hF; cases hF
  | succ n ih =>
    intro x1 x2 x3 st H locs ls q hP hD hS hl hF kx
    simp only [LX3_hits_105] at hF
    refine lv_iload_n hx hb dX3_hits_105 rfl (lv_at hl 3 rfl) ?_
    refine lv_aload_n hx hb dX3_hits_106 rfl (lv_at hl 0 rfl) ?_
    refine g_14_1 E hP dX3_hits_107 ?_
    refine lv_icmp_ge (tgt := 146) hx hb dX3_hits_110 (by decide) (fun hc => ?_) (fun hc => ?_)
    · have hF := if_t hc hF
      exact kx _ _ _ _ _ _ _ (Option.some.inj hF).symm hP hD hS (lv_sub hl [0, 1, 2, 3] rfl)
    · have hF := if_f hc hF
      refine lv_aload_n hx hb dX3_hits_113 rfl (lv_at hl 0 rfl) ?_
      refine g_14_3 E hP dX3_hits_114 ?_
      refine lv_iload_n hx hb dX3_hits_117 rfl (lv_at hl 2 rfl) ?_
      obtain ⟨hi12, hF⟩ := gd_some hF
      refine la_15 E hP hi12 dX3_hits_118 ?_
      refine lv_iconst (v := 2) hx hb dX3_hits_119 (by decide) ?_
      refine lv_icmp_ne (tgt := 146) hx hb dX3_hits_120 (by decide) (fun hc => ?_) (fun hc => ?_)
      · have hF := if_f hc hF
        exact kx _ _ _ _ _ _ _ (Option.some.inj hF).symm hP hD hS (lv_sub hl [0, 1, 2, 3] rfl)
      · have hF := if_t hc hF
        refine lv_aload_n hx hb dX3_hits_123 rfl (lv_at hl 0 rfl) ?_
        refine g_14_3 E hP dX3_hits_124 ?_
        refine lv_iload_n hx hb dX3_hits_127 rfl (lv_at hl 3 rfl) ?_
        obtain ⟨hi13, hF⟩ := gd_some hF
        refine la_15 E hP hi13 dX3_hits_128 ?_
        refine lv_iconst (v := 3) hx hb dX3_hits_129 (by decide) ?_
        refine lv_icmp_ne (tgt := 146) hx hb dX3_hits_130 (by decide) (fun hc => ?_) (fun hc => ?_)
        · have hF := if_f hc hF
          exact kx _ _ _ _ _ _ _ (Option.some.inj hF).symm hP hD hS (lv_sub hl [0, 1, 2, 3] rfl)
        · have hF := if_t hc hF
          refine lv_aload_n hx hb dX3_hits_133 rfl (lv_at hl 0 rfl) ?_
          refine g_14_20 E hP dX3_hits_134 ?_
          refine lv_iload_n hx hb dX3_hits_137 rfl (lv_at hl 3 rfl) ?_
          refine lv_iconst (v := 1) hx hb dX3_hits_138 (by decide) ?_
          obtain ⟨hi14, hF⟩ := gd_some hF
          refine sa_28 E hP hD hS hi14 dX3_hits_139 (fun H locs hP hD hS => ?_)
          refine lv_iinc (v := (x3 + (1 : Int32))) (lv' := [(3, .int (x3 + (1 : Int32))), (0, .ref (h 14)), (1, .int x1), (2, .int x2)]) hx hb dX3_hits_140 hl (k := 3) rfl rfl (by decide) rfl (fun ls hl => ?_)
          refine lv_goto (tgt := 105) hx hb dX3_hits_143 (by decide) ?_
          exact ih _ _ _ _ _ _ _ _ hP hD hS (lv_sub hl [1, 2, 3, 0] rfl) hF kx
def LX3_hits_23 : Nat → Int32 → St → Option (Int32 × St)
  | 0 => fun _ _ => none
  | n + 1 => fun x1 st => (if (32 : Int32) ≤ x1 then some ((0 : Int32), st) else gd x1 32 ((if (st.1 24 x1.toNatClampNeg) < 0 then LX3_hits_23 n (x1 + (1 : Int32)) st else gd x1 32 ((if ((st.1 14 1) * (st.1 14 2)) ≤ (st.1 24 x1.toNatClampNeg) then LX3_hits_23 n (x1 + (1 : Int32)) st else gd x1 32 (dz (st.1 14 2) (gd ((st.1 24 x1.toNatClampNeg) / (st.1 14 2)) 64 ((if (st.1 15 ((st.1 24 x1.toNatClampNeg) / (st.1 14 2)).toNatClampNeg) = 0 then LX3_hits_23 n (x1 + (1 : Int32)) st else gd x1 32 (dz (st.1 14 2) (bd (FX3_firstOf n ((st.1 24 x1.toNatClampNeg) / (st.1 14 2)) st) (fun r8 u9 => gd r8 64 (be (LX3_hits_105 n x1 r8 (r8 + (1 : Int32)) (pt u9 28 r8.toNatClampNeg (vp_nar .boolean (1 : Int32)))) (fun (y17, y18, y19, u20) => LX3_hits_23 n (y17 + (1 : Int32)) u20))))))))))))))
set_option maxHeartbeats 4000000 in
set_option maxRecDepth 100000 in
theorem lX3_hits_23 {l : Launch} {D : va_G} {h : Nat → Nat} {cI cJ cZ : ClassId} {p : Program} {e : Env} {s : State} {m : MethodId} {args : Array Value} {below : List Frame} {meth : Method} {c : Code} {A : Nat → Prop} {r : Int32} {u : St} (E : Env1 p s m args c cX3_hits 4 RX3 D (tyL cI cJ cZ)) (hr : meth.sig.returnType = none) (hlocks : meth.locks = false) (hA : ∀ q : Nat, s.heap.size ≤ q → A q) : ∀ (n : Nat) (x1 : Int32) (st : St) (H : Heap) (locs : List Loc) (ls : Array Slot), va_P D vwCl (wM h cI cJ cZ st) H → va_D A (wM h cI cJ cZ st) → va_S A s.heap H locs → lv_has ls 4 [(0, .ref (h 14)), (1, .int x1)] → LX3_hits_23 n x1 st = some (r, u) → W p l e (rm 1 22) s m args below meth c H locs 0 0 (MQ below (CQv D (tyL cI cJ cZ) (wM h cI cJ cZ) A u) args s 0 0 A) (F0 m 23 ls []) := by
  have hx := E.1.1
  have hb := E.1.2.1
  have hml := E.1.2.2.1
  intro n
  induction n with
  | zero => intro x1 st H locs ls hP hD hS hl hF; simp only [LX3_hits_23] at hF; cases hF
  | succ n ih =>
    intro x1 st H locs ls hP hD hS hl hF
    simp only [LX3_hits_23] at hF
    refine lv_iload_n hx hb dX3_hits_23 rfl (lv_at hl 1 rfl) ?_
    refine lv_bipush (v := 32) hx hb dX3_hits_24 (by decide) ?_
    refine lv_icmp_ge (tgt := 152) hx hb dX3_hits_26 (by decide) (fun hc => ?_) (fun hc => ?_)
    · have hF := if_t hc hF
      exact endV E hr hlocks hP hD hS dX3_hits_152 hF
    · have hF := if_f hc hF
      refine lv_aload_n hx hb dX3_hits_29 rfl (lv_at hl 0 rfl) ?_
      refine g_14_15 E hP dX3_hits_30 ?_
      refine lv_iload_n hx hb dX3_hits_33 rfl (lv_at hl 1 rfl) ?_
      obtain ⟨hi1, hF⟩ := gd_some hF
      refine la_24 E hP hi1 dX3_hits_34 ?_
      refine lv_if_lt (tgt := 146) hx hb dX3_hits_35 (by decide) (fun hc => ?_) (fun hc => ?_)
      · have hF := if_t hc hF
        refine lv_iinc (v := (x1 + (1 : Int32))) (lv' := [(1, .int (x1 + (1 : Int32))), (0, .ref (h 14))]) hx hb dX3_hits_146 hl (k := 1) rfl rfl (by decide) rfl (fun ls hl => ?_)
        refine lv_goto (tgt := 23) hx hb dX3_hits_149 (by decide) ?_
        exact ih _ _ _ _ _ hP hD hS (lv_sub hl [1, 0] rfl) hF
      · have hF := if_f hc hF
        refine lv_aload_n hx hb dX3_hits_38 rfl (lv_at hl 0 rfl) ?_
        refine g_14_15 E hP dX3_hits_39 ?_
        refine lv_iload_n hx hb dX3_hits_42 rfl (lv_at hl 1 rfl) ?_
        obtain ⟨hi2, hF⟩ := gd_some hF
        refine la_24 E hP hi2 dX3_hits_43 ?_
        refine lv_aload_n hx hb dX3_hits_44 rfl (lv_at hl 0 rfl) ?_
        refine g_14_1 E hP dX3_hits_45 ?_
        refine lv_aload_n hx hb dX3_hits_48 rfl (lv_at hl 0 rfl) ?_
        refine g_14_2 E hP dX3_hits_49 ?_
        refine lv_imul hx hb dX3_hits_52 ?_
        refine lv_icmp_ge (tgt := 146) hx hb dX3_hits_53 (by decide) (fun hc => ?_) (fun hc => ?_)
        · have hF := if_t hc hF
          refine lv_iinc (v := (x1 + (1 : Int32))) (lv' := [(1, .int (x1 + (1 : Int32))), (0, .ref (h 14))]) hx hb dX3_hits_146 hl (k := 1) rfl rfl (by decide) rfl (fun ls hl => ?_)
          refine lv_goto (tgt := 23) hx hb dX3_hits_149 (by decide) ?_
          exact ih _ _ _ _ _ hP hD hS (lv_sub hl [1, 0] rfl) hF
        · have hF := if_f hc hF
          refine lv_aload_n hx hb dX3_hits_56 rfl (lv_at hl 0 rfl) ?_
          refine g_14_3 E hP dX3_hits_57 ?_
          refine lv_aload_n hx hb dX3_hits_60 rfl (lv_at hl 0 rfl) ?_
          refine g_14_15 E hP dX3_hits_61 ?_
          refine lv_iload_n hx hb dX3_hits_64 rfl (lv_at hl 1 rfl) ?_
          obtain ⟨hi3, hF⟩ := gd_some hF
          refine la_24 E hP hi3 dX3_hits_65 ?_
          refine lv_aload_n hx hb dX3_hits_66 rfl (lv_at hl 0 rfl) ?_
          refine g_14_2 E hP dX3_hits_67 ?_
          obtain ⟨hz4, hF⟩ := dz_some hF
          refine lv_idiv hx hb dX3_hits_70 hz4 ?_
          obtain ⟨hi5, hF⟩ := gd_some hF
          refine la_15 E hP hi5 dX3_hits_71 ?_
          refine lv_if_ne (tgt := 78) hx hb dX3_hits_72 (by decide) (fun hc => ?_) (fun hc => ?_)
          · have hF := if_f hc hF
            refine lv_aload_n hx hb dX3_hits_78 rfl (lv_at hl 0 rfl) ?_
            refine lv_aload_n hx hb dX3_hits_79 rfl (lv_at hl 0 rfl) ?_
            refine g_14_15 E hP dX3_hits_80 ?_
            refine lv_iload_n hx hb dX3_hits_83 rfl (lv_at hl 1 rfl) ?_
            obtain ⟨hi6, hF⟩ := gd_some hF
            refine la_24 E hP hi6 dX3_hits_84 ?_
            refine lv_aload_n hx hb dX3_hits_85 rfl (lv_at hl 0 rfl) ?_
            refine g_14_2 E hP dX3_hits_86 ?_
            obtain ⟨hz7, hF⟩ := dz_some hF
            refine lv_idiv hx hb dX3_hits_89 hz7 ?_
            obtain ⟨r8, u9, hc10, hF⟩ := bd_some hF
            refine call_i (rest := []) E hA hP hD hS hl.1 (kX3_firstOf l D h cI cJ cZ n ((st.1 24 x1.toNatClampNeg) / (st.1 14 2)) st r8 u9 hc10) cw_X3_107 0 rfl rfl rfl rfl rfl (Nat.le_of_ble_eq_true rfl) ⟨Nat.le_of_ble_eq_true rfl, Nat.le_of_ble_eq_true rfl⟩ ⟨Nat.zero_le _, Nat.zero_le _⟩ dX3_hits_90 (fun H locs hP hD hS => ?_)
            refine lv_istore_n (lv' := [(2, .int r8), (0, .ref (h 14)), (1, .int x1)]) hx hb dX3_hits_93 rfl hl (by decide) rfl (fun ls hl => ?_)
            refine lv_aload_n hx hb dX3_hits_94 rfl (lv_at hl 1 rfl) ?_
            refine g_14_20 E hP dX3_hits_95 ?_
            refine lv_iload_n hx hb dX3_hits_98 rfl (lv_at hl 0 rfl) ?_
            refine lv_iconst (v := 1) hx hb dX3_hits_99 (by decide) ?_
            obtain ⟨hi11, hF⟩ := gd_some hF
            refine sa_28 E hP hD hS hi11 dX3_hits_100 (fun H locs hP hD hS => ?_)
            refine lv_iload_n hx hb dX3_hits_101 rfl (lv_at hl 0 rfl) ?_
            refine lv_iconst (v := 1) hx hb dX3_hits_102 (by decide) ?_
            refine lv_iadd hx hb dX3_hits_103 ?_
            refine lv_istore_n (lv' := [(3, .int (r8 + (1 : Int32))), (2, .int r8), (0, .ref (h 14)), (1, .int x1)]) hx hb dX3_hits_104 rfl hl (by decide) rfl (fun ls hl => ?_)
            obtain ⟨q15, hq16, hF⟩ := be_some hF
            refine lX3_hits_105 E hA n x1 r8 (r8 + (1 : Int32)) (pt u9 28 r8.toNatClampNeg (vp_nar .boolean (1 : Int32))) _ _ _ _ hP hD hS (lv_sub hl [2, 3, 1, 0] rfl) hq16 (fun H locs ls y17 y18 y19 u20 he hP hD hS hl => ?_)
            subst he
            refine lv_iinc (v := (y17 + (1 : Int32))) (lv' := [(1, .int (y17 + (1 : Int32))), (0, .ref (h 14)), (2, .int y18), (3, .int y19)]) hx hb dX3_hits_146 hl (k := 1) rfl rfl (by decide) rfl (fun ls hl => ?_)
            refine lv_goto (tgt := 23) hx hb dX3_hits_149 (by decide) ?_
            exact ih _ _ _ _ _ hP hD hS (lv_sub hl [1, 0] rfl) hF
          · have hF := if_t hc hF
            refine lv_goto (tgt := 146) hx hb dX3_hits_75 (by decide) ?_
            refine lv_iinc (v := (x1 + (1 : Int32))) (lv' := [(1, .int (x1 + (1 : Int32))), (0, .ref (h 14))]) hx hb dX3_hits_146 hl (k := 1) rfl rfl (by decide) rfl (fun ls hl => ?_)
            refine lv_goto (tgt := 23) hx hb dX3_hits_149 (by decide) ?_
            exact ih _ _ _ _ _ hP hD hS (lv_sub hl [1, 0] rfl) hF
def LX3_hits_2 : Nat → Int32 → St → Option (Int32 × St)
  | 0 => fun _ _ => none
  | n + 1 => fun x1 st => (if (64 : Int32) ≤ x1 then LX3_hits_23 n (0 : Int32) st else gd x1 64 (LX3_hits_2 n (x1 + (1 : Int32)) (pt st 28 x1.toNatClampNeg (vp_nar .boolean (0 : Int32)))))
set_option maxHeartbeats 4000000 in
set_option maxRecDepth 100000 in
theorem lX3_hits_2 {l : Launch} {D : va_G} {h : Nat → Nat} {cI cJ cZ : ClassId} {p : Program} {e : Env} {s : State} {m : MethodId} {args : Array Value} {below : List Frame} {meth : Method} {c : Code} {A : Nat → Prop} {r : Int32} {u : St} (E : Env1 p s m args c cX3_hits 4 RX3 D (tyL cI cJ cZ)) (hr : meth.sig.returnType = none) (hlocks : meth.locks = false) (hA : ∀ q : Nat, s.heap.size ≤ q → A q) : ∀ (n : Nat) (x1 : Int32) (st : St) (H : Heap) (locs : List Loc) (ls : Array Slot), va_P D vwCl (wM h cI cJ cZ st) H → va_D A (wM h cI cJ cZ st) → va_S A s.heap H locs → lv_has ls 4 [(0, .ref (h 14)), (1, .int x1)] → LX3_hits_2 n x1 st = some (r, u) → W p l e (rm 1 22) s m args below meth c H locs 0 0 (MQ below (CQv D (tyL cI cJ cZ) (wM h cI cJ cZ) A u) args s 0 0 A) (F0 m 2 ls []) := by
  have hx := E.1.1
  have hb := E.1.2.1
  have hml := E.1.2.2.1
  intro n
  induction n with
  | zero => intro x1 st H locs ls hP hD hS hl hF; simp only [LX3_hits_2] at hF; cases hF
  | succ n ih =>
    intro x1 st H locs ls hP hD hS hl hF
    simp only [LX3_hits_2] at hF
    refine lv_iload_n hx hb dX3_hits_2 rfl (lv_at hl 1 rfl) ?_
    refine lv_bipush (v := 64) hx hb dX3_hits_3 (by decide) ?_
    refine lv_icmp_ge (tgt := 21) hx hb dX3_hits_5 (by decide) (fun hc => ?_) (fun hc => ?_)
    · have hF := if_t hc hF
      refine lv_iconst (v := 0) hx hb dX3_hits_21 (by decide) ?_
      refine lv_istore_n (lv' := [(1, .int (0 : Int32)), (0, .ref (h 14))]) hx hb dX3_hits_22 rfl hl (by decide) rfl (fun ls hl => ?_)
      exact lX3_hits_23 E hr hlocks hA n (0 : Int32) st _ _ _ hP hD hS (lv_sub hl [1, 0] rfl) hF
    · have hF := if_f hc hF
      refine lv_aload_n hx hb dX3_hits_8 rfl (lv_at hl 0 rfl) ?_
      refine g_14_20 E hP dX3_hits_9 ?_
      refine lv_iload_n hx hb dX3_hits_12 rfl (lv_at hl 1 rfl) ?_
      refine lv_iconst (v := 0) hx hb dX3_hits_13 (by decide) ?_
      obtain ⟨hi21, hF⟩ := gd_some hF
      refine sa_28 E hP hD hS hi21 dX3_hits_14 (fun H locs hP hD hS => ?_)
      refine lv_iinc (v := (x1 + (1 : Int32))) (lv' := [(1, .int (x1 + (1 : Int32))), (0, .ref (h 14))]) hx hb dX3_hits_15 hl (k := 1) rfl rfl (by decide) rfl (fun ls hl => ?_)
      refine lv_goto (tgt := 2) hx hb dX3_hits_18 (by decide) ?_
      exact ih _ _ _ _ _ hP hD hS (lv_sub hl [1, 0] rfl) hF
def FX3_hits (n : Nat) (st : St) : Option (Int32 × St) := LX3_hits_2 n (0 : Int32) st
set_option maxHeartbeats 4000000 in
set_option maxRecDepth 100000 in
theorem kX3_hits (l : Launch) (D : va_G) (h : Nat → Nat) (cI cJ cZ : ClassId) (n : Nat) (st : St) (r : Int32) (u : St) (hF : FX3_hits n  st = some (r, u)) : Cv l yX3_hits cX3_hits 4 1 22 D (tyL cI cJ cZ) (wM h cI cJ cZ) st [.ref (h 14)] u := by
  refine body_v (by decide +kernel) (Nat.le_of_ble_eq_true rfl) ?_
  intro p e s m below meth c A ls E hr hlocks hA hP hD hS hl
  have E : Env1 p s m _ c cX3_hits 4 RX3 D (tyL cI cJ cZ) := E
  have hl : lv_has ls 4 [(0, .ref (h 14))] := hl
  have hx := E.1.1
  have hb := E.1.2.1
  have hml := E.1.2.2.1
  unfold FX3_hits at hF
  refine lv_iconst (v := 0) hx hb dX3_hits_0 (by decide) ?_
  refine lv_istore_n (lv' := [(1, .int (0 : Int32)), (0, .ref (h 14))]) hx hb dX3_hits_1 rfl hl (by decide) rfl (fun ls hl => ?_)
  exact lX3_hits_2 E hr hlocks hA n (0 : Int32) st _ _ _ hP hD hS (lv_sub hl [1, 0] rfl) hF
-- LooseHeapModel.stays
def FX3_stays (n : Nat) (x1 : Int32) (st : St) : Option (Int32 × St) := gd x1 4200 (gd x1 4200 (gd ((pt st 27 x1.toNatClampNeg (st.1 18 x1.toNatClampNeg)).1 14 18) 4200 (some ((0 : Int32), (pt (pt (pt st 27 x1.toNatClampNeg (st.1 18 x1.toNatClampNeg)) 26 ((pt st 27 x1.toNatClampNeg (st.1 18 x1.toNatClampNeg)).1 14 18).toNatClampNeg x1) 14 18 (((pt (pt st 27 x1.toNatClampNeg (st.1 18 x1.toNatClampNeg)) 26 ((pt st 27 x1.toNatClampNeg (st.1 18 x1.toNatClampNeg)).1 14 18).toNatClampNeg x1).1 14 18) + (1 : Int32)))))))
set_option maxHeartbeats 4000000 in
set_option maxRecDepth 100000 in
theorem kX3_stays (l : Launch) (D : va_G) (h : Nat → Nat) (cI cJ cZ : ClassId) (n : Nat) (x1 : Int32) (st : St) (r : Int32) (u : St) (hF : FX3_stays n x1 st = some (r, u)) : Cv l yX3_stays cX3_stays 2 0 0 D (tyL cI cJ cZ) (wM h cI cJ cZ) st [.ref (h 14), .int x1] u := by
  refine body_v (by decide +kernel) (Nat.le_of_ble_eq_true rfl) ?_
  intro p e s m below meth c A ls E hr hlocks hA hP hD hS hl
  have E : Env1 p s m _ c cX3_stays 2 RX3 D (tyL cI cJ cZ) := E
  have hl : lv_has ls 2 [(0, .ref (h 14)), (1, .int x1)] := hl
  have hx := E.1.1
  have hb := E.1.2.1
  have hml := E.1.2.2.1
  unfold FX3_stays at hF
  refine lv_aload_n hx hb dX3_stays_0 rfl (lv_at hl 0 rfl) ?_
  refine g_14_19 E hP dX3_stays_1 ?_
  refine lv_iload_n hx hb dX3_stays_4 rfl (lv_at hl 1 rfl) ?_
  refine lv_aload_n hx hb dX3_stays_5 rfl (lv_at hl 0 rfl) ?_
  refine g_14_8 E hP dX3_stays_6 ?_
  refine lv_iload_n hx hb dX3_stays_9 rfl (lv_at hl 1 rfl) ?_
  obtain ⟨hi1, hF⟩ := gd_some hF
  refine la_18 E hP hi1 dX3_stays_10 ?_
  obtain ⟨hi2, hF⟩ := gd_some hF
  refine sa_27 E hP hD hS hi2 dX3_stays_11 (fun H locs hP hD hS => ?_)
  refine lv_aload_n hx hb dX3_stays_12 rfl (lv_at hl 0 rfl) ?_
  refine g_14_17 E hP dX3_stays_13 ?_
  refine lv_aload_n hx hb dX3_stays_16 rfl (lv_at hl 0 rfl) ?_
  refine g_14_18 E hP dX3_stays_17 ?_
  refine lv_iload_n hx hb dX3_stays_20 rfl (lv_at hl 1 rfl) ?_
  obtain ⟨hi3, hF⟩ := gd_some hF
  refine sa_26 E hP hD hS hi3 dX3_stays_21 (fun H locs hP hD hS => ?_)
  refine lv_aload_n hx hb dX3_stays_22 rfl (lv_at hl 0 rfl) ?_
  refine lv_dup hx hb dX3_stays_23 rfl ?_
  refine g_14_18 E hP dX3_stays_24 ?_
  refine lv_iconst (v := 1) hx hb dX3_stays_27 (by decide) ?_
  refine lv_iadd hx hb dX3_stays_28 ?_
  refine s_14_18 E hP hD hS dX3_stays_29 (fun H locs hP hD hS => ?_)
  exact endV E hr hlocks hP hD hS dX3_stays_32 hF
theorem cw_X3_113 : cwd RX3 113 RX3 yX3_isLong cX3_isLong 2 (some .boolean) 1 := ⟨tb_V (tb_in 828 (by decide +kernel) (by decide +kernel)) (tb_in 830 (by decide +kernel) (by decide +kernel)) (tb_in 37 (by decide +kernel) (by decide +kernel)) (tb_in 50 (by decide +kernel) (by decide +kernel)) (tb_in 831 (by decide +kernel) (by decide +kernel)), by decide +kernel⟩
theorem cw_X3_116 : cwd RX3 116 RX3 yX3_stays cX3_stays 2 none 1 := ⟨tb_V (tb_in 820 (by decide +kernel) (by decide +kernel)) (tb_in 822 (by decide +kernel) (by decide +kernel)) (tb_in 35 (by decide +kernel) (by decide +kernel)) (tb_in 50 (by decide +kernel) (by decide +kernel)) (tb_in 823 (by decide +kernel) (by decide +kernel)), by decide +kernel⟩
-- LooseHeapModel.comes
def JX3_comes_128 (n : Nat) (x1 : Int32) (st : St) : Option (Int32 × St) := gd x1 4200 (bd (FX3_sizeOf n x1 (pt st 27 x1.toNatClampNeg (((st.1 14 2) * (st.1 14 22)) + (st.1 14 23)))) (fun r7 u8 => gd ((pt u8 14 23 (((pt st 27 x1.toNatClampNeg (((st.1 14 2) * (st.1 14 22)) + (st.1 14 23))).1 14 23) + r7)).1 14 22) 64 (gd ((pt (pt u8 14 23 (((pt st 27 x1.toNatClampNeg (((st.1 14 2) * (st.1 14 22)) + (st.1 14 23))).1 14 23) + r7)) 29 ((pt u8 14 23 (((pt st 27 x1.toNatClampNeg (((st.1 14 2) * (st.1 14 22)) + (st.1 14 23))).1 14 23) + r7)).1 14 22).toNatClampNeg ((1 : Int32) + ((pt u8 14 23 (((pt st 27 x1.toNatClampNeg (((st.1 14 2) * (st.1 14 22)) + (st.1 14 23))).1 14 23) + r7)).1 14 23))).1 14 18) 4200 (some ((1 : Int32), (pt (pt (pt (pt (pt u8 14 23 (((pt st 27 x1.toNatClampNeg (((st.1 14 2) * (st.1 14 22)) + (st.1 14 23))).1 14 23) + r7)) 29 ((pt u8 14 23 (((pt st 27 x1.toNatClampNeg (((st.1 14 2) * (st.1 14 22)) + (st.1 14 23))).1 14 23) + r7)).1 14 22).toNatClampNeg ((1 : Int32) + ((pt u8 14 23 (((pt st 27 x1.toNatClampNeg (((st.1 14 2) * (st.1 14 22)) + (st.1 14 23))).1 14 23) + r7)).1 14 23))) 26 ((pt (pt u8 14 23 (((pt st 27 x1.toNatClampNeg (((st.1 14 2) * (st.1 14 22)) + (st.1 14 23))).1 14 23) + r7)) 29 ((pt u8 14 23 (((pt st 27 x1.toNatClampNeg (((st.1 14 2) * (st.1 14 22)) + (st.1 14 23))).1 14 23) + r7)).1 14 22).toNatClampNeg ((1 : Int32) + ((pt u8 14 23 (((pt st 27 x1.toNatClampNeg (((st.1 14 2) * (st.1 14 22)) + (st.1 14 23))).1 14 23) + r7)).1 14 23))).1 14 18).toNatClampNeg x1) 14 18 (((pt (pt (pt u8 14 23 (((pt st 27 x1.toNatClampNeg (((st.1 14 2) * (st.1 14 22)) + (st.1 14 23))).1 14 23) + r7)) 29 ((pt u8 14 23 (((pt st 27 x1.toNatClampNeg (((st.1 14 2) * (st.1 14 22)) + (st.1 14 23))).1 14 23) + r7)).1 14 22).toNatClampNeg ((1 : Int32) + ((pt u8 14 23 (((pt st 27 x1.toNatClampNeg (((st.1 14 2) * (st.1 14 22)) + (st.1 14 23))).1 14 23) + r7)).1 14 23))) 26 ((pt (pt u8 14 23 (((pt st 27 x1.toNatClampNeg (((st.1 14 2) * (st.1 14 22)) + (st.1 14 23))).1 14 23) + r7)) 29 ((pt u8 14 23 (((pt st 27 x1.toNatClampNeg (((st.1 14 2) * (st.1 14 22)) + (st.1 14 23))).1 14 23) + r7)).1 14 22).toNatClampNeg ((1 : Int32) + ((pt u8 14 23 (((pt st 27 x1.toNatClampNeg (((st.1 14 2) * (st.1 14 22)) + (st.1 14 23))).1 14 23) + r7)).1 14 23))).1 14 18).toNatClampNeg x1).1 14 18) + (1 : Int32))) 14 25 (((pt (pt (pt (pt u8 14 23 (((pt st 27 x1.toNatClampNeg (((st.1 14 2) * (st.1 14 22)) + (st.1 14 23))).1 14 23) + r7)) 29 ((pt u8 14 23 (((pt st 27 x1.toNatClampNeg (((st.1 14 2) * (st.1 14 22)) + (st.1 14 23))).1 14 23) + r7)).1 14 22).toNatClampNeg ((1 : Int32) + ((pt u8 14 23 (((pt st 27 x1.toNatClampNeg (((st.1 14 2) * (st.1 14 22)) + (st.1 14 23))).1 14 23) + r7)).1 14 23))) 26 ((pt (pt u8 14 23 (((pt st 27 x1.toNatClampNeg (((st.1 14 2) * (st.1 14 22)) + (st.1 14 23))).1 14 23) + r7)) 29 ((pt u8 14 23 (((pt st 27 x1.toNatClampNeg (((st.1 14 2) * (st.1 14 22)) + (st.1 14 23))).1 14 23) + r7)).1 14 22).toNatClampNeg ((1 : Int32) + ((pt u8 14 23 (((pt st 27 x1.toNatClampNeg (((st.1 14 2) * (st.1 14 22)) + (st.1 14 23))).1 14 23) + r7)).1 14 23))).1 14 18).toNatClampNeg x1) 14 18 (((pt (pt (pt u8 14 23 (((pt st 27 x1.toNatClampNeg (((st.1 14 2) * (st.1 14 22)) + (st.1 14 23))).1 14 23) + r7)) 29 ((pt u8 14 23 (((pt st 27 x1.toNatClampNeg (((st.1 14 2) * (st.1 14 22)) + (st.1 14 23))).1 14 23) + r7)).1 14 22).toNatClampNeg ((1 : Int32) + ((pt u8 14 23 (((pt st 27 x1.toNatClampNeg (((st.1 14 2) * (st.1 14 22)) + (st.1 14 23))).1 14 23) + r7)).1 14 23))) 26 ((pt (pt u8 14 23 (((pt st 27 x1.toNatClampNeg (((st.1 14 2) * (st.1 14 22)) + (st.1 14 23))).1 14 23) + r7)) 29 ((pt u8 14 23 (((pt st 27 x1.toNatClampNeg (((st.1 14 2) * (st.1 14 22)) + (st.1 14 23))).1 14 23) + r7)).1 14 22).toNatClampNeg ((1 : Int32) + ((pt u8 14 23 (((pt st 27 x1.toNatClampNeg (((st.1 14 2) * (st.1 14 22)) + (st.1 14 23))).1 14 23) + r7)).1 14 23))).1 14 18).toNatClampNeg x1).1 14 18) + (1 : Int32))).1 14 25) + (1 : Int32))))))))
set_option maxHeartbeats 4000000 in
set_option maxRecDepth 100000 in
theorem jX3_comes_128 {l : Launch} {D : va_G} {h : Nat → Nat} {cI cJ cZ : ClassId} {p : Program} {e : Env} {s : State} {m : MethodId} {args : Array Value} {below : List Frame} {meth : Method} {c : Code} {A : Nat → Prop} {r : Int32} {u : St} (E : Env1 p s m args c cX3_comes 3 RX3 D (tyL cI cJ cZ)) (hr : meth.sig.returnType = some .boolean) (hlocks : meth.locks = false) (hA : ∀ q : Nat, s.heap.size ≤ q → A q) (n : Nat) (x1 : Int32) (st : St) (H : Heap) (locs : List Loc) (ls : Array Slot) (hP : va_P D vwCl (wM h cI cJ cZ st) H) (hD : va_D A (wM h cI cJ cZ st)) (hS : va_S A s.heap H locs) (hl : lv_has ls 3 [(0, .ref (h 14)), (1, .int x1)]) (hF : JX3_comes_128 n x1 st = some (r, u)) : W p l e (rm 2 42) s m args below meth c H locs 0 0 (MQ below (CQ D (tyL cI cJ cZ) (wM h cI cJ cZ) A r u) args s 0 0 A) (F0 m 128 ls []) := by
  have hx := E.1.1
  have hb := E.1.2.1
  have hml := E.1.2.2.1
  unfold JX3_comes_128 at hF
  refine lv_aload_n hx hb dX3_comes_128 rfl (lv_at hl 0 rfl) ?_
  refine g_14_19 E hP dX3_comes_129 ?_
  refine lv_iload_n hx hb dX3_comes_132 rfl (lv_at hl 1 rfl) ?_
  refine lv_aload_n hx hb dX3_comes_133 rfl (lv_at hl 0 rfl) ?_
  refine g_14_2 E hP dX3_comes_134 ?_
  refine lv_aload_n hx hb dX3_comes_137 rfl (lv_at hl 0 rfl) ?_
  refine g_14_22 E hP dX3_comes_138 ?_
  refine lv_imul hx hb dX3_comes_141 ?_
  refine lv_aload_n hx hb dX3_comes_142 rfl (lv_at hl 0 rfl) ?_
  refine g_14_23 E hP dX3_comes_143 ?_
  refine lv_iadd hx hb dX3_comes_146 ?_
  obtain ⟨hi6, hF⟩ := gd_some hF
  refine sa_27 E hP hD hS hi6 dX3_comes_147 (fun H locs hP hD hS => ?_)
  refine lv_aload_n hx hb dX3_comes_148 rfl (lv_at hl 0 rfl) ?_
  refine lv_dup hx hb dX3_comes_149 rfl ?_
  refine g_14_23 E hP dX3_comes_150 ?_
  refine lv_aload_n hx hb dX3_comes_153 rfl (lv_at hl 0 rfl) ?_
  refine lv_iload_n hx hb dX3_comes_154 rfl (lv_at hl 1 rfl) ?_
  obtain ⟨r7, u8, hc9, hF⟩ := bd_some hF
  refine call_i (rest := [.int ((pt st 27 x1.toNatClampNeg (((st.1 14 2) * (st.1 14 22)) + (st.1 14 23))).1 14 23), .ref (h 14)]) E hA hP hD hS hl.1 (kX3_sizeOf l D h cI cJ cZ n x1 (pt st 27 x1.toNatClampNeg (((st.1 14 2) * (st.1 14 22)) + (st.1 14 23))) r7 u8 hc9) cw_X3_82 0 rfl rfl rfl rfl rfl (Nat.le_of_ble_eq_true rfl) ⟨Nat.le_of_ble_eq_true rfl, Nat.le_of_ble_eq_true rfl⟩ ⟨Nat.zero_le _, Nat.zero_le _⟩ dX3_comes_155 (fun H locs hP hD hS => ?_)
  refine lv_iadd hx hb dX3_comes_158 ?_
  refine s_14_23 E hP hD hS dX3_comes_159 (fun H locs hP hD hS => ?_)
  refine lv_aload_n hx hb dX3_comes_162 rfl (lv_at hl 0 rfl) ?_
  refine g_14_21 E hP dX3_comes_163 ?_
  refine lv_aload_n hx hb dX3_comes_166 rfl (lv_at hl 0 rfl) ?_
  refine g_14_22 E hP dX3_comes_167 ?_
  refine lv_iconst (v := 1) hx hb dX3_comes_170 (by decide) ?_
  refine lv_aload_n hx hb dX3_comes_171 rfl (lv_at hl 0 rfl) ?_
  refine g_14_23 E hP dX3_comes_172 ?_
  refine lv_iadd hx hb dX3_comes_175 ?_
  obtain ⟨hi10, hF⟩ := gd_some hF
  refine sa_29 E hP hD hS hi10 dX3_comes_176 (fun H locs hP hD hS => ?_)
  refine lv_aload_n hx hb dX3_comes_177 rfl (lv_at hl 0 rfl) ?_
  refine g_14_17 E hP dX3_comes_178 ?_
  refine lv_aload_n hx hb dX3_comes_181 rfl (lv_at hl 0 rfl) ?_
  refine g_14_18 E hP dX3_comes_182 ?_
  refine lv_iload_n hx hb dX3_comes_185 rfl (lv_at hl 1 rfl) ?_
  obtain ⟨hi11, hF⟩ := gd_some hF
  refine sa_26 E hP hD hS hi11 dX3_comes_186 (fun H locs hP hD hS => ?_)
  refine lv_aload_n hx hb dX3_comes_187 rfl (lv_at hl 0 rfl) ?_
  refine lv_dup hx hb dX3_comes_188 rfl ?_
  refine g_14_18 E hP dX3_comes_189 ?_
  refine lv_iconst (v := 1) hx hb dX3_comes_192 (by decide) ?_
  refine lv_iadd hx hb dX3_comes_193 ?_
  refine s_14_18 E hP hD hS dX3_comes_194 (fun H locs hP hD hS => ?_)
  refine lv_aload_n hx hb dX3_comes_197 rfl (lv_at hl 0 rfl) ?_
  refine lv_dup hx hb dX3_comes_198 rfl ?_
  refine g_14_25 E hP dX3_comes_199 ?_
  refine lv_iconst (v := 1) hx hb dX3_comes_202 (by decide) ?_
  refine lv_iadd hx hb dX3_comes_203 ?_
  refine s_14_25 E hP hD hS dX3_comes_204 (fun H locs hP hD hS => ?_)
  refine lv_iconst (v := 1) hx hb dX3_comes_207 (by decide) ?_
  exact endZ0 E hr hlocks hP hD hS dX3_comes_208 rfl hF
def JX3_comes_91 (n : Nat) (x1 x2 : Int32) (st : St) : Option (Int32 × St) := (if x2 = (st.1 14 1) then some ((0 : Int32), st) else gd x2 64 (JX3_comes_128 n x1 (pt (pt (pt (pt st 14 22 x2) 14 23 (0 : Int32)) 29 x2.toNatClampNeg (1 : Int32)) 14 24 (((pt (pt (pt st 14 22 x2) 14 23 (0 : Int32)) 29 x2.toNatClampNeg (1 : Int32)).1 14 24) + (1 : Int32)))))
set_option maxHeartbeats 4000000 in
set_option maxRecDepth 100000 in
theorem jX3_comes_91 {l : Launch} {D : va_G} {h : Nat → Nat} {cI cJ cZ : ClassId} {p : Program} {e : Env} {s : State} {m : MethodId} {args : Array Value} {below : List Frame} {meth : Method} {c : Code} {A : Nat → Prop} {r : Int32} {u : St} (E : Env1 p s m args c cX3_comes 3 RX3 D (tyL cI cJ cZ)) (hr : meth.sig.returnType = some .boolean) (hlocks : meth.locks = false) (hA : ∀ q : Nat, s.heap.size ≤ q → A q) (n : Nat) (x1 x2 : Int32) (st : St) (H : Heap) (locs : List Loc) (ls : Array Slot) (hP : va_P D vwCl (wM h cI cJ cZ st) H) (hD : va_D A (wM h cI cJ cZ st)) (hS : va_S A s.heap H locs) (hl : lv_has ls 3 [(0, .ref (h 14)), (1, .int x1), (2, .int x2)]) (hF : JX3_comes_91 n x1 x2 st = some (r, u)) : W p l e (rm 2 42) s m args below meth c H locs 0 0 (MQ below (CQ D (tyL cI cJ cZ) (wM h cI cJ cZ) A r u) args s 0 0 A) (F0 m 91 ls []) := by
  have hx := E.1.1
  have hb := E.1.2.1
  have hml := E.1.2.2.1
  unfold JX3_comes_91 at hF
  refine lv_iload_n hx hb dX3_comes_91 rfl (lv_at hl 2 rfl) ?_
  refine lv_aload_n hx hb dX3_comes_92 rfl (lv_at hl 0 rfl) ?_
  refine g_14_1 E hP dX3_comes_93 ?_
  refine lv_icmp_ne (tgt := 101) hx hb dX3_comes_96 (by decide) (fun hc => ?_) (fun hc => ?_)
  · have hF := if_f hc hF
    refine lv_aload_n hx hb dX3_comes_101 rfl (lv_at hl 0 rfl) ?_
    refine lv_iload_n hx hb dX3_comes_102 rfl (lv_at hl 2 rfl) ?_
    refine s_14_22 E hP hD hS dX3_comes_103 (fun H locs hP hD hS => ?_)
    refine lv_aload_n hx hb dX3_comes_106 rfl (lv_at hl 0 rfl) ?_
    refine lv_iconst (v := 0) hx hb dX3_comes_107 (by decide) ?_
    refine s_14_23 E hP hD hS dX3_comes_108 (fun H locs hP hD hS => ?_)
    refine lv_aload_n hx hb dX3_comes_111 rfl (lv_at hl 0 rfl) ?_
    refine g_14_21 E hP dX3_comes_112 ?_
    refine lv_iload_n hx hb dX3_comes_115 rfl (lv_at hl 2 rfl) ?_
    refine lv_iconst (v := 1) hx hb dX3_comes_116 (by decide) ?_
    obtain ⟨hi5, hF⟩ := gd_some hF
    refine sa_29 E hP hD hS hi5 dX3_comes_117 (fun H locs hP hD hS => ?_)
    refine lv_aload_n hx hb dX3_comes_118 rfl (lv_at hl 0 rfl) ?_
    refine lv_dup hx hb dX3_comes_119 rfl ?_
    refine g_14_24 E hP dX3_comes_120 ?_
    refine lv_iconst (v := 1) hx hb dX3_comes_123 (by decide) ?_
    refine lv_iadd hx hb dX3_comes_124 ?_
    refine s_14_24 E hP hD hS dX3_comes_125 (fun H locs hP hD hS => ?_)
    exact jX3_comes_128 E hr hlocks hA n x1 (pt (pt (pt (pt st 14 22 x2) 14 23 (0 : Int32)) 29 x2.toNatClampNeg (1 : Int32)) 14 24 (((pt (pt (pt st 14 22 x2) 14 23 (0 : Int32)) 29 x2.toNatClampNeg (1 : Int32)).1 14 24) + (1 : Int32))) _ _ _ hP hD hS (lv_sub hl [0, 1] rfl) hF
  · have hF := if_t hc hF
    refine lv_iconst (v := 0) hx hb dX3_comes_99 (by decide) ?_
    exact endZ0 E hr hlocks hP hD hS dX3_comes_100 rfl hF
def LX3_comes_59 : Nat → Int32 → Int32 → St → Option (Int32 × St)
  | 0 => fun _ _ _ => none
  | n + 1 => fun x1 x2 st => (if (st.1 14 1) ≤ x2 then JX3_comes_91 n x1 x2 st else gd x2 64 ((if (st.1 15 x2.toNatClampNeg) = 0 then gd x2 64 ((if (st.1 29 x2.toNatClampNeg) = 0 then JX3_comes_91 n x1 x2 st else LX3_comes_59 n x1 (x2 + (1 : Int32)) st)) else LX3_comes_59 n x1 (x2 + (1 : Int32)) st)))
set_option maxHeartbeats 4000000 in
set_option maxRecDepth 100000 in
theorem lX3_comes_59 {l : Launch} {D : va_G} {h : Nat → Nat} {cI cJ cZ : ClassId} {p : Program} {e : Env} {s : State} {m : MethodId} {args : Array Value} {below : List Frame} {meth : Method} {c : Code} {A : Nat → Prop} {r : Int32} {u : St} (E : Env1 p s m args c cX3_comes 3 RX3 D (tyL cI cJ cZ)) (hr : meth.sig.returnType = some .boolean) (hlocks : meth.locks = false) (hA : ∀ q : Nat, s.heap.size ≤ q → A q) : ∀ (n : Nat) (x1 x2 : Int32) (st : St) (H : Heap) (locs : List Loc) (ls : Array Slot), va_P D vwCl (wM h cI cJ cZ st) H → va_D A (wM h cI cJ cZ st) → va_S A s.heap H locs → lv_has ls 3 [(0, .ref (h 14)), (1, .int x1), (2, .int x2)] → LX3_comes_59 n x1 x2 st = some (r, u) → W p l e (rm 2 42) s m args below meth c H locs 0 0 (MQ below (CQ D (tyL cI cJ cZ) (wM h cI cJ cZ) A r u) args s 0 0 A) (F0 m 59 ls []) := by
  have hx := E.1.1
  have hb := E.1.2.1
  have hml := E.1.2.2.1
  intro n
  induction n with
  | zero => intro x1 x2 st H locs ls hP hD hS hl hF; simp only [LX3_comes_59] at hF; cases hF
  | succ n ih =>
    intro x1 x2 st H locs ls hP hD hS hl hF
    simp only [LX3_comes_59] at hF
    refine lv_iload_n hx hb dX3_comes_59 rfl (lv_at hl 2 rfl) ?_
    refine lv_aload_n hx hb dX3_comes_60 rfl (lv_at hl 0 rfl) ?_
    refine g_14_1 E hP dX3_comes_61 ?_
    refine lv_icmp_ge (tgt := 91) hx hb dX3_comes_64 (by decide) (fun hc => ?_) (fun hc => ?_)
    · have hF := if_t hc hF
      exact jX3_comes_91 E hr hlocks hA n x1 x2 st _ _ _ hP hD hS (lv_sub hl [0, 1, 2] rfl) hF
    · have hF := if_f hc hF
      refine lv_aload_n hx hb dX3_comes_67 rfl (lv_at hl 0 rfl) ?_
      refine g_14_3 E hP dX3_comes_68 ?_
      refine lv_iload_n hx hb dX3_comes_71 rfl (lv_at hl 2 rfl) ?_
      obtain ⟨hi12, hF⟩ := gd_some hF
      refine la_15 E hP hi12 dX3_comes_72 ?_
      refine lv_if_ne (tgt := 85) hx hb dX3_comes_73 (by decide) (fun hc => ?_) (fun hc => ?_)
      · have hF := if_f hc hF
        refine lv_iinc (v := (x2 + (1 : Int32))) (lv' := [(2, .int (x2 + (1 : Int32))), (0, .ref (h 14)), (1, .int x1)]) hx hb dX3_comes_85 hl (k := 2) rfl rfl (by decide) rfl (fun ls hl => ?_)
        refine lv_goto (tgt := 59) hx hb dX3_comes_88 (by decide) ?_
        exact ih _ _ _ _ _ _ hP hD hS (lv_sub hl [1, 2, 0] rfl) hF
      · have hF := if_t hc hF
        refine lv_aload_n hx hb dX3_comes_76 rfl (lv_at hl 0 rfl) ?_
        refine g_14_21 E hP dX3_comes_77 ?_
        refine lv_iload_n hx hb dX3_comes_80 rfl (lv_at hl 2 rfl) ?_
        obtain ⟨hi13, hF⟩ := gd_some hF
        refine la_29 E hP hi13 dX3_comes_81 ?_
        refine lv_if_eq (tgt := 91) hx hb dX3_comes_82 (by decide) (fun hc => ?_) (fun hc => ?_)
        · have hF := if_t hc hF
          exact jX3_comes_91 E hr hlocks hA n x1 x2 st _ _ _ hP hD hS (lv_sub hl [0, 1, 2] rfl) hF
        · have hF := if_f hc hF
          refine lv_iinc (v := (x2 + (1 : Int32))) (lv' := [(2, .int (x2 + (1 : Int32))), (0, .ref (h 14)), (1, .int x1)]) hx hb dX3_comes_85 hl (k := 2) rfl rfl (by decide) rfl (fun ls hl => ?_)
          refine lv_goto (tgt := 59) hx hb dX3_comes_88 (by decide) ?_
          exact ih _ _ _ _ _ _ hP hD hS (lv_sub hl [1, 2, 0] rfl) hF
def JX3_comes_57 (n : Nat) (x1 : Int32) (st : St) : Option (Int32 × St) := LX3_comes_59 n x1 (0 : Int32) st
set_option maxHeartbeats 4000000 in
set_option maxRecDepth 100000 in
theorem jX3_comes_57 {l : Launch} {D : va_G} {h : Nat → Nat} {cI cJ cZ : ClassId} {p : Program} {e : Env} {s : State} {m : MethodId} {args : Array Value} {below : List Frame} {meth : Method} {c : Code} {A : Nat → Prop} {r : Int32} {u : St} (E : Env1 p s m args c cX3_comes 3 RX3 D (tyL cI cJ cZ)) (hr : meth.sig.returnType = some .boolean) (hlocks : meth.locks = false) (hA : ∀ q : Nat, s.heap.size ≤ q → A q) (n : Nat) (x1 : Int32) (st : St) (H : Heap) (locs : List Loc) (ls : Array Slot) (hP : va_P D vwCl (wM h cI cJ cZ st) H) (hD : va_D A (wM h cI cJ cZ st)) (hS : va_S A s.heap H locs) (hl : lv_has ls 3 [(0, .ref (h 14)), (1, .int x1)]) (hF : JX3_comes_57 n x1 st = some (r, u)) : W p l e (rm 2 42) s m args below meth c H locs 0 0 (MQ below (CQ D (tyL cI cJ cZ) (wM h cI cJ cZ) A r u) args s 0 0 A) (F0 m 57 ls []) := by
  have hx := E.1.1
  have hb := E.1.2.1
  have hml := E.1.2.2.1
  unfold JX3_comes_57 at hF
  refine lv_iconst (v := 0) hx hb dX3_comes_57 (by decide) ?_
  refine lv_istore_n (lv' := [(2, .int (0 : Int32)), (0, .ref (h 14)), (1, .int x1)]) hx hb dX3_comes_58 rfl hl (by decide) rfl (fun ls hl => ?_)
  exact lX3_comes_59 E hr hlocks hA n x1 (0 : Int32) st _ _ _ hP hD hS (lv_sub hl [1, 2, 0] rfl) hF
def FX3_comes (n : Nat) (x1 : Int32) (st : St) : Option (Int32 × St) := (if x1 = (-1 : Int32) then some ((1 : Int32), st) else gd x1 4200 ((if (st.1 27 x1.toNatClampNeg) = (-1 : Int32) then bd (FX3_isLong n x1 st) (fun r2 u3 => (if r2 = 0 then (if (u3.1 14 22) = (-1 : Int32) then JX3_comes_57 n x1 u3 else bd (FX3_sizeOf n x1 u3) (fun r14 u15 => (if r14 ≤ ((u3.1 14 2) - (u3.1 14 23)) then JX3_comes_128 n x1 u15 else JX3_comes_57 n x1 u15))) else bd (FX3_stays n x1 u3) (fun r17 u18 => some ((1 : Int32), u18)))) else some ((1 : Int32), st))))
set_option maxHeartbeats 4000000 in
set_option maxRecDepth 100000 in
theorem kX3_comes (l : Launch) (D : va_G) (h : Nat → Nat) (cI cJ cZ : ClassId) (n : Nat) (x1 : Int32) (st : St) (r : Int32) (u : St) (hF : FX3_comes n x1 st = some (r, u)) : Ci l yX3_comes cX3_comes 3 (some .boolean) 2 42 D (tyL cI cJ cZ) (wM h cI cJ cZ) st [.ref (h 14), .int x1] r u := by
  refine body_i (by decide +kernel) (Nat.le_of_ble_eq_true rfl) ?_
  intro p e s m below meth c A ls E hr hlocks hA hP hD hS hl
  have E : Env1 p s m _ c cX3_comes 3 RX3 D (tyL cI cJ cZ) := E
  have hl : lv_has ls 3 [(0, .ref (h 14)), (1, .int x1)] := hl
  have hx := E.1.1
  have hb := E.1.2.1
  have hml := E.1.2.2.1
  unfold FX3_comes at hF
  refine lv_iload_n hx hb dX3_comes_0 rfl (lv_at hl 1 rfl) ?_
  refine lv_iconst (v := (-1)) hx hb dX3_comes_1 (by decide) ?_
  refine lv_icmp_eq (tgt := 15) hx hb dX3_comes_2 (by decide) (fun hc => ?_) (fun hc => ?_)
  · have hF := if_t hc hF
    refine lv_iconst (v := 1) hx hb dX3_comes_15 (by decide) ?_
    exact endZ0 E hr hlocks hP hD hS dX3_comes_16 rfl hF
  · have hF := if_f hc hF
    refine lv_aload_n hx hb dX3_comes_5 rfl (lv_at hl 0 rfl) ?_
    refine g_14_19 E hP dX3_comes_6 ?_
    refine lv_iload_n hx hb dX3_comes_9 rfl (lv_at hl 1 rfl) ?_
    obtain ⟨hi1, hF⟩ := gd_some hF
    refine la_27 E hP hi1 dX3_comes_10 ?_
    refine lv_iconst (v := (-1)) hx hb dX3_comes_11 (by decide) ?_
    refine lv_icmp_eq (tgt := 17) hx hb dX3_comes_12 (by decide) (fun hc => ?_) (fun hc => ?_)
    · have hF := if_t hc hF
      refine lv_aload_n hx hb dX3_comes_17 rfl (lv_at hl 0 rfl) ?_
      refine lv_iload_n hx hb dX3_comes_18 rfl (lv_at hl 1 rfl) ?_
      obtain ⟨r2, u3, hc4, hF⟩ := bd_some hF
      refine call_i (rest := []) E hA hP hD hS hl.1 (kX3_isLong l D h cI cJ cZ n x1 st r2 u3 hc4) cw_X3_113 0 rfl rfl rfl rfl rfl (Nat.le_of_ble_eq_true rfl) ⟨Nat.le_of_ble_eq_true rfl, Nat.le_of_ble_eq_true rfl⟩ ⟨Nat.zero_le _, Nat.zero_le _⟩ dX3_comes_19 (fun H locs hP hD hS => ?_)
      refine lv_if_eq (tgt := 32) hx hb dX3_comes_22 (by decide) (fun hc => ?_) (fun hc => ?_)
      · have hF := if_t hc hF
        refine lv_aload_n hx hb dX3_comes_32 rfl (lv_at hl 0 rfl) ?_
        refine g_14_22 E hP dX3_comes_33 ?_
        refine lv_iconst (v := (-1)) hx hb dX3_comes_36 (by decide) ?_
        refine lv_icmp_eq (tgt := 57) hx hb dX3_comes_37 (by decide) (fun hc => ?_) (fun hc => ?_)
        · have hF := if_t hc hF
          exact jX3_comes_57 E hr hlocks hA n x1 u3 _ _ _ hP hD hS (lv_sub hl [0, 1] rfl) hF
        · have hF := if_f hc hF
          refine lv_aload_n hx hb dX3_comes_40 rfl (lv_at hl 0 rfl) ?_
          refine g_14_2 E hP dX3_comes_41 ?_
          refine lv_aload_n hx hb dX3_comes_44 rfl (lv_at hl 0 rfl) ?_
          refine g_14_23 E hP dX3_comes_45 ?_
          refine lv_isub hx hb dX3_comes_48 ?_
          refine lv_aload_n hx hb dX3_comes_49 rfl (lv_at hl 0 rfl) ?_
          refine lv_iload_n hx hb dX3_comes_50 rfl (lv_at hl 1 rfl) ?_
          obtain ⟨r14, u15, hc16, hF⟩ := bd_some hF
          refine call_i (rest := [.int ((u3.1 14 2) - (u3.1 14 23))]) E hA hP hD hS hl.1 (kX3_sizeOf l D h cI cJ cZ n x1 u3 r14 u15 hc16) cw_X3_82 0 rfl rfl rfl rfl rfl (Nat.le_of_ble_eq_true rfl) ⟨Nat.le_of_ble_eq_true rfl, Nat.le_of_ble_eq_true rfl⟩ ⟨Nat.zero_le _, Nat.zero_le _⟩ dX3_comes_51 (fun H locs hP hD hS => ?_)
          refine lv_icmp_ge (tgt := 128) hx hb dX3_comes_54 (by decide) (fun hc => ?_) (fun hc => ?_)
          · have hF := if_t hc hF
            exact jX3_comes_128 E hr hlocks hA n x1 u15 _ _ _ hP hD hS (lv_sub hl [0, 1] rfl) hF
          · have hF := if_f hc hF
            exact jX3_comes_57 E hr hlocks hA n x1 u15 _ _ _ hP hD hS (lv_sub hl [0, 1] rfl) hF
      · have hF := if_f hc hF
        refine lv_aload_n hx hb dX3_comes_25 rfl (lv_at hl 0 rfl) ?_
        refine lv_iload_n hx hb dX3_comes_26 rfl (lv_at hl 1 rfl) ?_
        obtain ⟨r17, u18, hc19, hF⟩ := bd_some hF
        refine call_v (rest := []) E hA hP hD hS hl.1 (kX3_stays l D h cI cJ cZ n x1 u3 r17 u18 hc19) cw_X3_116 0 rfl rfl rfl rfl rfl (Nat.le_of_ble_eq_true rfl) ⟨Nat.le_of_ble_eq_true rfl, Nat.le_of_ble_eq_true rfl⟩ ⟨Nat.zero_le _, Nat.zero_le _⟩ dX3_comes_27 (fun H locs hP hD hS => ?_)
        refine lv_iconst (v := 1) hx hb dX3_comes_30 (by decide) ?_
        exact endZ0 E hr hlocks hP hD hS dX3_comes_31 rfl hF
    · have hF := if_f hc hF
      refine lv_iconst (v := 1) hx hb dX3_comes_15 (by decide) ?_
      exact endZ0 E hr hlocks hP hD hS dX3_comes_16 rfl hF
-- LooseHeapModel.at
def LX3_at_2 : Nat → Int32 → Int32 → St → Option (Int32 × St)
  | 0 => fun _ _ _ => none
  | n + 1 => fun x1 x2 st => (if (st.1 14 7) ≤ x2 then some ((-1 : Int32), st) else gd x2 4200 ((if (st.1 18 x2.toNatClampNeg) = x1 then some (x2, st) else LX3_at_2 n x1 (x2 + (1 : Int32)) st)))
set_option maxHeartbeats 4000000 in
set_option maxRecDepth 100000 in
theorem lX3_at_2 {l : Launch} {D : va_G} {h : Nat → Nat} {cI cJ cZ : ClassId} {p : Program} {e : Env} {s : State} {m : MethodId} {args : Array Value} {below : List Frame} {meth : Method} {c : Code} {A : Nat → Prop} {r : Int32} {u : St} (E : Env1 p s m args c cX3_at 3 RX3 D (tyL cI cJ cZ)) (hr : meth.sig.returnType = some .int) (hlocks : meth.locks = false) (hA : ∀ q : Nat, s.heap.size ≤ q → A q) : ∀ (n : Nat) (x1 x2 : Int32) (st : St) (H : Heap) (locs : List Loc) (ls : Array Slot), va_P D vwCl (wM h cI cJ cZ st) H → va_D A (wM h cI cJ cZ st) → va_S A s.heap H locs → lv_has ls 3 [(0, .ref (h 14)), (1, .int x1), (2, .int x2)] → LX3_at_2 n x1 x2 st = some (r, u) → W p l e (rm 0 0) s m args below meth c H locs 0 0 (MQ below (CQ D (tyL cI cJ cZ) (wM h cI cJ cZ) A r u) args s 0 0 A) (F0 m 2 ls []) := by
  have hx := E.1.1
  have hb := E.1.2.1
  have hml := E.1.2.2.1
  intro n
  induction n with
  | zero => intro x1 x2 st H locs ls hP hD hS hl hF; simp only [LX3_at_2] at hF; cases hF
  | succ n ih =>
    intro x1 x2 st H locs ls hP hD hS hl hF
    simp only [LX3_at_2] at hF
    refine lv_iload_n hx hb dX3_at_2 rfl (lv_at hl 2 rfl) ?_
    refine lv_aload_n hx hb dX3_at_3 rfl (lv_at hl 0 rfl) ?_
    refine g_14_7 E hP dX3_at_4 ?_
    refine lv_icmp_ge (tgt := 28) hx hb dX3_at_7 (by decide) (fun hc => ?_) (fun hc => ?_)
    · have hF := if_t hc hF
      refine lv_iconst (v := (-1)) hx hb dX3_at_28 (by decide) ?_
      exact endI E hr hlocks hP hD hS dX3_at_29 hF
    · have hF := if_f hc hF
      refine lv_aload_n hx hb dX3_at_10 rfl (lv_at hl 0 rfl) ?_
      refine g_14_8 E hP dX3_at_11 ?_
      refine lv_iload_n hx hb dX3_at_14 rfl (lv_at hl 2 rfl) ?_
      obtain ⟨hi1, hF⟩ := gd_some hF
      refine la_18 E hP hi1 dX3_at_15 ?_
      refine lv_iload_n hx hb dX3_at_16 rfl (lv_at hl 1 rfl) ?_
      refine lv_icmp_ne (tgt := 22) hx hb dX3_at_17 (by decide) (fun hc => ?_) (fun hc => ?_)
      · have hF := if_f hc hF
        refine lv_iinc (v := (x2 + (1 : Int32))) (lv' := [(2, .int (x2 + (1 : Int32))), (0, .ref (h 14)), (1, .int x1)]) hx hb dX3_at_22 hl (k := 2) rfl rfl (by decide) rfl (fun ls hl => ?_)
        refine lv_goto (tgt := 2) hx hb dX3_at_25 (by decide) ?_
        exact ih _ _ _ _ _ _ hP hD hS (lv_sub hl [1, 2, 0] rfl) hF
      · have hF := if_t hc hF
        refine lv_iload_n hx hb dX3_at_20 rfl (lv_at hl 2 rfl) ?_
        exact endI E hr hlocks hP hD hS dX3_at_21 hF
def FX3_at (n : Nat) (x1 : Int32) (st : St) : Option (Int32 × St) := LX3_at_2 n x1 (0 : Int32) st
set_option maxHeartbeats 4000000 in
set_option maxRecDepth 100000 in
theorem kX3_at (l : Launch) (D : va_G) (h : Nat → Nat) (cI cJ cZ : ClassId) (n : Nat) (x1 : Int32) (st : St) (r : Int32) (u : St) (hF : FX3_at n x1 st = some (r, u)) : Ci l yX3_at cX3_at 3 (some .int) 0 0 D (tyL cI cJ cZ) (wM h cI cJ cZ) st [.ref (h 14), .int x1] r u := by
  refine body_i (by decide +kernel) (Nat.le_of_ble_eq_true rfl) ?_
  intro p e s m below meth c A ls E hr hlocks hA hP hD hS hl
  have E : Env1 p s m _ c cX3_at 3 RX3 D (tyL cI cJ cZ) := E
  have hl : lv_has ls 3 [(0, .ref (h 14)), (1, .int x1)] := hl
  have hx := E.1.1
  have hb := E.1.2.1
  have hml := E.1.2.2.1
  unfold FX3_at at hF
  refine lv_iconst (v := 0) hx hb dX3_at_0 (by decide) ?_
  refine lv_istore_n (lv' := [(2, .int (0 : Int32)), (0, .ref (h 14)), (1, .int x1)]) hx hb dX3_at_1 rfl hl (by decide) rfl (fun ls hl => ?_)
  exact lX3_at_2 E hr hlocks hA n x1 (0 : Int32) st _ _ _ hP hD hS (lv_sub hl [1, 2, 0] rfl) hF
theorem cw_X3_132 : cwd RX3 132 RX3 yX3_hits cX3_hits 4 none 0 := ⟨tb_V (tb_in 808 (by decide +kernel) (by decide +kernel)) (tb_in 810 (by decide +kernel) (by decide +kernel)) (tb_in 32 (by decide +kernel) (by decide +kernel)) (tb_in 50 (by decide +kernel) (by decide +kernel)) (tb_in 811 (by decide +kernel) (by decide +kernel)), by decide +kernel⟩
theorem cw_X3_135 : cwd RX3 135 RX3 yX3_at cX3_at 3 (some .int) 1 := ⟨tb_V (tb_in 816 (by decide +kernel) (by decide +kernel)) (tb_in 818 (by decide +kernel) (by decide +kernel)) (tb_in 34 (by decide +kernel) (by decide +kernel)) (tb_in 50 (by decide +kernel) (by decide +kernel)) (tb_in 819 (by decide +kernel) (by decide +kernel)), by decide +kernel⟩
theorem cw_X3_138 : cwd RX3 138 RX3 yX3_comes cX3_comes 3 (some .boolean) 1 := ⟨tb_V (tb_in 824 (by decide +kernel) (by decide +kernel)) (tb_in 826 (by decide +kernel) (by decide +kernel)) (tb_in 36 (by decide +kernel) (by decide +kernel)) (tb_in 50 (by decide +kernel) (by decide +kernel)) (tb_in 827 (by decide +kernel) (by decide +kernel)), by decide +kernel⟩
-- LooseHeapModel.rows
def LX3_rows_165 : Nat → Int32 → Int32 → St → Option (((Int32 × Int32 × St) ⊕ (Int32 × St)))
  | 0 => fun _ _ _ => none
  | n + 1 => fun x1 x2 st => gd x1 4200 (gd (st.1 26 x1.toNatClampNeg) 4200 ((if (st.1 19 (st.1 26 x1.toNatClampNeg).toNatClampNeg) ≤ x2 then some (.inl (x1, x2, st)) else gd x1 4200 (gd (st.1 26 x1.toNatClampNeg) 4200 (gd ((st.1 21 (st.1 26 x1.toNatClampNeg).toNatClampNeg) + x2) 9000 (bd (FX3_comes n (st.1 22 ((st.1 21 (st.1 26 x1.toNatClampNeg).toNatClampNeg) + x2).toNatClampNeg) st) (fun r9 u10 => (if r9 = 0 then some (.inr ((0 : Int32), u10)) else LX3_rows_165 n x1 (x2 + (1 : Int32)) u10))))))))
set_option maxHeartbeats 4000000 in
set_option maxRecDepth 100000 in
theorem lX3_rows_165 {l : Launch} {D : va_G} {h : Nat → Nat} {cI cJ cZ : ClassId} {p : Program} {e : Env} {s : State} {m : MethodId} {args : Array Value} {below : List Frame} {meth : Method} {c : Code} {A : Nat → Prop} {r : Int32} {u : St} (E : Env1 p s m args c cX3_rows 3 RX3 D (tyL cI cJ cZ)) (hr : meth.sig.returnType = some .boolean) (hlocks : meth.locks = false) (hA : ∀ q : Nat, s.heap.size ≤ q → A q) : ∀ (n : Nat) (x1 x2 : Int32) (st : St) (H : Heap) (locs : List Loc) (ls : Array Slot) (q : ((Int32 × Int32 × St) ⊕ (Int32 × St))), va_P D vwCl (wM h cI cJ cZ st) H → va_D A (wM h cI cJ cZ st) → va_S A s.heap H locs → lv_has ls 3 [(0, .ref (h 14)), (1, .int x1), (2, .int x2)] → LX3_rows_165 n x1 x2 st = some q → (∀ (H : Heap) (locs : List Loc) (ls : Array Slot) (y1 y2 : Int32) (u1 : St), q = .inl (y1, y2, u1) → va_P D vwCl (wM h cI cJ cZ u1) H → va_D A (wM h cI cJ cZ u1) → va_S A s.heap H locs → lv_has ls 3 [(0, .ref (h 14)), (1, .int y1), (2, .int y2)] → W p l e (rm 3 64) s m args below meth c H locs 0 0 (MQ below (CQ D (tyL cI cJ cZ) (wM h cI cJ cZ) A r u) args s 0 0 A) (F0 m 213 ls [])) → (∀ (r1 : Int32) (u1 : St), q = .inr (r1, u1) → (r1, u1) = (r, u)) → W p l e (rm 3 64) s m args below meth c H locs 0 0 (MQ below (CQ D (tyL cI cJ cZ) (wM h cI cJ cZ) A r u) args s 0 0 A) (F0 m 165 ls []) := by
  have hx := E.1.1
  have hb := E.1.2.1
  have hml := E.1.2.2.1
  intro n
  induction n with
  | zero => intro x1 x2 st H locs ls q hP hD hS hl hF; simp only [LX3_rows_165] at hF; cases hF
  | succ n ih =>
    intro x1 x2 st H locs ls q hP hD hS hl hF kx kr
    simp only [LX3_rows_165] at hF
    refine lv_iload_n hx hb dX3_rows_165 rfl (lv_at hl 2 rfl) ?_
    refine lv_aload_n hx hb dX3_rows_166 rfl (lv_at hl 0 rfl) ?_
    refine g_14_9 E hP dX3_rows_167 ?_
    refine lv_aload_n hx hb dX3_rows_170 rfl (lv_at hl 0 rfl) ?_
    refine g_14_17 E hP dX3_rows_171 ?_
    refine lv_iload_n hx hb dX3_rows_174 rfl (lv_at hl 1 rfl) ?_
    obtain ⟨hi4, hF⟩ := gd_some hF
    refine la_26 E hP hi4 dX3_rows_175 ?_
    obtain ⟨hi5, hF⟩ := gd_some hF
    refine la_19 E hP hi5 dX3_rows_176 ?_
    refine lv_icmp_ge (tgt := 213) hx hb dX3_rows_177 (by decide) (fun hc => ?_) (fun hc => ?_)
    · have hF := if_t hc hF
      exact kx _ _ _ _ _ _ (Option.some.inj hF).symm hP hD hS (lv_sub hl [0, 1, 2] rfl)
    · have hF := if_f hc hF
      refine lv_aload_n hx hb dX3_rows_180 rfl (lv_at hl 0 rfl) ?_
      refine lv_aload_n hx hb dX3_rows_181 rfl (lv_at hl 0 rfl) ?_
      refine g_14_12 E hP dX3_rows_182 ?_
      refine lv_aload_n hx hb dX3_rows_185 rfl (lv_at hl 0 rfl) ?_
      refine g_14_11 E hP dX3_rows_186 ?_
      refine lv_aload_n hx hb dX3_rows_189 rfl (lv_at hl 0 rfl) ?_
      refine g_14_17 E hP dX3_rows_190 ?_
      refine lv_iload_n hx hb dX3_rows_193 rfl (lv_at hl 1 rfl) ?_
      obtain ⟨hi6, hF⟩ := gd_some hF
      refine la_26 E hP hi6 dX3_rows_194 ?_
      obtain ⟨hi7, hF⟩ := gd_some hF
      refine la_21 E hP hi7 dX3_rows_195 ?_
      refine lv_iload_n hx hb dX3_rows_196 rfl (lv_at hl 2 rfl) ?_
      refine lv_iadd hx hb dX3_rows_197 ?_
      obtain ⟨hi8, hF⟩ := gd_some hF
      refine la_22 E hP hi8 dX3_rows_198 ?_
      obtain ⟨r9, u10, hc11, hF⟩ := bd_some hF
      refine call_i (rest := []) E hA hP hD hS hl.1 (kX3_comes l D h cI cJ cZ n (st.1 22 ((st.1 21 (st.1 26 x1.toNatClampNeg).toNatClampNeg) + x2).toNatClampNeg) st r9 u10 hc11) cw_X3_138 0 rfl rfl rfl rfl rfl (Nat.le_of_ble_eq_true rfl) ⟨Nat.le_of_ble_eq_true rfl, Nat.le_of_ble_eq_true rfl⟩ ⟨Nat.zero_le _, Nat.zero_le _⟩ dX3_rows_199 (fun H locs hP hD hS => ?_)
      refine lv_if_ne (tgt := 207) hx hb dX3_rows_202 (by decide) (fun hc => ?_) (fun hc => ?_)
      · have hF := if_f hc hF
        refine lv_iinc (v := (x2 + (1 : Int32))) (lv' := [(2, .int (x2 + (1 : Int32))), (0, .ref (h 14)), (1, .int x1)]) hx hb dX3_rows_207 hl (k := 2) rfl rfl (by decide) rfl (fun ls hl => ?_)
        refine lv_goto (tgt := 165) hx hb dX3_rows_210 (by decide) ?_
        exact ih _ _ _ _ _ _ _ hP hD hS (lv_sub hl [1, 2, 0] rfl) hF kx kr
      · have hF := if_t hc hF
        refine lv_iconst (v := 0) hx hb dX3_rows_205 (by decide) ?_
        obtain ⟨rfl, rfl⟩ := Prod.mk.inj (kr _ _ (Option.some.inj hF).symm)
        exact end_z E hr hlocks rfl hP hD hS dX3_rows_206
def LX3_rows_155 : Nat → Int32 → St → Option (Int32 × St)
  | 0 => fun _ _ => none
  | n + 1 => fun x1 st => (if (st.1 14 18) ≤ x1 then some ((1 : Int32), st) else be (LX3_rows_165 n x1 (0 : Int32) st) (fun q => match q with | .inl (y14, y15, u16) => LX3_rows_155 n (y14 + (1 : Int32)) u16 | .inr o => some o))
set_option maxHeartbeats 4000000 in
set_option maxRecDepth 100000 in
theorem lX3_rows_155 {l : Launch} {D : va_G} {h : Nat → Nat} {cI cJ cZ : ClassId} {p : Program} {e : Env} {s : State} {m : MethodId} {args : Array Value} {below : List Frame} {meth : Method} {c : Code} {A : Nat → Prop} {r : Int32} {u : St} (E : Env1 p s m args c cX3_rows 3 RX3 D (tyL cI cJ cZ)) (hr : meth.sig.returnType = some .boolean) (hlocks : meth.locks = false) (hA : ∀ q : Nat, s.heap.size ≤ q → A q) : ∀ (n : Nat) (x1 : Int32) (st : St) (H : Heap) (locs : List Loc) (ls : Array Slot), va_P D vwCl (wM h cI cJ cZ st) H → va_D A (wM h cI cJ cZ st) → va_S A s.heap H locs → lv_has ls 3 [(0, .ref (h 14)), (1, .int x1)] → LX3_rows_155 n x1 st = some (r, u) → W p l e (rm 3 64) s m args below meth c H locs 0 0 (MQ below (CQ D (tyL cI cJ cZ) (wM h cI cJ cZ) A r u) args s 0 0 A) (F0 m 155 ls []) := by
  have hx := E.1.1
  have hb := E.1.2.1
  have hml := E.1.2.2.1
  intro n
  induction n with
  | zero => intro x1 st H locs ls hP hD hS hl hF; simp only [LX3_rows_155] at hF; cases hF
  | succ n ih =>
    intro x1 st H locs ls hP hD hS hl hF
    simp only [LX3_rows_155] at hF
    refine lv_iload_n hx hb dX3_rows_155 rfl (lv_at hl 1 rfl) ?_
    refine lv_aload_n hx hb dX3_rows_156 rfl (lv_at hl 0 rfl) ?_
    refine g_14_18 E hP dX3_rows_157 ?_
    refine lv_icmp_ge (tgt := 219) hx hb dX3_rows_160 (by decide) (fun hc => ?_) (fun hc => ?_)
    · have hF := if_t hc hF
      refine lv_iconst (v := 1) hx hb dX3_rows_219 (by decide) ?_
      exact endZ0 E hr hlocks hP hD hS dX3_rows_220 rfl hF
    · have hF := if_f hc hF
      refine lv_iconst (v := 0) hx hb dX3_rows_163 (by decide) ?_
      refine lv_istore_n (lv' := [(2, .int (0 : Int32)), (0, .ref (h 14)), (1, .int x1)]) hx hb dX3_rows_164 rfl hl (by decide) rfl (fun ls hl => ?_)
      obtain ⟨q12, hq13, hF⟩ := be_some hF
      refine lX3_rows_165 E hr hlocks hA n x1 (0 : Int32) st _ _ _ _ hP hD hS (lv_sub hl [1, 2, 0] rfl) hq13 (fun H locs ls y14 y15 u16 he hP hD hS hl => ?_) (fun r1 u1 he => ?_)
      · subst he
        refine lv_iinc (v := (y14 + (1 : Int32))) (lv' := [(1, .int (y14 + (1 : Int32))), (0, .ref (h 14)), (2, .int y15)]) hx hb dX3_rows_213 hl (k := 1) rfl rfl (by decide) rfl (fun ls hl => ?_)
        refine lv_goto (tgt := 155) hx hb dX3_rows_216 (by decide) ?_
        exact ih _ _ _ _ _ hP hD hS (lv_sub hl [1, 0] rfl) hF
      · subst he; exact Option.some.inj hF
def LX3_rows_126 : Nat → Int32 → St → Option (Int32 × St)
  | 0 => fun _ _ => none
  | n + 1 => fun x1 st => (if (32 : Int32) ≤ x1 then LX3_rows_155 n (0 : Int32) st else gd x1 32 (bd (FX3_comes n (st.1 23 x1.toNatClampNeg) st) (fun r18 u19 => (if r18 = 0 then some ((0 : Int32), u19) else LX3_rows_126 n (x1 + (1 : Int32)) u19))))
set_option maxHeartbeats 4000000 in
set_option maxRecDepth 100000 in
theorem lX3_rows_126 {l : Launch} {D : va_G} {h : Nat → Nat} {cI cJ cZ : ClassId} {p : Program} {e : Env} {s : State} {m : MethodId} {args : Array Value} {below : List Frame} {meth : Method} {c : Code} {A : Nat → Prop} {r : Int32} {u : St} (E : Env1 p s m args c cX3_rows 3 RX3 D (tyL cI cJ cZ)) (hr : meth.sig.returnType = some .boolean) (hlocks : meth.locks = false) (hA : ∀ q : Nat, s.heap.size ≤ q → A q) : ∀ (n : Nat) (x1 : Int32) (st : St) (H : Heap) (locs : List Loc) (ls : Array Slot), va_P D vwCl (wM h cI cJ cZ st) H → va_D A (wM h cI cJ cZ st) → va_S A s.heap H locs → lv_has ls 3 [(0, .ref (h 14)), (1, .int x1)] → LX3_rows_126 n x1 st = some (r, u) → W p l e (rm 3 64) s m args below meth c H locs 0 0 (MQ below (CQ D (tyL cI cJ cZ) (wM h cI cJ cZ) A r u) args s 0 0 A) (F0 m 126 ls []) := by
  have hx := E.1.1
  have hb := E.1.2.1
  have hml := E.1.2.2.1
  intro n
  induction n with
  | zero => intro x1 st H locs ls hP hD hS hl hF; simp only [LX3_rows_126] at hF; cases hF
  | succ n ih =>
    intro x1 st H locs ls hP hD hS hl hF
    simp only [LX3_rows_126] at hF
    refine lv_iload_n hx hb dX3_rows_126 rfl (lv_at hl 1 rfl) ?_
    refine lv_bipush (v := 32) hx hb dX3_rows_127 (by decide) ?_
    refine lv_icmp_ge (tgt := 153) hx hb dX3_rows_129 (by decide) (fun hc => ?_) (fun hc => ?_)
    · have hF := if_t hc hF
      refine lv_iconst (v := 0) hx hb dX3_rows_153 (by decide) ?_
      refine lv_istore_n (lv' := [(1, .int (0 : Int32)), (0, .ref (h 14))]) hx hb dX3_rows_154 rfl hl (by decide) rfl (fun ls hl => ?_)
      exact lX3_rows_155 E hr hlocks hA n (0 : Int32) st _ _ _ hP hD hS (lv_sub hl [1, 0] rfl) hF
    · have hF := if_f hc hF
      refine lv_aload_n hx hb dX3_rows_132 rfl (lv_at hl 0 rfl) ?_
      refine lv_aload_n hx hb dX3_rows_133 rfl (lv_at hl 0 rfl) ?_
      refine g_14_14 E hP dX3_rows_134 ?_
      refine lv_iload_n hx hb dX3_rows_137 rfl (lv_at hl 1 rfl) ?_
      obtain ⟨hi17, hF⟩ := gd_some hF
      refine la_23 E hP hi17 dX3_rows_138 ?_
      obtain ⟨r18, u19, hc20, hF⟩ := bd_some hF
      refine call_i (rest := []) E hA hP hD hS hl.1 (kX3_comes l D h cI cJ cZ n (st.1 23 x1.toNatClampNeg) st r18 u19 hc20) cw_X3_138 0 rfl rfl rfl rfl rfl (Nat.le_of_ble_eq_true rfl) ⟨Nat.le_of_ble_eq_true rfl, Nat.le_of_ble_eq_true rfl⟩ ⟨Nat.zero_le _, Nat.zero_le _⟩ dX3_rows_139 (fun H locs hP hD hS => ?_)
      refine lv_if_ne (tgt := 147) hx hb dX3_rows_142 (by decide) (fun hc => ?_) (fun hc => ?_)
      · have hF := if_f hc hF
        refine lv_iinc (v := (x1 + (1 : Int32))) (lv' := [(1, .int (x1 + (1 : Int32))), (0, .ref (h 14))]) hx hb dX3_rows_147 hl (k := 1) rfl rfl (by decide) rfl (fun ls hl => ?_)
        refine lv_goto (tgt := 126) hx hb dX3_rows_150 (by decide) ?_
        exact ih _ _ _ _ _ hP hD hS (lv_sub hl [1, 0] rfl) hF
      · have hF := if_t hc hF
        refine lv_iconst (v := 0) hx hb dX3_rows_145 (by decide) ?_
        exact endZ0 E hr hlocks hP hD hS dX3_rows_146 rfl hF
def LX3_rows_75 : Nat → Int32 → St → Option (Int32 × St)
  | 0 => fun _ _ => none
  | n + 1 => fun x1 st => (if ((st.1 14 1) * (st.1 14 2)) ≤ x1 then LX3_rows_126 n (0 : Int32) st else dz (st.1 14 2) (gd (x1 / (st.1 14 2)) 64 ((if (st.1 28 (x1 / (st.1 14 2)).toNatClampNeg) = 0 then LX3_rows_75 n (x1 + (1 : Int32)) st else bd (FX3_at n x1 st) (fun r23 u24 => (if r23 = (-1 : Int32) then LX3_rows_75 n (x1 + (1 : Int32)) u24 else bd (FX3_stays n r23 u24) (fun r26 u27 => LX3_rows_75 n (x1 + (1 : Int32)) u27)))))))
set_option maxHeartbeats 4000000 in
set_option maxRecDepth 100000 in
theorem lX3_rows_75 {l : Launch} {D : va_G} {h : Nat → Nat} {cI cJ cZ : ClassId} {p : Program} {e : Env} {s : State} {m : MethodId} {args : Array Value} {below : List Frame} {meth : Method} {c : Code} {A : Nat → Prop} {r : Int32} {u : St} (E : Env1 p s m args c cX3_rows 3 RX3 D (tyL cI cJ cZ)) (hr : meth.sig.returnType = some .boolean) (hlocks : meth.locks = false) (hA : ∀ q : Nat, s.heap.size ≤ q → A q) : ∀ (n : Nat) (x1 : Int32) (st : St) (H : Heap) (locs : List Loc) (ls : Array Slot), va_P D vwCl (wM h cI cJ cZ st) H → va_D A (wM h cI cJ cZ st) → va_S A s.heap H locs → lv_has ls 3 [(0, .ref (h 14)), (1, .int x1)] → LX3_rows_75 n x1 st = some (r, u) → W p l e (rm 3 64) s m args below meth c H locs 0 0 (MQ below (CQ D (tyL cI cJ cZ) (wM h cI cJ cZ) A r u) args s 0 0 A) (F0 m 75 ls []) := by
  have hx := E.1.1
  have hb := E.1.2.1
  have hml := E.1.2.2.1
  intro n
  induction n with
  | zero => intro x1 st H locs ls hP hD hS hl hF; simp only [LX3_rows_75] at hF; cases hF
  | succ n ih =>
    intro x1 st H locs ls hP hD hS hl hF
    simp only [LX3_rows_75] at hF
    refine lv_iload_n hx hb dX3_rows_75 rfl (lv_at hl 1 rfl) ?_
    refine lv_aload_n hx hb dX3_rows_76 rfl (lv_at hl 0 rfl) ?_
    refine g_14_1 E hP dX3_rows_77 ?_
    refine lv_aload_n hx hb dX3_rows_80 rfl (lv_at hl 0 rfl) ?_
    refine g_14_2 E hP dX3_rows_81 ?_
    refine lv_imul hx hb dX3_rows_84 ?_
    refine lv_icmp_ge (tgt := 124) hx hb dX3_rows_85 (by decide) (fun hc => ?_) (fun hc => ?_)
    · have hF := if_t hc hF
      refine lv_iconst (v := 0) hx hb dX3_rows_124 (by decide) ?_
      refine lv_istore_n (lv' := [(1, .int (0 : Int32)), (0, .ref (h 14))]) hx hb dX3_rows_125 rfl hl (by decide) rfl (fun ls hl => ?_)
      exact lX3_rows_126 E hr hlocks hA n (0 : Int32) st _ _ _ hP hD hS (lv_sub hl [1, 0] rfl) hF
    · have hF := if_f hc hF
      refine lv_aload_n hx hb dX3_rows_88 rfl (lv_at hl 0 rfl) ?_
      refine g_14_20 E hP dX3_rows_89 ?_
      refine lv_iload_n hx hb dX3_rows_92 rfl (lv_at hl 1 rfl) ?_
      refine lv_aload_n hx hb dX3_rows_93 rfl (lv_at hl 0 rfl) ?_
      refine g_14_2 E hP dX3_rows_94 ?_
      obtain ⟨hz21, hF⟩ := dz_some hF
      refine lv_idiv hx hb dX3_rows_97 hz21 ?_
      obtain ⟨hi22, hF⟩ := gd_some hF
      refine la_28 E hP hi22 dX3_rows_98 ?_
      refine lv_if_eq (tgt := 118) hx hb dX3_rows_99 (by decide) (fun hc => ?_) (fun hc => ?_)
      · have hF := if_t hc hF
        refine lv_iinc (v := (x1 + (1 : Int32))) (lv' := [(1, .int (x1 + (1 : Int32))), (0, .ref (h 14))]) hx hb dX3_rows_118 hl (k := 1) rfl rfl (by decide) rfl (fun ls hl => ?_)
        refine lv_goto (tgt := 75) hx hb dX3_rows_121 (by decide) ?_
        exact ih _ _ _ _ _ hP hD hS (lv_sub hl [1, 0] rfl) hF
      · have hF := if_f hc hF
        refine lv_aload_n hx hb dX3_rows_102 rfl (lv_at hl 0 rfl) ?_
        refine lv_iload_n hx hb dX3_rows_103 rfl (lv_at hl 1 rfl) ?_
        obtain ⟨r23, u24, hc25, hF⟩ := bd_some hF
        refine call_i (rest := []) E hA hP hD hS hl.1 (kX3_at l D h cI cJ cZ n x1 st r23 u24 hc25) cw_X3_135 0 rfl rfl rfl rfl rfl (Nat.le_of_ble_eq_true rfl) ⟨Nat.le_of_ble_eq_true rfl, Nat.le_of_ble_eq_true rfl⟩ ⟨Nat.zero_le _, Nat.zero_le _⟩ dX3_rows_104 (fun H locs hP hD hS => ?_)
        refine lv_istore_n (lv' := [(2, .int r23), (0, .ref (h 14)), (1, .int x1)]) hx hb dX3_rows_107 rfl hl (by decide) rfl (fun ls hl => ?_)
        refine lv_iload_n hx hb dX3_rows_108 rfl (lv_at hl 0 rfl) ?_
        refine lv_iconst (v := (-1)) hx hb dX3_rows_109 (by decide) ?_
        refine lv_icmp_eq (tgt := 118) hx hb dX3_rows_110 (by decide) (fun hc => ?_) (fun hc => ?_)
        · have hF := if_t hc hF
          refine lv_iinc (v := (x1 + (1 : Int32))) (lv' := [(1, .int (x1 + (1 : Int32))), (2, .int r23), (0, .ref (h 14))]) hx hb dX3_rows_118 hl (k := 2) rfl rfl (by decide) rfl (fun ls hl => ?_)
          refine lv_goto (tgt := 75) hx hb dX3_rows_121 (by decide) ?_
          exact ih _ _ _ _ _ hP hD hS (lv_sub hl [2, 0] rfl) hF
        · have hF := if_f hc hF
          refine lv_aload_n hx hb dX3_rows_113 rfl (lv_at hl 1 rfl) ?_
          refine lv_iload_n hx hb dX3_rows_114 rfl (lv_at hl 0 rfl) ?_
          obtain ⟨r26, u27, hc28, hF⟩ := bd_some hF
          refine call_v (rest := []) E hA hP hD hS hl.1 (kX3_stays l D h cI cJ cZ n r23 u24 r26 u27 hc28) cw_X3_116 0 rfl rfl rfl rfl rfl (Nat.le_of_ble_eq_true rfl) ⟨Nat.le_of_ble_eq_true rfl, Nat.le_of_ble_eq_true rfl⟩ ⟨Nat.zero_le _, Nat.zero_le _⟩ dX3_rows_115 (fun H locs hP hD hS => ?_)
          refine lv_iinc (v := (x1 + (1 : Int32))) (lv' := [(1, .int (x1 + (1 : Int32))), (2, .int r23), (0, .ref (h 14))]) hx hb dX3_rows_118 hl (k := 2) rfl rfl (by decide) rfl (fun ls hl => ?_)
          refine lv_goto (tgt := 75) hx hb dX3_rows_121 (by decide) ?_
          exact ih _ _ _ _ _ hP hD hS (lv_sub hl [2, 0] rfl) hF
def LX3_rows_48 : Nat → Int32 → St → Option (Int32 × St)
  | 0 => fun _ _ => none
  | n + 1 => fun x1 st => (if (st.1 14 7) ≤ x1 then bd (FX3_hits n  st) (fun r1 u2 => LX3_rows_75 n (0 : Int32) u2) else gd x1 4200 (LX3_rows_48 n (x1 + (1 : Int32)) (pt st 27 x1.toNatClampNeg (-1 : Int32))))
set_option maxHeartbeats 4000000 in
set_option maxRecDepth 100000 in
theorem lX3_rows_48 {l : Launch} {D : va_G} {h : Nat → Nat} {cI cJ cZ : ClassId} {p : Program} {e : Env} {s : State} {m : MethodId} {args : Array Value} {below : List Frame} {meth : Method} {c : Code} {A : Nat → Prop} {r : Int32} {u : St} (E : Env1 p s m args c cX3_rows 3 RX3 D (tyL cI cJ cZ)) (hr : meth.sig.returnType = some .boolean) (hlocks : meth.locks = false) (hA : ∀ q : Nat, s.heap.size ≤ q → A q) : ∀ (n : Nat) (x1 : Int32) (st : St) (H : Heap) (locs : List Loc) (ls : Array Slot), va_P D vwCl (wM h cI cJ cZ st) H → va_D A (wM h cI cJ cZ st) → va_S A s.heap H locs → lv_has ls 3 [(0, .ref (h 14)), (1, .int x1)] → LX3_rows_48 n x1 st = some (r, u) → W p l e (rm 3 64) s m args below meth c H locs 0 0 (MQ below (CQ D (tyL cI cJ cZ) (wM h cI cJ cZ) A r u) args s 0 0 A) (F0 m 48 ls []) := by
  have hx := E.1.1
  have hb := E.1.2.1
  have hml := E.1.2.2.1
  intro n
  induction n with
  | zero => intro x1 st H locs ls hP hD hS hl hF; simp only [LX3_rows_48] at hF; cases hF
  | succ n ih =>
    intro x1 st H locs ls hP hD hS hl hF
    simp only [LX3_rows_48] at hF
    refine lv_iload_n hx hb dX3_rows_48 rfl (lv_at hl 1 rfl) ?_
    refine lv_aload_n hx hb dX3_rows_49 rfl (lv_at hl 0 rfl) ?_
    refine g_14_7 E hP dX3_rows_50 ?_
    refine lv_icmp_ge (tgt := 69) hx hb dX3_rows_53 (by decide) (fun hc => ?_) (fun hc => ?_)
    · have hF := if_t hc hF
      refine lv_aload_n hx hb dX3_rows_69 rfl (lv_at hl 0 rfl) ?_
      obtain ⟨r1, u2, hc3, hF⟩ := bd_some hF
      refine call_v (rest := []) E hA hP hD hS hl.1 (kX3_hits l D h cI cJ cZ n  st r1 u2 hc3) cw_X3_132 0 rfl rfl rfl rfl rfl (Nat.le_of_ble_eq_true rfl) ⟨Nat.le_of_ble_eq_true rfl, Nat.le_of_ble_eq_true rfl⟩ ⟨Nat.zero_le _, Nat.zero_le _⟩ dX3_rows_70 (fun H locs hP hD hS => ?_)
      refine lv_iconst (v := 0) hx hb dX3_rows_73 (by decide) ?_
      refine lv_istore_n (lv' := [(1, .int (0 : Int32)), (0, .ref (h 14))]) hx hb dX3_rows_74 rfl hl (by decide) rfl (fun ls hl => ?_)
      exact lX3_rows_75 E hr hlocks hA n (0 : Int32) u2 _ _ _ hP hD hS (lv_sub hl [1, 0] rfl) hF
    · have hF := if_f hc hF
      refine lv_aload_n hx hb dX3_rows_56 rfl (lv_at hl 0 rfl) ?_
      refine g_14_19 E hP dX3_rows_57 ?_
      refine lv_iload_n hx hb dX3_rows_60 rfl (lv_at hl 1 rfl) ?_
      refine lv_iconst (v := (-1)) hx hb dX3_rows_61 (by decide) ?_
      obtain ⟨hi29, hF⟩ := gd_some hF
      refine sa_27 E hP hD hS hi29 dX3_rows_62 (fun H locs hP hD hS => ?_)
      refine lv_iinc (v := (x1 + (1 : Int32))) (lv' := [(1, .int (x1 + (1 : Int32))), (0, .ref (h 14))]) hx hb dX3_rows_63 hl (k := 1) rfl rfl (by decide) rfl (fun ls hl => ?_)
      refine lv_goto (tgt := 48) hx hb dX3_rows_66 (by decide) ?_
      exact ih _ _ _ _ _ hP hD hS (lv_sub hl [1, 0] rfl) hF
def LX3_rows_27 : Nat → Int32 → St → Option (Int32 × St)
  | 0 => fun _ _ => none
  | n + 1 => fun x1 st => (if (64 : Int32) ≤ x1 then LX3_rows_48 n (0 : Int32) st else gd x1 64 (LX3_rows_27 n (x1 + (1 : Int32)) (pt st 29 x1.toNatClampNeg (0 : Int32))))
set_option maxHeartbeats 4000000 in
set_option maxRecDepth 100000 in
theorem lX3_rows_27 {l : Launch} {D : va_G} {h : Nat → Nat} {cI cJ cZ : ClassId} {p : Program} {e : Env} {s : State} {m : MethodId} {args : Array Value} {below : List Frame} {meth : Method} {c : Code} {A : Nat → Prop} {r : Int32} {u : St} (E : Env1 p s m args c cX3_rows 3 RX3 D (tyL cI cJ cZ)) (hr : meth.sig.returnType = some .boolean) (hlocks : meth.locks = false) (hA : ∀ q : Nat, s.heap.size ≤ q → A q) : ∀ (n : Nat) (x1 : Int32) (st : St) (H : Heap) (locs : List Loc) (ls : Array Slot), va_P D vwCl (wM h cI cJ cZ st) H → va_D A (wM h cI cJ cZ st) → va_S A s.heap H locs → lv_has ls 3 [(0, .ref (h 14)), (1, .int x1)] → LX3_rows_27 n x1 st = some (r, u) → W p l e (rm 3 64) s m args below meth c H locs 0 0 (MQ below (CQ D (tyL cI cJ cZ) (wM h cI cJ cZ) A r u) args s 0 0 A) (F0 m 27 ls []) := by
  have hx := E.1.1
  have hb := E.1.2.1
  have hml := E.1.2.2.1
  intro n
  induction n with
  | zero => intro x1 st H locs ls hP hD hS hl hF; simp only [LX3_rows_27] at hF; cases hF
  | succ n ih =>
    intro x1 st H locs ls hP hD hS hl hF
    simp only [LX3_rows_27] at hF
    refine lv_iload_n hx hb dX3_rows_27 rfl (lv_at hl 1 rfl) ?_
    refine lv_bipush (v := 64) hx hb dX3_rows_28 (by decide) ?_
    refine lv_icmp_ge (tgt := 46) hx hb dX3_rows_30 (by decide) (fun hc => ?_) (fun hc => ?_)
    · have hF := if_t hc hF
      refine lv_iconst (v := 0) hx hb dX3_rows_46 (by decide) ?_
      refine lv_istore_n (lv' := [(1, .int (0 : Int32)), (0, .ref (h 14))]) hx hb dX3_rows_47 rfl hl (by decide) rfl (fun ls hl => ?_)
      exact lX3_rows_48 E hr hlocks hA n (0 : Int32) st _ _ _ hP hD hS (lv_sub hl [1, 0] rfl) hF
    · have hF := if_f hc hF
      refine lv_aload_n hx hb dX3_rows_33 rfl (lv_at hl 0 rfl) ?_
      refine g_14_21 E hP dX3_rows_34 ?_
      refine lv_iload_n hx hb dX3_rows_37 rfl (lv_at hl 1 rfl) ?_
      refine lv_iconst (v := 0) hx hb dX3_rows_38 (by decide) ?_
      obtain ⟨hi30, hF⟩ := gd_some hF
      refine sa_29 E hP hD hS hi30 dX3_rows_39 (fun H locs hP hD hS => ?_)
      refine lv_iinc (v := (x1 + (1 : Int32))) (lv' := [(1, .int (x1 + (1 : Int32))), (0, .ref (h 14))]) hx hb dX3_rows_40 hl (k := 1) rfl rfl (by decide) rfl (fun ls hl => ?_)
      refine lv_goto (tgt := 27) hx hb dX3_rows_43 (by decide) ?_
      exact ih _ _ _ _ _ hP hD hS (lv_sub hl [1, 0] rfl) hF
def FX3_rows (n : Nat) (st : St) : Option (Int32 × St) := LX3_rows_27 n (0 : Int32) (pt (pt (pt (pt (pt st 14 18 (0 : Int32)) 14 24 (0 : Int32)) 14 25 (0 : Int32)) 14 22 (-1 : Int32)) 14 23 (0 : Int32))
set_option maxHeartbeats 4000000 in
set_option maxRecDepth 100000 in
theorem kX3_rows (l : Launch) (D : va_G) (h : Nat → Nat) (cI cJ cZ : ClassId) (n : Nat) (st : St) (r : Int32) (u : St) (hF : FX3_rows n  st = some (r, u)) : Ci l yX3_rows cX3_rows 3 (some .boolean) 3 64 D (tyL cI cJ cZ) (wM h cI cJ cZ) st [.ref (h 14)] r u := by
  refine body_i (by decide +kernel) (Nat.le_of_ble_eq_true rfl) ?_
  intro p e s m below meth c A ls E hr hlocks hA hP hD hS hl
  have E : Env1 p s m _ c cX3_rows 3 RX3 D (tyL cI cJ cZ) := E
  have hl : lv_has ls 3 [(0, .ref (h 14))] := hl
  have hx := E.1.1
  have hb := E.1.2.1
  have hml := E.1.2.2.1
  unfold FX3_rows at hF
  refine lv_aload_n hx hb dX3_rows_0 rfl (lv_at hl 0 rfl) ?_
  refine lv_iconst (v := 0) hx hb dX3_rows_1 (by decide) ?_
  refine s_14_18 E hP hD hS dX3_rows_2 (fun H locs hP hD hS => ?_)
  refine lv_aload_n hx hb dX3_rows_5 rfl (lv_at hl 0 rfl) ?_
  refine lv_iconst (v := 0) hx hb dX3_rows_6 (by decide) ?_
  refine s_14_24 E hP hD hS dX3_rows_7 (fun H locs hP hD hS => ?_)
  refine lv_aload_n hx hb dX3_rows_10 rfl (lv_at hl 0 rfl) ?_
  refine lv_iconst (v := 0) hx hb dX3_rows_11 (by decide) ?_
  refine s_14_25 E hP hD hS dX3_rows_12 (fun H locs hP hD hS => ?_)
  refine lv_aload_n hx hb dX3_rows_15 rfl (lv_at hl 0 rfl) ?_
  refine lv_iconst (v := (-1)) hx hb dX3_rows_16 (by decide) ?_
  refine s_14_22 E hP hD hS dX3_rows_17 (fun H locs hP hD hS => ?_)
  refine lv_aload_n hx hb dX3_rows_20 rfl (lv_at hl 0 rfl) ?_
  refine lv_iconst (v := 0) hx hb dX3_rows_21 (by decide) ?_
  refine s_14_23 E hP hD hS dX3_rows_22 (fun H locs hP hD hS => ?_)
  refine lv_iconst (v := 0) hx hb dX3_rows_25 (by decide) ?_
  refine lv_istore_n (lv' := [(1, .int (0 : Int32)), (0, .ref (h 14))]) hx hb dX3_rows_26 rfl hl (by decide) rfl (fun ls hl => ?_)
  exact lX3_rows_27 E hr hlocks hA n (0 : Int32) (pt (pt (pt (pt (pt st 14 18 (0 : Int32)) 14 24 (0 : Int32)) 14 25 (0 : Int32)) 14 22 (-1 : Int32)) 14 23 (0 : Int32)) _ _ _ hP hD hS (lv_sub hl [1, 0] rfl) hF
