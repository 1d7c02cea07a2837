-- LooseHeap$Space.startOver
def FX1_startOver (n : Nat) (x1 x2 : Int32) (st : St) : Option (Int32 × St) := some ((0 : Int32), (pt (pt (pt (ph (pf (pf (pf st 5 (flI 4096 (0 : Int32) (st.1 5))) 6 (flI 64 (0 : Int32) ((pf st 5 (flI 4096 (0 : Int32) (st.1 5))).1 6))) 7 (flI 64 (0 : Int32) ((pf (pf st 5 (flI 4096 (0 : Int32) (st.1 5))) 6 (flI 64 (0 : Int32) ((pf st 5 (flI 4096 (0 : Int32) (st.1 5))).1 6))).1 7))) (flJ 64 (0 : Int64) (pf (pf (pf st 5 (flI 4096 (0 : Int32) (st.1 5))) 6 (flI 64 (0 : Int32) ((pf st 5 (flI 4096 (0 : Int32) (st.1 5))).1 6))) 7 (flI 64 (0 : Int32) ((pf (pf st 5 (flI 4096 (0 : Int32) (st.1 5))) 6 (flI 64 (0 : Int32) ((pf st 5 (flI 4096 (0 : Int32) (st.1 5))).1 6))).1 7))).2)) 1 4 x1) 1 5 x2) 1 6 (-1 : Int32)))
set_option maxHeartbeats 4000000 in
set_option maxRecDepth 100000 in
theorem kX1_startOver (l : Launch) (D : va_G) (h : Nat → Nat) (cI cJ cZ : ClassId) (n : Nat) (x1 x2 : Int32) (st : St) (r : Int32) (u : St) (hF : FX1_startOver n x1 x2 st = some (r, u)) : Cv l yX1_startOver cX1_startOver 3 1 40 D (tyL cI cJ cZ) (wX h cI cJ cZ) st [.ref (h 1), .int x1, .int x2] u := by
  refine body_v (by decide +kernel) (Nat.le_of_ble_eq_true rfl) ?_
  intro p e s m below meth c A ls E hr hlocks hA hP hD hS hl
  have E : Env1 p s m _ c cX1_startOver 3 RX1 D (tyL cI cJ cZ) := E
  have hl : lv_has ls 3 [(0, .ref (h 1)), (1, .int x1), (2, .int x2)] := hl
  have hx := E.1.1
  have hb := E.1.2.1
  have hml := E.1.2.2.1
  unfold FX1_startOver at hF
  refine lv_aload_n hx hb dX1_startOver_0 rfl (lv_at hl 0 rfl) ?_
  refine g_1_0 E hP dX1_startOver_1 ?_
  refine lv_iconst (v := 0) hx hb dX1_startOver_4 (by decide) ?_
  refine fill_5 E hA hP hD hS hl.1 ml_X1_35 (rest := []) (Nat.le_of_ble_eq_true rfl) ⟨Nat.le_of_ble_eq_true rfl, Nat.le_of_ble_eq_true rfl⟩ dX1_startOver_5 (fun H locs hP hD hS => ?_)
  refine lv_aload_n hx hb dX1_startOver_8 rfl (lv_at hl 0 rfl) ?_
  refine g_1_1 E hP dX1_startOver_9 ?_
  refine lv_iconst (v := 0) hx hb dX1_startOver_12 (by decide) ?_
  refine fill_6 E hA hP hD hS hl.1 ml_X1_35 (rest := []) (Nat.le_of_ble_eq_true rfl) ⟨Nat.le_of_ble_eq_true rfl, Nat.le_of_ble_eq_true rfl⟩ dX1_startOver_13 (fun H locs hP hD hS => ?_)
  refine lv_aload_n hx hb dX1_startOver_16 rfl (lv_at hl 0 rfl) ?_
  refine g_1_2 E hP dX1_startOver_17 ?_
  refine lv_iconst (v := 0) hx hb dX1_startOver_20 (by decide) ?_
  refine fill_7 E hA hP hD hS hl.1 ml_X1_35 (rest := []) (Nat.le_of_ble_eq_true rfl) ⟨Nat.le_of_ble_eq_true rfl, Nat.le_of_ble_eq_true rfl⟩ dX1_startOver_21 (fun H locs hP hD hS => ?_)
  refine lv_aload_n hx hb dX1_startOver_24 rfl (lv_at hl 0 rfl) ?_
  refine g_1_3 E hP dX1_startOver_25 ?_
  refine lv_lconst (v := 0) hx hb dX1_startOver_28 rfl ?_
  refine fill_8 E hA hP hD hS hl.1 ml_X1_41 (rest := []) (Nat.le_of_ble_eq_true rfl) ⟨Nat.le_of_ble_eq_true rfl, Nat.le_of_ble_eq_true rfl⟩ dX1_startOver_29 (fun H locs hP hD hS => ?_)
  refine lv_aload_n hx hb dX1_startOver_32 rfl (lv_at hl 0 rfl) ?_
  refine lv_iload_n hx hb dX1_startOver_33 rfl (lv_at hl 1 rfl) ?_
  refine s_1_4 E hP hD hS dX1_startOver_34 (fun H locs hP hD hS => ?_)
  refine lv_aload_n hx hb dX1_startOver_37 rfl (lv_at hl 0 rfl) ?_
  refine lv_iload_n hx hb dX1_startOver_38 rfl (lv_at hl 2 rfl) ?_
  refine s_1_5 E hP hD hS dX1_startOver_39 (fun H locs hP hD hS => ?_)
  refine lv_aload_n hx hb dX1_startOver_42 rfl (lv_at hl 0 rfl) ?_
  refine lv_iconst (v := (-1)) hx hb dX1_startOver_43 (by decide) ?_
  refine s_1_6 E hP hD hS dX1_startOver_44 (fun H locs hP hD hS => ?_)
  exact endV E hr hlocks hP hD hS dX1_startOver_47 hF
-- LooseHeap$Space.objectsOf
def FX1_objectsOf (n : Nat) (x1 : Int32) (st : St) : Option (Int32 × St) := gd x1 64 (some ((bct (st.2 x1.toNatClampNeg)), st))
set_option maxHeartbeats 4000000 in
set_option maxRecDepth 100000 in
theorem kX1_objectsOf (l : Launch) (D : va_G) (h : Nat → Nat) (cI cJ cZ : ClassId) (n : Nat) (x1 : Int32) (st : St) (r : Int32) (u : St) (hF : FX1_objectsOf n x1 st = some (r, u)) : Ci l yX1_objectsOf cX1_objectsOf 2 (some .int) 1 60 D (tyL cI cJ cZ) (wX h cI cJ cZ) st [.ref (h 1), .int x1] r u := by
  refine body_i (by decide +kernel) (Nat.le_of_ble_eq_true rfl) ?_
  intro p e s m below meth c A ls E hr hlocks hA hP hD hS hl
  have E : Env1 p s m _ c cX1_objectsOf 2 RX1 D (tyL cI cJ cZ) := E
  have hl : lv_has ls 2 [(0, .ref (h 1)), (1, .int x1)] := hl
  have hx := E.1.1
  have hb := E.1.2.1
  have hml := E.1.2.2.1
  unfold FX1_objectsOf at hF
  refine lv_aload_n hx hb dX1_objectsOf_0 rfl (lv_at hl 0 rfl) ?_
  refine g_1_3 E hP dX1_objectsOf_1 ?_
  refine lv_iload_n hx hb dX1_objectsOf_4 rfl (lv_at hl 1 rfl) ?_
  obtain ⟨hi1, hF⟩ := gd_some hF
  refine la_8 E hP hi1 dX1_objectsOf_5 ?_
  refine bitc E hA hP hD hS hl.1 ml_X1_48 (rest := []) (Nat.le_of_ble_eq_true rfl) ⟨Nat.le_of_ble_eq_true rfl, Nat.le_of_ble_eq_true rfl⟩ dX1_objectsOf_6 (fun H locs hP hD hS => ?_)
  exact endI E hr hlocks hP hD hS dX1_objectsOf_9 hF
theorem cw_X1_54 : cwd RX1 54 RX1 yX1_objectsOf cX1_objectsOf 2 (some .int) 1 := ⟨tb_V (tb_in 429 (by decide +kernel) (by decide +kernel)) (tb_in 402 (by decide +kernel) (by decide +kernel)) (tb_in 403 (by decide +kernel) (by decide +kernel)) (tb_in 47 (by decide +kernel) (by decide +kernel)) (tb_in 404 (by decide +kernel) (by decide +kernel)), by decide +kernel⟩
-- LooseHeap$Space.allObjects
def LX1_allObjects_4 : Nat → Int32 → Int32 → St → Option (Int32 × St)
  | 0 => fun _ _ _ => none
  | n + 1 => fun x1 x2 st => (if (st.1 1 4) ≤ x2 then some (x1, st) else bd (FX1_objectsOf n x2 st) (fun r1 u2 => LX1_allObjects_4 n (x1 + r1) (x2 + (1 : Int32)) u2))
set_option maxHeartbeats 4000000 in
set_option maxRecDepth 100000 in
theorem lX1_allObjects_4 {l : Launch} {D : va_G} {h : Nat → Nat} {cI cJ cZ : ClassId} {p : Program} {e : Env} {s : State} {m : MethodId} {args : Array Value} {below : List Frame} {meth : Method} {c : Code} {A : Nat → Prop} {r : Int32} {u : St} (E : Env1 p s m args c cX1_allObjects 3 RX1 D (tyL cI cJ cZ)) (hr : meth.sig.returnType = some .int) (hlocks : meth.locks = false) (hA : ∀ q : Nat, s.heap.size ≤ q → A q) : ∀ (n : Nat) (x1 x2 : Int32) (st : St) (H : Heap) (locs : List Loc) (ls : Array Slot), va_P D vwCl (wX h cI cJ cZ st) H → va_D A (wX h cI cJ cZ st) → va_S A s.heap H locs → lv_has ls 3 [(0, .ref (h 1)), (1, .int x1), (2, .int x2)] → LX1_allObjects_4 n x1 x2 st = some (r, u) → W p l e (rm 2 81) s m args below meth c H locs 0 0 (MQ below (CQ D (tyL cI cJ cZ) (wX h cI cJ cZ) A r u) args s 0 0 A) (F0 m 4 ls []) := by
  have hx := E.1.1
  have hb := E.1.2.1
  have hml := E.1.2.2.1
  intro n
  induction n with
  | zero => intro x1 x2 st H locs ls hP hD hS hl hF; simp only [LX1_allObjects_4] at hF; cases hF
  | succ n ih =>
    intro x1 x2 st H locs ls hP hD hS hl hF
    simp only [LX1_allObjects_4] at hF
    refine lv_iload_n hx hb dX1_allObjects_4 rfl (lv_at hl 2 rfl) ?_
    refine lv_aload_n hx hb dX1_allObjects_5 rfl (lv_at hl 0 rfl) ?_
    refine g_1_4 E hP dX1_allObjects_6 ?_
    refine lv_icmp_ge (tgt := 26) hx hb dX1_allObjects_9 (by decide) (fun hc => ?_) (fun hc => ?_)
    · have hF := if_t hc hF
      refine lv_iload_n hx hb dX1_allObjects_26 rfl (lv_at hl 1 rfl) ?_
      exact endI E hr hlocks hP hD hS dX1_allObjects_27 hF
    · have hF := if_f hc hF
      refine lv_iload_n hx hb dX1_allObjects_12 rfl (lv_at hl 1 rfl) ?_
      refine lv_aload_n hx hb dX1_allObjects_13 rfl (lv_at hl 0 rfl) ?_
      refine lv_iload_n hx hb dX1_allObjects_14 rfl (lv_at hl 2 rfl) ?_
      obtain ⟨r1, u2, hc3, hF⟩ := bd_some hF
      refine call_i (rest := [.int x1]) E hA hP hD hS hl.1 (kX1_objectsOf l D h cI cJ cZ n x2 st r1 u2 hc3) cw_X1_54 1 rfl rfl rfl rfl rfl (Nat.le_of_ble_eq_true rfl) ⟨Nat.le_of_ble_eq_true rfl, Nat.le_of_ble_eq_true rfl⟩ ⟨Nat.zero_le _, Nat.zero_le _⟩ dX1_allObjects_15 (fun H locs hP hD hS => ?_)
      refine lv_iadd hx hb dX1_allObjects_18 ?_
      refine lv_istore_n (lv' := [(1, .int (x1 + r1)), (0, .ref (h 1)), (2, .int x2)]) hx hb dX1_allObjects_19 rfl hl (by decide) rfl (fun ls hl => ?_)
      refine lv_iinc (v := (x2 + (1 : Int32))) (lv' := [(2, .int (x2 + (1 : Int32))), (1, .int (x1 + r1)), (0, .ref (h 1))]) hx hb dX1_allObjects_20 hl (k := 2) rfl rfl (by decide) rfl (fun ls hl => ?_)
      refine lv_goto (tgt := 4) hx hb dX1_allObjects_23 (by decide) ?_
      exact ih _ _ _ _ _ _ hP hD hS (lv_sub hl [2, 1, 0] rfl) hF
def FX1_allObjects (n : Nat) (st : St) : Option (Int32 × St) := LX1_allObjects_4 n (0 : Int32) (0 : Int32) st
set_option maxHeartbeats 4000000 in
set_option maxRecDepth 100000 in
theorem kX1_allObjects (l : Launch) (D : va_G) (h : Nat → Nat) (cI cJ cZ : ClassId) (n : Nat) (st : St) (r : Int32) (u : St) (hF : FX1_allObjects n  st = some (r, u)) : Ci l yX1_allObjects cX1_allObjects 3 (some .int) 2 81 D (tyL cI cJ cZ) (wX h cI cJ cZ) st [.ref (h 1)] r u := by
  refine body_i (by decide +kernel) (Nat.le_of_ble_eq_true rfl) ?_
  intro p e s m below meth c A ls E hr hlocks hA hP hD hS hl
  have E : Env1 p s m _ c cX1_allObjects 3 RX1 D (tyL cI cJ cZ) := E
  have hl : lv_has ls 3 [(0, .ref (h 1))] := hl
  have hx := E.1.1
  have hb := E.1.2.1
  have hml := E.1.2.2.1
  unfold FX1_allObjects at hF
  refine lv_iconst (v := 0) hx hb dX1_allObjects_0 (by decide) ?_
  refine lv_istore_n (lv' := [(1, .int (0 : Int32)), (0, .ref (h 1))]) hx hb dX1_allObjects_1 rfl hl (by decide) rfl (fun ls hl => ?_)
  refine lv_iconst (v := 0) hx hb dX1_allObjects_2 (by decide) ?_
  refine lv_istore_n (lv' := [(2, .int (0 : Int32)), (1, .int (0 : Int32)), (0, .ref (h 1))]) hx hb dX1_allObjects_3 rfl hl (by decide) rfl (fun ls hl => ?_)
  exact lX1_allObjects_4 E hr hlocks hA n (0 : Int32) (0 : Int32) st _ _ _ hP hD hS (lv_sub hl [2, 1, 0] rfl) hF
theorem cw_X1_94 : cwd RX1 94 RX1 yX1_pageOf cX1_pageOf 2 (some .int) 1 := ⟨tb_V (tb_in 320 (by decide +kernel) (by decide +kernel)) (tb_in 214 (by decide +kernel) (by decide +kernel)) (tb_in 215 (by decide +kernel) (by decide +kernel)) (tb_in 47 (by decide +kernel) (by decide +kernel)) (tb_in 216 (by decide +kernel) (by decide +kernel)), by decide +kernel⟩
-- LooseHeap$Space.enterSmall
def FX1_enterSmall (n : Nat) (x1 x2 : Int32) (st : St) : Option (Int32 × St) := bd (FX1_pageOf n x1 st) (fun r1 u2 => gd r1 64 (gd r1 64 (gd r1 64 (gd r1 64 (dz ((pt (pt u2 6 r1.toNatClampNeg (1 : Int32)) 7 r1.toNatClampNeg (((pt u2 6 r1.toNatClampNeg (1 : Int32)).1 7 r1.toNatClampNeg) + x2)).1 1 5) (gd r1 64 (some ((0 : Int32), (pg (pt (pt u2 6 r1.toNatClampNeg (1 : Int32)) 7 r1.toNatClampNeg (((pt u2 6 r1.toNatClampNeg (1 : Int32)).1 7 r1.toNatClampNeg) + x2)) r1.toNatClampNeg (((pt (pt u2 6 r1.toNatClampNeg (1 : Int32)) 7 r1.toNatClampNeg (((pt u2 6 r1.toNatClampNeg (1 : Int32)).1 7 r1.toNatClampNeg) + x2)).2 r1.toNatClampNeg) ||| ((1 : Int64) <<< ((x1 - x1 / ((pt (pt u2 6 r1.toNatClampNeg (1 : Int32)) 7 r1.toNatClampNeg (((pt u2 6 r1.toNatClampNeg (1 : Int32)).1 7 r1.toNatClampNeg) + x2)).1 1 5) * ((pt (pt u2 6 r1.toNatClampNeg (1 : Int32)) 7 r1.toNatClampNeg (((pt u2 6 r1.toNatClampNeg (1 : Int32)).1 7 r1.toNatClampNeg) + x2)).1 1 5)).toInt64 &&& 63))))))))))))
set_option maxHeartbeats 4000000 in
set_option maxRecDepth 100000 in
theorem kX1_enterSmall (l : Launch) (D : va_G) (h : Nat → Nat) (cI cJ cZ : ClassId) (n : Nat) (x1 x2 : Int32) (st : St) (r : Int32) (u : St) (hF : FX1_enterSmall n x1 x2 st = some (r, u)) : Cv l yX1_enterSmall cX1_enterSmall 4 1 21 D (tyL cI cJ cZ) (wX h cI cJ cZ) st [.ref (h 1), .int x1, .int x2] u := by
  refine body_v (by decide +kernel) (Nat.le_of_ble_eq_true rfl) ?_
  intro p e s m below meth c A ls E hr hlocks hA hP hD hS hl
  have E : Env1 p s m _ c cX1_enterSmall 4 RX1 D (tyL cI cJ cZ) := E
  have hl : lv_has ls 4 [(0, .ref (h 1)), (1, .int x1), (2, .int x2)] := hl
  have hx := E.1.1
  have hb := E.1.2.1
  have hml := E.1.2.2.1
  unfold FX1_enterSmall at hF
  refine lv_aload_n hx hb dX1_enterSmall_0 rfl (lv_at hl 0 rfl) ?_
  refine lv_iload_n hx hb dX1_enterSmall_1 rfl (lv_at hl 1 rfl) ?_
  obtain ⟨r1, u2, hc3, hF⟩ := bd_some hF
  refine call_i (rest := []) E hA hP hD hS hl.1 (kX1_pageOf l D h cI cJ cZ n x1 st r1 u2 hc3) cw_X1_94 1 rfl rfl rfl rfl rfl (Nat.le_of_ble_eq_true rfl) ⟨Nat.le_of_ble_eq_true rfl, Nat.le_of_ble_eq_true rfl⟩ ⟨Nat.zero_le _, Nat.zero_le _⟩ dX1_enterSmall_2 (fun H locs hP hD hS => ?_)
  refine lv_istore_n (lv' := [(3, .int r1), (0, .ref (h 1)), (1, .int x1), (2, .int x2)]) hx hb dX1_enterSmall_5 rfl hl (by decide) rfl (fun ls hl => ?_)
  refine lv_aload_n hx hb dX1_enterSmall_6 rfl (lv_at hl 1 rfl) ?_
  refine g_1_1 E hP dX1_enterSmall_7 ?_
  refine lv_iload_n hx hb dX1_enterSmall_10 rfl (lv_at hl 0 rfl) ?_
  refine lv_iconst (v := 1) hx hb dX1_enterSmall_11 (by decide) ?_
  obtain ⟨hi4, hF⟩ := gd_some hF
  refine sa_6 E hP hD hS hi4 dX1_enterSmall_12 (fun H locs hP hD hS => ?_)
  refine lv_aload_n hx hb dX1_enterSmall_13 rfl (lv_at hl 1 rfl) ?_
  refine g_1_2 E hP dX1_enterSmall_14 ?_
  refine lv_iload_n hx hb dX1_enterSmall_17 rfl (lv_at hl 0 rfl) ?_
  refine lv_dup2_11 hx hb dX1_enterSmall_18 rfl rfl ?_
  obtain ⟨hi5, hF⟩ := gd_some hF
  refine la_7 E hP hi5 dX1_enterSmall_19 ?_
  refine lv_iload_n hx hb dX1_enterSmall_20 rfl (lv_at hl 3 rfl) ?_
  refine lv_iadd hx hb dX1_enterSmall_21 ?_
  obtain ⟨hi6, hF⟩ := gd_some hF
  refine sa_7 E hP hD hS hi6 dX1_enterSmall_22 (fun H locs hP hD hS => ?_)
  refine lv_aload_n hx hb dX1_enterSmall_23 rfl (lv_at hl 1 rfl) ?_
  refine g_1_3 E hP dX1_enterSmall_24 ?_
  refine lv_iload_n hx hb dX1_enterSmall_27 rfl (lv_at hl 0 rfl) ?_
  refine lv_dup2_11 hx hb dX1_enterSmall_28 rfl rfl ?_
  obtain ⟨hi7, hF⟩ := gd_some hF
  refine la_8 E hP hi7 dX1_enterSmall_29 ?_
  refine lv_lconst (v := 1) hx hb dX1_enterSmall_30 rfl ?_
  refine lv_iload_n hx hb dX1_enterSmall_31 rfl (lv_at hl 2 rfl) ?_
  refine lv_aload_n hx hb dX1_enterSmall_32 rfl (lv_at hl 1 rfl) ?_
  refine g_1_5 E hP dX1_enterSmall_33 ?_
  obtain ⟨hz8, hF⟩ := dz_some hF
  refine lv_irem hx hb dX1_enterSmall_36 hz8 ?_
  refine lv_lshl hx hb dX1_enterSmall_37 rfl ?_
  refine lv_lor hx hb dX1_enterSmall_38 ?_
  obtain ⟨hi9, hF⟩ := gd_some hF
  refine sa_8 E hP hD hS hi9 dX1_enterSmall_39 (fun H locs hP hD hS => ?_)
  exact endV E hr hlocks hP hD hS dX1_enterSmall_40 hF
-- LooseHeap$Space.enterLong
def LX1_enterLong_5 : Nat → Int32 → Int32 → Int32 → Int32 → St → Option (Int32 × St)
  | 0 => fun _ _ _ _ _ => none
  | n + 1 => fun x1 x2 x3 x4 st => (if (st.1 1 4) ≤ x4 then gd x1 64 (some ((0 : Int32), (pg st x1.toNatClampNeg (1 : Int64)))) else (if x3 ≤ 0 then gd x1 64 (some ((0 : Int32), (pg st x1.toNatClampNeg (1 : Int64)))) else (if x4 = x1 then gd x4 64 (gd x4 64 (LX1_enterLong_5 n x1 x2 (x3 - ((pt (pt st 6 x4.toNatClampNeg (2 : Int32)) 7 x4.toNatClampNeg (if ((pt st 6 x4.toNatClampNeg (2 : Int32)).1 1 5) < x3 then ((pt st 6 x4.toNatClampNeg (2 : Int32)).1 1 5) else x3)).1 1 5)) (x4 + (1 : Int32)) (pt (pt st 6 x4.toNatClampNeg (2 : Int32)) 7 x4.toNatClampNeg (if ((pt st 6 x4.toNatClampNeg (2 : Int32)).1 1 5) < x3 then ((pt st 6 x4.toNatClampNeg (2 : Int32)).1 1 5) else x3)))) else gd x4 64 (gd x4 64 (LX1_enterLong_5 n x1 x2 (x3 - ((pt (pt st 6 x4.toNatClampNeg (3 : Int32)) 7 x4.toNatClampNeg (if ((pt st 6 x4.toNatClampNeg (3 : Int32)).1 1 5) < x3 then ((pt st 6 x4.toNatClampNeg (3 : Int32)).1 1 5) else x3)).1 1 5)) (x4 + (1 : Int32)) (pt (pt st 6 x4.toNatClampNeg (3 : Int32)) 7 x4.toNatClampNeg (if ((pt st 6 x4.toNatClampNeg (3 : Int32)).1 1 5) < x3 then ((pt st 6 x4.toNatClampNeg (3 : Int32)).1 1 5) else x3)))))))
set_option maxHeartbeats 4000000 in
set_option maxRecDepth 100000 in
theorem lX1_enterLong_5 {l : Launch} {D : va_G} {h : Nat → Nat} {cI cJ cZ : ClassId} {p : Program} {e : Env} {s : State} {m : MethodId} {args : Array Value} {below : List Frame} {meth : Method} {c : Code} {A : Nat → Prop} {r : Int32} {u : St} (E : Env1 p s m args c cX1_enterLong 5 RX1 D (tyL cI cJ cZ)) (hr : meth.sig.returnType = none) (hlocks : meth.locks = false) (hA : ∀ q : Nat, s.heap.size ≤ q → A q) : ∀ (n : Nat) (x1 x2 x3 x4 : Int32) (st : St) (H : Heap) (locs : List Loc) (ls : Array Slot), va_P D vwCl (wX h cI cJ cZ st) H → va_D A (wX h cI cJ cZ st) → va_S A s.heap H locs → lv_has ls 5 [(0, .ref (h 1)), (1, .int x1), (2, .int x2), (3, .int x3), (4, .int x4)] → LX1_enterLong_5 n x1 x2 x3 x4 st = some (r, u) → W p l e (rm 1 40) s m args below meth c H locs 0 0 (MQ below (CQv D (tyL cI cJ cZ) (wX h cI cJ cZ) A u) args s 0 0 A) (F0 m 5 ls []) := by
  have hx := E.1.1
  have hb := E.1.2.1
  have hml := E.1.2.2.1
  intro n
  induction n with
  | zero => intro x1 x2 x3 x4 st H locs ls hP hD hS hl hF; simp only [LX1_enterLong_5] at hF; cases hF
  | succ n ih =>
    intro x1 x2 x3 x4 st H locs ls hP hD hS hl hF
    simp only [LX1_enterLong_5] at hF
    refine lv_iload hx hb dX1_enterLong_5 (lv_at hl 4 rfl) ?_
    refine lv_aload_n hx hb dX1_enterLong_7 rfl (lv_at hl 0 rfl) ?_
    refine g_1_4 E hP dX1_enterLong_8 ?_
    refine lv_icmp_ge (tgt := 64) hx hb dX1_enterLong_11 (by decide) (fun hc => ?_) (fun hc => ?_)
    · have hF := if_t hc hF
      refine lv_aload_n hx hb dX1_enterLong_64 rfl (lv_at hl 0 rfl) ?_
      refine g_1_3 E hP dX1_enterLong_65 ?_
      refine lv_iload_n hx hb dX1_enterLong_68 rfl (lv_at hl 1 rfl) ?_
      refine lv_lconst (v := 1) hx hb dX1_enterLong_69 rfl ?_
      obtain ⟨hi1, hF⟩ := gd_some hF
      refine sa_8 E hP hD hS hi1 dX1_enterLong_70 (fun H locs hP hD hS => ?_)
      exact endV E hr hlocks hP hD hS dX1_enterLong_71 hF
    · have hF := if_f hc hF
      refine lv_iload_n hx hb dX1_enterLong_14 rfl (lv_at hl 3 rfl) ?_
      refine lv_if_le (tgt := 64) hx hb dX1_enterLong_15 (by decide) (fun hc => ?_) (fun hc => ?_)
      · have hF := if_t hc hF
        refine lv_aload_n hx hb dX1_enterLong_64 rfl (lv_at hl 0 rfl) ?_
        refine g_1_3 E hP dX1_enterLong_65 ?_
        refine lv_iload_n hx hb dX1_enterLong_68 rfl (lv_at hl 1 rfl) ?_
        refine lv_lconst (v := 1) hx hb dX1_enterLong_69 rfl ?_
        obtain ⟨hi2, hF⟩ := gd_some hF
        refine sa_8 E hP hD hS hi2 dX1_enterLong_70 (fun H locs hP hD hS => ?_)
        exact endV E hr hlocks hP hD hS dX1_enterLong_71 hF
      · have hF := if_f hc hF
        refine lv_aload_n hx hb dX1_enterLong_18 rfl (lv_at hl 0 rfl) ?_
        refine g_1_1 E hP dX1_enterLong_19 ?_
        refine lv_iload hx hb dX1_enterLong_22 (lv_at hl 4 rfl) ?_
        refine lv_iload hx hb dX1_enterLong_24 (lv_at hl 4 rfl) ?_
        refine lv_iload_n hx hb dX1_enterLong_26 rfl (lv_at hl 1 rfl) ?_
        refine lv_icmp_ne (tgt := 34) hx hb dX1_enterLong_27 (by decide) (fun hc => ?_) (fun hc => ?_)
        · have hF := if_f hc hF
          refine lv_iconst (v := 3) hx hb dX1_enterLong_34 (by decide) ?_
          obtain ⟨hi3, hF⟩ := gd_some hF
          refine sa_6 E hP hD hS hi3 dX1_enterLong_35 (fun H locs hP hD hS => ?_)
          refine lv_aload_n hx hb dX1_enterLong_36 rfl (lv_at hl 0 rfl) ?_
          refine g_1_2 E hP dX1_enterLong_37 ?_
          refine lv_iload hx hb dX1_enterLong_40 (lv_at hl 4 rfl) ?_
          refine lv_iload_n hx hb dX1_enterLong_42 rfl (lv_at hl 3 rfl) ?_
          refine lv_aload_n hx hb dX1_enterLong_43 rfl (lv_at hl 0 rfl) ?_
          refine g_1_5 E hP dX1_enterLong_44 ?_
          refine va_mmin hx hb (hml.trans hl.1.symm) E.1.2.2.2.1 (E.1.2.2.2.2 _ ml_X1_110) (E.1.2.2.2.2 _ mm_st) (E.1.2.2.2.2 _ mm_in) (E.1.2.2.2.2 _ mm_co) (Nat.le_of_ble_eq_true rfl) (Nat.le_of_ble_eq_true rfl) (Nat.zero_le _) (Nat.zero_le _) dX1_enterLong_47 ?_
          obtain ⟨hi4, hF⟩ := gd_some hF
          refine sa_7 E hP hD hS hi4 dX1_enterLong_50 (fun H locs hP hD hS => ?_)
          refine lv_iload_n hx hb dX1_enterLong_51 rfl (lv_at hl 3 rfl) ?_
          refine lv_aload_n hx hb dX1_enterLong_52 rfl (lv_at hl 0 rfl) ?_
          refine g_1_5 E hP dX1_enterLong_53 ?_
          refine lv_isub hx hb dX1_enterLong_56 ?_
          refine lv_istore_n (lv' := [(3, .int (x3 - ((pt (pt st 6 x4.toNatClampNeg (3 : Int32)) 7 x4.toNatClampNeg (if ((pt st 6 x4.toNatClampNeg (3 : Int32)).1 1 5) < x3 then ((pt st 6 x4.toNatClampNeg (3 : Int32)).1 1 5) else x3)).1 1 5))), (0, .ref (h 1)), (1, .int x1), (2, .int x2), (4, .int x4)]) hx hb dX1_enterLong_57 rfl hl (by decide) rfl (fun ls hl => ?_)
          refine lv_iinc (v := (x4 + (1 : Int32))) (lv' := [(4, .int (x4 + (1 : Int32))), (3, .int (x3 - ((pt (pt st 6 x4.toNatClampNeg (3 : Int32)) 7 x4.toNatClampNeg (if ((pt st 6 x4.toNatClampNeg (3 : Int32)).1 1 5) < x3 then ((pt st 6 x4.toNatClampNeg (3 : Int32)).1 1 5) else x3)).1 1 5))), (0, .ref (h 1)), (1, .int x1), (2, .int x2)]) hx hb dX1_enterLong_58 hl (k := 4) rfl rfl (by decide) rfl (fun ls hl => ?_)
          refine lv_goto (tgt := 5) hx hb dX1_enterLong_61 (by decide) ?_
          exact ih _ _ _ _ _ _ _ _ hP hD hS (lv_sub hl [2, 3, 4, 1, 0] rfl) hF
        · have hF := if_t hc hF
          refine lv_iconst (v := 2) hx hb dX1_enterLong_30 (by decide) ?_
          refine lv_goto (tgt := 35) hx hb dX1_enterLong_31 (by decide) ?_
          obtain ⟨hi5, hF⟩ := gd_some hF
          refine sa_6 E hP hD hS hi5 dX1_enterLong_35 (fun H locs hP hD hS => ?_)
          refine lv_aload_n hx hb dX1_enterLong_36 rfl (lv_at hl 0 rfl) ?_
          refine g_1_2 E hP dX1_enterLong_37 ?_
          refine lv_iload hx hb dX1_enterLong_40 (lv_at hl 4 rfl) ?_
          refine lv_iload_n hx hb dX1_enterLong_42 rfl (lv_at hl 3 rfl) ?_
          refine lv_aload_n hx hb dX1_enterLong_43 rfl (lv_at hl 0 rfl) ?_
          refine g_1_5 E hP dX1_enterLong_44 ?_
          refine va_mmin hx hb (hml.trans hl.1.symm) E.1.2.2.2.1 (E.1.2.2.2.2 _ ml_X1_110) (E.1.2.2.2.2 _ mm_st) (E.1.2.2.2.2 _ mm_in) (E.1.2.2.2.2 _ mm_co) (Nat.le_of_ble_eq_true rfl) (Nat.le_of_ble_eq_true rfl) (Nat.zero_le _) (Nat.zero_le _) dX1_enterLong_47 ?_
          obtain ⟨hi6, hF⟩ := gd_some hF
          refine sa_7 E hP hD hS hi6 dX1_enterLong_50 (fun H locs hP hD hS => ?_)
          refine lv_iload_n hx hb dX1_enterLong_51 rfl (lv_at hl 3 rfl) ?_
          refine lv_aload_n hx hb dX1_enterLong_52 rfl (lv_at hl 0 rfl) ?_
          refine g_1_5 E hP dX1_enterLong_53 ?_
          refine lv_isub hx hb dX1_enterLong_56 ?_
          refine lv_istore_n (lv' := [(3, .int (x3 - ((pt (pt st 6 x4.toNatClampNeg (2 : Int32)) 7 x4.toNatClampNeg (if ((pt st 6 x4.toNatClampNeg (2 : Int32)).1 1 5) < x3 then ((pt st 6 x4.toNatClampNeg (2 : Int32)).1 1 5) else x3)).1 1 5))), (0, .ref (h 1)), (1, .int x1), (2, .int x2), (4, .int x4)]) hx hb dX1_enterLong_57 rfl hl (by decide) rfl (fun ls hl => ?_)
          refine lv_iinc (v := (x4 + (1 : Int32))) (lv' := [(4, .int (x4 + (1 : Int32))), (3, .int (x3 - ((pt (pt st 6 x4.toNatClampNeg (2 : Int32)) 7 x4.toNatClampNeg (if ((pt st 6 x4.toNatClampNeg (2 : Int32)).1 1 5) < x3 then ((pt st 6 x4.toNatClampNeg (2 : Int32)).1 1 5) else x3)).1 1 5))), (0, .ref (h 1)), (1, .int x1), (2, .int x2)]) hx hb dX1_enterLong_58 hl (k := 4) rfl rfl (by decide) rfl (fun ls hl => ?_)
          refine lv_goto (tgt := 5) hx hb dX1_enterLong_61 (by decide) ?_
          exact ih _ _ _ _ _ _ _ _ hP hD hS (lv_sub hl [2, 3, 4, 1, 0] rfl) hF
def FX1_enterLong (n : Nat) (x1 x2 : Int32) (st : St) : Option (Int32 × St) := LX1_enterLong_5 n x1 x2 x2 x1 st
set_option maxHeartbeats 4000000 in
set_option maxRecDepth 100000 in
theorem kX1_enterLong (l : Launch) (D : va_G) (h : Nat → Nat) (cI cJ cZ : ClassId) (n : Nat) (x1 x2 : Int32) (st : St) (r : Int32) (u : St) (hF : FX1_enterLong n x1 x2 st = some (r, u)) : Cv l yX1_enterLong cX1_enterLong 5 1 40 D (tyL cI cJ cZ) (wX h cI cJ cZ) st [.ref (h 1), .int x1, .int x2] u := by
  refine body_v (by decide +kernel) (Nat.le_of_ble_eq_true rfl) ?_
  intro p e s m below meth c A ls E hr hlocks hA hP hD hS hl
  have E : Env1 p s m _ c cX1_enterLong 5 RX1 D (tyL cI cJ cZ) := E
  have hl : lv_has ls 5 [(0, .ref (h 1)), (1, .int x1), (2, .int x2)] := hl
  have hx := E.1.1
  have hb := E.1.2.1
  have hml := E.1.2.2.1
  unfold FX1_enterLong at hF
  refine lv_iload_n hx hb dX1_enterLong_0 rfl (lv_at hl 2 rfl) ?_
  refine lv_istore_n (lv' := [(3, .int x2), (0, .ref (h 1)), (1, .int x1), (2, .int x2)]) hx hb dX1_enterLong_1 rfl hl (by decide) rfl (fun ls hl => ?_)
  refine lv_iload_n hx hb dX1_enterLong_2 rfl (lv_at hl 2 rfl) ?_
  refine lv_istore (lv' := [(4, .int x1), (3, .int x2), (0, .ref (h 1)), (1, .int x1), (2, .int x2)]) hx hb dX1_enterLong_3 hl (by decide) rfl (fun ls hl => ?_)
  exact lX1_enterLong_5 E hr hlocks hA n x1 x2 x2 x1 st _ _ _ hP hD hS (lv_sub hl [2, 3, 4, 1, 0] rfl) hF
theorem cw_X1_90 : cwd RX1 90 RX1 yX1_enterSmall cX1_enterSmall 4 none 2 := ⟨tb_V (tb_in 316 (by decide +kernel) (by decide +kernel)) (tb_in 318 (by decide +kernel) (by decide +kernel)) (tb_in 13 (by decide +kernel) (by decide +kernel)) (tb_in 47 (by decide +kernel) (by decide +kernel)) (tb_in 319 (by decide +kernel) (by decide +kernel)), by decide +kernel⟩
theorem cw_X1_97 : cwd RX1 97 RX1 yX1_enterLong cX1_enterLong 5 none 2 := ⟨tb_V (tb_in 578 (by decide +kernel) (by decide +kernel)) (tb_in 580 (by decide +kernel) (by decide +kernel)) (tb_in 24 (by decide +kernel) (by decide +kernel)) (tb_in 47 (by decide +kernel) (by decide +kernel)) (tb_in 581 (by decide +kernel) (by decide +kernel)), by decide +kernel⟩
theorem cw_X1_100 : cwd RX1 100 RX1 yX1_setRef cX1_setRef 4 none 3 := ⟨tb_V (tb_in 585 (by decide +kernel) (by decide +kernel)) (tb_in 333 (by decide +kernel) (by decide +kernel)) (tb_in 334 (by decide +kernel) (by decide +kernel)) (tb_in 47 (by decide +kernel) (by decide +kernel)) (tb_in 335 (by decide +kernel) (by decide +kernel)), by decide +kernel⟩
-- LooseHeap$Space.putNew
def LX1_putNew_62 : Nat → Int32 → Int32 → Int32 → Int32 → St → Option (Int32 × St)
  | 0 => fun _ _ _ _ _ => none
  | n + 1 => fun x1 x2 x3 x5 st => (if x2 ≤ x5 then some ((0 : Int32), st) else bd (FX1_setRef n x1 x5 (-1 : Int32) st) (fun r8 u9 => LX1_putNew_62 n x1 x2 x3 (x5 + (1 : Int32)) u9))
set_option maxHeartbeats 4000000 in
set_option maxRecDepth 100000 in
theorem lX1_putNew_62 {l : Launch} {D : va_G} {h : Nat → Nat} {cI cJ cZ : ClassId} {p : Program} {e : Env} {s : State} {m : MethodId} {args : Array Value} {below : List Frame} {meth : Method} {c : Code} {A : Nat → Prop} {r : Int32} {u : St} (E : Env1 p s m args c cX1_putNew 6 RX1 D (tyL cI cJ cZ)) (hr : meth.sig.returnType = none) (hlocks : meth.locks = false) (hA : ∀ q : Nat, s.heap.size ≤ q → A q) : ∀ (n : Nat) (x1 x2 x3 x5 : Int32) (st : St) (H : Heap) (locs : List Loc) (ls : Array Slot), va_P D vwCl (wX h cI cJ cZ st) H → va_D A (wX h cI cJ cZ st) → va_S A s.heap H locs → lv_has ls 6 [(0, .ref (h 1)), (1, .int x1), (2, .int x2), (3, .int x3), (5, .int x5)] → LX1_putNew_62 n x1 x2 x3 x5 st = some (r, u) → W p l e (rm 2 64) s m args below meth c H locs 0 0 (MQ below (CQv D (tyL cI cJ cZ) (wX h cI cJ cZ) A u) args s 0 0 A) (F0 m 62 ls []) := by
  have hx := E.1.1
  have hb := E.1.2.1
  have hml := E.1.2.2.1
  intro n
  induction n with
  | zero => intro x1 x2 x3 x5 st H locs ls hP hD hS hl hF; simp only [LX1_putNew_62] at hF; cases hF
  | succ n ih =>
    intro x1 x2 x3 x5 st H locs ls hP hD hS hl hF
    simp only [LX1_putNew_62] at hF
    refine lv_iload hx hb dX1_putNew_62 (lv_at hl 4 rfl) ?_
    refine lv_iload_n hx hb dX1_putNew_64 rfl (lv_at hl 2 rfl) ?_
    refine lv_icmp_ge (tgt := 82) hx hb dX1_putNew_65 (by decide) (fun hc => ?_) (fun hc => ?_)
    · have hF := if_t hc hF
      exact endV E hr hlocks hP hD hS dX1_putNew_82 hF
    · have hF := if_f hc hF
      refine lv_aload_n hx hb dX1_putNew_68 rfl (lv_at hl 0 rfl) ?_
      refine lv_iload_n hx hb dX1_putNew_69 rfl (lv_at hl 1 rfl) ?_
      refine lv_iload hx hb dX1_putNew_70 (lv_at hl 4 rfl) ?_
      refine lv_iconst (v := (-1)) hx hb dX1_putNew_72 (by decide) ?_
      obtain ⟨r8, u9, hc10, hF⟩ := bd_some hF
      refine call_v (rest := []) E hA hP hD hS hl.1 (kX1_setRef l D h cI cJ cZ n x1 x5 (-1 : Int32) st r8 u9 hc10) cw_X1_100 1 rfl rfl rfl rfl rfl (Nat.le_of_ble_eq_true rfl) ⟨Nat.le_of_ble_eq_true rfl, Nat.le_of_ble_eq_true rfl⟩ ⟨Nat.zero_le _, Nat.zero_le _⟩ dX1_putNew_73 (fun H locs hP hD hS => ?_)
      refine lv_iinc (v := (x5 + (1 : Int32))) (lv' := [(5, .int (x5 + (1 : Int32))), (0, .ref (h 1)), (1, .int x1), (2, .int x2), (3, .int x3)]) hx hb dX1_putNew_76 hl (k := 4) rfl rfl (by decide) rfl (fun ls hl => ?_)
      refine lv_goto (tgt := 62) hx hb dX1_putNew_79 (by decide) ?_
      exact ih _ _ _ _ _ _ _ _ hP hD hS (lv_sub hl [1, 2, 3, 4, 0] rfl) hF
def JX1_putNew_46 (n : Nat) (x1 x2 x3 : Int32) (st : St) : Option (Int32 × St) := gd x1 4096 (LX1_putNew_62 n x1 x2 x3 (0 : Int32) (pt st 5 x1.toNatClampNeg (((256 : Int32) * x2) + x3)))
set_option maxHeartbeats 4000000 in
set_option maxRecDepth 100000 in
theorem jX1_putNew_46 {l : Launch} {D : va_G} {h : Nat → Nat} {cI cJ cZ : ClassId} {p : Program} {e : Env} {s : State} {m : MethodId} {args : Array Value} {below : List Frame} {meth : Method} {c : Code} {A : Nat → Prop} {r : Int32} {u : St} (E : Env1 p s m args c cX1_putNew 6 RX1 D (tyL cI cJ cZ)) (hr : meth.sig.returnType = none) (hlocks : meth.locks = false) (hA : ∀ q : Nat, s.heap.size ≤ q → A q) (n : Nat) (x1 x2 x3 : Int32) (st : St) (H : Heap) (locs : List Loc) (ls : Array Slot) (hP : va_P D vwCl (wX h cI cJ cZ st) H) (hD : va_D A (wX h cI cJ cZ st)) (hS : va_S A s.heap H locs) (hl : lv_has ls 6 [(0, .ref (h 1)), (1, .int x1), (2, .int x2), (3, .int x3)]) (hF : JX1_putNew_46 n x1 x2 x3 st = some (r, u)) : W p l e (rm 2 64) s m args below meth c H locs 0 0 (MQ below (CQv D (tyL cI cJ cZ) (wX h cI cJ cZ) A u) args s 0 0 A) (F0 m 46 ls []) := by
  have hx := E.1.1
  have hb := E.1.2.1
  have hml := E.1.2.2.1
  unfold JX1_putNew_46 at hF
  refine lv_aload_n hx hb dX1_putNew_46 rfl (lv_at hl 0 rfl) ?_
  refine g_1_0 E hP dX1_putNew_47 ?_
  refine lv_iload_n hx hb dX1_putNew_50 rfl (lv_at hl 1 rfl) ?_
  refine lv_sipush (v := 256) hx hb dX1_putNew_51 (by decide) ?_
  refine lv_iload_n hx hb dX1_putNew_54 rfl (lv_at hl 2 rfl) ?_
  refine lv_imul hx hb dX1_putNew_55 ?_
  refine lv_iload_n hx hb dX1_putNew_56 rfl (lv_at hl 3 rfl) ?_
  refine lv_iadd hx hb dX1_putNew_57 ?_
  obtain ⟨hi7, hF⟩ := gd_some hF
  refine sa_5 E hP hD hS hi7 dX1_putNew_58 (fun H locs hP hD hS => ?_)
  refine lv_iconst (v := 0) hx hb dX1_putNew_59 (by decide) ?_
  refine lv_istore (lv' := [(5, .int (0 : Int32)), (0, .ref (h 1)), (1, .int x1), (2, .int x2), (3, .int x3)]) hx hb dX1_putNew_60 hl (by decide) rfl (fun ls hl => ?_)
  exact lX1_putNew_62 E hr hlocks hA n x1 x2 x3 (0 : Int32) (pt st 5 x1.toNatClampNeg (((256 : Int32) * x2) + x3)) _ _ _ hP hD hS (lv_sub hl [1, 2, 3, 4, 0] rfl) hF
def FX1_putNew (n : Nat) (x1 x2 x3 : Int32) (st : St) : Option (Int32 × St) := (if (st.1 1 5) < (((1 : Int32) + x2) + x3) then bd (FX1_pageOf n x1 st) (fun r1 u2 => bd (FX1_enterLong n r1 (((1 : Int32) + x2) + x3) u2) (fun r4 u5 => JX1_putNew_46 n x1 x2 x3 u5)) else bd (FX1_enterSmall n x1 (((1 : Int32) + x2) + x3) st) (fun r11 u12 => bd (FX1_pageOf n x1 u12) (fun r14 u15 => JX1_putNew_46 n x1 x2 x3 (pt u15 1 6 r14))))
set_option maxHeartbeats 4000000 in
set_option maxRecDepth 100000 in
theorem kX1_putNew (l : Launch) (D : va_G) (h : Nat → Nat) (cI cJ cZ : ClassId) (n : Nat) (x1 x2 x3 : Int32) (st : St) (r : Int32) (u : St) (hF : FX1_putNew n x1 x2 x3 st = some (r, u)) : Cv l yX1_putNew cX1_putNew 6 2 64 D (tyL cI cJ cZ) (wX h cI cJ cZ) st [.ref (h 1), .int x1, .int x2, .int x3] u := by
  refine body_v (by decide +kernel) (Nat.le_of_ble_eq_true rfl) ?_
  intro p e s m below meth c A ls E hr hlocks hA hP hD hS hl
  have E : Env1 p s m _ c cX1_putNew 6 RX1 D (tyL cI cJ cZ) := E
  have hl : lv_has ls 6 [(0, .ref (h 1)), (1, .int x1), (2, .int x2), (3, .int x3)] := hl
  have hx := E.1.1
  have hb := E.1.2.1
  have hml := E.1.2.2.1
  unfold FX1_putNew at hF
  refine lv_iconst (v := 1) hx hb dX1_putNew_0 (by decide) ?_
  refine lv_iload_n hx hb dX1_putNew_1 rfl (lv_at hl 2 rfl) ?_
  refine lv_iadd hx hb dX1_putNew_2 ?_
  refine lv_iload_n hx hb dX1_putNew_3 rfl (lv_at hl 3 rfl) ?_
  refine lv_iadd hx hb dX1_putNew_4 ?_
  refine lv_istore (lv' := [(4, .int (((1 : Int32) + x2) + x3)), (0, .ref (h 1)), (1, .int x1), (2, .int x2), (3, .int x3)]) hx hb dX1_putNew_5 hl (by decide) rfl (fun ls hl => ?_)
  refine lv_iload hx hb dX1_putNew_7 (lv_at hl 0 rfl) ?_
  refine lv_aload_n hx hb dX1_putNew_9 rfl (lv_at hl 1 rfl) ?_
  refine g_1_5 E hP dX1_putNew_10 ?_
  refine lv_icmp_gt (tgt := 35) hx hb dX1_putNew_13 (by decide) (fun hc => ?_) (fun hc => ?_)
  · have hF := if_t hc hF
    refine lv_aload_n hx hb dX1_putNew_35 rfl (lv_at hl 1 rfl) ?_
    refine lv_aload_n hx hb dX1_putNew_36 rfl (lv_at hl 1 rfl) ?_
    refine lv_iload_n hx hb dX1_putNew_37 rfl (lv_at hl 2 rfl) ?_
    obtain ⟨r1, u2, hc3, hF⟩ := bd_some hF
    refine call_i (rest := [.ref (h 1)]) E hA hP hD hS hl.1 (kX1_pageOf l D h cI cJ cZ n x1 st r1 u2 hc3) cw_X1_94 1 rfl rfl rfl rfl rfl (Nat.le_of_ble_eq_true rfl) ⟨Nat.le_of_ble_eq_true rfl, Nat.le_of_ble_eq_true rfl⟩ ⟨Nat.zero_le _, Nat.zero_le _⟩ dX1_putNew_38 (fun H locs hP hD hS => ?_)
    refine lv_iload hx hb dX1_putNew_41 (lv_at hl 0 rfl) ?_
    obtain ⟨r4, u5, hc6, hF⟩ := bd_some hF
    refine call_v (rest := []) E hA hP hD hS hl.1 (kX1_enterLong l D h cI cJ cZ n r1 (((1 : Int32) + x2) + x3) u2 r4 u5 hc6) cw_X1_97 1 rfl rfl rfl rfl rfl (Nat.le_of_ble_eq_true rfl) ⟨Nat.le_of_ble_eq_true rfl, Nat.le_of_ble_eq_true rfl⟩ ⟨Nat.zero_le _, Nat.zero_le _⟩ dX1_putNew_43 (fun H locs hP hD hS => ?_)
    exact jX1_putNew_46 E hr hlocks hA n x1 x2 x3 u5 _ _ _ hP hD hS (lv_sub hl [1, 2, 3, 4] rfl) hF
  · have hF := if_f hc hF
    refine lv_aload_n hx hb dX1_putNew_16 rfl (lv_at hl 1 rfl) ?_
    refine lv_iload_n hx hb dX1_putNew_17 rfl (lv_at hl 2 rfl) ?_
    refine lv_iload hx hb dX1_putNew_18 (lv_at hl 0 rfl) ?_
    obtain ⟨r11, u12, hc13, hF⟩ := bd_some hF
    refine call_v (rest := []) E hA hP hD hS hl.1 (kX1_enterSmall l D h cI cJ cZ n x1 (((1 : Int32) + x2) + x3) st r11 u12 hc13) cw_X1_90 1 rfl rfl rfl rfl rfl (Nat.le_of_ble_eq_true rfl) ⟨Nat.le_of_ble_eq_true rfl, Nat.le_of_ble_eq_true rfl⟩ ⟨Nat.zero_le _, Nat.zero_le _⟩ dX1_putNew_20 (fun H locs hP hD hS => ?_)
    refine lv_aload_n hx hb dX1_putNew_23 rfl (lv_at hl 1 rfl) ?_
    refine lv_aload_n hx hb dX1_putNew_24 rfl (lv_at hl 1 rfl) ?_
    refine lv_iload_n hx hb dX1_putNew_25 rfl (lv_at hl 2 rfl) ?_
    obtain ⟨r14, u15, hc16, hF⟩ := bd_some hF
    refine call_i (rest := [.ref (h 1)]) E hA hP hD hS hl.1 (kX1_pageOf l D h cI cJ cZ n x1 u12 r14 u15 hc16) cw_X1_94 1 rfl rfl rfl rfl rfl (Nat.le_of_ble_eq_true rfl) ⟨Nat.le_of_ble_eq_true rfl, Nat.le_of_ble_eq_true rfl⟩ ⟨Nat.zero_le _, Nat.zero_le _⟩ dX1_putNew_26 (fun H locs hP hD hS => ?_)
    refine s_1_6 E hP hD hS dX1_putNew_29 (fun H locs hP hD hS => ?_)
    refine lv_goto (tgt := 46) hx hb dX1_putNew_32 (by decide) ?_
    exact jX1_putNew_46 E hr hlocks hA n x1 x2 x3 (pt u15 1 6 r14) _ _ _ hP hD hS (lv_sub hl [1, 2, 3, 4] rfl) hF
-- LooseHeap$Space.copySmall
def FX1_copySmall (n : Nat) (x1 x2 : Int32) (st : St) : Option (Int32 × St) := bd (FX1_sizeOf n x1 st) (fun r1 u2 => bd (FX1_enterSmall n x2 r1 u2) (fun r4 u5 => gc x1 x2 r1 4096 4096 (some ((0 : Int32), (pf u5 5 (va_cpy (u5.1 5) (u5.1 5) x1.toNatClampNeg x2.toNatClampNeg r1.toNatClampNeg))))))
set_option maxHeartbeats 4000000 in
set_option maxRecDepth 100000 in
theorem kX1_copySmall (l : Launch) (D : va_G) (h : Nat → Nat) (cI cJ cZ : ClassId) (n : Nat) (x1 x2 : Int32) (st : St) (r : Int32) (u : St) (hF : FX1_copySmall n x1 x2 st = some (r, u)) : Cv l yX1_copySmall cX1_copySmall 4 2 100 D (tyL cI cJ cZ) (wX h cI cJ cZ) st [.ref (h 1), .int x1, .int x2] u := by
  refine body_v (by decide +kernel) (Nat.le_of_ble_eq_true rfl) ?_
  intro p e s m below meth c A ls E hr hlocks hA hP hD hS hl
  have E : Env1 p s m _ c cX1_copySmall 4 RX1 D (tyL cI cJ cZ) := E
  have hl : lv_has ls 4 [(0, .ref (h 1)), (1, .int x1), (2, .int x2)] := hl
  have hx := E.1.1
  have hb := E.1.2.1
  have hml := E.1.2.2.1
  unfold FX1_copySmall at hF
  refine lv_aload_n hx hb dX1_copySmall_0 rfl (lv_at hl 0 rfl) ?_
  refine lv_iload_n hx hb dX1_copySmall_1 rfl (lv_at hl 1 rfl) ?_
  obtain ⟨r1, u2, hc3, hF⟩ := bd_some hF
  refine call_i (rest := []) E hA hP hD hS hl.1 (kX1_sizeOf l D h cI cJ cZ n x1 st r1 u2 hc3) cw_X1_64 1 rfl rfl rfl rfl rfl (Nat.le_of_ble_eq_true rfl) ⟨Nat.le_of_ble_eq_true rfl, Nat.le_of_ble_eq_true rfl⟩ ⟨Nat.zero_le _, Nat.zero_le _⟩ dX1_copySmall_2 (fun H locs hP hD hS => ?_)
  refine lv_istore_n (lv' := [(3, .int r1), (0, .ref (h 1)), (1, .int x1), (2, .int x2)]) hx hb dX1_copySmall_5 rfl hl (by decide) rfl (fun ls hl => ?_)
  refine lv_aload_n hx hb dX1_copySmall_6 rfl (lv_at hl 1 rfl) ?_
  refine lv_iload_n hx hb dX1_copySmall_7 rfl (lv_at hl 3 rfl) ?_
  refine lv_iload_n hx hb dX1_copySmall_8 rfl (lv_at hl 0 rfl) ?_
  obtain ⟨r4, u5, hc6, hF⟩ := bd_some hF
  refine call_v (rest := []) E hA hP hD hS hl.1 (kX1_enterSmall l D h cI cJ cZ n x2 r1 u2 r4 u5 hc6) cw_X1_90 1 rfl rfl rfl rfl rfl (Nat.le_of_ble_eq_true rfl) ⟨Nat.le_of_ble_eq_true rfl, Nat.le_of_ble_eq_true rfl⟩ ⟨Nat.zero_le _, Nat.zero_le _⟩ dX1_copySmall_9 (fun H locs hP hD hS => ?_)
  refine lv_aload_n hx hb dX1_copySmall_12 rfl (lv_at hl 1 rfl) ?_
  refine g_1_0 E hP dX1_copySmall_13 ?_
  refine lv_iload_n hx hb dX1_copySmall_16 rfl (lv_at hl 2 rfl) ?_
  refine lv_aload_n hx hb dX1_copySmall_17 rfl (lv_at hl 1 rfl) ?_
  refine g_1_0 E hP dX1_copySmall_18 ?_
  refine lv_iload_n hx hb dX1_copySmall_21 rfl (lv_at hl 3 rfl) ?_
  refine lv_iload_n hx hb dX1_copySmall_22 rfl (lv_at hl 0 rfl) ?_
  obtain ⟨hy7, hF⟩ := gc_some hF
  refine cpy_5_5 E hP hD hS hl.1 ml_X1_104 hy7 (Nat.le_of_ble_eq_true rfl) (Nat.le_of_ble_eq_true rfl) dX1_copySmall_23 (fun H locs hP hD hS => ?_)
  exact endV E hr hlocks hP hD hS dX1_copySmall_26 hF
-- LooseHeap$Space.freePage
def LX1_freePage_2 : Nat → Int32 → Int32 → St → Option (Int32 × St)
  | 0 => fun _ _ _ => none
  | n + 1 => fun x1 x2 st => (if (st.1 1 5) ≤ x2 then gd x1 64 (gd x1 64 (gd x1 64 (some ((0 : Int32), (pg (pt (pt st 6 x1.toNatClampNeg (0 : Int32)) 7 x1.toNatClampNeg (0 : Int32)) x1.toNatClampNeg (0 : Int64)))))) else bd (FX1_addressOf n x1 x2 st) (fun r4 u5 => gd r4 4096 (LX1_freePage_2 n x1 (x2 + (1 : Int32)) (pt u5 5 r4.toNatClampNeg (0 : Int32)))))
set_option maxHeartbeats 4000000 in
set_option maxRecDepth 100000 in
theorem lX1_freePage_2 {l : Launch} {D : va_G} {h : Nat → Nat} {cI cJ cZ : ClassId} {p : Program} {e : Env} {s : State} {m : MethodId} {args : Array Value} {below : List Frame} {meth : Method} {c : Code} {A : Nat → Prop} {r : Int32} {u : St} (E : Env1 p s m args c cX1_freePage 3 RX1 D (tyL cI cJ cZ)) (hr : meth.sig.returnType = none) (hlocks : meth.locks = false) (hA : ∀ q : Nat, s.heap.size ≤ q → A q) : ∀ (n : Nat) (x1 x2 : Int32) (st : St) (H : Heap) (locs : List Loc) (ls : Array Slot), va_P D vwCl (wX h cI cJ cZ st) H → va_D A (wX h cI cJ cZ st) → va_S A s.heap H locs → lv_has ls 3 [(0, .ref (h 1)), (1, .int x1), (2, .int x2)] → LX1_freePage_2 n x1 x2 st = some (r, u) → W p l e (rm 1 22) s m args below meth c H locs 0 0 (MQ below (CQv D (tyL cI cJ cZ) (wX h cI cJ cZ) A u) args s 0 0 A) (F0 m 2 ls []) := by
  have hx := E.1.1
  have hb := E.1.2.1
  have hml := E.1.2.2.1
  intro n
  induction n with
  | zero => intro x1 x2 st H locs ls hP hD hS hl hF; simp only [LX1_freePage_2] at hF; cases hF
  | succ n ih =>
    intro x1 x2 st H locs ls hP hD hS hl hF
    simp only [LX1_freePage_2] at hF
    refine lv_iload_n hx hb dX1_freePage_2 rfl (lv_at hl 2 rfl) ?_
    refine lv_aload_n hx hb dX1_freePage_3 rfl (lv_at hl 0 rfl) ?_
    refine g_1_5 E hP dX1_freePage_4 ?_
    refine lv_icmp_ge (tgt := 28) hx hb dX1_freePage_7 (by decide) (fun hc => ?_) (fun hc => ?_)
    · have hF := if_t hc hF
      refine lv_aload_n hx hb dX1_freePage_28 rfl (lv_at hl 0 rfl) ?_
      refine g_1_1 E hP dX1_freePage_29 ?_
      refine lv_iload_n hx hb dX1_freePage_32 rfl (lv_at hl 1 rfl) ?_
      refine lv_iconst (v := 0) hx hb dX1_freePage_33 (by decide) ?_
      obtain ⟨hi1, hF⟩ := gd_some hF
      refine sa_6 E hP hD hS hi1 dX1_freePage_34 (fun H locs hP hD hS => ?_)
      refine lv_aload_n hx hb dX1_freePage_35 rfl (lv_at hl 0 rfl) ?_
      refine g_1_2 E hP dX1_freePage_36 ?_
      refine lv_iload_n hx hb dX1_freePage_39 rfl (lv_at hl 1 rfl) ?_
      refine lv_iconst (v := 0) hx hb dX1_freePage_40 (by decide) ?_
      obtain ⟨hi2, hF⟩ := gd_some hF
      refine sa_7 E hP hD hS hi2 dX1_freePage_41 (fun H locs hP hD hS => ?_)
      refine lv_aload_n hx hb dX1_freePage_42 rfl (lv_at hl 0 rfl) ?_
      refine g_1_3 E hP dX1_freePage_43 ?_
      refine lv_iload_n hx hb dX1_freePage_46 rfl (lv_at hl 1 rfl) ?_
      refine lv_lconst (v := 0) hx hb dX1_freePage_47 rfl ?_
      obtain ⟨hi3, hF⟩ := gd_some hF
      refine sa_8 E hP hD hS hi3 dX1_freePage_48 (fun H locs hP hD hS => ?_)
      exact endV E hr hlocks hP hD hS dX1_freePage_49 hF
    · have hF := if_f hc hF
      refine lv_aload_n hx hb dX1_freePage_10 rfl (lv_at hl 0 rfl) ?_
      refine g_1_0 E hP dX1_freePage_11 ?_
      refine lv_aload_n hx hb dX1_freePage_14 rfl (lv_at hl 0 rfl) ?_
      refine lv_iload_n hx hb dX1_freePage_15 rfl (lv_at hl 1 rfl) ?_
      refine lv_iload_n hx hb dX1_freePage_16 rfl (lv_at hl 2 rfl) ?_
      obtain ⟨r4, u5, hc6, hF⟩ := bd_some hF
      refine call_i (rest := [.ref (h 5)]) E hA hP hD hS hl.1 (kX1_addressOf l D h cI cJ cZ n x1 x2 st r4 u5 hc6) cw_X1_73 1 rfl rfl rfl rfl rfl (Nat.le_of_ble_eq_true rfl) ⟨Nat.le_of_ble_eq_true rfl, Nat.le_of_ble_eq_true rfl⟩ ⟨Nat.zero_le _, Nat.zero_le _⟩ dX1_freePage_17 (fun H locs hP hD hS => ?_)
      refine lv_iconst (v := 0) hx hb dX1_freePage_20 (by decide) ?_
      obtain ⟨hi7, hF⟩ := gd_some hF
      refine sa_5 E hP hD hS hi7 dX1_freePage_21 (fun H locs hP hD hS => ?_)
      refine lv_iinc (v := (x2 + (1 : Int32))) (lv' := [(2, .int (x2 + (1 : Int32))), (0, .ref (h 1)), (1, .int x1)]) hx hb dX1_freePage_22 hl (k := 2) rfl rfl (by decide) rfl (fun ls hl => ?_)
      refine lv_goto (tgt := 2) hx hb dX1_freePage_25 (by decide) ?_
      exact ih _ _ _ _ _ _ hP hD hS (lv_sub hl [1, 2, 0] rfl) hF
def FX1_freePage (n : Nat) (x1 : Int32) (st : St) : Option (Int32 × St) := LX1_freePage_2 n x1 (0 : Int32) st
set_option maxHeartbeats 4000000 in
set_option maxRecDepth 100000 in
theorem kX1_freePage (l : Launch) (D : va_G) (h : Nat → Nat) (cI cJ cZ : ClassId) (n : Nat) (x1 : Int32) (st : St) (r : Int32) (u : St) (hF : FX1_freePage n x1 st = some (r, u)) : Cv l yX1_freePage cX1_freePage 3 1 22 D (tyL cI cJ cZ) (wX h cI cJ cZ) st [.ref (h 1), .int x1] u := by
  refine body_v (by decide +kernel) (Nat.le_of_ble_eq_true rfl) ?_
  intro p e s m below meth c A ls E hr hlocks hA hP hD hS hl
  have E : Env1 p s m _ c cX1_freePage 3 RX1 D (tyL cI cJ cZ) := E
  have hl : lv_has ls 3 [(0, .ref (h 1)), (1, .int x1)] := hl
  have hx := E.1.1
  have hb := E.1.2.1
  have hml := E.1.2.2.1
  unfold FX1_freePage at hF
  refine lv_iconst (v := 0) hx hb dX1_freePage_0 (by decide) ?_
  refine lv_istore_n (lv' := [(2, .int (0 : Int32)), (0, .ref (h 1)), (1, .int x1)]) hx hb dX1_freePage_1 rfl hl (by decide) rfl (fun ls hl => ?_)
  exact lX1_freePage_2 E hr hlocks hA n x1 (0 : Int32) st _ _ _ hP hD hS (lv_sub hl [1, 2, 0] rfl) hF
theorem cw_X1_115 : cwd RX1 115 RX1 yX1_freePage cX1_freePage 3 none 1 := ⟨tb_V (tb_in 348 (by decide +kernel) (by decide +kernel)) (tb_in 350 (by decide +kernel) (by decide +kernel)) (tb_in 18 (by decide +kernel) (by decide +kernel)) (tb_in 47 (by decide +kernel) (by decide +kernel)) (tb_in 351 (by decide +kernel) (by decide +kernel)), by decide +kernel⟩
-- LooseHeap$Space.freePagesBut
def LX1_freePagesBut_4 : Nat → Int32 → Int32 → St → Option (Int32 × St)
  | 0 => fun _ _ _ => none
  | n + 1 => fun x2 x3 st => (if (st.1 1 4) ≤ x3 then some (x2, st) else gd x3 64 ((if (st.1 6 x3.toNatClampNeg) = 0 then LX1_freePagesBut_4 n x2 (x3 + (1 : Int32)) st else gd x3 64 ((if (st.1 12 x3.toNatClampNeg) = 0 then bd (FX1_freePage n x3 st) (fun r3 u4 => LX1_freePagesBut_4 n (x2 + (1 : Int32)) (x3 + (1 : Int32)) u4) else LX1_freePagesBut_4 n x2 (x3 + (1 : Int32)) st)))))
set_option maxHeartbeats 4000000 in
set_option maxRecDepth 100000 in
theorem lX1_freePagesBut_4 {l : Launch} {D : va_G} {h : Nat → Nat} {cI cJ cZ : ClassId} {p : Program} {e : Env} {s : State} {m : MethodId} {args : Array Value} {below : List Frame} {meth : Method} {c : Code} {A : Nat → Prop} {r : Int32} {u : St} (E : Env1 p s m args c cX1_freePagesBut 4 RX1 D (tyL cI cJ cZ)) (hr : meth.sig.returnType = some .int) (hlocks : meth.locks = false) (hA : ∀ q : Nat, s.heap.size ≤ q → A q) : ∀ (n : Nat) (x2 x3 : Int32) (st : St) (H : Heap) (locs : List Loc) (ls : Array Slot), va_P D vwCl (wX h cI cJ cZ st) H → va_D A (wX h cI cJ cZ st) → va_S A s.heap H locs → lv_has ls 4 [(0, .ref (h 1)), (1, .ref (h 12)), (2, .int x2), (3, .int x3)] → LX1_freePagesBut_4 n x2 x3 st = some (r, u) → W p l e (rm 2 44) s m args below meth c H locs 0 0 (MQ below (CQ D (tyL cI cJ cZ) (wX h cI cJ cZ) A r u) args s 0 0 A) (F0 m 4 ls []) := by
  have hx := E.1.1
  have hb := E.1.2.1
  have hml := E.1.2.2.1
  intro n
  induction n with
  | zero => intro x2 x3 st H locs ls hP hD hS hl hF; simp only [LX1_freePagesBut_4] at hF; cases hF
  | succ n ih =>
    intro x2 x3 st H locs ls hP hD hS hl hF
    simp only [LX1_freePagesBut_4] at hF
    refine lv_iload_n hx hb dX1_freePagesBut_4 rfl (lv_at hl 3 rfl) ?_
    refine lv_aload_n hx hb dX1_freePagesBut_5 rfl (lv_at hl 0 rfl) ?_
    refine g_1_4 E hP dX1_freePagesBut_6 ?_
    refine lv_icmp_ge (tgt := 41) hx hb dX1_freePagesBut_9 (by decide) (fun hc => ?_) (fun hc => ?_)
    · have hF := if_t hc hF
      refine lv_iload_n hx hb dX1_freePagesBut_41 rfl (lv_at hl 2 rfl) ?_
      exact endI E hr hlocks hP hD hS dX1_freePagesBut_42 hF
    · have hF := if_f hc hF
      refine lv_aload_n hx hb dX1_freePagesBut_12 rfl (lv_at hl 0 rfl) ?_
      refine g_1_1 E hP dX1_freePagesBut_13 ?_
      refine lv_iload_n hx hb dX1_freePagesBut_16 rfl (lv_at hl 3 rfl) ?_
      obtain ⟨hi1, hF⟩ := gd_some hF
      refine la_6 E hP hi1 dX1_freePagesBut_17 ?_
      refine lv_if_eq (tgt := 35) hx hb dX1_freePagesBut_18 (by decide) (fun hc => ?_) (fun hc => ?_)
      · have hF := if_t hc hF
        refine lv_iinc (v := (x3 + (1 : Int32))) (lv' := [(3, .int (x3 + (1 : Int32))), (0, .ref (h 1)), (1, .ref (h 12)), (2, .int x2)]) hx hb dX1_freePagesBut_35 hl (k := 3) rfl rfl (by decide) rfl (fun ls hl => ?_)
        refine lv_goto (tgt := 4) hx hb dX1_freePagesBut_38 (by decide) ?_
        exact ih _ _ _ _ _ _ hP hD hS (lv_sub hl [1, 2, 3, 0] rfl) hF
      · have hF := if_f hc hF
        refine lv_aload_n hx hb dX1_freePagesBut_21 rfl (lv_at hl 1 rfl) ?_
        refine lv_iload_n hx hb dX1_freePagesBut_22 rfl (lv_at hl 3 rfl) ?_
        obtain ⟨hi2, hF⟩ := gd_some hF
        refine la_12 E hP hi2 dX1_freePagesBut_23 ?_
        refine lv_if_ne (tgt := 35) hx hb dX1_freePagesBut_24 (by decide) (fun hc => ?_) (fun hc => ?_)
        · have hF := if_f hc hF
          refine lv_iinc (v := (x3 + (1 : Int32))) (lv' := [(3, .int (x3 + (1 : Int32))), (0, .ref (h 1)), (1, .ref (h 12)), (2, .int x2)]) hx hb dX1_freePagesBut_35 hl (k := 3) rfl rfl (by decide) rfl (fun ls hl => ?_)
          refine lv_goto (tgt := 4) hx hb dX1_freePagesBut_38 (by decide) ?_
          exact ih _ _ _ _ _ _ hP hD hS (lv_sub hl [1, 2, 3, 0] rfl) hF
        · have hF := if_t hc hF
          refine lv_aload_n hx hb dX1_freePagesBut_27 rfl (lv_at hl 0 rfl) ?_
          refine lv_iload_n hx hb dX1_freePagesBut_28 rfl (lv_at hl 3 rfl) ?_
          obtain ⟨r3, u4, hc5, hF⟩ := bd_some hF
          refine call_v (rest := []) E hA hP hD hS hl.1 (kX1_freePage l D h cI cJ cZ n x3 st r3 u4 hc5) cw_X1_115 1 rfl rfl rfl rfl rfl (Nat.le_of_ble_eq_true rfl) ⟨Nat.le_of_ble_eq_true rfl, Nat.le_of_ble_eq_true rfl⟩ ⟨Nat.zero_le _, Nat.zero_le _⟩ dX1_freePagesBut_29 (fun H locs hP hD hS => ?_)
          refine lv_iinc (v := (x2 + (1 : Int32))) (lv' := [(2, .int (x2 + (1 : Int32))), (0, .ref (h 1)), (1, .ref (h 12)), (3, .int x3)]) hx hb dX1_freePagesBut_32 hl (k := 2) rfl rfl (by decide) rfl (fun ls hl => ?_)
          refine lv_iinc (v := (x3 + (1 : Int32))) (lv' := [(3, .int (x3 + (1 : Int32))), (2, .int (x2 + (1 : Int32))), (0, .ref (h 1)), (1, .ref (h 12))]) hx hb dX1_freePagesBut_35 hl (k := 3) rfl rfl (by decide) rfl (fun ls hl => ?_)
          refine lv_goto (tgt := 4) hx hb dX1_freePagesBut_38 (by decide) ?_
          exact ih _ _ _ _ _ _ hP hD hS (lv_sub hl [2, 3, 1, 0] rfl) hF
def FX1_freePagesBut (n : Nat) (st : St) : Option (Int32 × St) := LX1_freePagesBut_4 n (0 : Int32) (0 : Int32) st
set_option maxHeartbeats 4000000 in
set_option maxRecDepth 100000 in
theorem kX1_freePagesBut (l : Launch) (D : va_G) (h : Nat → Nat) (cI cJ cZ : ClassId) (n : Nat) (st : St) (r : Int32) (u : St) (hF : FX1_freePagesBut n  st = some (r, u)) : Ci l yX1_freePagesBut cX1_freePagesBut 4 (some .int) 2 44 D (tyL cI cJ cZ) (wX h cI cJ cZ) st [.ref (h 1), .ref (h 12)] r u := by
  refine body_i (by decide +kernel) (Nat.le_of_ble_eq_true rfl) ?_
  intro p e s m below meth c A ls E hr hlocks hA hP hD hS hl
  have E : Env1 p s m _ c cX1_freePagesBut 4 RX1 D (tyL cI cJ cZ) := E
  have hl : lv_has ls 4 [(0, .ref (h 1)), (1, .ref (h 12))] := hl
  have hx := E.1.1
  have hb := E.1.2.1
  have hml := E.1.2.2.1
  unfold FX1_freePagesBut at hF
  refine lv_iconst (v := 0) hx hb dX1_freePagesBut_0 (by decide) ?_
  refine lv_istore_n (lv' := [(2, .int (0 : Int32)), (0, .ref (h 1)), (1, .ref (h 12))]) hx hb dX1_freePagesBut_1 rfl hl (by decide) rfl (fun ls hl => ?_)
  refine lv_iconst (v := 0) hx hb dX1_freePagesBut_2 (by decide) ?_
  refine lv_istore_n (lv' := [(3, .int (0 : Int32)), (2, .int (0 : Int32)), (0, .ref (h 1)), (1, .ref (h 12))]) hx hb dX1_freePagesBut_3 rfl hl (by decide) rfl (fun ls hl => ?_)
  exact lX1_freePagesBut_4 E hr hlocks hA n (0 : Int32) (0 : Int32) st _ _ _ hP hD hS (lv_sub hl [2, 3, 1, 0] rfl) hF
