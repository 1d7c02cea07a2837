-- LooseHeap$Collector.startOver
def FX0_startOver (n : Nat) (st : St) : Option (Int32 × St) := some ((0 : Int32), (pt (pt (pt (pt (pt (pf (pt (pt st 2 10 (0 : Int32)) 2 11 (0 : Int32)) 13 (flI 64 (0 : Int32) ((pt (pt st 2 10 (0 : Int32)) 2 11 (0 : Int32)).1 13))) 2 13 (0 : Int32)) 2 14 (0 : Int32)) 2 15 (0 : Int32)) 2 16 (0 : Int32)) 2 17 (0 : Int32)))
set_option maxHeartbeats 4000000 in
set_option maxRecDepth 100000 in
theorem kX0_startOver (l : Launch) (D : va_G) (h : Nat → Nat) (cI cJ cZ : ClassId) (n : Nat) (st : St) (r : Int32) (u : St) (hF : FX0_startOver n  st = some (r, u)) : Cv l yX0_startOver cX0_startOver 1 1 40 D (tyL cI cJ cZ) (wX h cI cJ cZ) st [.ref (h 2)] u := by
  refine body_v (by decide +kernel) (Nat.le_of_ble_eq_true rfl) ?_
  intro p e s m below meth c A ls E hr hlocks hA hP hD hS hl
  have E : Env1 p s m _ c cX0_startOver 1 RX0 D (tyL cI cJ cZ) := E
  have hl : lv_has ls 1 [(0, .ref (h 2))] := hl
  have hx := E.1.1
  have hb := E.1.2.1
  have hml := E.1.2.2.1
  unfold FX0_startOver at hF
  refine lv_aload_n hx hb dX0_startOver_0 rfl (lv_at hl 0 rfl) ?_
  refine lv_iconst (v := 0) hx hb dX0_startOver_1 (by decide) ?_
  refine s_2_10 E hP hD hS dX0_startOver_2 (fun H locs hP hD hS => ?_)
  refine lv_aload_n hx hb dX0_startOver_5 rfl (lv_at hl 0 rfl) ?_
  refine lv_iconst (v := 0) hx hb dX0_startOver_6 (by decide) ?_
  refine s_2_11 E hP hD hS dX0_startOver_7 (fun H locs hP hD hS => ?_)
  refine lv_aload_n hx hb dX0_startOver_10 rfl (lv_at hl 0 rfl) ?_
  refine g_2_12 E hP dX0_startOver_11 ?_
  refine lv_iconst (v := 0) hx hb dX0_startOver_14 (by decide) ?_
  refine fill_13 E hA hP hD hS hl.1 ml_X0_39 (rest := []) (Nat.le_of_ble_eq_true rfl) ⟨Nat.le_of_ble_eq_true rfl, Nat.le_of_ble_eq_true rfl⟩ dX0_startOver_15 (fun H locs hP hD hS => ?_)
  refine lv_aload_n hx hb dX0_startOver_18 rfl (lv_at hl 0 rfl) ?_
  refine lv_iconst (v := 0) hx hb dX0_startOver_19 (by decide) ?_
  refine s_2_13 E hP hD hS dX0_startOver_20 (fun H locs hP hD hS => ?_)
  refine lv_aload_n hx hb dX0_startOver_23 rfl (lv_at hl 0 rfl) ?_
  refine lv_iconst (v := 0) hx hb dX0_startOver_24 (by decide) ?_
  refine s_2_14 E hP hD hS dX0_startOver_25 (fun H locs hP hD hS => ?_)
  refine lv_aload_n hx hb dX0_startOver_28 rfl (lv_at hl 0 rfl) ?_
  refine lv_iconst (v := 0) hx hb dX0_startOver_29 (by decide) ?_
  refine s_2_15 E hP hD hS dX0_startOver_30 (fun H locs hP hD hS => ?_)
  refine lv_aload_n hx hb dX0_startOver_33 rfl (lv_at hl 0 rfl) ?_
  refine lv_iconst (v := 0) hx hb dX0_startOver_34 (by decide) ?_
  refine s_2_16 E hP hD hS dX0_startOver_35 (fun H locs hP hD hS => ?_)
  refine lv_aload_n hx hb dX0_startOver_38 rfl (lv_at hl 0 rfl) ?_
  refine lv_iconst (v := 0) hx hb dX0_startOver_39 (by decide) ?_
  refine s_2_17 E hP hD hS dX0_startOver_40 (fun H locs hP hD hS => ?_)
  exact endV E hr hlocks hP hD hS dX0_startOver_43 hF
-- LooseHeap$Collector.done
def FX0_done (n : Nat) (st : St) : Option (Int32 × St) := some ((st.1 2 10), st)
set_option maxHeartbeats 4000000 in
set_option maxRecDepth 100000 in
theorem kX0_done (l : Launch) (D : va_G) (h : Nat → Nat) (cI cJ cZ : ClassId) (n : Nat) (st : St) (r : Int32) (u : St) (hF : FX0_done n  st = some (r, u)) : Ci l yX0_done cX0_done 1 (some .int) 0 0 D (tyL cI cJ cZ) (wX h cI cJ cZ) st [.ref (h 2)] r u := by
  refine body_i (by decide +kernel) (Nat.le_of_ble_eq_true rfl) ?_
  intro p e s m below meth c A ls E hr hlocks hA hP hD hS hl
  have E : Env1 p s m _ c cX0_done 1 RX0 D (tyL cI cJ cZ) := E
  have hl : lv_has ls 1 [(0, .ref (h 2))] := hl
  have hx := E.1.1
  have hb := E.1.2.1
  have hml := E.1.2.2.1
  unfold FX0_done at hF
  refine lv_aload_n hx hb dX0_done_0 rfl (lv_at hl 0 rfl) ?_
  refine g_2_10 E hP dX0_done_1 ?_
  exact endI E hr hlocks hP hD hS dX0_done_4 hF
-- LooseHeap$Collector.givenUp
def FX0_givenUp (n : Nat) (st : St) : Option (Int32 × St) := some ((st.1 2 11), st)
set_option maxHeartbeats 4000000 in
set_option maxRecDepth 100000 in
theorem kX0_givenUp (l : Launch) (D : va_G) (h : Nat → Nat) (cI cJ cZ : ClassId) (n : Nat) (st : St) (r : Int32) (u : St) (hF : FX0_givenUp n  st = some (r, u)) : Ci l yX0_givenUp cX0_givenUp 1 (some .int) 0 0 D (tyL cI cJ cZ) (wX h cI cJ cZ) st [.ref (h 2)] r u := by
  refine body_i (by decide +kernel) (Nat.le_of_ble_eq_true rfl) ?_
  intro p e s m below meth c A ls E hr hlocks hA hP hD hS hl
  have E : Env1 p s m _ c cX0_givenUp 1 RX0 D (tyL cI cJ cZ) := E
  have hl : lv_has ls 1 [(0, .ref (h 2))] := hl
  have hx := E.1.1
  have hb := E.1.2.1
  have hml := E.1.2.2.1
  unfold FX0_givenUp at hF
  refine lv_aload_n hx hb dX0_givenUp_0 rfl (lv_at hl 0 rfl) ?_
  refine g_2_11 E hP dX0_givenUp_1 ?_
  exact endI E hr hlocks hP hD hS dX0_givenUp_4 hF
-- LooseHeap$Collector.hitOf
def FX0_hitOf (n : Nat) (x1 : Int32) (st : St) : Option (Int32 × St) := gd x1 64 (some ((st.1 13 x1.toNatClampNeg), st))
set_option maxHeartbeats 4000000 in
set_option maxRecDepth 100000 in
theorem kX0_hitOf (l : Launch) (D : va_G) (h : Nat → Nat) (cI cJ cZ : ClassId) (n : Nat) (x1 : Int32) (st : St) (r : Int32) (u : St) (hF : FX0_hitOf n x1 st = some (r, u)) : Ci l yX0_hitOf cX0_hitOf 2 (some .int) 0 0 D (tyL cI cJ cZ) (wX h cI cJ cZ) st [.ref (h 2), .int x1] r u := by
  refine body_i (by decide +kernel) (Nat.le_of_ble_eq_true rfl) ?_
  intro p e s m below meth c A ls E hr hlocks hA hP hD hS hl
  have E : Env1 p s m _ c cX0_hitOf 2 RX0 D (tyL cI cJ cZ) := E
  have hl : lv_has ls 2 [(0, .ref (h 2)), (1, .int x1)] := hl
  have hx := E.1.1
  have hb := E.1.2.1
  have hml := E.1.2.2.1
  unfold FX0_hitOf at hF
  refine lv_aload_n hx hb dX0_hitOf_0 rfl (lv_at hl 0 rfl) ?_
  refine g_2_12 E hP dX0_hitOf_1 ?_
  refine lv_iload_n hx hb dX0_hitOf_4 rfl (lv_at hl 1 rfl) ?_
  obtain ⟨hi1, hF⟩ := gd_some hF
  refine la_13 E hP hi1 dX0_hitOf_5 ?_
  exact endI E hr hlocks hP hD hS dX0_hitOf_6 hF
-- LooseHeap$Collector.hitPages
def FX0_hitPages (n : Nat) (st : St) : Option (Int32 × St) := some ((st.1 2 13), st)
set_option maxHeartbeats 4000000 in
set_option maxRecDepth 100000 in
theorem kX0_hitPages (l : Launch) (D : va_G) (h : Nat → Nat) (cI cJ cZ : ClassId) (n : Nat) (st : St) (r : Int32) (u : St) (hF : FX0_hitPages n  st = some (r, u)) : Ci l yX0_hitPages cX0_hitPages 1 (some .int) 0 0 D (tyL cI cJ cZ) (wX h cI cJ cZ) st [.ref (h 2)] r u := by
  refine body_i (by decide +kernel) (Nat.le_of_ble_eq_true rfl) ?_
  intro p e s m below meth c A ls E hr hlocks hA hP hD hS hl
  have E : Env1 p s m _ c cX0_hitPages 1 RX0 D (tyL cI cJ cZ) := E
  have hl : lv_has ls 1 [(0, .ref (h 2))] := hl
  have hx := E.1.1
  have hb := E.1.2.1
  have hml := E.1.2.2.1
  unfold FX0_hitPages at hF
  refine lv_aload_n hx hb dX0_hitPages_0 rfl (lv_at hl 0 rfl) ?_
  refine g_2_13 E hP dX0_hitPages_1 ?_
  exact endI E hr hlocks hP hD hS dX0_hitPages_4 hF
-- LooseHeap$Collector.rowObjects
def FX0_rowObjects (n : Nat) (st : St) : Option (Int32 × St) := some ((st.1 2 14), st)
set_option maxHeartbeats 4000000 in
set_option maxRecDepth 100000 in
theorem kX0_rowObjects (l : Launch) (D : va_G) (h : Nat → Nat) (cI cJ cZ : ClassId) (n : Nat) (st : St) (r : Int32) (u : St) (hF : FX0_rowObjects n  st = some (r, u)) : Ci l yX0_rowObjects cX0_rowObjects 1 (some .int) 0 0 D (tyL cI cJ cZ) (wX h cI cJ cZ) st [.ref (h 2)] r u := by
  refine body_i (by decide +kernel) (Nat.le_of_ble_eq_true rfl) ?_
  intro p e s m below meth c A ls E hr hlocks hA hP hD hS hl
  have E : Env1 p s m _ c cX0_rowObjects 1 RX0 D (tyL cI cJ cZ) := E
  have hl : lv_has ls 1 [(0, .ref (h 2))] := hl
  have hx := E.1.1
  have hb := E.1.2.1
  have hml := E.1.2.2.1
  unfold FX0_rowObjects at hF
  refine lv_aload_n hx hb dX0_rowObjects_0 rfl (lv_at hl 0 rfl) ?_
  refine g_2_14 E hP dX0_rowObjects_1 ?_
  exact endI E hr hlocks hP hD hS dX0_rowObjects_4 hF
-- LooseHeap$Collector.movedObjects
def FX0_movedObjects (n : Nat) (st : St) : Option (Int32 × St) := some ((st.1 2 15), st)
set_option maxHeartbeats 4000000 in
set_option maxRecDepth 100000 in
theorem kX0_movedObjects (l : Launch) (D : va_G) (h : Nat → Nat) (cI cJ cZ : ClassId) (n : Nat) (st : St) (r : Int32) (u : St) (hF : FX0_movedObjects n  st = some (r, u)) : Ci l yX0_movedObjects cX0_movedObjects 1 (some .int) 0 0 D (tyL cI cJ cZ) (wX h cI cJ cZ) st [.ref (h 2)] r u := by
  refine body_i (by decide +kernel) (Nat.le_of_ble_eq_true rfl) ?_
  intro p e s m below meth c A ls E hr hlocks hA hP hD hS hl
  have E : Env1 p s m _ c cX0_movedObjects 1 RX0 D (tyL cI cJ cZ) := E
  have hl : lv_has ls 1 [(0, .ref (h 2))] := hl
  have hx := E.1.1
  have hb := E.1.2.1
  have hml := E.1.2.2.1
  unfold FX0_movedObjects at hF
  refine lv_aload_n hx hb dX0_movedObjects_0 rfl (lv_at hl 0 rfl) ?_
  refine g_2_15 E hP dX0_movedObjects_1 ?_
  exact endI E hr hlocks hP hD hS dX0_movedObjects_4 hF
-- LooseHeap$Collector.takenPages
def FX0_takenPages (n : Nat) (st : St) : Option (Int32 × St) := some ((st.1 2 16), st)
set_option maxHeartbeats 4000000 in
set_option maxRecDepth 100000 in
theorem kX0_takenPages (l : Launch) (D : va_G) (h : Nat → Nat) (cI cJ cZ : ClassId) (n : Nat) (st : St) (r : Int32) (u : St) (hF : FX0_takenPages n  st = some (r, u)) : Ci l yX0_takenPages cX0_takenPages 1 (some .int) 0 0 D (tyL cI cJ cZ) (wX h cI cJ cZ) st [.ref (h 2)] r u := by
  refine body_i (by decide +kernel) (Nat.le_of_ble_eq_true rfl) ?_
  intro p e s m below meth c A ls E hr hlocks hA hP hD hS hl
  have E : Env1 p s m _ c cX0_takenPages 1 RX0 D (tyL cI cJ cZ) := E
  have hl : lv_has ls 1 [(0, .ref (h 2))] := hl
  have hx := E.1.1
  have hb := E.1.2.1
  have hml := E.1.2.2.1
  unfold FX0_takenPages at hF
  refine lv_aload_n hx hb dX0_takenPages_0 rfl (lv_at hl 0 rfl) ?_
  refine g_2_16 E hP dX0_takenPages_1 ?_
  exact endI E hr hlocks hP hD hS dX0_takenPages_4 hF
-- LooseHeap$Collector.freedPages
def FX0_freedPages (n : Nat) (st : St) : Option (Int32 × St) := some ((st.1 2 17), st)
set_option maxHeartbeats 4000000 in
set_option maxRecDepth 100000 in
theorem kX0_freedPages (l : Launch) (D : va_G) (h : Nat → Nat) (cI cJ cZ : ClassId) (n : Nat) (st : St) (r : Int32) (u : St) (hF : FX0_freedPages n  st = some (r, u)) : Ci l yX0_freedPages cX0_freedPages 1 (some .int) 0 0 D (tyL cI cJ cZ) (wX h cI cJ cZ) st [.ref (h 2)] r u := by
  refine body_i (by decide +kernel) (Nat.le_of_ble_eq_true rfl) ?_
  intro p e s m below meth c A ls E hr hlocks hA hP hD hS hl
  have E : Env1 p s m _ c cX0_freedPages 1 RX0 D (tyL cI cJ cZ) := E
  have hl : lv_has ls 1 [(0, .ref (h 2))] := hl
  have hx := E.1.1
  have hb := E.1.2.1
  have hml := E.1.2.2.1
  unfold FX0_freedPages at hF
  refine lv_aload_n hx hb dX0_freedPages_0 rfl (lv_at hl 0 rfl) ?_
  refine g_2_17 E hP dX0_freedPages_1 ?_
  exact endI E hr hlocks hP hD hS dX0_freedPages_4 hF
-- LooseHeap$Collector.clearPlan
def LX0_clearPlan_15 : Nat → Int32 → St → Option (Int32 × St)
  | 0 => fun _ _ => none
  | n + 1 => fun x1 st => (if (64 : Int32) ≤ x1 then some ((0 : Int32), (pt (pt (pt (pt st 2 6 (-1 : Int32)) 2 7 (0 : Int32)) 2 8 (0 : Int32)) 2 9 (0 : Int32))) else gd x1 64 (gd x1 64 (LX0_clearPlan_15 n (x1 + (1 : Int32)) (pt (pt st 11 x1.toNatClampNeg (vp_nar .boolean (0 : Int32))) 12 x1.toNatClampNeg (vp_nar .boolean (0 : Int32))))))
set_option maxHeartbeats 4000000 in
set_option maxRecDepth 100000 in
theorem lX0_clearPlan_15 {l : Launch} {D : va_G} {h : Nat → Nat} {cI cJ cZ : ClassId} {p : Program} {e : Env} {s : State} {m : MethodId} {args : Array Value} {below : List Frame} {meth : Method} {c : Code} {A : Nat → Prop} {r : Int32} {u : St} (E : Env1 p s m args c cX0_clearPlan 2 RX0 D (tyL cI cJ cZ)) (hr : meth.sig.returnType = none) (hlocks : meth.locks = false) (hA : ∀ q : Nat, s.heap.size ≤ q → A q) : ∀ (n : Nat) (x1 : Int32) (st : St) (H : Heap) (locs : List Loc) (ls : Array Slot), va_P D vwCl (wX h cI cJ cZ st) H → va_D A (wX h cI cJ cZ st) → va_S A s.heap H locs → lv_has ls 2 [(0, .ref (h 2)), (1, .int x1)] → LX0_clearPlan_15 n x1 st = some (r, u) → W p l e (rm 1 40) s m args below meth c H locs 0 0 (MQ below (CQv D (tyL cI cJ cZ) (wX h cI cJ cZ) A u) args s 0 0 A) (F0 m 15 ls []) := by
  have hx := E.1.1
  have hb := E.1.2.1
  have hml := E.1.2.2.1
  intro n
  induction n with
  | zero => intro x1 st H locs ls hP hD hS hl hF; simp only [LX0_clearPlan_15] at hF; cases hF
  | succ n ih =>
    intro x1 st H locs ls hP hD hS hl hF
    simp only [LX0_clearPlan_15] at hF
    refine lv_iload_n hx hb dX0_clearPlan_15 rfl (lv_at hl 1 rfl) ?_
    refine lv_bipush (v := 64) hx hb dX0_clearPlan_16 (by decide) ?_
    refine lv_icmp_ge (tgt := 41) hx hb dX0_clearPlan_18 (by decide) (fun hc => ?_) (fun hc => ?_)
    · have hF := if_t hc hF
      refine lv_aload_n hx hb dX0_clearPlan_41 rfl (lv_at hl 0 rfl) ?_
      refine lv_iconst (v := (-1)) hx hb dX0_clearPlan_42 (by decide) ?_
      refine s_2_6 E hP hD hS dX0_clearPlan_43 (fun H locs hP hD hS => ?_)
      refine lv_aload_n hx hb dX0_clearPlan_46 rfl (lv_at hl 0 rfl) ?_
      refine lv_iconst (v := 0) hx hb dX0_clearPlan_47 (by decide) ?_
      refine s_2_7 E hP hD hS dX0_clearPlan_48 (fun H locs hP hD hS => ?_)
      refine lv_aload_n hx hb dX0_clearPlan_51 rfl (lv_at hl 0 rfl) ?_
      refine lv_iconst (v := 0) hx hb dX0_clearPlan_52 (by decide) ?_
      refine s_2_8 E hP hD hS dX0_clearPlan_53 (fun H locs hP hD hS => ?_)
      refine lv_aload_n hx hb dX0_clearPlan_56 rfl (lv_at hl 0 rfl) ?_
      refine lv_iconst (v := 0) hx hb dX0_clearPlan_57 (by decide) ?_
      refine s_2_9 E hP hD hS dX0_clearPlan_58 (fun H locs hP hD hS => ?_)
      exact endV E hr hlocks hP hD hS dX0_clearPlan_61 hF
    · have hF := if_f hc hF
      refine lv_aload_n hx hb dX0_clearPlan_21 rfl (lv_at hl 0 rfl) ?_
      refine g_2_4 E hP dX0_clearPlan_22 ?_
      refine lv_iload_n hx hb dX0_clearPlan_25 rfl (lv_at hl 1 rfl) ?_
      refine lv_iconst (v := 0) hx hb dX0_clearPlan_26 (by decide) ?_
      obtain ⟨hi1, hF⟩ := gd_some hF
      refine sa_11 E hP hD hS hi1 dX0_clearPlan_27 (fun H locs hP hD hS => ?_)
      refine lv_aload_n hx hb dX0_clearPlan_28 rfl (lv_at hl 0 rfl) ?_
      refine g_2_5 E hP dX0_clearPlan_29 ?_
      refine lv_iload_n hx hb dX0_clearPlan_32 rfl (lv_at hl 1 rfl) ?_
      refine lv_iconst (v := 0) hx hb dX0_clearPlan_33 (by decide) ?_
      obtain ⟨hi2, hF⟩ := gd_some hF
      refine sa_12 E hP hD hS hi2 dX0_clearPlan_34 (fun H locs hP hD hS => ?_)
      refine lv_iinc (v := (x1 + (1 : Int32))) (lv' := [(1, .int (x1 + (1 : Int32))), (0, .ref (h 2))]) hx hb dX0_clearPlan_35 hl (k := 1) rfl rfl (by decide) rfl (fun ls hl => ?_)
      refine lv_goto (tgt := 15) hx hb dX0_clearPlan_38 (by decide) ?_
      exact ih _ _ _ _ _ hP hD hS (lv_sub hl [1, 0] rfl) hF
def FX0_clearPlan (n : Nat) (st : St) : Option (Int32 × St) := LX0_clearPlan_15 n (0 : Int32) (pf (pt st 2 2 (0 : Int32)) 10 (flI 4096 (-1 : Int32) ((pt st 2 2 (0 : Int32)).1 10)))
set_option maxHeartbeats 4000000 in
set_option maxRecDepth 100000 in
theorem kX0_clearPlan (l : Launch) (D : va_G) (h : Nat → Nat) (cI cJ cZ : ClassId) (n : Nat) (st : St) (r : Int32) (u : St) (hF : FX0_clearPlan n  st = some (r, u)) : Cv l yX0_clearPlan cX0_clearPlan 2 1 40 D (tyL cI cJ cZ) (wX h cI cJ cZ) st [.ref (h 2)] u := by
  refine body_v (by decide +kernel) (Nat.le_of_ble_eq_true rfl) ?_
  intro p e s m below meth c A ls E hr hlocks hA hP hD hS hl
  have E : Env1 p s m _ c cX0_clearPlan 2 RX0 D (tyL cI cJ cZ) := E
  have hl : lv_has ls 2 [(0, .ref (h 2))] := hl
  have hx := E.1.1
  have hb := E.1.2.1
  have hml := E.1.2.2.1
  unfold FX0_clearPlan at hF
  refine lv_aload_n hx hb dX0_clearPlan_0 rfl (lv_at hl 0 rfl) ?_
  refine lv_iconst (v := 0) hx hb dX0_clearPlan_1 (by decide) ?_
  refine s_2_2 E hP hD hS dX0_clearPlan_2 (fun H locs hP hD hS => ?_)
  refine lv_aload_n hx hb dX0_clearPlan_5 rfl (lv_at hl 0 rfl) ?_
  refine g_2_3 E hP dX0_clearPlan_6 ?_
  refine lv_iconst (v := (-1)) hx hb dX0_clearPlan_9 (by decide) ?_
  refine fill_10 E hA hP hD hS hl.1 ml_X0_39 (rest := []) (Nat.le_of_ble_eq_true rfl) ⟨Nat.le_of_ble_eq_true rfl, Nat.le_of_ble_eq_true rfl⟩ dX0_clearPlan_10 (fun H locs hP hD hS => ?_)
  refine lv_iconst (v := 0) hx hb dX0_clearPlan_13 (by decide) ?_
  refine lv_istore_n (lv' := [(1, .int (0 : Int32)), (0, .ref (h 2))]) hx hb dX0_clearPlan_14 rfl hl (by decide) rfl (fun ls hl => ?_)
  exact lX0_clearPlan_15 E hr hlocks hA n (0 : Int32) (pf (pt st 2 2 (0 : Int32)) 10 (flI 4096 (-1 : Int32) ((pt st 2 2 (0 : Int32)).1 10))) _ _ _ hP hD hS (lv_sub hl [1, 0] rfl) hF
theorem cw_X0_116 : cwd RX0 116 RX1 yX1_isFree cX1_isFree 2 (some .boolean) 1 := ⟨tb_V (tb_in 221 (by decide +kernel) (by decide +kernel)) (tb_in 222 (by decide +kernel) (by decide +kernel)) (tb_in 223 (by decide +kernel) (by decide +kernel)) (tb_in 47 (by decide +kernel) (by decide +kernel)) (tb_in 224 (by decide +kernel) (by decide +kernel)), by decide +kernel⟩
theorem cw_X0_119 : cwd RX0 119 RX1 yX1_firstPageWith cX1_firstPageWith 3 (some .int) 1 := ⟨tb_V (tb_in 225 (by decide +kernel) (by decide +kernel)) (tb_in 226 (by decide +kernel) (by decide +kernel)) (tb_in 227 (by decide +kernel) (by decide +kernel)) (tb_in 47 (by decide +kernel) (by decide +kernel)) (tb_in 228 (by decide +kernel) (by decide +kernel)), by decide +kernel⟩
theorem cw_X0_122 : cwd RX0 122 RX1 yX1_pageBehind cX1_pageBehind 3 (some .int) 1 := ⟨tb_V (tb_in 229 (by decide +kernel) (by decide +kernel)) (tb_in 230 (by decide +kernel) (by decide +kernel)) (tb_in 231 (by decide +kernel) (by decide +kernel)) (tb_in 47 (by decide +kernel) (by decide +kernel)) (tb_in 232 (by decide +kernel) (by decide +kernel)), by decide +kernel⟩
-- LooseHeap$Collector.markHit
def LX0_markHit_33 : Nat → Int32 → Int32 → Int32 → Int32 → St → Option (Int32 × St)
  | 0 => fun _ _ _ _ _ => none
  | n + 1 => fun x1 x2 x3 x4 st => (if x3 ≤ x4 then some ((0 : Int32), st) else gd x4 64 (gd x4 64 (LX0_markHit_33 n x1 x2 x3 (x4 + (1 : Int32)) (pt (pt st 11 x4.toNatClampNeg (vp_nar .boolean (1 : Int32))) 12 x4.toNatClampNeg (vp_nar .boolean (1 : Int32))))))
set_option maxHeartbeats 4000000 in
set_option maxRecDepth 100000 in
theorem lX0_markHit_33 {l : Launch} {D : va_G} {h : Nat → Nat} {cI cJ cZ : ClassId} {p : Program} {e : Env} {s : State} {m : MethodId} {args : Array Value} {below : List Frame} {meth : Method} {c : Code} {A : Nat → Prop} {r : Int32} {u : St} (E : Env1 p s m args c cX0_markHit 5 RX0 D (tyL cI cJ cZ)) (hr : meth.sig.returnType = none) (hlocks : meth.locks = false) (hA : ∀ q : Nat, s.heap.size ≤ q → A q) : ∀ (n : Nat) (x1 x2 x3 x4 : Int32) (st : St) (H : Heap) (locs : List Loc) (ls : Array Slot), va_P D vwCl (wX h cI cJ cZ st) H → va_D A (wX h cI cJ cZ st) → va_S A s.heap H locs → lv_has ls 5 [(0, .ref (h 2)), (1, .int x1), (2, .int x2), (3, .int x3), (4, .int x4)] → LX0_markHit_33 n x1 x2 x3 x4 st = some (r, u) → W p l e (rm 1 22) s m args below meth c H locs 0 0 (MQ below (CQv D (tyL cI cJ cZ) (wX h cI cJ cZ) A u) args s 0 0 A) (F0 m 33 ls []) := by
  have hx := E.1.1
  have hb := E.1.2.1
  have hml := E.1.2.2.1
  intro n
  induction n with
  | zero => intro x1 x2 x3 x4 st H locs ls hP hD hS hl hF; simp only [LX0_markHit_33] at hF; cases hF
  | succ n ih =>
    intro x1 x2 x3 x4 st H locs ls hP hD hS hl hF
    simp only [LX0_markHit_33] at hF
    refine lv_iload hx hb dX0_markHit_33 (lv_at hl 4 rfl) ?_
    refine lv_iload_n hx hb dX0_markHit_35 rfl (lv_at hl 3 rfl) ?_
    refine lv_icmp_ge (tgt := 61) hx hb dX0_markHit_36 (by decide) (fun hc => ?_) (fun hc => ?_)
    · have hF := if_t hc hF
      exact endV E hr hlocks hP hD hS dX0_markHit_61 hF
    · have hF := if_f hc hF
      refine lv_aload_n hx hb dX0_markHit_39 rfl (lv_at hl 0 rfl) ?_
      refine g_2_4 E hP dX0_markHit_40 ?_
      refine lv_iload hx hb dX0_markHit_43 (lv_at hl 4 rfl) ?_
      refine lv_iconst (v := 1) hx hb dX0_markHit_45 (by decide) ?_
      obtain ⟨hi10, hF⟩ := gd_some hF
      refine sa_11 E hP hD hS hi10 dX0_markHit_46 (fun H locs hP hD hS => ?_)
      refine lv_aload_n hx hb dX0_markHit_47 rfl (lv_at hl 0 rfl) ?_
      refine g_2_5 E hP dX0_markHit_48 ?_
      refine lv_iload hx hb dX0_markHit_51 (lv_at hl 4 rfl) ?_
      refine lv_iconst (v := 1) hx hb dX0_markHit_53 (by decide) ?_
      obtain ⟨hi11, hF⟩ := gd_some hF
      refine sa_12 E hP hD hS hi11 dX0_markHit_54 (fun H locs hP hD hS => ?_)
      refine lv_iinc (v := (x4 + (1 : Int32))) (lv' := [(4, .int (x4 + (1 : Int32))), (0, .ref (h 2)), (1, .int x1), (2, .int x2), (3, .int x3)]) hx hb dX0_markHit_55 hl (k := 4) rfl rfl (by decide) rfl (fun ls hl => ?_)
      refine lv_goto (tgt := 33) hx hb dX0_markHit_58 (by decide) ?_
      exact ih _ _ _ _ _ _ _ _ hP hD hS (lv_sub hl [1, 2, 3, 4, 0] rfl) hF
def FX0_markHit (n : Nat) (x1 : Int32) (st : St) : Option (Int32 × St) := bd (FX1_isFree n x1 st) (fun r1 u2 => (if r1 = 0 then bd (FX1_firstPageWith n x1 u2) (fun r4 u5 => bd (FX1_pageBehind n r4 u5) (fun r7 u8 => LX0_markHit_33 n x1 r4 r7 r4 u8)) else some ((0 : Int32), u2)))
set_option maxHeartbeats 4000000 in
set_option maxRecDepth 100000 in
theorem kX0_markHit (l : Launch) (D : va_G) (h : Nat → Nat) (cI cJ cZ : ClassId) (n : Nat) (x1 : Int32) (st : St) (r : Int32) (u : St) (hF : FX0_markHit n x1 st = some (r, u)) : Cv l yX0_markHit cX0_markHit 5 1 22 D (tyL cI cJ cZ) (wX h cI cJ cZ) st [.ref (h 2), .int x1] u := by
  refine body_v (by decide +kernel) (Nat.le_of_ble_eq_true rfl) ?_
  intro p e s m below meth c A ls E hr hlocks hA hP hD hS hl
  have E : Env1 p s m _ c cX0_markHit 5 RX0 D (tyL cI cJ cZ) := E
  have hl : lv_has ls 5 [(0, .ref (h 2)), (1, .int x1)] := hl
  have hx := E.1.1
  have hb := E.1.2.1
  have hml := E.1.2.2.1
  unfold FX0_markHit at hF
  refine lv_aload_n hx hb dX0_markHit_0 rfl (lv_at hl 0 rfl) ?_
  refine g_2_0 E hP dX0_markHit_1 ?_
  refine lv_iload_n hx hb dX0_markHit_4 rfl (lv_at hl 1 rfl) ?_
  obtain ⟨r1, u2, hc3, hF⟩ := bd_some hF
  refine call_i (rest := []) E hA hP hD hS hl.1 (kX1_isFree l D h cI cJ cZ n x1 st r1 u2 hc3) cw_X0_116 1 rfl rfl rfl rfl rfl (Nat.le_of_ble_eq_true rfl) ⟨Nat.le_of_ble_eq_true rfl, Nat.le_of_ble_eq_true rfl⟩ ⟨Nat.zero_le _, Nat.zero_le _⟩ dX0_markHit_5 (fun H locs hP hD hS => ?_)
  refine lv_if_eq (tgt := 12) hx hb dX0_markHit_8 (by decide) (fun hc => ?_) (fun hc => ?_)
  · have hF := if_t hc hF
    refine lv_aload_n hx hb dX0_markHit_12 rfl (lv_at hl 0 rfl) ?_
    refine g_2_0 E hP dX0_markHit_13 ?_
    refine lv_iload_n hx hb dX0_markHit_16 rfl (lv_at hl 1 rfl) ?_
    obtain ⟨r4, u5, hc6, hF⟩ := bd_some hF
    refine call_i (rest := []) E hA hP hD hS hl.1 (kX1_firstPageWith l D h cI cJ cZ n x1 u2 r4 u5 hc6) cw_X0_119 1 rfl rfl rfl rfl rfl (Nat.le_of_ble_eq_true rfl) ⟨Nat.le_of_ble_eq_true rfl, Nat.le_of_ble_eq_true rfl⟩ ⟨Nat.zero_le _, Nat.zero_le _⟩ dX0_markHit_17 (fun H locs hP hD hS => ?_)
    refine lv_istore_n (lv' := [(2, .int r4), (0, .ref (h 2)), (1, .int x1)]) hx hb dX0_markHit_20 rfl hl (by decide) rfl (fun ls hl => ?_)
    refine lv_aload_n hx hb dX0_markHit_21 rfl (lv_at hl 1 rfl) ?_
    refine g_2_0 E hP dX0_markHit_22 ?_
    refine lv_iload_n hx hb dX0_markHit_25 rfl (lv_at hl 0 rfl) ?_
    obtain ⟨r7, u8, hc9, hF⟩ := bd_some hF
    refine call_i (rest := []) E hA hP hD hS hl.1 (kX1_pageBehind l D h cI cJ cZ n r4 u5 r7 u8 hc9) cw_X0_122 1 rfl rfl rfl rfl rfl (Nat.le_of_ble_eq_true rfl) ⟨Nat.le_of_ble_eq_true rfl, Nat.le_of_ble_eq_true rfl⟩ ⟨Nat.zero_le _, Nat.zero_le _⟩ dX0_markHit_26 (fun H locs hP hD hS => ?_)
    refine lv_istore_n (lv' := [(3, .int r7), (2, .int r4), (0, .ref (h 2)), (1, .int x1)]) hx hb dX0_markHit_29 rfl hl (by decide) rfl (fun ls hl => ?_)
    refine lv_iload_n hx hb dX0_markHit_30 rfl (lv_at hl 1 rfl) ?_
    refine lv_istore (lv' := [(4, .int r4), (3, .int r7), (2, .int r4), (0, .ref (h 2)), (1, .int x1)]) hx hb dX0_markHit_31 hl (by decide) rfl (fun ls hl => ?_)
    exact lX0_markHit_33 E hr hlocks hA n x1 r4 r7 r4 u8 _ _ _ hP hD hS (lv_sub hl [3, 4, 2, 1, 0] rfl) hF
  · have hF := if_f hc hF
    exact endV E hr hlocks hP hD hS dX0_markHit_11 hF
theorem cw_X0_102 : cwd RX0 102 RX1 yX1_isAddress cX1_isAddress 2 (some .boolean) 1 := ⟨tb_V (tb_in 209 (by decide +kernel) (by decide +kernel)) (tb_in 210 (by decide +kernel) (by decide +kernel)) (tb_in 211 (by decide +kernel) (by decide +kernel)) (tb_in 47 (by decide +kernel) (by decide +kernel)) (tb_in 212 (by decide +kernel) (by decide +kernel)), by decide +kernel⟩
theorem cw_X0_108 : cwd RX0 108 RX1 yX1_pageOf cX1_pageOf 2 (some .int) 1 := ⟨tb_V (tb_in 213 (by decide +kernel) (by decide +kernel)) (tb_in 214 (by decide +kernel) (by decide +kernel)) (tb_in 215 (by decide +kernel) (by decide +kernel)) (tb_in 47 (by decide +kernel) (by decide +kernel)) (tb_in 216 (by decide +kernel) (by decide +kernel)), by decide +kernel⟩
theorem cw_X0_112 : cwd RX0 112 RX0 yX0_markHit cX0_markHit 5 none 1 := ⟨tb_V (tb_in 217 (by decide +kernel) (by decide +kernel)) (tb_in 219 (by decide +kernel) (by decide +kernel)) (tb_in 3 (by decide +kernel) (by decide +kernel)) (tb_in 48 (by decide +kernel) (by decide +kernel)) (tb_in 220 (by decide +kernel) (by decide +kernel)), by decide +kernel⟩
-- LooseHeap$Collector.markHits
def LX0_markHits_2 : Nat → Int32 → St → Option (Int32 × St)
  | 0 => fun _ _ => none
  | n + 1 => fun x2 st => (if (32 : Int32) ≤ x2 then some ((0 : Int32), st) else gd x2 32 (bd (FX1_isAddress n (st.1 4 x2.toNatClampNeg) st) (fun r2 u3 => (if r2 = 0 then LX0_markHits_2 n (x2 + (1 : Int32)) u3 else gd x2 32 (bd (FX1_pageOf n (u3.1 4 x2.toNatClampNeg) u3) (fun r6 u7 => bd (FX0_markHit n r6 u7) (fun r9 u10 => LX0_markHits_2 n (x2 + (1 : Int32)) u10)))))))
set_option maxHeartbeats 4000000 in
set_option maxRecDepth 100000 in
theorem lX0_markHits_2 {l : Launch} {D : va_G} {h : Nat → Nat} {cI cJ cZ : ClassId} {p : Program} {e : Env} {s : State} {m : MethodId} {args : Array Value} {below : List Frame} {meth : Method} {c : Code} {A : Nat → Prop} {r : Int32} {u : St} (E : Env1 p s m args c cX0_markHits 3 RX0 D (tyL cI cJ cZ)) (hr : meth.sig.returnType = none) (hlocks : meth.locks = false) (hA : ∀ q : Nat, s.heap.size ≤ q → A q) : ∀ (n : Nat) (x2 : Int32) (st : St) (H : Heap) (locs : List Loc) (ls : Array Slot), va_P D vwCl (wX h cI cJ cZ st) H → va_D A (wX h cI cJ cZ st) → va_S A s.heap H locs → lv_has ls 3 [(0, .ref (h 2)), (1, .ref (h 4)), (2, .int x2)] → LX0_markHits_2 n x2 st = some (r, u) → W p l e (rm 2 46) s m args below meth c H locs 0 0 (MQ below (CQv D (tyL cI cJ cZ) (wX h cI cJ cZ) A u) args s 0 0 A) (F0 m 2 ls []) := by
  have hx := E.1.1
  have hb := E.1.2.1
  have hml := E.1.2.2.1
  intro n
  induction n with
  | zero => intro x2 st H locs ls hP hD hS hl hF; simp only [LX0_markHits_2] at hF; cases hF
  | succ n ih =>
    intro x2 st H locs ls hP hD hS hl hF
    simp only [LX0_markHits_2] at hF
    refine lv_iload_n hx hb dX0_markHits_2 rfl (lv_at hl 2 rfl) ?_
    refine lv_aload_n hx hb dX0_markHits_3 rfl (lv_at hl 1 rfl) ?_
    refine al_4 E hP dX0_markHits_4 ?_
    refine lv_icmp_ge (tgt := 41) hx hb dX0_markHits_5 (by decide) (fun hc => ?_) (fun hc => ?_)
    · have hF := if_t hc hF
      exact endV E hr hlocks hP hD hS dX0_markHits_41 hF
    · have hF := if_f hc hF
      refine lv_aload_n hx hb dX0_markHits_8 rfl (lv_at hl 0 rfl) ?_
      refine g_2_0 E hP dX0_markHits_9 ?_
      refine lv_aload_n hx hb dX0_markHits_12 rfl (lv_at hl 1 rfl) ?_
      refine lv_iload_n hx hb dX0_markHits_13 rfl (lv_at hl 2 rfl) ?_
      obtain ⟨hi1, hF⟩ := gd_some hF
      refine la_4 E hP hi1 dX0_markHits_14 ?_
      obtain ⟨r2, u3, hc4, hF⟩ := bd_some hF
      refine call_i (rest := []) E hA hP hD hS hl.1 (kX1_isAddress l D h cI cJ cZ n (st.1 4 x2.toNatClampNeg) st r2 u3 hc4) cw_X0_102 1 rfl rfl rfl rfl rfl (Nat.le_of_ble_eq_true rfl) ⟨Nat.le_of_ble_eq_true rfl, Nat.le_of_ble_eq_true rfl⟩ ⟨Nat.zero_le _, Nat.zero_le _⟩ dX0_markHits_15 (fun H locs hP hD hS => ?_)
      refine lv_if_eq (tgt := 35) hx hb dX0_markHits_18 (by decide) (fun hc => ?_) (fun hc => ?_)
      · have hF := if_t hc hF
        refine lv_iinc (v := (x2 + (1 : Int32))) (lv' := [(2, .int (x2 + (1 : Int32))), (0, .ref (h 2)), (1, .ref (h 4))]) hx hb dX0_markHits_35 hl (k := 2) rfl rfl (by decide) rfl (fun ls hl => ?_)
        refine lv_goto (tgt := 2) hx hb dX0_markHits_38 (by decide) ?_
        exact ih _ _ _ _ _ hP hD hS (lv_sub hl [1, 2, 0] rfl) hF
      · have hF := if_f hc hF
        refine lv_aload_n hx hb dX0_markHits_21 rfl (lv_at hl 0 rfl) ?_
        refine lv_aload_n hx hb dX0_markHits_22 rfl (lv_at hl 0 rfl) ?_
        refine g_2_0 E hP dX0_markHits_23 ?_
        refine lv_aload_n hx hb dX0_markHits_26 rfl (lv_at hl 1 rfl) ?_
        refine lv_iload_n hx hb dX0_markHits_27 rfl (lv_at hl 2 rfl) ?_
        obtain ⟨hi5, hF⟩ := gd_some hF
        refine la_4 E hP hi5 dX0_markHits_28 ?_
        obtain ⟨r6, u7, hc8, hF⟩ := bd_some hF
        refine call_i (rest := [.ref (h 2)]) E hA hP hD hS hl.1 (kX1_pageOf l D h cI cJ cZ n (u3.1 4 x2.toNatClampNeg) u3 r6 u7 hc8) cw_X0_108 1 rfl rfl rfl rfl rfl (Nat.le_of_ble_eq_true rfl) ⟨Nat.le_of_ble_eq_true rfl, Nat.le_of_ble_eq_true rfl⟩ ⟨Nat.zero_le _, Nat.zero_le _⟩ dX0_markHits_29 (fun H locs hP hD hS => ?_)
        obtain ⟨r9, u10, hc11, hF⟩ := bd_some hF
        refine call_v (rest := []) E hA hP hD hS hl.1 (kX0_markHit l D h cI cJ cZ n r6 u7 r9 u10 hc11) cw_X0_112 2 rfl rfl rfl rfl rfl (Nat.le_of_ble_eq_true rfl) ⟨Nat.le_of_ble_eq_true rfl, Nat.le_of_ble_eq_true rfl⟩ ⟨Nat.zero_le _, Nat.zero_le _⟩ dX0_markHits_32 (fun H locs hP hD hS => ?_)
        refine lv_iinc (v := (x2 + (1 : Int32))) (lv' := [(2, .int (x2 + (1 : Int32))), (0, .ref (h 2)), (1, .ref (h 4))]) hx hb dX0_markHits_35 hl (k := 2) rfl rfl (by decide) rfl (fun ls hl => ?_)
        refine lv_goto (tgt := 2) hx hb dX0_markHits_38 (by decide) ?_
        exact ih _ _ _ _ _ hP hD hS (lv_sub hl [1, 2, 0] rfl) hF
def FX0_markHits (n : Nat) (st : St) : Option (Int32 × St) := LX0_markHits_2 n (0 : Int32) st
set_option maxHeartbeats 4000000 in
set_option maxRecDepth 100000 in
theorem kX0_markHits (l : Launch) (D : va_G) (h : Nat → Nat) (cI cJ cZ : ClassId) (n : Nat) (st : St) (r : Int32) (u : St) (hF : FX0_markHits n  st = some (r, u)) : Cv l yX0_markHits cX0_markHits 3 2 46 D (tyL cI cJ cZ) (wX h cI cJ cZ) st [.ref (h 2), .ref (h 4)] u := by
  refine body_v (by decide +kernel) (Nat.le_of_ble_eq_true rfl) ?_
  intro p e s m below meth c A ls E hr hlocks hA hP hD hS hl
  have E : Env1 p s m _ c cX0_markHits 3 RX0 D (tyL cI cJ cZ) := E
  have hl : lv_has ls 3 [(0, .ref (h 2)), (1, .ref (h 4))] := hl
  have hx := E.1.1
  have hb := E.1.2.1
  have hml := E.1.2.2.1
  unfold FX0_markHits at hF
  refine lv_iconst (v := 0) hx hb dX0_markHits_0 (by decide) ?_
  refine lv_istore_n (lv' := [(2, .int (0 : Int32)), (0, .ref (h 2)), (1, .ref (h 4))]) hx hb dX0_markHits_1 rfl hl (by decide) rfl (fun ls hl => ?_)
  exact lX0_markHits_2 E hr hlocks hA n (0 : Int32) st _ _ _ hP hD hS (lv_sub hl [1, 2, 0] rfl) hF
-- LooseHeap$Collector.addToRow
def FX0_addToRow (n : Nat) (x1 x2 : Int32) (st : St) : Option (Int32 × St) := gd (st.1 2 2) 4096 (gd x1 4096 (some ((0 : Int32), (pt (pt (pt st 9 (st.1 2 2).toNatClampNeg x1) 2 2 (((pt st 9 (st.1 2 2).toNatClampNeg x1).1 2 2) + (1 : Int32))) 10 x1.toNatClampNeg x2))))
set_option maxHeartbeats 4000000 in
set_option maxRecDepth 100000 in
theorem kX0_addToRow (l : Launch) (D : va_G) (h : Nat → Nat) (cI cJ cZ : ClassId) (n : Nat) (x1 x2 : Int32) (st : St) (r : Int32) (u : St) (hF : FX0_addToRow n x1 x2 st = some (r, u)) : Cv l yX0_addToRow cX0_addToRow 3 0 0 D (tyL cI cJ cZ) (wX h cI cJ cZ) st [.ref (h 2), .int x1, .int x2] u := by
  refine body_v (by decide +kernel) (Nat.le_of_ble_eq_true rfl) ?_
  intro p e s m below meth c A ls E hr hlocks hA hP hD hS hl
  have E : Env1 p s m _ c cX0_addToRow 3 RX0 D (tyL cI cJ cZ) := E
  have hl : lv_has ls 3 [(0, .ref (h 2)), (1, .int x1), (2, .int x2)] := hl
  have hx := E.1.1
  have hb := E.1.2.1
  have hml := E.1.2.2.1
  unfold FX0_addToRow at hF
  refine lv_aload_n hx hb dX0_addToRow_0 rfl (lv_at hl 0 rfl) ?_
  refine g_2_1 E hP dX0_addToRow_1 ?_
  refine lv_aload_n hx hb dX0_addToRow_4 rfl (lv_at hl 0 rfl) ?_
  refine g_2_2 E hP dX0_addToRow_5 ?_
  refine lv_iload_n hx hb dX0_addToRow_8 rfl (lv_at hl 1 rfl) ?_
  obtain ⟨hi1, hF⟩ := gd_some hF
  refine sa_9 E hP hD hS hi1 dX0_addToRow_9 (fun H locs hP hD hS => ?_)
  refine lv_aload_n hx hb dX0_addToRow_10 rfl (lv_at hl 0 rfl) ?_
  refine lv_dup hx hb dX0_addToRow_11 rfl ?_
  refine g_2_2 E hP dX0_addToRow_12 ?_
  refine lv_iconst (v := 1) hx hb dX0_addToRow_15 (by decide) ?_
  refine lv_iadd hx hb dX0_addToRow_16 ?_
  refine s_2_2 E hP hD hS dX0_addToRow_17 (fun H locs hP hD hS => ?_)
  refine lv_aload_n hx hb dX0_addToRow_20 rfl (lv_at hl 0 rfl) ?_
  refine g_2_3 E hP dX0_addToRow_21 ?_
  refine lv_iload_n hx hb dX0_addToRow_24 rfl (lv_at hl 1 rfl) ?_
  refine lv_iload_n hx hb dX0_addToRow_25 rfl (lv_at hl 2 rfl) ?_
  obtain ⟨hi2, hF⟩ := gd_some hF
  refine sa_10 E hP hD hS hi2 dX0_addToRow_26 (fun H locs hP hD hS => ?_)
  exact endV E hr hlocks hP hD hS dX0_addToRow_27 hF
theorem cw_X0_132 : cwd RX0 132 RX1 yX1_words cX1_words 1 (some .int) 0 := ⟨tb_V (tb_in 245 (by decide +kernel) (by decide +kernel)) (tb_in 246 (by decide +kernel) (by decide +kernel)) (tb_in 247 (by decide +kernel) (by decide +kernel)) (tb_in 47 (by decide +kernel) (by decide +kernel)) (tb_in 248 (by decide +kernel) (by decide +kernel)), by decide +kernel⟩
theorem cw_X0_135 : cwd RX0 135 RX1 yX1_addressOf cX1_addressOf 3 (some .int) 2 := ⟨tb_V (tb_in 249 (by decide +kernel) (by decide +kernel)) (tb_in 250 (by decide +kernel) (by decide +kernel)) (tb_in 251 (by decide +kernel) (by decide +kernel)) (tb_in 47 (by decide +kernel) (by decide +kernel)) (tb_in 252 (by decide +kernel) (by decide +kernel)), by decide +kernel⟩
theorem cw_X0_139 : cwd RX0 139 RX1 yX1_beginsAt cX1_beginsAt 2 (some .boolean) 1 := ⟨tb_V (tb_in 253 (by decide +kernel) (by decide +kernel)) (tb_in 254 (by decide +kernel) (by decide +kernel)) (tb_in 255 (by decide +kernel) (by decide +kernel)) (tb_in 47 (by decide +kernel) (by decide +kernel)) (tb_in 256 (by decide +kernel) (by decide +kernel)), by decide +kernel⟩
theorem cw_X0_142 : cwd RX0 142 RX0 yX0_addToRow cX0_addToRow 3 none 2 := ⟨tb_V (tb_in 258 (by decide +kernel) (by decide +kernel)) (tb_in 260 (by decide +kernel) (by decide +kernel)) (tb_in 6 (by decide +kernel) (by decide +kernel)) (tb_in 48 (by decide +kernel) (by decide +kernel)) (tb_in 261 (by decide +kernel) (by decide +kernel)), by decide +kernel⟩
-- LooseHeap$Collector.keepObjectsOf
def LX0_keepObjectsOf_2 : Nat → Int32 → Int32 → St → Option (Int32 × St)
  | 0 => fun _ _ _ => none
  | n + 1 => fun x1 x2 st => bd (FX1_words n  st) (fun r1 u2 => (if r1 ≤ x2 then some ((0 : Int32), u2) else bd (FX1_addressOf n x1 x2 u2) (fun r4 u5 => bd (FX1_beginsAt n r4 u5) (fun r7 u8 => (if r7 = 0 then LX0_keepObjectsOf_2 n x1 (x2 + (1 : Int32)) u8 else bd (FX0_addToRow n r4 r4 u8) (fun r10 u11 => LX0_keepObjectsOf_2 n x1 (x2 + (1 : Int32)) u11))))))
set_option maxHeartbeats 4000000 in
set_option maxRecDepth 100000 in
theorem lX0_keepObjectsOf_2 {l : Launch} {D : va_G} {h : Nat → Nat} {cI cJ cZ : ClassId} {p : Program} {e : Env} {s : State} {m : MethodId} {args : Array Value} {below : List Frame} {meth : Method} {c : Code} {A : Nat → Prop} {r : Int32} {u : St} (E : Env1 p s m args c cX0_keepObjectsOf 4 RX0 D (tyL cI cJ cZ)) (hr : meth.sig.returnType = none) (hlocks : meth.locks = false) (hA : ∀ q : Nat, s.heap.size ≤ q → A q) : ∀ (n : Nat) (x1 x2 : Int32) (st : St) (H : Heap) (locs : List Loc) (ls : Array Slot), va_P D vwCl (wX h cI cJ cZ st) H → va_D A (wX h cI cJ cZ st) → va_S A s.heap H locs → lv_has ls 4 [(0, .ref (h 2)), (1, .int x1), (2, .int x2)] → LX0_keepObjectsOf_2 n x1 x2 st = some (r, u) → W p l e (rm 2 42) s m args below meth c H locs 0 0 (MQ below (CQv D (tyL cI cJ cZ) (wX h cI cJ cZ) A u) args s 0 0 A) (F0 m 2 ls []) := by
  have hx := E.1.1
  have hb := E.1.2.1
  have hml := E.1.2.2.1
  intro n
  induction n with
  | zero => intro x1 x2 st H locs ls hP hD hS hl hF; simp only [LX0_keepObjectsOf_2] at hF; cases hF
  | succ n ih =>
    intro x1 x2 st H locs ls hP hD hS hl hF
    simp only [LX0_keepObjectsOf_2] at hF
    refine lv_iload_n hx hb dX0_keepObjectsOf_2 rfl (lv_at hl 2 rfl) ?_
    refine lv_aload_n hx hb dX0_keepObjectsOf_3 rfl (lv_at hl 0 rfl) ?_
    refine g_2_0 E hP dX0_keepObjectsOf_4 ?_
    obtain ⟨r1, u2, hc3, hF⟩ := bd_some hF
    refine call_i (rest := [.int x2]) E hA hP hD hS hl.1 (kX1_words l D h cI cJ cZ n  st r1 u2 hc3) cw_X0_132 1 rfl rfl rfl rfl rfl (Nat.le_of_ble_eq_true rfl) ⟨Nat.le_of_ble_eq_true rfl, Nat.le_of_ble_eq_true rfl⟩ ⟨Nat.zero_le _, Nat.zero_le _⟩ dX0_keepObjectsOf_7 (fun H locs hP hD hS => ?_)
    refine lv_icmp_ge (tgt := 46) hx hb dX0_keepObjectsOf_10 (by decide) (fun hc => ?_) (fun hc => ?_)
    · have hF := if_t hc hF
      exact endV E hr hlocks hP hD hS dX0_keepObjectsOf_46 hF
    · have hF := if_f hc hF
      refine lv_aload_n hx hb dX0_keepObjectsOf_13 rfl (lv_at hl 0 rfl) ?_
      refine g_2_0 E hP dX0_keepObjectsOf_14 ?_
      refine lv_iload_n hx hb dX0_keepObjectsOf_17 rfl (lv_at hl 1 rfl) ?_
      refine lv_iload_n hx hb dX0_keepObjectsOf_18 rfl (lv_at hl 2 rfl) ?_
      obtain ⟨r4, u5, hc6, hF⟩ := bd_some hF
      refine call_i (rest := []) E hA hP hD hS hl.1 (kX1_addressOf l D h cI cJ cZ n x1 x2 u2 r4 u5 hc6) cw_X0_135 1 rfl rfl rfl rfl rfl (Nat.le_of_ble_eq_true rfl) ⟨Nat.le_of_ble_eq_true rfl, Nat.le_of_ble_eq_true rfl⟩ ⟨Nat.zero_le _, Nat.zero_le _⟩ dX0_keepObjectsOf_19 (fun H locs hP hD hS => ?_)
      refine lv_istore_n (lv' := [(3, .int r4), (0, .ref (h 2)), (1, .int x1), (2, .int x2)]) hx hb dX0_keepObjectsOf_22 rfl hl (by decide) rfl (fun ls hl => ?_)
      refine lv_aload_n hx hb dX0_keepObjectsOf_23 rfl (lv_at hl 1 rfl) ?_
      refine g_2_0 E hP dX0_keepObjectsOf_24 ?_
      refine lv_iload_n hx hb dX0_keepObjectsOf_27 rfl (lv_at hl 0 rfl) ?_
      obtain ⟨r7, u8, hc9, hF⟩ := bd_some hF
      refine call_i (rest := []) E hA hP hD hS hl.1 (kX1_beginsAt l D h cI cJ cZ n r4 u5 r7 u8 hc9) cw_X0_139 1 rfl rfl rfl rfl rfl (Nat.le_of_ble_eq_true rfl) ⟨Nat.le_of_ble_eq_true rfl, Nat.le_of_ble_eq_true rfl⟩ ⟨Nat.zero_le _, Nat.zero_le _⟩ dX0_keepObjectsOf_28 (fun H locs hP hD hS => ?_)
      refine lv_if_eq (tgt := 40) hx hb dX0_keepObjectsOf_31 (by decide) (fun hc => ?_) (fun hc => ?_)
      · have hF := if_t hc hF
        refine lv_iinc (v := (x2 + (1 : Int32))) (lv' := [(2, .int (x2 + (1 : Int32))), (3, .int r4), (0, .ref (h 2)), (1, .int x1)]) hx hb dX0_keepObjectsOf_40 hl (k := 3) rfl rfl (by decide) rfl (fun ls hl => ?_)
        refine lv_goto (tgt := 2) hx hb dX0_keepObjectsOf_43 (by decide) ?_
        exact ih _ _ _ _ _ _ hP hD hS (lv_sub hl [2, 3, 0] rfl) hF
      · have hF := if_f hc hF
        refine lv_aload_n hx hb dX0_keepObjectsOf_34 rfl (lv_at hl 1 rfl) ?_
        refine lv_iload_n hx hb dX0_keepObjectsOf_35 rfl (lv_at hl 0 rfl) ?_
        refine lv_iload_n hx hb dX0_keepObjectsOf_36 rfl (lv_at hl 0 rfl) ?_
        obtain ⟨r10, u11, hc12, hF⟩ := bd_some hF
        refine call_v (rest := []) E hA hP hD hS hl.1 (kX0_addToRow l D h cI cJ cZ n r4 r4 u8 r10 u11 hc12) cw_X0_142 2 rfl rfl rfl rfl rfl (Nat.le_of_ble_eq_true rfl) ⟨Nat.le_of_ble_eq_true rfl, Nat.le_of_ble_eq_true rfl⟩ ⟨Nat.zero_le _, Nat.zero_le _⟩ dX0_keepObjectsOf_37 (fun H locs hP hD hS => ?_)
        refine lv_iinc (v := (x2 + (1 : Int32))) (lv' := [(2, .int (x2 + (1 : Int32))), (3, .int r4), (0, .ref (h 2)), (1, .int x1)]) hx hb dX0_keepObjectsOf_40 hl (k := 3) rfl rfl (by decide) rfl (fun ls hl => ?_)
        refine lv_goto (tgt := 2) hx hb dX0_keepObjectsOf_43 (by decide) ?_
        exact ih _ _ _ _ _ _ hP hD hS (lv_sub hl [2, 3, 0] rfl) hF
def FX0_keepObjectsOf (n : Nat) (x1 : Int32) (st : St) : Option (Int32 × St) := LX0_keepObjectsOf_2 n x1 (0 : Int32) st
set_option maxHeartbeats 4000000 in
set_option maxRecDepth 100000 in
theorem kX0_keepObjectsOf (l : Launch) (D : va_G) (h : Nat → Nat) (cI cJ cZ : ClassId) (n : Nat) (x1 : Int32) (st : St) (r : Int32) (u : St) (hF : FX0_keepObjectsOf n x1 st = some (r, u)) : Cv l yX0_keepObjectsOf cX0_keepObjectsOf 4 2 42 D (tyL cI cJ cZ) (wX h cI cJ cZ) st [.ref (h 2), .int x1] u := by
  refine body_v (by decide +kernel) (Nat.le_of_ble_eq_true rfl) ?_
  intro p e s m below meth c A ls E hr hlocks hA hP hD hS hl
  have E : Env1 p s m _ c cX0_keepObjectsOf 4 RX0 D (tyL cI cJ cZ) := E
  have hl : lv_has ls 4 [(0, .ref (h 2)), (1, .int x1)] := hl
  have hx := E.1.1
  have hb := E.1.2.1
  have hml := E.1.2.2.1
  unfold FX0_keepObjectsOf at hF
  refine lv_iconst (v := 0) hx hb dX0_keepObjectsOf_0 (by decide) ?_
  refine lv_istore_n (lv' := [(2, .int (0 : Int32)), (0, .ref (h 2)), (1, .int x1)]) hx hb dX0_keepObjectsOf_1 rfl hl (by decide) rfl (fun ls hl => ?_)
  exact lX0_keepObjectsOf_2 E hr hlocks hA n x1 (0 : Int32) st _ _ _ hP hD hS (lv_sub hl [1, 2, 0] rfl) hF
theorem cw_X0_125 : cwd RX0 125 RX1 yX1_pages cX1_pages 1 (some .int) 0 := ⟨tb_V (tb_in 237 (by decide +kernel) (by decide +kernel)) (tb_in 238 (by decide +kernel) (by decide +kernel)) (tb_in 239 (by decide +kernel) (by decide +kernel)) (tb_in 47 (by decide +kernel) (by decide +kernel)) (tb_in 240 (by decide +kernel) (by decide +kernel)), by decide +kernel⟩
theorem cw_X0_129 : cwd RX0 129 RX0 yX0_keepObjectsOf cX0_keepObjectsOf 4 none 1 := ⟨tb_V (tb_in 241 (by decide +kernel) (by decide +kernel)) (tb_in 243 (by decide +kernel) (by decide +kernel)) (tb_in 5 (by decide +kernel) (by decide +kernel)) (tb_in 48 (by decide +kernel) (by decide +kernel)) (tb_in 244 (by decide +kernel) (by decide +kernel)), by decide +kernel⟩
-- LooseHeap$Collector.keepHitObjects
def LX0_keepHitObjects_2 : Nat → Int32 → St → Option (Int32 × St)
  | 0 => fun _ _ => none
  | n + 1 => fun x1 st => bd (FX1_pages n  st) (fun r1 u2 => (if r1 ≤ x1 then some ((0 : Int32), u2) else gd x1 64 ((if (u2.1 11 x1.toNatClampNeg) = 0 then LX0_keepHitObjects_2 n (x1 + (1 : Int32)) u2 else bd (FX0_keepObjectsOf n x1 u2) (fun r5 u6 => LX0_keepHitObjects_2 n (x1 + (1 : Int32)) u6)))))
set_option maxHeartbeats 4000000 in
set_option maxRecDepth 100000 in
theorem lX0_keepHitObjects_2 {l : Launch} {D : va_G} {h : Nat → Nat} {cI cJ cZ : ClassId} {p : Program} {e : Env} {s : State} {m : MethodId} {args : Array Value} {below : List Frame} {meth : Method} {c : Code} {A : Nat → Prop} {r : Int32} {u : St} (E : Env1 p s m args c cX0_keepHitObjects 2 RX0 D (tyL cI cJ cZ)) (hr : meth.sig.returnType = none) (hlocks : meth.locks = false) (hA : ∀ q : Nat, s.heap.size ≤ q → A q) : ∀ (n : Nat) (x1 : Int32) (st : St) (H : Heap) (locs : List Loc) (ls : Array Slot), va_P D vwCl (wX h cI cJ cZ st) H → va_D A (wX h cI cJ cZ st) → va_S A s.heap H locs → lv_has ls 2 [(0, .ref (h 2)), (1, .int x1)] → LX0_keepHitObjects_2 n x1 st = some (r, u) → W p l e (rm 3 65) s m args below meth c H locs 0 0 (MQ below (CQv D (tyL cI cJ cZ) (wX h cI cJ cZ) A u) args s 0 0 A) (F0 m 2 ls []) := by
  have hx := E.1.1
  have hb := E.1.2.1
  have hml := E.1.2.2.1
  intro n
  induction n with
  | zero => intro x1 st H locs ls hP hD hS hl hF; simp only [LX0_keepHitObjects_2] at hF; cases hF
  | succ n ih =>
    intro x1 st H locs ls hP hD hS hl hF
    simp only [LX0_keepHitObjects_2] at hF
    refine lv_iload_n hx hb dX0_keepHitObjects_2 rfl (lv_at hl 1 rfl) ?_
    refine lv_aload_n hx hb dX0_keepHitObjects_3 rfl (lv_at hl 0 rfl) ?_
    refine g_2_0 E hP dX0_keepHitObjects_4 ?_
    obtain ⟨r1, u2, hc3, hF⟩ := bd_some hF
    refine call_i (rest := [.int x1]) E hA hP hD hS hl.1 (kX1_pages l D h cI cJ cZ n  st r1 u2 hc3) cw_X0_125 1 rfl rfl rfl rfl rfl (Nat.le_of_ble_eq_true rfl) ⟨Nat.le_of_ble_eq_true rfl, Nat.le_of_ble_eq_true rfl⟩ ⟨Nat.zero_le _, Nat.zero_le _⟩ dX0_keepHitObjects_7 (fun H locs hP hD hS => ?_)
    refine lv_icmp_ge (tgt := 33) hx hb dX0_keepHitObjects_10 (by decide) (fun hc => ?_) (fun hc => ?_)
    · have hF := if_t hc hF
      exact endV E hr hlocks hP hD hS dX0_keepHitObjects_33 hF
    · have hF := if_f hc hF
      refine lv_aload_n hx hb dX0_keepHitObjects_13 rfl (lv_at hl 0 rfl) ?_
      refine g_2_4 E hP dX0_keepHitObjects_14 ?_
      refine lv_iload_n hx hb dX0_keepHitObjects_17 rfl (lv_at hl 1 rfl) ?_
      obtain ⟨hi4, hF⟩ := gd_some hF
      refine la_11 E hP hi4 dX0_keepHitObjects_18 ?_
      refine lv_if_eq (tgt := 27) hx hb dX0_keepHitObjects_19 (by decide) (fun hc => ?_) (fun hc => ?_)
      · have hF := if_t hc hF
        refine lv_iinc (v := (x1 + (1 : Int32))) (lv' := [(1, .int (x1 + (1 : Int32))), (0, .ref (h 2))]) hx hb dX0_keepHitObjects_27 hl (k := 1) rfl rfl (by decide) rfl (fun ls hl => ?_)
        refine lv_goto (tgt := 2) hx hb dX0_keepHitObjects_30 (by decide) ?_
        exact ih _ _ _ _ _ hP hD hS (lv_sub hl [1, 0] rfl) hF
      · have hF := if_f hc hF
        refine lv_aload_n hx hb dX0_keepHitObjects_22 rfl (lv_at hl 0 rfl) ?_
        refine lv_iload_n hx hb dX0_keepHitObjects_23 rfl (lv_at hl 1 rfl) ?_
        obtain ⟨r5, u6, hc7, hF⟩ := bd_some hF
        refine call_v (rest := []) E hA hP hD hS hl.1 (kX0_keepObjectsOf l D h cI cJ cZ n x1 u2 r5 u6 hc7) cw_X0_129 2 rfl rfl rfl rfl rfl (Nat.le_of_ble_eq_true rfl) ⟨Nat.le_of_ble_eq_true rfl, Nat.le_of_ble_eq_true rfl⟩ ⟨Nat.zero_le _, Nat.zero_le _⟩ dX0_keepHitObjects_24 (fun H locs hP hD hS => ?_)
        refine lv_iinc (v := (x1 + (1 : Int32))) (lv' := [(1, .int (x1 + (1 : Int32))), (0, .ref (h 2))]) hx hb dX0_keepHitObjects_27 hl (k := 1) rfl rfl (by decide) rfl (fun ls hl => ?_)
        refine lv_goto (tgt := 2) hx hb dX0_keepHitObjects_30 (by decide) ?_
        exact ih _ _ _ _ _ hP hD hS (lv_sub hl [1, 0] rfl) hF
def FX0_keepHitObjects (n : Nat) (st : St) : Option (Int32 × St) := LX0_keepHitObjects_2 n (0 : Int32) st
set_option maxHeartbeats 4000000 in
set_option maxRecDepth 100000 in
theorem kX0_keepHitObjects (l : Launch) (D : va_G) (h : Nat → Nat) (cI cJ cZ : ClassId) (n : Nat) (st : St) (r : Int32) (u : St) (hF : FX0_keepHitObjects n  st = some (r, u)) : Cv l yX0_keepHitObjects cX0_keepHitObjects 2 3 65 D (tyL cI cJ cZ) (wX h cI cJ cZ) st [.ref (h 2)] u := by
  refine body_v (by decide +kernel) (Nat.le_of_ble_eq_true rfl) ?_
  intro p e s m below meth c A ls E hr hlocks hA hP hD hS hl
  have E : Env1 p s m _ c cX0_keepHitObjects 2 RX0 D (tyL cI cJ cZ) := E
  have hl : lv_has ls 2 [(0, .ref (h 2))] := hl
  have hx := E.1.1
  have hb := E.1.2.1
  have hml := E.1.2.2.1
  unfold FX0_keepHitObjects at hF
  refine lv_iconst (v := 0) hx hb dX0_keepHitObjects_0 (by decide) ?_
  refine lv_istore_n (lv' := [(1, .int (0 : Int32)), (0, .ref (h 2))]) hx hb dX0_keepHitObjects_1 rfl hl (by decide) rfl (fun ls hl => ?_)
  exact lX0_keepHitObjects_2 E hr hlocks hA n (0 : Int32) st _ _ _ hP hD hS (lv_sub hl [1, 0] rfl) hF
-- LooseHeap$Collector.keepLong
def LX0_keepLong_21 : Nat → Int32 → Int32 → Int32 → Int32 → St → Option (Int32 × St)
  | 0 => fun _ _ _ _ _ => none
  | n + 1 => fun x1 x2 x3 x4 st => (if x3 ≤ x4 then bd (FX0_addToRow n x1 x1 st) (fun r7 u8 => some ((0 : Int32), u8)) else gd x4 64 (LX0_keepLong_21 n x1 x2 x3 (x4 + (1 : Int32)) (pt st 12 x4.toNatClampNeg (vp_nar .boolean (1 : Int32)))))
set_option maxHeartbeats 4000000 in
set_option maxRecDepth 100000 in
theorem lX0_keepLong_21 {l : Launch} {D : va_G} {h : Nat → Nat} {cI cJ cZ : ClassId} {p : Program} {e : Env} {s : State} {m : MethodId} {args : Array Value} {below : List Frame} {meth : Method} {c : Code} {A : Nat → Prop} {r : Int32} {u : St} (E : Env1 p s m args c cX0_keepLong 5 RX0 D (tyL cI cJ cZ)) (hr : meth.sig.returnType = none) (hlocks : meth.locks = false) (hA : ∀ q : Nat, s.heap.size ≤ q → A q) : ∀ (n : Nat) (x1 x2 x3 x4 : Int32) (st : St) (H : Heap) (locs : List Loc) (ls : Array Slot), va_P D vwCl (wX h cI cJ cZ st) H → va_D A (wX h cI cJ cZ st) → va_S A s.heap H locs → lv_has ls 5 [(0, .ref (h 2)), (1, .int x1), (2, .int x2), (3, .int x3), (4, .int x4)] → LX0_keepLong_21 n x1 x2 x3 x4 st = some (r, u) → W p l e (rm 1 22) s m args below meth c H locs 0 0 (MQ below (CQv D (tyL cI cJ cZ) (wX h cI cJ cZ) A u) args s 0 0 A) (F0 m 21 ls []) := by
  have hx := E.1.1
  have hb := E.1.2.1
  have hml := E.1.2.2.1
  intro n
  induction n with
  | zero => intro x1 x2 x3 x4 st H locs ls hP hD hS hl hF; simp only [LX0_keepLong_21] at hF; cases hF
  | succ n ih =>
    intro x1 x2 x3 x4 st H locs ls hP hD hS hl hF
    simp only [LX0_keepLong_21] at hF
    refine lv_iload hx hb dX0_keepLong_21 (lv_at hl 4 rfl) ?_
    refine lv_iload_n hx hb dX0_keepLong_23 rfl (lv_at hl 3 rfl) ?_
    refine lv_icmp_ge (tgt := 41) hx hb dX0_keepLong_24 (by decide) (fun hc => ?_) (fun hc => ?_)
    · have hF := if_t hc hF
      refine lv_aload_n hx hb dX0_keepLong_41 rfl (lv_at hl 0 rfl) ?_
      refine lv_iload_n hx hb dX0_keepLong_42 rfl (lv_at hl 1 rfl) ?_
      refine lv_iload_n hx hb dX0_keepLong_43 rfl (lv_at hl 1 rfl) ?_
      obtain ⟨r7, u8, hc9, hF⟩ := bd_some hF
      refine call_v (rest := []) E hA hP hD hS hl.1 (kX0_addToRow l D h cI cJ cZ n x1 x1 st r7 u8 hc9) cw_X0_142 2 rfl rfl rfl rfl rfl (Nat.le_of_ble_eq_true rfl) ⟨Nat.le_of_ble_eq_true rfl, Nat.le_of_ble_eq_true rfl⟩ ⟨Nat.zero_le _, Nat.zero_le _⟩ dX0_keepLong_44 (fun H locs hP hD hS => ?_)
      exact endV E hr hlocks hP hD hS dX0_keepLong_47 hF
    · have hF := if_f hc hF
      refine lv_aload_n hx hb dX0_keepLong_27 rfl (lv_at hl 0 rfl) ?_
      refine g_2_5 E hP dX0_keepLong_28 ?_
      refine lv_iload hx hb dX0_keepLong_31 (lv_at hl 4 rfl) ?_
      refine lv_iconst (v := 1) hx hb dX0_keepLong_33 (by decide) ?_
      obtain ⟨hi10, hF⟩ := gd_some hF
      refine sa_12 E hP hD hS hi10 dX0_keepLong_34 (fun H locs hP hD hS => ?_)
      refine lv_iinc (v := (x4 + (1 : Int32))) (lv' := [(4, .int (x4 + (1 : Int32))), (0, .ref (h 2)), (1, .int x1), (2, .int x2), (3, .int x3)]) hx hb dX0_keepLong_35 hl (k := 4) rfl rfl (by decide) rfl (fun ls hl => ?_)
      refine lv_goto (tgt := 21) hx hb dX0_keepLong_38 (by decide) ?_
      exact ih _ _ _ _ _ _ _ _ hP hD hS (lv_sub hl [1, 2, 3, 4, 0] rfl) hF
def FX0_keepLong (n : Nat) (x1 : Int32) (st : St) : Option (Int32 × St) := bd (FX1_pageOf n x1 st) (fun r1 u2 => bd (FX1_pageBehind n r1 u2) (fun r4 u5 => LX0_keepLong_21 n x1 r1 r4 r1 u5))
set_option maxHeartbeats 4000000 in
set_option maxRecDepth 100000 in
theorem kX0_keepLong (l : Launch) (D : va_G) (h : Nat → Nat) (cI cJ cZ : ClassId) (n : Nat) (x1 : Int32) (st : St) (r : Int32) (u : St) (hF : FX0_keepLong n x1 st = some (r, u)) : Cv l yX0_keepLong cX0_keepLong 5 1 22 D (tyL cI cJ cZ) (wX h cI cJ cZ) st [.ref (h 2), .int x1] u := by
  refine body_v (by decide +kernel) (Nat.le_of_ble_eq_true rfl) ?_
  intro p e s m below meth c A ls E hr hlocks hA hP hD hS hl
  have E : Env1 p s m _ c cX0_keepLong 5 RX0 D (tyL cI cJ cZ) := E
  have hl : lv_has ls 5 [(0, .ref (h 2)), (1, .int x1)] := hl
  have hx := E.1.1
  have hb := E.1.2.1
  have hml := E.1.2.2.1
  unfold FX0_keepLong at hF
  refine lv_aload_n hx hb dX0_keepLong_0 rfl (lv_at hl 0 rfl) ?_
  refine g_2_0 E hP dX0_keepLong_1 ?_
  refine lv_iload_n hx hb dX0_keepLong_4 rfl (lv_at hl 1 rfl) ?_
  obtain ⟨r1, u2, hc3, hF⟩ := bd_some hF
  refine call_i (rest := []) E hA hP hD hS hl.1 (kX1_pageOf l D h cI cJ cZ n x1 st r1 u2 hc3) cw_X0_108 1 rfl rfl rfl rfl rfl (Nat.le_of_ble_eq_true rfl) ⟨Nat.le_of_ble_eq_true rfl, Nat.le_of_ble_eq_true rfl⟩ ⟨Nat.zero_le _, Nat.zero_le _⟩ dX0_keepLong_5 (fun H locs hP hD hS => ?_)
  refine lv_istore_n (lv' := [(2, .int r1), (0, .ref (h 2)), (1, .int x1)]) hx hb dX0_keepLong_8 rfl hl (by decide) rfl (fun ls hl => ?_)
  refine lv_aload_n hx hb dX0_keepLong_9 rfl (lv_at hl 1 rfl) ?_
  refine g_2_0 E hP dX0_keepLong_10 ?_
  refine lv_iload_n hx hb dX0_keepLong_13 rfl (lv_at hl 0 rfl) ?_
  obtain ⟨r4, u5, hc6, hF⟩ := bd_some hF
  refine call_i (rest := []) E hA hP hD hS hl.1 (kX1_pageBehind l D h cI cJ cZ n r1 u2 r4 u5 hc6) cw_X0_122 1 rfl rfl rfl rfl rfl (Nat.le_of_ble_eq_true rfl) ⟨Nat.le_of_ble_eq_true rfl, Nat.le_of_ble_eq_true rfl⟩ ⟨Nat.zero_le _, Nat.zero_le _⟩ dX0_keepLong_14 (fun H locs hP hD hS => ?_)
  refine lv_istore_n (lv' := [(3, .int r4), (2, .int r1), (0, .ref (h 2)), (1, .int x1)]) hx hb dX0_keepLong_17 rfl hl (by decide) rfl (fun ls hl => ?_)
  refine lv_iload_n hx hb dX0_keepLong_18 rfl (lv_at hl 1 rfl) ?_
  refine lv_istore (lv' := [(4, .int r1), (3, .int r4), (2, .int r1), (0, .ref (h 2)), (1, .int x1)]) hx hb dX0_keepLong_19 hl (by decide) rfl (fun ls hl => ?_)
  exact lX0_keepLong_21 E hr hlocks hA n x1 r1 r4 r1 u5 _ _ _ hP hD hS (lv_sub hl [3, 4, 2, 1, 0] rfl) hF
theorem cw_X0_164 : cwd RX0 164 RX1 yX1_sizeOf cX1_sizeOf 2 (some .int) 1 := ⟨tb_V (tb_in 294 (by decide +kernel) (by decide +kernel)) (tb_in 275 (by decide +kernel) (by decide +kernel)) (tb_in 276 (by decide +kernel) (by decide +kernel)) (tb_in 47 (by decide +kernel) (by decide +kernel)) (tb_in 277 (by decide +kernel) (by decide +kernel)), by decide +kernel⟩
theorem cw_X0_167 : cwd RX0 167 RX1 yX1_freePageFrom cX1_freePageFrom 3 (some .int) 1 := ⟨tb_V (tb_in 295 (by decide +kernel) (by decide +kernel)) (tb_in 296 (by decide +kernel) (by decide +kernel)) (tb_in 297 (by decide +kernel) (by decide +kernel)) (tb_in 47 (by decide +kernel) (by decide +kernel)) (tb_in 298 (by decide +kernel) (by decide +kernel)), by decide +kernel⟩
-- LooseHeap$Collector.planMove
def JX0_planMove_81 (n : Nat) (x1 x2 : Int32) (st : St) : Option (Int32 × St) := bd (FX1_addressOf n (st.1 2 6) (st.1 2 7) st) (fun r8 u9 => bd (FX0_addToRow n x1 r8 u9) (fun r11 u12 => some ((1 : Int32), (pt (pt u12 2 7 ((u12.1 2 7) + x2)) 2 8 (((pt u12 2 7 ((u12.1 2 7) + x2)).1 2 8) + (1 : Int32))))))
set_option maxHeartbeats 4000000 in
set_option maxRecDepth 100000 in
theorem jX0_planMove_81 {l : Launch} {D : va_G} {h : Nat → Nat} {cI cJ cZ : ClassId} {p : Program} {e : Env} {s : State} {m : MethodId} {args : Array Value} {below : List Frame} {meth : Method} {c : Code} {A : Nat → Prop} {r : Int32} {u : St} (E : Env1 p s m args c cX0_planMove 4 RX0 D (tyL cI cJ cZ)) (hr : meth.sig.returnType = some .boolean) (hlocks : meth.locks = false) (hA : ∀ q : Nat, s.heap.size ≤ q → A q) (n : Nat) (x1 x2 : Int32) (st : St) (H : Heap) (locs : List Loc) (ls : Array Slot) (hP : va_P D vwCl (wX h cI cJ cZ st) H) (hD : va_D A (wX h cI cJ cZ st)) (hS : va_S A s.heap H locs) (hl : lv_has ls 4 [(0, .ref (h 2)), (1, .int x1), (2, .int x2)]) (hF : JX0_planMove_81 n x1 x2 st = some (r, u)) : W p l e (rm 2 42) s m args below meth c H locs 0 0 (MQ below (CQ D (tyL cI cJ cZ) (wX h cI cJ cZ) A r u) args s 0 0 A) (F0 m 81 ls []) := by
  have hx := E.1.1
  have hb := E.1.2.1
  have hml := E.1.2.2.1
  unfold JX0_planMove_81 at hF
  refine lv_aload_n hx hb dX0_planMove_81 rfl (lv_at hl 0 rfl) ?_
  refine lv_iload_n hx hb dX0_planMove_82 rfl (lv_at hl 1 rfl) ?_
  refine lv_aload_n hx hb dX0_planMove_83 rfl (lv_at hl 0 rfl) ?_
  refine g_2_0 E hP dX0_planMove_84 ?_
  refine lv_aload_n hx hb dX0_planMove_87 rfl (lv_at hl 0 rfl) ?_
  refine g_2_6 E hP dX0_planMove_88 ?_
  refine lv_aload_n hx hb dX0_planMove_91 rfl (lv_at hl 0 rfl) ?_
  refine g_2_7 E hP dX0_planMove_92 ?_
  obtain ⟨r8, u9, hc10, hF⟩ := bd_some hF
  refine call_i (rest := [.int x1, .ref (h 2)]) E hA hP hD hS hl.1 (kX1_addressOf l D h cI cJ cZ n (st.1 2 6) (st.1 2 7) st r8 u9 hc10) cw_X0_135 1 rfl rfl rfl rfl rfl (Nat.le_of_ble_eq_true rfl) ⟨Nat.le_of_ble_eq_true rfl, Nat.le_of_ble_eq_true rfl⟩ ⟨Nat.zero_le _, Nat.zero_le _⟩ dX0_planMove_95 (fun H locs hP hD hS => ?_)
  obtain ⟨r11, u12, hc13, hF⟩ := bd_some hF
  refine call_v (rest := []) E hA hP hD hS hl.1 (kX0_addToRow l D h cI cJ cZ n x1 r8 u9 r11 u12 hc13) cw_X0_142 2 rfl rfl rfl rfl rfl (Nat.le_of_ble_eq_true rfl) ⟨Nat.le_of_ble_eq_true rfl, Nat.le_of_ble_eq_true rfl⟩ ⟨Nat.zero_le _, Nat.zero_le _⟩ dX0_planMove_98 (fun H locs hP hD hS => ?_)
  refine lv_aload_n hx hb dX0_planMove_101 rfl (lv_at hl 0 rfl) ?_
  refine lv_dup hx hb dX0_planMove_102 rfl ?_
  refine g_2_7 E hP dX0_planMove_103 ?_
  refine lv_iload_n hx hb dX0_planMove_106 rfl (lv_at hl 2 rfl) ?_
  refine lv_iadd hx hb dX0_planMove_107 ?_
  refine s_2_7 E hP hD hS dX0_planMove_108 (fun H locs hP hD hS => ?_)
  refine lv_aload_n hx hb dX0_planMove_111 rfl (lv_at hl 0 rfl) ?_
  refine lv_dup hx hb dX0_planMove_112 rfl ?_
  refine g_2_8 E hP dX0_planMove_113 ?_
  refine lv_iconst (v := 1) hx hb dX0_planMove_116 (by decide) ?_
  refine lv_iadd hx hb dX0_planMove_117 ?_
  refine s_2_8 E hP hD hS dX0_planMove_118 (fun H locs hP hD hS => ?_)
  refine lv_iconst (v := 1) hx hb dX0_planMove_121 (by decide) ?_
  exact endZ0 E hr hlocks hP hD hS dX0_planMove_122 rfl hF
def JX0_planMove_33 (n : Nat) (x1 x2 : Int32) (st : St) : Option (Int32 × St) := bd (FX1_freePageFrom n ((st.1 2 6) + (1 : Int32)) st) (fun r4 u5 => (if r4 = (-1 : Int32) then some ((0 : Int32), u5) else gd r4 64 (JX0_planMove_81 n x1 x2 (pt (pt (pt (pt u5 2 6 r4) 2 7 (0 : Int32)) 12 r4.toNatClampNeg (vp_nar .boolean (1 : Int32))) 2 9 (((pt (pt (pt u5 2 6 r4) 2 7 (0 : Int32)) 12 r4.toNatClampNeg (vp_nar .boolean (1 : Int32))).1 2 9) + (1 : Int32))))))
set_option maxHeartbeats 4000000 in
set_option maxRecDepth 100000 in
theorem jX0_planMove_33 {l : Launch} {D : va_G} {h : Nat → Nat} {cI cJ cZ : ClassId} {p : Program} {e : Env} {s : State} {m : MethodId} {args : Array Value} {below : List Frame} {meth : Method} {c : Code} {A : Nat → Prop} {r : Int32} {u : St} (E : Env1 p s m args c cX0_planMove 4 RX0 D (tyL cI cJ cZ)) (hr : meth.sig.returnType = some .boolean) (hlocks : meth.locks = false) (hA : ∀ q : Nat, s.heap.size ≤ q → A q) (n : Nat) (x1 x2 : Int32) (st : St) (H : Heap) (locs : List Loc) (ls : Array Slot) (hP : va_P D vwCl (wX h cI cJ cZ st) H) (hD : va_D A (wX h cI cJ cZ st)) (hS : va_S A s.heap H locs) (hl : lv_has ls 4 [(0, .ref (h 2)), (1, .int x1), (2, .int x2)]) (hF : JX0_planMove_33 n x1 x2 st = some (r, u)) : W p l e (rm 2 42) s m args below meth c H locs 0 0 (MQ below (CQ D (tyL cI cJ cZ) (wX h cI cJ cZ) A r u) args s 0 0 A) (F0 m 33 ls []) := by
  have hx := E.1.1
  have hb := E.1.2.1
  have hml := E.1.2.2.1
  unfold JX0_planMove_33 at hF
  refine lv_aload_n hx hb dX0_planMove_33 rfl (lv_at hl 0 rfl) ?_
  refine g_2_0 E hP dX0_planMove_34 ?_
  refine lv_aload_n hx hb dX0_planMove_37 rfl (lv_at hl 0 rfl) ?_
  refine g_2_6 E hP dX0_planMove_38 ?_
  refine lv_iconst (v := 1) hx hb dX0_planMove_41 (by decide) ?_
  refine lv_iadd hx hb dX0_planMove_42 ?_
  obtain ⟨r4, u5, hc6, hF⟩ := bd_some hF
  refine call_i (rest := []) E hA hP hD hS hl.1 (kX1_freePageFrom l D h cI cJ cZ n ((st.1 2 6) + (1 : Int32)) st r4 u5 hc6) cw_X0_167 1 rfl rfl rfl rfl rfl (Nat.le_of_ble_eq_true rfl) ⟨Nat.le_of_ble_eq_true rfl, Nat.le_of_ble_eq_true rfl⟩ ⟨Nat.zero_le _, Nat.zero_le _⟩ dX0_planMove_43 (fun H locs hP hD hS => ?_)
  refine lv_istore_n (lv' := [(3, .int r4), (0, .ref (h 2)), (1, .int x1), (2, .int x2)]) hx hb dX0_planMove_46 rfl hl (by decide) rfl (fun ls hl => ?_)
  refine lv_iload_n hx hb dX0_planMove_47 rfl (lv_at hl 0 rfl) ?_
  refine lv_iconst (v := (-1)) hx hb dX0_planMove_48 (by decide) ?_
  refine lv_icmp_ne (tgt := 54) hx hb dX0_planMove_49 (by decide) (fun hc => ?_) (fun hc => ?_)
  · have hF := if_f hc hF
    refine lv_aload_n hx hb dX0_planMove_54 rfl (lv_at hl 1 rfl) ?_
    refine lv_iload_n hx hb dX0_planMove_55 rfl (lv_at hl 0 rfl) ?_
    refine s_2_6 E hP hD hS dX0_planMove_56 (fun H locs hP hD hS => ?_)
    refine lv_aload_n hx hb dX0_planMove_59 rfl (lv_at hl 1 rfl) ?_
    refine lv_iconst (v := 0) hx hb dX0_planMove_60 (by decide) ?_
    refine s_2_7 E hP hD hS dX0_planMove_61 (fun H locs hP hD hS => ?_)
    refine lv_aload_n hx hb dX0_planMove_64 rfl (lv_at hl 1 rfl) ?_
    refine g_2_5 E hP dX0_planMove_65 ?_
    refine lv_iload_n hx hb dX0_planMove_68 rfl (lv_at hl 0 rfl) ?_
    refine lv_iconst (v := 1) hx hb dX0_planMove_69 (by decide) ?_
    obtain ⟨hi7, hF⟩ := gd_some hF
    refine sa_12 E hP hD hS hi7 dX0_planMove_70 (fun H locs hP hD hS => ?_)
    refine lv_aload_n hx hb dX0_planMove_71 rfl (lv_at hl 1 rfl) ?_
    refine lv_dup hx hb dX0_planMove_72 rfl ?_
    refine g_2_9 E hP dX0_planMove_73 ?_
    refine lv_iconst (v := 1) hx hb dX0_planMove_76 (by decide) ?_
    refine lv_iadd hx hb dX0_planMove_77 ?_
    refine s_2_9 E hP hD hS dX0_planMove_78 (fun H locs hP hD hS => ?_)
    exact jX0_planMove_81 E hr hlocks hA n x1 x2 (pt (pt (pt (pt u5 2 6 r4) 2 7 (0 : Int32)) 12 r4.toNatClampNeg (vp_nar .boolean (1 : Int32))) 2 9 (((pt (pt (pt u5 2 6 r4) 2 7 (0 : Int32)) 12 r4.toNatClampNeg (vp_nar .boolean (1 : Int32))).1 2 9) + (1 : Int32))) _ _ _ hP hD hS (lv_sub hl [1, 2, 3] rfl) hF
  · have hF := if_t hc hF
    refine lv_iconst (v := 0) hx hb dX0_planMove_52 (by decide) ?_
    exact endZ0 E hr hlocks hP hD hS dX0_planMove_53 rfl hF
def FX0_planMove (n : Nat) (x1 : Int32) (st : St) : Option (Int32 × St) := bd (FX1_sizeOf n x1 st) (fun r1 u2 => (if (u2.1 2 6) = (-1 : Int32) then JX0_planMove_33 n x1 r1 u2 else bd (FX1_words n  u2) (fun r14 u15 => (if r1 ≤ (r14 - (u15.1 2 7)) then JX0_planMove_81 n x1 r1 u15 else JX0_planMove_33 n x1 r1 u15))))
set_option maxHeartbeats 4000000 in
set_option maxRecDepth 100000 in
theorem kX0_planMove (l : Launch) (D : va_G) (h : Nat → Nat) (cI cJ cZ : ClassId) (n : Nat) (x1 : Int32) (st : St) (r : Int32) (u : St) (hF : FX0_planMove n x1 st = some (r, u)) : Ci l yX0_planMove cX0_planMove 4 (some .boolean) 2 42 D (tyL cI cJ cZ) (wX h cI cJ cZ) st [.ref (h 2), .int x1] r u := by
  refine body_i (by decide +kernel) (Nat.le_of_ble_eq_true rfl) ?_
  intro p e s m below meth c A ls E hr hlocks hA hP hD hS hl
  have E : Env1 p s m _ c cX0_planMove 4 RX0 D (tyL cI cJ cZ) := E
  have hl : lv_has ls 4 [(0, .ref (h 2)), (1, .int x1)] := hl
  have hx := E.1.1
  have hb := E.1.2.1
  have hml := E.1.2.2.1
  unfold FX0_planMove at hF
  refine lv_aload_n hx hb dX0_planMove_0 rfl (lv_at hl 0 rfl) ?_
  refine g_2_0 E hP dX0_planMove_1 ?_
  refine lv_iload_n hx hb dX0_planMove_4 rfl (lv_at hl 1 rfl) ?_
  obtain ⟨r1, u2, hc3, hF⟩ := bd_some hF
  refine call_i (rest := []) E hA hP hD hS hl.1 (kX1_sizeOf l D h cI cJ cZ n x1 st r1 u2 hc3) cw_X0_164 1 rfl rfl rfl rfl rfl (Nat.le_of_ble_eq_true rfl) ⟨Nat.le_of_ble_eq_true rfl, Nat.le_of_ble_eq_true rfl⟩ ⟨Nat.zero_le _, Nat.zero_le _⟩ dX0_planMove_5 (fun H locs hP hD hS => ?_)
  refine lv_istore_n (lv' := [(2, .int r1), (0, .ref (h 2)), (1, .int x1)]) hx hb dX0_planMove_8 rfl hl (by decide) rfl (fun ls hl => ?_)
  refine lv_aload_n hx hb dX0_planMove_9 rfl (lv_at hl 1 rfl) ?_
  refine g_2_6 E hP dX0_planMove_10 ?_
  refine lv_iconst (v := (-1)) hx hb dX0_planMove_13 (by decide) ?_
  refine lv_icmp_eq (tgt := 33) hx hb dX0_planMove_14 (by decide) (fun hc => ?_) (fun hc => ?_)
  · have hF := if_t hc hF
    exact jX0_planMove_33 E hr hlocks hA n x1 r1 u2 _ _ _ hP hD hS (lv_sub hl [1, 2, 0] rfl) hF
  · have hF := if_f hc hF
    refine lv_iload_n hx hb dX0_planMove_17 rfl (lv_at hl 0 rfl) ?_
    refine lv_aload_n hx hb dX0_planMove_18 rfl (lv_at hl 1 rfl) ?_
    refine g_2_0 E hP dX0_planMove_19 ?_
    obtain ⟨r14, u15, hc16, hF⟩ := bd_some hF
    refine call_i (rest := [.int r1]) E hA hP hD hS hl.1 (kX1_words l D h cI cJ cZ n  u2 r14 u15 hc16) cw_X0_132 1 rfl rfl rfl rfl rfl (Nat.le_of_ble_eq_true rfl) ⟨Nat.le_of_ble_eq_true rfl, Nat.le_of_ble_eq_true rfl⟩ ⟨Nat.zero_le _, Nat.zero_le _⟩ dX0_planMove_22 (fun H locs hP hD hS => ?_)
    refine lv_aload_n hx hb dX0_planMove_25 rfl (lv_at hl 1 rfl) ?_
    refine g_2_7 E hP dX0_planMove_26 ?_
    refine lv_isub hx hb dX0_planMove_29 ?_
    refine lv_icmp_le (tgt := 81) hx hb dX0_planMove_30 (by decide) (fun hc => ?_) (fun hc => ?_)
    · have hF := if_t hc hF
      exact jX0_planMove_81 E hr hlocks hA n x1 r1 u15 _ _ _ hP hD hS (lv_sub hl [1, 2, 0] rfl) hF
    · have hF := if_f hc hF
      exact jX0_planMove_33 E hr hlocks hA n x1 r1 u15 _ _ _ hP hD hS (lv_sub hl [1, 2, 0] rfl) hF
theorem cw_X0_155 : cwd RX0 155 RX1 yX1_isLong cX1_isLong 2 (some .boolean) 1 := ⟨tb_V (tb_in 270 (by decide +kernel) (by decide +kernel)) (tb_in 271 (by decide +kernel) (by decide +kernel)) (tb_in 272 (by decide +kernel) (by decide +kernel)) (tb_in 47 (by decide +kernel) (by decide +kernel)) (tb_in 273 (by decide +kernel) (by decide +kernel)), by decide +kernel⟩
theorem cw_X0_158 : cwd RX0 158 RX0 yX0_keepLong cX0_keepLong 5 none 1 := ⟨tb_V (tb_in 286 (by decide +kernel) (by decide +kernel)) (tb_in 288 (by decide +kernel) (by decide +kernel)) (tb_in 9 (by decide +kernel) (by decide +kernel)) (tb_in 48 (by decide +kernel) (by decide +kernel)) (tb_in 289 (by decide +kernel) (by decide +kernel)), by decide +kernel⟩
theorem cw_X0_161 : cwd RX0 161 RX0 yX0_planMove cX0_planMove 4 (some .boolean) 1 := ⟨tb_V (tb_in 290 (by decide +kernel) (by decide +kernel)) (tb_in 292 (by decide +kernel) (by decide +kernel)) (tb_in 10 (by decide +kernel) (by decide +kernel)) (tb_in 48 (by decide +kernel) (by decide +kernel)) (tb_in 293 (by decide +kernel) (by decide +kernel)), by decide +kernel⟩
-- LooseHeap$Collector.reach
def FX0_reach (n : Nat) (x1 : Int32) (st : St) : Option (Int32 × St) := bd (FX1_beginsAt n x1 st) (fun r1 u2 => (if r1 = 0 then some ((1 : Int32), u2) else gd x1 4096 ((if (u2.1 10 x1.toNatClampNeg) = (-1 : Int32) then bd (FX1_isLong n x1 u2) (fun r5 u6 => (if r5 = 0 then bd (FX0_planMove n x1 u6) (fun r8 u9 => gz r8 (some (r8, u9))) else bd (FX0_keepLong n x1 u6) (fun r11 u12 => some ((1 : Int32), u12)))) else some ((1 : Int32), u2)))))
set_option maxHeartbeats 4000000 in
set_option maxRecDepth 100000 in
theorem kX0_reach (l : Launch) (D : va_G) (h : Nat → Nat) (cI cJ cZ : ClassId) (n : Nat) (x1 : Int32) (st : St) (r : Int32) (u : St) (hF : FX0_reach n x1 st = some (r, u)) : Ci l yX0_reach cX0_reach 2 (some .boolean) 3 65 D (tyL cI cJ cZ) (wX h cI cJ cZ) st [.ref (h 2), .int x1] r u := by
  refine body_i (by decide +kernel) (Nat.le_of_ble_eq_true rfl) ?_
  intro p e s m below meth c A ls E hr hlocks hA hP hD hS hl
  have E : Env1 p s m _ c cX0_reach 2 RX0 D (tyL cI cJ cZ) := E
  have hl : lv_has ls 2 [(0, .ref (h 2)), (1, .int x1)] := hl
  have hx := E.1.1
  have hb := E.1.2.1
  have hml := E.1.2.2.1
  unfold FX0_reach at hF
  refine lv_aload_n hx hb dX0_reach_0 rfl (lv_at hl 0 rfl) ?_
  refine g_2_0 E hP dX0_reach_1 ?_
  refine lv_iload_n hx hb dX0_reach_4 rfl (lv_at hl 1 rfl) ?_
  obtain ⟨r1, u2, hc3, hF⟩ := bd_some hF
  refine call_i (rest := []) E hA hP hD hS hl.1 (kX1_beginsAt l D h cI cJ cZ n x1 st r1 u2 hc3) cw_X0_139 1 rfl rfl rfl rfl rfl (Nat.le_of_ble_eq_true rfl) ⟨Nat.le_of_ble_eq_true rfl, Nat.le_of_ble_eq_true rfl⟩ ⟨Nat.zero_le _, Nat.zero_le _⟩ dX0_reach_5 (fun H locs hP hD hS => ?_)
  refine lv_if_eq (tgt := 21) hx hb dX0_reach_8 (by decide) (fun hc => ?_) (fun hc => ?_)
  · have hF := if_t hc hF
    refine lv_iconst (v := 1) hx hb dX0_reach_21 (by decide) ?_
    exact endZ0 E hr hlocks hP hD hS dX0_reach_22 rfl hF
  · have hF := if_f hc hF
    refine lv_aload_n hx hb dX0_reach_11 rfl (lv_at hl 0 rfl) ?_
    refine g_2_3 E hP dX0_reach_12 ?_
    refine lv_iload_n hx hb dX0_reach_15 rfl (lv_at hl 1 rfl) ?_
    obtain ⟨hi4, hF⟩ := gd_some hF
    refine la_10 E hP hi4 dX0_reach_16 ?_
    refine lv_iconst (v := (-1)) hx hb dX0_reach_17 (by decide) ?_
    refine lv_icmp_eq (tgt := 23) hx hb dX0_reach_18 (by decide) (fun hc => ?_) (fun hc => ?_)
    · have hF := if_t hc hF
      refine lv_aload_n hx hb dX0_reach_23 rfl (lv_at hl 0 rfl) ?_
      refine g_2_0 E hP dX0_reach_24 ?_
      refine lv_iload_n hx hb dX0_reach_27 rfl (lv_at hl 1 rfl) ?_
      obtain ⟨r5, u6, hc7, hF⟩ := bd_some hF
      refine call_i (rest := []) E hA hP hD hS hl.1 (kX1_isLong l D h cI cJ cZ n x1 u2 r5 u6 hc7) cw_X0_155 1 rfl rfl rfl rfl rfl (Nat.le_of_ble_eq_true rfl) ⟨Nat.le_of_ble_eq_true rfl, Nat.le_of_ble_eq_true rfl⟩ ⟨Nat.zero_le _, Nat.zero_le _⟩ dX0_reach_28 (fun H locs hP hD hS => ?_)
      refine lv_if_eq (tgt := 41) hx hb dX0_reach_31 (by decide) (fun hc => ?_) (fun hc => ?_)
      · have hF := if_t hc hF
        refine lv_aload_n hx hb dX0_reach_41 rfl (lv_at hl 0 rfl) ?_
        refine lv_iload_n hx hb dX0_reach_42 rfl (lv_at hl 1 rfl) ?_
        obtain ⟨r8, u9, hc10, hF⟩ := bd_some hF
        refine call_i (rest := []) E hA hP hD hS hl.1 (kX0_planMove l D h cI cJ cZ n x1 u6 r8 u9 hc10) cw_X0_161 2 rfl rfl rfl rfl rfl (Nat.le_of_ble_eq_true rfl) ⟨Nat.le_of_ble_eq_true rfl, Nat.le_of_ble_eq_true rfl⟩ ⟨Nat.zero_le _, Nat.zero_le _⟩ dX0_reach_43 (fun H locs hP hD hS => ?_)
        exact endZ E hr hlocks hP hD hS dX0_reach_46 hF
      · have hF := if_f hc hF
        refine lv_aload_n hx hb dX0_reach_34 rfl (lv_at hl 0 rfl) ?_
        refine lv_iload_n hx hb dX0_reach_35 rfl (lv_at hl 1 rfl) ?_
        obtain ⟨r11, u12, hc13, hF⟩ := bd_some hF
        refine call_v (rest := []) E hA hP hD hS hl.1 (kX0_keepLong l D h cI cJ cZ n x1 u6 r11 u12 hc13) cw_X0_158 2 rfl rfl rfl rfl rfl (Nat.le_of_ble_eq_true rfl) ⟨Nat.le_of_ble_eq_true rfl, Nat.le_of_ble_eq_true rfl⟩ ⟨Nat.zero_le _, Nat.zero_le _⟩ dX0_reach_36 (fun H locs hP hD hS => ?_)
        refine lv_iconst (v := 1) hx hb dX0_reach_39 (by decide) ?_
        exact endZ0 E hr hlocks hP hD hS dX0_reach_40 rfl hF
    · have hF := if_f hc hF
      refine lv_iconst (v := 1) hx hb dX0_reach_21 (by decide) ?_
      exact endZ0 E hr hlocks hP hD hS dX0_reach_22 rfl hF
theorem cw_X0_146 : cwd RX0 146 RX0 yX0_reach cX0_reach 2 (some .boolean) 1 := ⟨tb_V (tb_in 266 (by decide +kernel) (by decide +kernel)) (tb_in 268 (by decide +kernel) (by decide +kernel)) (tb_in 8 (by decide +kernel) (by decide +kernel)) (tb_in 48 (by decide +kernel) (by decide +kernel)) (tb_in 269 (by decide +kernel) (by decide +kernel)), by decide +kernel⟩
-- LooseHeap$Collector.reachFromRoots
def LX0_reachFromRoots_2 : Nat → Int32 → St → Option (Int32 × St)
  | 0 => fun _ _ => none
  | n + 1 => fun x2 st => (if (32 : Int32) ≤ x2 then some ((1 : Int32), st) else gd x2 32 (bd (FX0_reach n (st.1 3 x2.toNatClampNeg) st) (fun r2 u3 => (if r2 = 0 then some ((0 : Int32), u3) else LX0_reachFromRoots_2 n (x2 + (1 : Int32)) u3))))
set_option maxHeartbeats 4000000 in
set_option maxRecDepth 100000 in
theorem lX0_reachFromRoots_2 {l : Launch} {D : va_G} {h : Nat → Nat} {cI cJ cZ : ClassId} {p : Program} {e : Env} {s : State} {m : MethodId} {args : Array Value} {below : List Frame} {meth : Method} {c : Code} {A : Nat → Prop} {r : Int32} {u : St} (E : Env1 p s m args c cX0_reachFromRoots 3 RX0 D (tyL cI cJ cZ)) (hr : meth.sig.returnType = some .boolean) (hlocks : meth.locks = false) (hA : ∀ q : Nat, s.heap.size ≤ q → A q) : ∀ (n : Nat) (x2 : Int32) (st : St) (H : Heap) (locs : List Loc) (ls : Array Slot), va_P D vwCl (wX h cI cJ cZ st) H → va_D A (wX h cI cJ cZ st) → va_S A s.heap H locs → lv_has ls 3 [(0, .ref (h 2)), (1, .ref (h 3)), (2, .int x2)] → LX0_reachFromRoots_2 n x2 st = some (r, u) → W p l e (rm 4 86) s m args below meth c H locs 0 0 (MQ below (CQ D (tyL cI cJ cZ) (wX h cI cJ cZ) A r u) args s 0 0 A) (F0 m 2 ls []) := by
  have hx := E.1.1
  have hb := E.1.2.1
  have hml := E.1.2.2.1
  intro n
  induction n with
  | zero => intro x2 st H locs ls hP hD hS hl hF; simp only [LX0_reachFromRoots_2] at hF; cases hF
  | succ n ih =>
    intro x2 st H locs ls hP hD hS hl hF
    simp only [LX0_reachFromRoots_2] at hF
    refine lv_iload_n hx hb dX0_reachFromRoots_2 rfl (lv_at hl 2 rfl) ?_
    refine lv_aload_n hx hb dX0_reachFromRoots_3 rfl (lv_at hl 1 rfl) ?_
    refine al_3 E hP dX0_reachFromRoots_4 ?_
    refine lv_icmp_ge (tgt := 26) hx hb dX0_reachFromRoots_5 (by decide) (fun hc => ?_) (fun hc => ?_)
    · have hF := if_t hc hF
      refine lv_iconst (v := 1) hx hb dX0_reachFromRoots_26 (by decide) ?_
      exact endZ0 E hr hlocks hP hD hS dX0_reachFromRoots_27 rfl hF
    · have hF := if_f hc hF
      refine lv_aload_n hx hb dX0_reachFromRoots_8 rfl (lv_at hl 0 rfl) ?_
      refine lv_aload_n hx hb dX0_reachFromRoots_9 rfl (lv_at hl 1 rfl) ?_
      refine lv_iload_n hx hb dX0_reachFromRoots_10 rfl (lv_at hl 2 rfl) ?_
      obtain ⟨hi1, hF⟩ := gd_some hF
      refine la_3 E hP hi1 dX0_reachFromRoots_11 ?_
      obtain ⟨r2, u3, hc4, hF⟩ := bd_some hF
      refine call_i (rest := []) E hA hP hD hS hl.1 (kX0_reach l D h cI cJ cZ n (st.1 3 x2.toNatClampNeg) st r2 u3 hc4) cw_X0_146 2 rfl rfl rfl rfl rfl (Nat.le_of_ble_eq_true rfl) ⟨Nat.le_of_ble_eq_true rfl, Nat.le_of_ble_eq_true rfl⟩ ⟨Nat.zero_le _, Nat.zero_le _⟩ dX0_reachFromRoots_12 (fun H locs hP hD hS => ?_)
      refine lv_if_ne (tgt := 20) hx hb dX0_reachFromRoots_15 (by decide) (fun hc => ?_) (fun hc => ?_)
      · have hF := if_f hc hF
        refine lv_iinc (v := (x2 + (1 : Int32))) (lv' := [(2, .int (x2 + (1 : Int32))), (0, .ref (h 2)), (1, .ref (h 3))]) hx hb dX0_reachFromRoots_20 hl (k := 2) rfl rfl (by decide) rfl (fun ls hl => ?_)
        refine lv_goto (tgt := 2) hx hb dX0_reachFromRoots_23 (by decide) ?_
        exact ih _ _ _ _ _ hP hD hS (lv_sub hl [1, 2, 0] rfl) hF
      · have hF := if_t hc hF
        refine lv_iconst (v := 0) hx hb dX0_reachFromRoots_18 (by decide) ?_
        exact endZ0 E hr hlocks hP hD hS dX0_reachFromRoots_19 rfl hF
def FX0_reachFromRoots (n : Nat) (st : St) : Option (Int32 × St) := LX0_reachFromRoots_2 n (0 : Int32) st
set_option maxHeartbeats 4000000 in
set_option maxRecDepth 100000 in
theorem kX0_reachFromRoots (l : Launch) (D : va_G) (h : Nat → Nat) (cI cJ cZ : ClassId) (n : Nat) (st : St) (r : Int32) (u : St) (hF : FX0_reachFromRoots n  st = some (r, u)) : Ci l yX0_reachFromRoots cX0_reachFromRoots 3 (some .boolean) 4 86 D (tyL cI cJ cZ) (wX h cI cJ cZ) st [.ref (h 2), .ref (h 3)] r u := by
  refine body_i (by decide +kernel) (Nat.le_of_ble_eq_true rfl) ?_
  intro p e s m below meth c A ls E hr hlocks hA hP hD hS hl
  have E : Env1 p s m _ c cX0_reachFromRoots 3 RX0 D (tyL cI cJ cZ) := E
  have hl : lv_has ls 3 [(0, .ref (h 2)), (1, .ref (h 3))] := hl
  have hx := E.1.1
  have hb := E.1.2.1
  have hml := E.1.2.2.1
  unfold FX0_reachFromRoots at hF
  refine lv_iconst (v := 0) hx hb dX0_reachFromRoots_0 (by decide) ?_
  refine lv_istore_n (lv' := [(2, .int (0 : Int32)), (0, .ref (h 2)), (1, .ref (h 3))]) hx hb dX0_reachFromRoots_1 rfl hl (by decide) rfl (fun ls hl => ?_)
  exact lX0_reachFromRoots_2 E hr hlocks hA n (0 : Int32) st _ _ _ hP hD hS (lv_sub hl [1, 2, 0] rfl) hF
theorem cw_X0_149 : cwd RX0 149 RX1 yX1_refsOf cX1_refsOf 2 (some .int) 1 := ⟨tb_V (tb_in 303 (by decide +kernel) (by decide +kernel)) (tb_in 279 (by decide +kernel) (by decide +kernel)) (tb_in 280 (by decide +kernel) (by decide +kernel)) (tb_in 47 (by decide +kernel) (by decide +kernel)) (tb_in 281 (by decide +kernel) (by decide +kernel)), by decide +kernel⟩
theorem cw_X0_152 : cwd RX0 152 RX1 yX1_ref cX1_ref 3 (some .int) 2 := ⟨tb_V (tb_in 304 (by decide +kernel) (by decide +kernel)) (tb_in 305 (by decide +kernel) (by decide +kernel)) (tb_in 306 (by decide +kernel) (by decide +kernel)) (tb_in 47 (by decide +kernel) (by decide +kernel)) (tb_in 307 (by decide +kernel) (by decide +kernel)), by decide +kernel⟩
-- LooseHeap$Collector.reachFromRow
def LX0_reachFromRow_35 : Nat → Int32 → Int32 → Int32 → St → Option (((Int32 × Int32 × Int32 × St) ⊕ (Int32 × St)))
  | 0 => fun _ _ _ _ => none
  | n + 1 => fun x1 x2 x3 st => (if x2 ≤ x3 then some (.inl (x1, x2, x3, st)) else gd x1 4096 (bd (FX1_ref n (st.1 9 x1.toNatClampNeg) x3 st) (fun r6 u7 => bd (FX0_reach n r6 u7) (fun r9 u10 => (if r9 = 0 then some (.inr ((0 : Int32), u10)) else LX0_reachFromRow_35 n x1 x2 (x3 + (1 : Int32)) u10)))))
set_option maxHeartbeats 4000000 in
set_option maxRecDepth 100000 in
theorem lX0_reachFromRow_35 {l : Launch} {D : va_G} {h : Nat → Nat} {cI cJ cZ : ClassId} {p : Program} {e : Env} {s : State} {m : MethodId} {args : Array Value} {below : List Frame} {meth : Method} {c : Code} {A : Nat → Prop} {r : Int32} {u : St} (E : Env1 p s m args c cX0_reachFromRow 4 RX0 D (tyL cI cJ cZ)) (hr : meth.sig.returnType = some .boolean) (hlocks : meth.locks = false) (hA : ∀ q : Nat, s.heap.size ≤ q → A q) : ∀ (n : Nat) (x1 x2 x3 : Int32) (st : St) (H : Heap) (locs : List Loc) (ls : Array Slot) (q : ((Int32 × Int32 × Int32 × St) ⊕ (Int32 × St))), va_P D vwCl (wX h cI cJ cZ st) H → va_D A (wX h cI cJ cZ st) → va_S A s.heap H locs → lv_has ls 4 [(0, .ref (h 2)), (1, .int x1), (2, .int x2), (3, .int x3)] → LX0_reachFromRow_35 n x1 x2 x3 st = some q → (∀ (H : Heap) (locs : List Loc) (ls : Array Slot) (y1 y2 y3 : Int32) (u1 : St), q = .inl (y1, y2, y3, u1) → va_P D vwCl (wX h cI cJ cZ u1) H → va_D A (wX h cI cJ cZ u1) → va_S A s.heap H locs → lv_has ls 4 [(0, .ref (h 2)), (1, .int y1), (2, .int y2), (3, .int y3)] → W p l e (rm 4 86) s m args below meth c H locs 0 0 (MQ below (CQ D (tyL cI cJ cZ) (wX h cI cJ cZ) A r u) args s 0 0 A) (F0 m 69 ls [])) → (∀ (r1 : Int32) (u1 : St), q = .inr (r1, u1) → (r1, u1) = (r, u)) → W p l e (rm 4 86) s m args below meth c H locs 0 0 (MQ below (CQ D (tyL cI cJ cZ) (wX h cI cJ cZ) A r u) args s 0 0 A) (F0 m 35 ls []) := by
  have hx := E.1.1
  have hb := E.1.2.1
  have hml := E.1.2.2.1
  intro n
  induction n with
  | zero => intro x1 x2 x3 st H locs ls q hP hD hS hl hF; simp only [LX0_reachFromRow_35] at hF; cases hF
  | succ n ih =>
    intro x1 x2 x3 st H locs ls q hP hD hS hl hF kx kr
    simp only [LX0_reachFromRow_35] at hF
    refine lv_iload_n hx hb dX0_reachFromRow_35 rfl (lv_at hl 3 rfl) ?_
    refine lv_iload_n hx hb dX0_reachFromRow_36 rfl (lv_at hl 2 rfl) ?_
    refine lv_icmp_ge (tgt := 69) hx hb dX0_reachFromRow_37 (by decide) (fun hc => ?_) (fun hc => ?_)
    · have hF := if_t hc hF
      exact kx _ _ _ _ _ _ _ (Option.some.inj hF).symm hP hD hS (lv_sub hl [0, 1, 2, 3] rfl)
    · have hF := if_f hc hF
      refine lv_aload_n hx hb dX0_reachFromRow_40 rfl (lv_at hl 0 rfl) ?_
      refine lv_aload_n hx hb dX0_reachFromRow_41 rfl (lv_at hl 0 rfl) ?_
      refine g_2_0 E hP dX0_reachFromRow_42 ?_
      refine lv_aload_n hx hb dX0_reachFromRow_45 rfl (lv_at hl 0 rfl) ?_
      refine g_2_1 E hP dX0_reachFromRow_46 ?_
      refine lv_iload_n hx hb dX0_reachFromRow_49 rfl (lv_at hl 1 rfl) ?_
      obtain ⟨hi5, hF⟩ := gd_some hF
      refine la_9 E hP hi5 dX0_reachFromRow_50 ?_
      refine lv_iload_n hx hb dX0_reachFromRow_51 rfl (lv_at hl 3 rfl) ?_
      obtain ⟨r6, u7, hc8, hF⟩ := bd_some hF
      refine call_i (rest := [.ref (h 2)]) E hA hP hD hS hl.1 (kX1_ref l D h cI cJ cZ n (st.1 9 x1.toNatClampNeg) x3 st r6 u7 hc8) cw_X0_152 1 rfl rfl rfl rfl rfl (Nat.le_of_ble_eq_true rfl) ⟨Nat.le_of_ble_eq_true rfl, Nat.le_of_ble_eq_true rfl⟩ ⟨Nat.zero_le _, Nat.zero_le _⟩ dX0_reachFromRow_52 (fun H locs hP hD hS => ?_)
      obtain ⟨r9, u10, hc11, hF⟩ := bd_some hF
      refine call_i (rest := []) E hA hP hD hS hl.1 (kX0_reach l D h cI cJ cZ n r6 u7 r9 u10 hc11) cw_X0_146 2 rfl rfl rfl rfl rfl (Nat.le_of_ble_eq_true rfl) ⟨Nat.le_of_ble_eq_true rfl, Nat.le_of_ble_eq_true rfl⟩ ⟨Nat.zero_le _, Nat.zero_le _⟩ dX0_reachFromRow_55 (fun H locs hP hD hS => ?_)
      refine lv_if_ne (tgt := 63) hx hb dX0_reachFromRow_58 (by decide) (fun hc => ?_) (fun hc => ?_)
      · have hF := if_f hc hF
        refine lv_iinc (v := (x3 + (1 : Int32))) (lv' := [(3, .int (x3 + (1 : Int32))), (0, .ref (h 2)), (1, .int x1), (2, .int x2)]) hx hb dX0_reachFromRow_63 hl (k := 3) rfl rfl (by decide) rfl (fun ls hl => ?_)
        refine lv_goto (tgt := 35) hx hb dX0_reachFromRow_66 (by decide) ?_
        exact ih _ _ _ _ _ _ _ _ hP hD hS (lv_sub hl [1, 2, 3, 0] rfl) hF kx kr
      · have hF := if_t hc hF
        refine lv_iconst (v := 0) hx hb dX0_reachFromRow_61 (by decide) ?_
        obtain ⟨rfl, rfl⟩ := Prod.mk.inj (kr _ _ (Option.some.inj hF).symm)
        exact end_z E hr hlocks rfl hP hD hS dX0_reachFromRow_62
def LX0_reachFromRow_2 : Nat → Int32 → St → Option (Int32 × St)
  | 0 => fun _ _ => none
  | n + 1 => fun x1 st => (if (4096 : Int32) ≤ x1 then some ((1 : Int32), st) else (if (st.1 2 2) ≤ x1 then some ((1 : Int32), st) else gd x1 4096 (bd (FX1_refsOf n (st.1 9 x1.toNatClampNeg) st) (fun r2 u3 => be (LX0_reachFromRow_35 n x1 r2 (0 : Int32) u3) (fun q => match q with | .inl (y14, y15, y16, u17) => LX0_reachFromRow_2 n (y14 + (1 : Int32)) u17 | .inr o => some o)))))
set_option maxHeartbeats 4000000 in
set_option maxRecDepth 100000 in
theorem lX0_reachFromRow_2 {l : Launch} {D : va_G} {h : Nat → Nat} {cI cJ cZ : ClassId} {p : Program} {e : Env} {s : State} {m : MethodId} {args : Array Value} {below : List Frame} {meth : Method} {c : Code} {A : Nat → Prop} {r : Int32} {u : St} (E : Env1 p s m args c cX0_reachFromRow 4 RX0 D (tyL cI cJ cZ)) (hr : meth.sig.returnType = some .boolean) (hlocks : meth.locks = false) (hA : ∀ q : Nat, s.heap.size ≤ q → A q) : ∀ (n : Nat) (x1 : Int32) (st : St) (H : Heap) (locs : List Loc) (ls : Array Slot), va_P D vwCl (wX h cI cJ cZ st) H → va_D A (wX h cI cJ cZ st) → va_S A s.heap H locs → lv_has ls 4 [(0, .ref (h 2)), (1, .int x1)] → LX0_reachFromRow_2 n x1 st = some (r, u) → W p l e (rm 4 86) s m args below meth c H locs 0 0 (MQ below (CQ D (tyL cI cJ cZ) (wX h cI cJ cZ) A r u) args s 0 0 A) (F0 m 2 ls []) := by
  have hx := E.1.1
  have hb := E.1.2.1
  have hml := E.1.2.2.1
  intro n
  induction n with
  | zero => intro x1 st H locs ls hP hD hS hl hF; simp only [LX0_reachFromRow_2] at hF; cases hF
  | succ n ih =>
    intro x1 st H locs ls hP hD hS hl hF
    simp only [LX0_reachFromRow_2] at hF
    refine lv_iload_n hx hb dX0_reachFromRow_2 rfl (lv_at hl 1 rfl) ?_
    refine lv_aload_n hx hb dX0_reachFromRow_3 rfl (lv_at hl 0 rfl) ?_
    refine g_2_1 E hP dX0_reachFromRow_4 ?_
    refine al_9 E hP dX0_reachFromRow_7 ?_
    refine lv_icmp_ge (tgt := 75) hx hb dX0_reachFromRow_8 (by decide) (fun hc => ?_) (fun hc => ?_)
    · have hF := if_t hc hF
      refine lv_iconst (v := 1) hx hb dX0_reachFromRow_75 (by decide) ?_
      exact endZ0 E hr hlocks hP hD hS dX0_reachFromRow_76 rfl hF
    · have hF := if_f hc hF
      refine lv_iload_n hx hb dX0_reachFromRow_11 rfl (lv_at hl 1 rfl) ?_
      refine lv_aload_n hx hb dX0_reachFromRow_12 rfl (lv_at hl 0 rfl) ?_
      refine g_2_2 E hP dX0_reachFromRow_13 ?_
      refine lv_icmp_ge (tgt := 75) hx hb dX0_reachFromRow_16 (by decide) (fun hc => ?_) (fun hc => ?_)
      · have hF := if_t hc hF
        refine lv_iconst (v := 1) hx hb dX0_reachFromRow_75 (by decide) ?_
        exact endZ0 E hr hlocks hP hD hS dX0_reachFromRow_76 rfl hF
      · have hF := if_f hc hF
        refine lv_aload_n hx hb dX0_reachFromRow_19 rfl (lv_at hl 0 rfl) ?_
        refine g_2_0 E hP dX0_reachFromRow_20 ?_
        refine lv_aload_n hx hb dX0_reachFromRow_23 rfl (lv_at hl 0 rfl) ?_
        refine g_2_1 E hP dX0_reachFromRow_24 ?_
        refine lv_iload_n hx hb dX0_reachFromRow_27 rfl (lv_at hl 1 rfl) ?_
        obtain ⟨hi1, hF⟩ := gd_some hF
        refine la_9 E hP hi1 dX0_reachFromRow_28 ?_
        obtain ⟨r2, u3, hc4, hF⟩ := bd_some hF
        refine call_i (rest := []) E hA hP hD hS hl.1 (kX1_refsOf l D h cI cJ cZ n (st.1 9 x1.toNatClampNeg) st r2 u3 hc4) cw_X0_149 1 rfl rfl rfl rfl rfl (Nat.le_of_ble_eq_true rfl) ⟨Nat.le_of_ble_eq_true rfl, Nat.le_of_ble_eq_true rfl⟩ ⟨Nat.zero_le _, Nat.zero_le _⟩ dX0_reachFromRow_29 (fun H locs hP hD hS => ?_)
        refine lv_istore_n (lv' := [(2, .int r2), (0, .ref (h 2)), (1, .int x1)]) hx hb dX0_reachFromRow_32 rfl hl (by decide) rfl (fun ls hl => ?_)
        refine lv_iconst (v := 0) hx hb dX0_reachFromRow_33 (by decide) ?_
        refine lv_istore_n (lv' := [(3, .int (0 : Int32)), (2, .int r2), (0, .ref (h 2)), (1, .int x1)]) hx hb dX0_reachFromRow_34 rfl hl (by decide) rfl (fun ls hl => ?_)
        obtain ⟨q12, hq13, hF⟩ := be_some hF
        refine lX0_reachFromRow_35 E hr hlocks hA n x1 r2 (0 : Int32) u3 _ _ _ _ hP hD hS (lv_sub hl [2, 3, 1, 0] rfl) hq13 (fun H locs ls y14 y15 y16 u17 he hP hD hS hl => ?_) (fun r1 u1 he => ?_)
        · subst he
          refine lv_iinc (v := (y14 + (1 : Int32))) (lv' := [(1, .int (y14 + (1 : Int32))), (0, .ref (h 2)), (2, .int y15), (3, .int y16)]) hx hb dX0_reachFromRow_69 hl (k := 1) rfl rfl (by decide) rfl (fun ls hl => ?_)
          refine lv_goto (tgt := 2) hx hb dX0_reachFromRow_72 (by decide) ?_
          exact ih _ _ _ _ _ hP hD hS (lv_sub hl [1, 0] rfl) hF
        · subst he; exact Option.some.inj hF
def FX0_reachFromRow (n : Nat) (st : St) : Option (Int32 × St) := LX0_reachFromRow_2 n (0 : Int32) st
set_option maxHeartbeats 4000000 in
set_option maxRecDepth 100000 in
theorem kX0_reachFromRow (l : Launch) (D : va_G) (h : Nat → Nat) (cI cJ cZ : ClassId) (n : Nat) (st : St) (r : Int32) (u : St) (hF : FX0_reachFromRow n  st = some (r, u)) : Ci l yX0_reachFromRow cX0_reachFromRow 4 (some .boolean) 4 86 D (tyL cI cJ cZ) (wX h cI cJ cZ) st [.ref (h 2)] r u := by
  refine body_i (by decide +kernel) (Nat.le_of_ble_eq_true rfl) ?_
  intro p e s m below meth c A ls E hr hlocks hA hP hD hS hl
  have E : Env1 p s m _ c cX0_reachFromRow 4 RX0 D (tyL cI cJ cZ) := E
  have hl : lv_has ls 4 [(0, .ref (h 2))] := hl
  have hx := E.1.1
  have hb := E.1.2.1
  have hml := E.1.2.2.1
  unfold FX0_reachFromRow at hF
  refine lv_iconst (v := 0) hx hb dX0_reachFromRow_0 (by decide) ?_
  refine lv_istore_n (lv' := [(1, .int (0 : Int32)), (0, .ref (h 2))]) hx hb dX0_reachFromRow_1 rfl hl (by decide) rfl (fun ls hl => ?_)
  exact lX0_reachFromRow_2 E hr hlocks hA n (0 : Int32) st _ _ _ hP hD hS (lv_sub hl [1, 0] rfl) hF
-- LooseHeap$Collector.newAddressOf
def FX0_newAddressOf (n : Nat) (x1 : Int32) (st : St) : Option (Int32 × St) := bd (FX1_isAddress n x1 st) (fun r1 u2 => be ((if r1 = 0 then some (-1 : Int32) else gd x1 4096 (some (u2.1 10 x1.toNatClampNeg)))) (fun v5 => some (v5, u2)))
set_option maxHeartbeats 4000000 in
set_option maxRecDepth 100000 in
theorem kX0_newAddressOf (l : Launch) (D : va_G) (h : Nat → Nat) (cI cJ cZ : ClassId) (n : Nat) (x1 : Int32) (st : St) (r : Int32) (u : St) (hF : FX0_newAddressOf n x1 st = some (r, u)) : Ci l yX0_newAddressOf cX0_newAddressOf 2 (some .int) 1 21 D (tyL cI cJ cZ) (wX h cI cJ cZ) st [.ref (h 2), .int x1] r u := by
  refine body_i (by decide +kernel) (Nat.le_of_ble_eq_true rfl) ?_
  intro p e s m below meth c A ls E hr hlocks hA hP hD hS hl
  have E : Env1 p s m _ c cX0_newAddressOf 2 RX0 D (tyL cI cJ cZ) := E
  have hl : lv_has ls 2 [(0, .ref (h 2)), (1, .int x1)] := hl
  have hx := E.1.1
  have hb := E.1.2.1
  have hml := E.1.2.2.1
  unfold FX0_newAddressOf at hF
  refine lv_aload_n hx hb dX0_newAddressOf_0 rfl (lv_at hl 0 rfl) ?_
  refine g_2_0 E hP dX0_newAddressOf_1 ?_
  refine lv_iload_n hx hb dX0_newAddressOf_4 rfl (lv_at hl 1 rfl) ?_
  obtain ⟨r1, u2, hc3, hF⟩ := bd_some hF
  refine call_i (rest := []) E hA hP hD hS hl.1 (kX1_isAddress l D h cI cJ cZ n x1 st r1 u2 hc3) cw_X0_102 1 rfl rfl rfl rfl rfl (Nat.le_of_ble_eq_true rfl) ⟨Nat.le_of_ble_eq_true rfl, Nat.le_of_ble_eq_true rfl⟩ ⟨Nat.zero_le _, Nat.zero_le _⟩ dX0_newAddressOf_5 (fun H locs hP hD hS => ?_)
  obtain ⟨v5, hv, hF⟩ := be_some hF
  refine dia (jpc := 21) (v1 := v5) (rest := []) (ls := ls) ?_ (fun kont => ?_)
  · skip
    exact endI E hr hlocks hP hD hS dX0_newAddressOf_21 hF
  · skip
    refine lv_if_eq (tgt := 20) hx hb dX0_newAddressOf_8 (by decide) (fun hc => ?_) (fun hc => ?_)
    · have hv := if_t hc hv
      refine lv_iconst (v := (-1)) hx hb dX0_newAddressOf_20 (by decide) ?_
      exact topE (Option.some.inj hv) kont
    · have hv := if_f hc hv
      refine lv_aload_n hx hb dX0_newAddressOf_11 rfl (lv_at hl 0 rfl) ?_
      refine g_2_3 E hP dX0_newAddressOf_12 ?_
      refine lv_iload_n hx hb dX0_newAddressOf_15 rfl (lv_at hl 1 rfl) ?_
      obtain ⟨hi6, hv⟩ := gd_some hv
      refine la_10 E hP hi6 dX0_newAddressOf_16 ?_
      refine lv_goto (tgt := 21) hx hb dX0_newAddressOf_17 (by decide) ?_
      exact topE (Option.some.inj hv) kont
theorem cw_X0_176 : cwd RX0 176 RX0 yX0_newAddressOf cX0_newAddressOf 2 (some .int) 1 := ⟨tb_V (tb_in 328 (by decide +kernel) (by decide +kernel)) (tb_in 330 (by decide +kernel) (by decide +kernel)) (tb_in 15 (by decide +kernel) (by decide +kernel)) (tb_in 48 (by decide +kernel) (by decide +kernel)) (tb_in 331 (by decide +kernel) (by decide +kernel)), by decide +kernel⟩
theorem cw_X0_179 : cwd RX0 179 RX1 yX1_setRef cX1_setRef 4 none 3 := ⟨tb_V (tb_in 332 (by decide +kernel) (by decide +kernel)) (tb_in 333 (by decide +kernel) (by decide +kernel)) (tb_in 334 (by decide +kernel) (by decide +kernel)) (tb_in 47 (by decide +kernel) (by decide +kernel)) (tb_in 335 (by decide +kernel) (by decide +kernel)), by decide +kernel⟩
-- LooseHeap$Collector.tellNewRefs
def LX0_tellNewRefs_11 : Nat → Int32 → Int32 → Int32 → St → Option (Int32 × St)
  | 0 => fun _ _ _ _ => none
  | n + 1 => fun x1 x2 x3 st => (if x2 ≤ x3 then some ((0 : Int32), st) else bd (FX1_ref n x1 x3 st) (fun r4 u5 => bd (FX0_newAddressOf n r4 u5) (fun r7 u8 => bd (FX1_setRef n x1 x3 r7 u8) (fun r10 u11 => LX0_tellNewRefs_11 n x1 x2 (x3 + (1 : Int32)) u11))))
set_option maxHeartbeats 4000000 in
set_option maxRecDepth 100000 in
theorem lX0_tellNewRefs_11 {l : Launch} {D : va_G} {h : Nat → Nat} {cI cJ cZ : ClassId} {p : Program} {e : Env} {s : State} {m : MethodId} {args : Array Value} {below : List Frame} {meth : Method} {c : Code} {A : Nat → Prop} {r : Int32} {u : St} (E : Env1 p s m args c cX0_tellNewRefs 4 RX0 D (tyL cI cJ cZ)) (hr : meth.sig.returnType = none) (hlocks : meth.locks = false) (hA : ∀ q : Nat, s.heap.size ≤ q → A q) : ∀ (n : Nat) (x1 x2 x3 : Int32) (st : St) (H : Heap) (locs : List Loc) (ls : Array Slot), va_P D vwCl (wX h cI cJ cZ st) H → va_D A (wX h cI cJ cZ st) → va_S A s.heap H locs → lv_has ls 4 [(0, .ref (h 2)), (1, .int x1), (2, .int x2), (3, .int x3)] → LX0_tellNewRefs_11 n x1 x2 x3 st = some (r, u) → W p l e (rm 2 42) s m args below meth c H locs 0 0 (MQ below (CQv D (tyL cI cJ cZ) (wX h cI cJ cZ) A u) args s 0 0 A) (F0 m 11 ls []) := by
  have hx := E.1.1
  have hb := E.1.2.1
  have hml := E.1.2.2.1
  intro n
  induction n with
  | zero => intro x1 x2 x3 st H locs ls hP hD hS hl hF; simp only [LX0_tellNewRefs_11] at hF; cases hF
  | succ n ih =>
    intro x1 x2 x3 st H locs ls hP hD hS hl hF
    simp only [LX0_tellNewRefs_11] at hF
    refine lv_iload_n hx hb dX0_tellNewRefs_11 rfl (lv_at hl 3 rfl) ?_
    refine lv_iload_n hx hb dX0_tellNewRefs_12 rfl (lv_at hl 2 rfl) ?_
    refine lv_icmp_ge (tgt := 44) hx hb dX0_tellNewRefs_13 (by decide) (fun hc => ?_) (fun hc => ?_)
    · have hF := if_t hc hF
      exact endV E hr hlocks hP hD hS dX0_tellNewRefs_44 hF
    · have hF := if_f hc hF
      refine lv_aload_n hx hb dX0_tellNewRefs_16 rfl (lv_at hl 0 rfl) ?_
      refine g_2_0 E hP dX0_tellNewRefs_17 ?_
      refine lv_iload_n hx hb dX0_tellNewRefs_20 rfl (lv_at hl 1 rfl) ?_
      refine lv_iload_n hx hb dX0_tellNewRefs_21 rfl (lv_at hl 3 rfl) ?_
      refine lv_aload_n hx hb dX0_tellNewRefs_22 rfl (lv_at hl 0 rfl) ?_
      refine lv_aload_n hx hb dX0_tellNewRefs_23 rfl (lv_at hl 0 rfl) ?_
      refine g_2_0 E hP dX0_tellNewRefs_24 ?_
      refine lv_iload_n hx hb dX0_tellNewRefs_27 rfl (lv_at hl 1 rfl) ?_
      refine lv_iload_n hx hb dX0_tellNewRefs_28 rfl (lv_at hl 3 rfl) ?_
      obtain ⟨r4, u5, hc6, hF⟩ := bd_some hF
      refine call_i (rest := [.ref (h 2), .int x3, .int x1, .ref (h 1)]) E hA hP hD hS hl.1 (kX1_ref l D h cI cJ cZ n x1 x3 st r4 u5 hc6) cw_X0_152 1 rfl rfl rfl rfl rfl (Nat.le_of_ble_eq_true rfl) ⟨Nat.le_of_ble_eq_true rfl, Nat.le_of_ble_eq_true rfl⟩ ⟨Nat.zero_le _, Nat.zero_le _⟩ dX0_tellNewRefs_29 (fun H locs hP hD hS => ?_)
      obtain ⟨r7, u8, hc9, hF⟩ := bd_some hF
      refine call_i (rest := [.int x3, .int x1, .ref (h 1)]) E hA hP hD hS hl.1 (kX0_newAddressOf l D h cI cJ cZ n r4 u5 r7 u8 hc9) cw_X0_176 2 rfl rfl rfl rfl rfl (Nat.le_of_ble_eq_true rfl) ⟨Nat.le_of_ble_eq_true rfl, Nat.le_of_ble_eq_true rfl⟩ ⟨Nat.zero_le _, Nat.zero_le _⟩ dX0_tellNewRefs_32 (fun H locs hP hD hS => ?_)
      obtain ⟨r10, u11, hc12, hF⟩ := bd_some hF
      refine call_v (rest := []) E hA hP hD hS hl.1 (kX1_setRef l D h cI cJ cZ n x1 x3 r7 u8 r10 u11 hc12) cw_X0_179 1 rfl rfl rfl rfl rfl (Nat.le_of_ble_eq_true rfl) ⟨Nat.le_of_ble_eq_true rfl, Nat.le_of_ble_eq_true rfl⟩ ⟨Nat.zero_le _, Nat.zero_le _⟩ dX0_tellNewRefs_35 (fun H locs hP hD hS => ?_)
      refine lv_iinc (v := (x3 + (1 : Int32))) (lv' := [(3, .int (x3 + (1 : Int32))), (0, .ref (h 2)), (1, .int x1), (2, .int x2)]) hx hb dX0_tellNewRefs_38 hl (k := 3) rfl rfl (by decide) rfl (fun ls hl => ?_)
      refine lv_goto (tgt := 11) hx hb dX0_tellNewRefs_41 (by decide) ?_
      exact ih _ _ _ _ _ _ _ hP hD hS (lv_sub hl [1, 2, 3, 0] rfl) hF
def FX0_tellNewRefs (n : Nat) (x1 : Int32) (st : St) : Option (Int32 × St) := bd (FX1_refsOf n x1 st) (fun r1 u2 => LX0_tellNewRefs_11 n x1 r1 (0 : Int32) u2)
set_option maxHeartbeats 4000000 in
set_option maxRecDepth 100000 in
theorem kX0_tellNewRefs (l : Launch) (D : va_G) (h : Nat → Nat) (cI cJ cZ : ClassId) (n : Nat) (x1 : Int32) (st : St) (r : Int32) (u : St) (hF : FX0_tellNewRefs n x1 st = some (r, u)) : Cv l yX0_tellNewRefs cX0_tellNewRefs 4 2 42 D (tyL cI cJ cZ) (wX h cI cJ cZ) st [.ref (h 2), .int x1] u := by
  refine body_v (by decide +kernel) (Nat.le_of_ble_eq_true rfl) ?_
  intro p e s m below meth c A ls E hr hlocks hA hP hD hS hl
  have E : Env1 p s m _ c cX0_tellNewRefs 4 RX0 D (tyL cI cJ cZ) := E
  have hl : lv_has ls 4 [(0, .ref (h 2)), (1, .int x1)] := hl
  have hx := E.1.1
  have hb := E.1.2.1
  have hml := E.1.2.2.1
  unfold FX0_tellNewRefs at hF
  refine lv_aload_n hx hb dX0_tellNewRefs_0 rfl (lv_at hl 0 rfl) ?_
  refine g_2_0 E hP dX0_tellNewRefs_1 ?_
  refine lv_iload_n hx hb dX0_tellNewRefs_4 rfl (lv_at hl 1 rfl) ?_
  obtain ⟨r1, u2, hc3, hF⟩ := bd_some hF
  refine call_i (rest := []) E hA hP hD hS hl.1 (kX1_refsOf l D h cI cJ cZ n x1 st r1 u2 hc3) cw_X0_149 1 rfl rfl rfl rfl rfl (Nat.le_of_ble_eq_true rfl) ⟨Nat.le_of_ble_eq_true rfl, Nat.le_of_ble_eq_true rfl⟩ ⟨Nat.zero_le _, Nat.zero_le _⟩ dX0_tellNewRefs_5 (fun H locs hP hD hS => ?_)
  refine lv_istore_n (lv' := [(2, .int r1), (0, .ref (h 2)), (1, .int x1)]) hx hb dX0_tellNewRefs_8 rfl hl (by decide) rfl (fun ls hl => ?_)
  refine lv_iconst (v := 0) hx hb dX0_tellNewRefs_9 (by decide) ?_
  refine lv_istore_n (lv' := [(3, .int (0 : Int32)), (2, .int r1), (0, .ref (h 2)), (1, .int x1)]) hx hb dX0_tellNewRefs_10 rfl hl (by decide) rfl (fun ls hl => ?_)
  exact lX0_tellNewRefs_11 E hr hlocks hA n x1 r1 (0 : Int32) u2 _ _ _ hP hD hS (lv_sub hl [2, 3, 1, 0] rfl) hF
theorem cw_X0_170 : cwd RX0 170 RX1 yX1_copySmall cX1_copySmall 4 none 2 := ⟨tb_V (tb_in 312 (by decide +kernel) (by decide +kernel)) (tb_in 313 (by decide +kernel) (by decide +kernel)) (tb_in 314 (by decide +kernel) (by decide +kernel)) (tb_in 47 (by decide +kernel) (by decide +kernel)) (tb_in 315 (by decide +kernel) (by decide +kernel)), by decide +kernel⟩
theorem cw_X0_173 : cwd RX0 173 RX0 yX0_tellNewRefs cX0_tellNewRefs 4 none 1 := ⟨tb_V (tb_in 324 (by decide +kernel) (by decide +kernel)) (tb_in 326 (by decide +kernel) (by decide +kernel)) (tb_in 14 (by decide +kernel) (by decide +kernel)) (tb_in 48 (by decide +kernel) (by decide +kernel)) (tb_in 327 (by decide +kernel) (by decide +kernel)), by decide +kernel⟩
-- LooseHeap$Collector.moveRow
def LX0_moveRow_2 : Nat → Int32 → St → Option (Int32 × St)
  | 0 => fun _ _ => none
  | n + 1 => fun x1 st => (if (st.1 2 2) ≤ x1 then some ((0 : Int32), st) else gd x1 4096 (gd (st.1 9 x1.toNatClampNeg) 4096 ((if (st.1 9 x1.toNatClampNeg) = (st.1 10 (st.1 9 x1.toNatClampNeg).toNatClampNeg) then bd (FX0_tellNewRefs n (st.1 10 (st.1 9 x1.toNatClampNeg).toNatClampNeg) st) (fun r3 u4 => LX0_moveRow_2 n (x1 + (1 : Int32)) u4) else bd (FX1_copySmall n (st.1 9 x1.toNatClampNeg) (st.1 10 (st.1 9 x1.toNatClampNeg).toNatClampNeg) st) (fun r6 u7 => bd (FX0_tellNewRefs n (st.1 10 (st.1 9 x1.toNatClampNeg).toNatClampNeg) u7) (fun r9 u10 => LX0_moveRow_2 n (x1 + (1 : Int32)) u10))))))
set_option maxHeartbeats 4000000 in
set_option maxRecDepth 100000 in
theorem lX0_moveRow_2 {l : Launch} {D : va_G} {h : Nat → Nat} {cI cJ cZ : ClassId} {p : Program} {e : Env} {s : State} {m : MethodId} {args : Array Value} {below : List Frame} {meth : Method} {c : Code} {A : Nat → Prop} {r : Int32} {u : St} (E : Env1 p s m args c cX0_moveRow 4 RX0 D (tyL cI cJ cZ)) (hr : meth.sig.returnType = none) (hlocks : meth.locks = false) (hA : ∀ q : Nat, s.heap.size ≤ q → A q) : ∀ (n : Nat) (x1 : Int32) (st : St) (H : Heap) (locs : List Loc) (ls : Array Slot), va_P D vwCl (wX h cI cJ cZ st) H → va_D A (wX h cI cJ cZ st) → va_S A s.heap H locs → lv_has ls 4 [(0, .ref (h 2)), (1, .int x1)] → LX0_moveRow_2 n x1 st = some (r, u) → W p l e (rm 3 123) s m args below meth c H locs 0 0 (MQ below (CQv D (tyL cI cJ cZ) (wX h cI cJ cZ) A u) args s 0 0 A) (F0 m 2 ls []) := by
  have hx := E.1.1
  have hb := E.1.2.1
  have hml := E.1.2.2.1
  intro n
  induction n with
  | zero => intro x1 st H locs ls hP hD hS hl hF; simp only [LX0_moveRow_2] at hF; cases hF
  | succ n ih =>
    intro x1 st H locs ls hP hD hS hl hF
    simp only [LX0_moveRow_2] at hF
    refine lv_iload_n hx hb dX0_moveRow_2 rfl (lv_at hl 1 rfl) ?_
    refine lv_aload_n hx hb dX0_moveRow_3 rfl (lv_at hl 0 rfl) ?_
    refine g_2_2 E hP dX0_moveRow_4 ?_
    refine lv_icmp_ge (tgt := 49) hx hb dX0_moveRow_7 (by decide) (fun hc => ?_) (fun hc => ?_)
    · have hF := if_t hc hF
      exact endV E hr hlocks hP hD hS dX0_moveRow_49 hF
    · have hF := if_f hc hF
      refine lv_aload_n hx hb dX0_moveRow_10 rfl (lv_at hl 0 rfl) ?_
      refine g_2_1 E hP dX0_moveRow_11 ?_
      refine lv_iload_n hx hb dX0_moveRow_14 rfl (lv_at hl 1 rfl) ?_
      obtain ⟨hi1, hF⟩ := gd_some hF
      refine la_9 E hP hi1 dX0_moveRow_15 ?_
      refine lv_istore_n (lv' := [(2, .int (st.1 9 x1.toNatClampNeg)), (0, .ref (h 2)), (1, .int x1)]) hx hb dX0_moveRow_16 rfl hl (by decide) rfl (fun ls hl => ?_)
      refine lv_aload_n hx hb dX0_moveRow_17 rfl (lv_at hl 1 rfl) ?_
      refine g_2_3 E hP dX0_moveRow_18 ?_
      refine lv_iload_n hx hb dX0_moveRow_21 rfl (lv_at hl 0 rfl) ?_
      obtain ⟨hi2, hF⟩ := gd_some hF
      refine la_10 E hP hi2 dX0_moveRow_22 ?_
      refine lv_istore_n (lv' := [(3, .int (st.1 10 (st.1 9 x1.toNatClampNeg).toNatClampNeg)), (2, .int (st.1 9 x1.toNatClampNeg)), (0, .ref (h 2)), (1, .int x1)]) hx hb dX0_moveRow_23 rfl hl (by decide) rfl (fun ls hl => ?_)
      refine lv_iload_n hx hb dX0_moveRow_24 rfl (lv_at hl 1 rfl) ?_
      refine lv_iload_n hx hb dX0_moveRow_25 rfl (lv_at hl 0 rfl) ?_
      refine lv_icmp_eq (tgt := 38) hx hb dX0_moveRow_26 (by decide) (fun hc => ?_) (fun hc => ?_)
      · have hF := if_t hc hF
        refine lv_aload_n hx hb dX0_moveRow_38 rfl (lv_at hl 2 rfl) ?_
        refine lv_iload_n hx hb dX0_moveRow_39 rfl (lv_at hl 0 rfl) ?_
        obtain ⟨r3, u4, hc5, hF⟩ := bd_some hF
        refine call_v (rest := []) E hA hP hD hS hl.1 (kX0_tellNewRefs l D h cI cJ cZ n (st.1 10 (st.1 9 x1.toNatClampNeg).toNatClampNeg) st r3 u4 hc5) cw_X0_173 2 rfl rfl rfl rfl rfl (Nat.le_of_ble_eq_true rfl) ⟨Nat.le_of_ble_eq_true rfl, Nat.le_of_ble_eq_true rfl⟩ ⟨Nat.zero_le _, Nat.zero_le _⟩ dX0_moveRow_40 (fun H locs hP hD hS => ?_)
        refine lv_iinc (v := (x1 + (1 : Int32))) (lv' := [(1, .int (x1 + (1 : Int32))), (3, .int (st.1 10 (st.1 9 x1.toNatClampNeg).toNatClampNeg)), (2, .int (st.1 9 x1.toNatClampNeg)), (0, .ref (h 2))]) hx hb dX0_moveRow_43 hl (k := 3) rfl rfl (by decide) rfl (fun ls hl => ?_)
        refine lv_goto (tgt := 2) hx hb dX0_moveRow_46 (by decide) ?_
        exact ih _ _ _ _ _ hP hD hS (lv_sub hl [3, 0] rfl) hF
      · have hF := if_f hc hF
        refine lv_aload_n hx hb dX0_moveRow_29 rfl (lv_at hl 2 rfl) ?_
        refine g_2_0 E hP dX0_moveRow_30 ?_
        refine lv_iload_n hx hb dX0_moveRow_33 rfl (lv_at hl 1 rfl) ?_
        refine lv_iload_n hx hb dX0_moveRow_34 rfl (lv_at hl 0 rfl) ?_
        obtain ⟨r6, u7, hc8, hF⟩ := bd_some hF
        refine call_v (rest := []) E hA hP hD hS hl.1 (kX1_copySmall l D h cI cJ cZ n (st.1 9 x1.toNatClampNeg) (st.1 10 (st.1 9 x1.toNatClampNeg).toNatClampNeg) st r6 u7 hc8) cw_X0_170 1 rfl rfl rfl rfl rfl (Nat.le_of_ble_eq_true rfl) ⟨Nat.le_of_ble_eq_true rfl, Nat.le_of_ble_eq_true rfl⟩ ⟨Nat.zero_le _, Nat.zero_le _⟩ dX0_moveRow_35 (fun H locs hP hD hS => ?_)
        refine lv_aload_n hx hb dX0_moveRow_38 rfl (lv_at hl 2 rfl) ?_
        refine lv_iload_n hx hb dX0_moveRow_39 rfl (lv_at hl 0 rfl) ?_
        obtain ⟨r9, u10, hc11, hF⟩ := bd_some hF
        refine call_v (rest := []) E hA hP hD hS hl.1 (kX0_tellNewRefs l D h cI cJ cZ n (st.1 10 (st.1 9 x1.toNatClampNeg).toNatClampNeg) u7 r9 u10 hc11) cw_X0_173 2 rfl rfl rfl rfl rfl (Nat.le_of_ble_eq_true rfl) ⟨Nat.le_of_ble_eq_true rfl, Nat.le_of_ble_eq_true rfl⟩ ⟨Nat.zero_le _, Nat.zero_le _⟩ dX0_moveRow_40 (fun H locs hP hD hS => ?_)
        refine lv_iinc (v := (x1 + (1 : Int32))) (lv' := [(1, .int (x1 + (1 : Int32))), (3, .int (st.1 10 (st.1 9 x1.toNatClampNeg).toNatClampNeg)), (2, .int (st.1 9 x1.toNatClampNeg)), (0, .ref (h 2))]) hx hb dX0_moveRow_43 hl (k := 3) rfl rfl (by decide) rfl (fun ls hl => ?_)
        refine lv_goto (tgt := 2) hx hb dX0_moveRow_46 (by decide) ?_
        exact ih _ _ _ _ _ hP hD hS (lv_sub hl [3, 0] rfl) hF
def FX0_moveRow (n : Nat) (st : St) : Option (Int32 × St) := LX0_moveRow_2 n (0 : Int32) st
set_option maxHeartbeats 4000000 in
set_option maxRecDepth 100000 in
theorem kX0_moveRow (l : Launch) (D : va_G) (h : Nat → Nat) (cI cJ cZ : ClassId) (n : Nat) (st : St) (r : Int32) (u : St) (hF : FX0_moveRow n  st = some (r, u)) : Cv l yX0_moveRow cX0_moveRow 4 3 123 D (tyL cI cJ cZ) (wX h cI cJ cZ) st [.ref (h 2)] u := by
  refine body_v (by decide +kernel) (Nat.le_of_ble_eq_true rfl) ?_
  intro p e s m below meth c A ls E hr hlocks hA hP hD hS hl
  have E : Env1 p s m _ c cX0_moveRow 4 RX0 D (tyL cI cJ cZ) := E
  have hl : lv_has ls 4 [(0, .ref (h 2))] := hl
  have hx := E.1.1
  have hb := E.1.2.1
  have hml := E.1.2.2.1
  unfold FX0_moveRow at hF
  refine lv_iconst (v := 0) hx hb dX0_moveRow_0 (by decide) ?_
  refine lv_istore_n (lv' := [(1, .int (0 : Int32)), (0, .ref (h 2))]) hx hb dX0_moveRow_1 rfl hl (by decide) rfl (fun ls hl => ?_)
  exact lX0_moveRow_2 E hr hlocks hA n (0 : Int32) st _ _ _ hP hD hS (lv_sub hl [1, 0] rfl) hF
-- LooseHeap$Collector.tellNewAddresses
def LX0_tellNewAddresses_2 : Nat → Int32 → St → Option (Int32 × St)
  | 0 => fun _ _ => none
  | n + 1 => fun x2 st => (if (32 : Int32) ≤ x2 then some ((0 : Int32), st) else gd x2 32 (bd (FX0_newAddressOf n (st.1 3 x2.toNatClampNeg) st) (fun r2 u3 => gd x2 32 (LX0_tellNewAddresses_2 n (x2 + (1 : Int32)) (pt u3 3 x2.toNatClampNeg r2)))))
set_option maxHeartbeats 4000000 in
set_option maxRecDepth 100000 in
theorem lX0_tellNewAddresses_2 {l : Launch} {D : va_G} {h : Nat → Nat} {cI cJ cZ : ClassId} {p : Program} {e : Env} {s : State} {m : MethodId} {args : Array Value} {below : List Frame} {meth : Method} {c : Code} {A : Nat → Prop} {r : Int32} {u : St} (E : Env1 p s m args c cX0_tellNewAddresses 3 RX0 D (tyL cI cJ cZ)) (hr : meth.sig.returnType = none) (hlocks : meth.locks = false) (hA : ∀ q : Nat, s.heap.size ≤ q → A q) : ∀ (n : Nat) (x2 : Int32) (st : St) (H : Heap) (locs : List Loc) (ls : Array Slot), va_P D vwCl (wX h cI cJ cZ st) H → va_D A (wX h cI cJ cZ st) → va_S A s.heap H locs → lv_has ls 3 [(0, .ref (h 2)), (1, .ref (h 3)), (2, .int x2)] → LX0_tellNewAddresses_2 n x2 st = some (r, u) → W p l e (rm 2 42) s m args below meth c H locs 0 0 (MQ below (CQv D (tyL cI cJ cZ) (wX h cI cJ cZ) A u) args s 0 0 A) (F0 m 2 ls []) := by
  have hx := E.1.1
  have hb := E.1.2.1
  have hml := E.1.2.2.1
  intro n
  induction n with
  | zero => intro x2 st H locs ls hP hD hS hl hF; simp only [LX0_tellNewAddresses_2] at hF; cases hF
  | succ n ih =>
    intro x2 st H locs ls hP hD hS hl hF
    simp only [LX0_tellNewAddresses_2] at hF
    refine lv_iload_n hx hb dX0_tellNewAddresses_2 rfl (lv_at hl 2 rfl) ?_
    refine lv_aload_n hx hb dX0_tellNewAddresses_3 rfl (lv_at hl 1 rfl) ?_
    refine al_3 E hP dX0_tellNewAddresses_4 ?_
    refine lv_icmp_ge (tgt := 24) hx hb dX0_tellNewAddresses_5 (by decide) (fun hc => ?_) (fun hc => ?_)
    · have hF := if_t hc hF
      exact endV E hr hlocks hP hD hS dX0_tellNewAddresses_24 hF
    · have hF := if_f hc hF
      refine lv_aload_n hx hb dX0_tellNewAddresses_8 rfl (lv_at hl 1 rfl) ?_
      refine lv_iload_n hx hb dX0_tellNewAddresses_9 rfl (lv_at hl 2 rfl) ?_
      refine lv_aload_n hx hb dX0_tellNewAddresses_10 rfl (lv_at hl 0 rfl) ?_
      refine lv_aload_n hx hb dX0_tellNewAddresses_11 rfl (lv_at hl 1 rfl) ?_
      refine lv_iload_n hx hb dX0_tellNewAddresses_12 rfl (lv_at hl 2 rfl) ?_
      obtain ⟨hi1, hF⟩ := gd_some hF
      refine la_3 E hP hi1 dX0_tellNewAddresses_13 ?_
      obtain ⟨r2, u3, hc4, hF⟩ := bd_some hF
      refine call_i (rest := [.int x2, .ref (h 3)]) E hA hP hD hS hl.1 (kX0_newAddressOf l D h cI cJ cZ n (st.1 3 x2.toNatClampNeg) st r2 u3 hc4) cw_X0_176 2 rfl rfl rfl rfl rfl (Nat.le_of_ble_eq_true rfl) ⟨Nat.le_of_ble_eq_true rfl, Nat.le_of_ble_eq_true rfl⟩ ⟨Nat.zero_le _, Nat.zero_le _⟩ dX0_tellNewAddresses_14 (fun H locs hP hD hS => ?_)
      obtain ⟨hi5, hF⟩ := gd_some hF
      refine sa_3 E hP hD hS hi5 dX0_tellNewAddresses_17 (fun H locs hP hD hS => ?_)
      refine lv_iinc (v := (x2 + (1 : Int32))) (lv' := [(2, .int (x2 + (1 : Int32))), (0, .ref (h 2)), (1, .ref (h 3))]) hx hb dX0_tellNewAddresses_18 hl (k := 2) rfl rfl (by decide) rfl (fun ls hl => ?_)
      refine lv_goto (tgt := 2) hx hb dX0_tellNewAddresses_21 (by decide) ?_
      exact ih _ _ _ _ _ hP hD hS (lv_sub hl [1, 2, 0] rfl) hF
def FX0_tellNewAddresses (n : Nat) (st : St) : Option (Int32 × St) := LX0_tellNewAddresses_2 n (0 : Int32) st
set_option maxHeartbeats 4000000 in
set_option maxRecDepth 100000 in
theorem kX0_tellNewAddresses (l : Launch) (D : va_G) (h : Nat → Nat) (cI cJ cZ : ClassId) (n : Nat) (st : St) (r : Int32) (u : St) (hF : FX0_tellNewAddresses n  st = some (r, u)) : Cv l yX0_tellNewAddresses cX0_tellNewAddresses 3 2 42 D (tyL cI cJ cZ) (wX h cI cJ cZ) st [.ref (h 2), .ref (h 3)] u := by
  refine body_v (by decide +kernel) (Nat.le_of_ble_eq_true rfl) ?_
  intro p e s m below meth c A ls E hr hlocks hA hP hD hS hl
  have E : Env1 p s m _ c cX0_tellNewAddresses 3 RX0 D (tyL cI cJ cZ) := E
  have hl : lv_has ls 3 [(0, .ref (h 2)), (1, .ref (h 3))] := hl
  have hx := E.1.1
  have hb := E.1.2.1
  have hml := E.1.2.2.1
  unfold FX0_tellNewAddresses at hF
  refine lv_iconst (v := 0) hx hb dX0_tellNewAddresses_0 (by decide) ?_
  refine lv_istore_n (lv' := [(2, .int (0 : Int32)), (0, .ref (h 2)), (1, .ref (h 3))]) hx hb dX0_tellNewAddresses_1 rfl hl (by decide) rfl (fun ls hl => ?_)
  exact lX0_tellNewAddresses_2 E hr hlocks hA n (0 : Int32) st _ _ _ hP hD hS (lv_sub hl [1, 2, 0] rfl) hF
theorem cw_X0_183 : cwd RX0 183 RX1 yX1_freePagesBut cX1_freePagesBut 4 (some .int) 1 := ⟨tb_V (tb_in 344 (by decide +kernel) (by decide +kernel)) (tb_in 345 (by decide +kernel) (by decide +kernel)) (tb_in 346 (by decide +kernel) (by decide +kernel)) (tb_in 47 (by decide +kernel) (by decide +kernel)) (tb_in 347 (by decide +kernel) (by decide +kernel)), by decide +kernel⟩
theorem cw_X0_187 : cwd RX0 187 RX1 yX1_setOpenPage cX1_setOpenPage 2 none 1 := ⟨tb_V (tb_in 353 (by decide +kernel) (by decide +kernel)) (tb_in 354 (by decide +kernel) (by decide +kernel)) (tb_in 355 (by decide +kernel) (by decide +kernel)) (tb_in 47 (by decide +kernel) (by decide +kernel)) (tb_in 356 (by decide +kernel) (by decide +kernel)), by decide +kernel⟩
-- LooseHeap$Collector.finish
def LX0_finish_33 : Nat → Int32 → St → Option (Int32 × St)
  | 0 => fun _ _ => none
  | n + 1 => fun x1 st => (if (64 : Int32) ≤ x1 then some ((0 : Int32), (pt (pt (pt (pt st 2 14 (st.1 2 2)) 2 15 ((pt st 2 14 (st.1 2 2)).1 2 8)) 2 16 ((pt (pt st 2 14 (st.1 2 2)) 2 15 ((pt st 2 14 (st.1 2 2)).1 2 8)).1 2 9)) 2 10 (((pt (pt (pt st 2 14 (st.1 2 2)) 2 15 ((pt st 2 14 (st.1 2 2)).1 2 8)) 2 16 ((pt (pt st 2 14 (st.1 2 2)) 2 15 ((pt st 2 14 (st.1 2 2)).1 2 8)).1 2 9)).1 2 10) + (1 : Int32)))) else gd x1 64 ((if (st.1 11 x1.toNatClampNeg) = 0 then gd x1 64 (gd x1 64 (LX0_finish_33 n (x1 + (1 : Int32)) (pt (pt st 13 x1.toNatClampNeg (0 : Int32)) 2 13 (((pt st 13 x1.toNatClampNeg (0 : Int32)).1 2 13) + ((pt st 13 x1.toNatClampNeg (0 : Int32)).1 13 x1.toNatClampNeg))))) else gd x1 64 (gd x1 64 (LX0_finish_33 n (x1 + (1 : Int32)) (pt (pt st 13 x1.toNatClampNeg (1 : Int32)) 2 13 (((pt st 13 x1.toNatClampNeg (1 : Int32)).1 2 13) + ((pt st 13 x1.toNatClampNeg (1 : Int32)).1 13 x1.toNatClampNeg))))))))
set_option maxHeartbeats 4000000 in
set_option maxRecDepth 100000 in
theorem lX0_finish_33 {l : Launch} {D : va_G} {h : Nat → Nat} {cI cJ cZ : ClassId} {p : Program} {e : Env} {s : State} {m : MethodId} {args : Array Value} {below : List Frame} {meth : Method} {c : Code} {A : Nat → Prop} {r : Int32} {u : St} (E : Env1 p s m args c cX0_finish 2 RX0 D (tyL cI cJ cZ)) (hr : meth.sig.returnType = none) (hlocks : meth.locks = false) (hA : ∀ q : Nat, s.heap.size ≤ q → A q) : ∀ (n : Nat) (x1 : Int32) (st : St) (H : Heap) (locs : List Loc) (ls : Array Slot), va_P D vwCl (wX h cI cJ cZ st) H → va_D A (wX h cI cJ cZ st) → va_S A s.heap H locs → lv_has ls 2 [(0, .ref (h 2)), (1, .int x1)] → LX0_finish_33 n x1 st = some (r, u) → W p l e (rm 3 67) s m args below meth c H locs 0 0 (MQ below (CQv D (tyL cI cJ cZ) (wX h cI cJ cZ) A u) args s 0 0 A) (F0 m 33 ls []) := by
  have hx := E.1.1
  have hb := E.1.2.1
  have hml := E.1.2.2.1
  intro n
  induction n with
  | zero => intro x1 st H locs ls hP hD hS hl hF; simp only [LX0_finish_33] at hF; cases hF
  | succ n ih =>
    intro x1 st H locs ls hP hD hS hl hF
    simp only [LX0_finish_33] at hF
    refine lv_iload_n hx hb dX0_finish_33 rfl (lv_at hl 1 rfl) ?_
    refine lv_bipush (v := 64) hx hb dX0_finish_34 (by decide) ?_
    refine lv_icmp_ge (tgt := 80) hx hb dX0_finish_36 (by decide) (fun hc => ?_) (fun hc => ?_)
    · have hF := if_t hc hF
      refine lv_aload_n hx hb dX0_finish_80 rfl (lv_at hl 0 rfl) ?_
      refine lv_aload_n hx hb dX0_finish_81 rfl (lv_at hl 0 rfl) ?_
      refine g_2_2 E hP dX0_finish_82 ?_
      refine s_2_14 E hP hD hS dX0_finish_85 (fun H locs hP hD hS => ?_)
      refine lv_aload_n hx hb dX0_finish_88 rfl (lv_at hl 0 rfl) ?_
      refine lv_aload_n hx hb dX0_finish_89 rfl (lv_at hl 0 rfl) ?_
      refine g_2_8 E hP dX0_finish_90 ?_
      refine s_2_15 E hP hD hS dX0_finish_93 (fun H locs hP hD hS => ?_)
      refine lv_aload_n hx hb dX0_finish_96 rfl (lv_at hl 0 rfl) ?_
      refine lv_aload_n hx hb dX0_finish_97 rfl (lv_at hl 0 rfl) ?_
      refine g_2_9 E hP dX0_finish_98 ?_
      refine s_2_16 E hP hD hS dX0_finish_101 (fun H locs hP hD hS => ?_)
      refine lv_aload_n hx hb dX0_finish_104 rfl (lv_at hl 0 rfl) ?_
      refine lv_dup hx hb dX0_finish_105 rfl ?_
      refine g_2_10 E hP dX0_finish_106 ?_
      refine lv_iconst (v := 1) hx hb dX0_finish_109 (by decide) ?_
      refine lv_iadd hx hb dX0_finish_110 ?_
      refine s_2_10 E hP hD hS dX0_finish_111 (fun H locs hP hD hS => ?_)
      exact endV E hr hlocks hP hD hS dX0_finish_114 hF
    · have hF := if_f hc hF
      refine lv_aload_n hx hb dX0_finish_39 rfl (lv_at hl 0 rfl) ?_
      refine g_2_12 E hP dX0_finish_40 ?_
      refine lv_iload_n hx hb dX0_finish_43 rfl (lv_at hl 1 rfl) ?_
      refine lv_aload_n hx hb dX0_finish_44 rfl (lv_at hl 0 rfl) ?_
      refine g_2_4 E hP dX0_finish_45 ?_
      refine lv_iload_n hx hb dX0_finish_48 rfl (lv_at hl 1 rfl) ?_
      obtain ⟨hi7, hF⟩ := gd_some hF
      refine la_11 E hP hi7 dX0_finish_49 ?_
      refine lv_if_eq (tgt := 57) hx hb dX0_finish_50 (by decide) (fun hc => ?_) (fun hc => ?_)
      · have hF := if_t hc hF
        refine lv_iconst (v := 0) hx hb dX0_finish_57 (by decide) ?_
        obtain ⟨hi8, hF⟩ := gd_some hF
        refine sa_13 E hP hD hS hi8 dX0_finish_58 (fun H locs hP hD hS => ?_)
        refine lv_aload_n hx hb dX0_finish_59 rfl (lv_at hl 0 rfl) ?_
        refine lv_dup hx hb dX0_finish_60 rfl ?_
        refine g_2_13 E hP dX0_finish_61 ?_
        refine lv_aload_n hx hb dX0_finish_64 rfl (lv_at hl 0 rfl) ?_
        refine g_2_12 E hP dX0_finish_65 ?_
        refine lv_iload_n hx hb dX0_finish_68 rfl (lv_at hl 1 rfl) ?_
        obtain ⟨hi9, hF⟩ := gd_some hF
        refine la_13 E hP hi9 dX0_finish_69 ?_
        refine lv_iadd hx hb dX0_finish_70 ?_
        refine s_2_13 E hP hD hS dX0_finish_71 (fun H locs hP hD hS => ?_)
        refine lv_iinc (v := (x1 + (1 : Int32))) (lv' := [(1, .int (x1 + (1 : Int32))), (0, .ref (h 2))]) hx hb dX0_finish_74 hl (k := 1) rfl rfl (by decide) rfl (fun ls hl => ?_)
        refine lv_goto (tgt := 33) hx hb dX0_finish_77 (by decide) ?_
        exact ih _ _ _ _ _ hP hD hS (lv_sub hl [1, 0] rfl) hF
      · have hF := if_f hc hF
        refine lv_iconst (v := 1) hx hb dX0_finish_53 (by decide) ?_
        refine lv_goto (tgt := 58) hx hb dX0_finish_54 (by decide) ?_
        obtain ⟨hi10, hF⟩ := gd_some hF
        refine sa_13 E hP hD hS hi10 dX0_finish_58 (fun H locs hP hD hS => ?_)
        refine lv_aload_n hx hb dX0_finish_59 rfl (lv_at hl 0 rfl) ?_
        refine lv_dup hx hb dX0_finish_60 rfl ?_
        refine g_2_13 E hP dX0_finish_61 ?_
        refine lv_aload_n hx hb dX0_finish_64 rfl (lv_at hl 0 rfl) ?_
        refine g_2_12 E hP dX0_finish_65 ?_
        refine lv_iload_n hx hb dX0_finish_68 rfl (lv_at hl 1 rfl) ?_
        obtain ⟨hi11, hF⟩ := gd_some hF
        refine la_13 E hP hi11 dX0_finish_69 ?_
        refine lv_iadd hx hb dX0_finish_70 ?_
        refine s_2_13 E hP hD hS dX0_finish_71 (fun H locs hP hD hS => ?_)
        refine lv_iinc (v := (x1 + (1 : Int32))) (lv' := [(1, .int (x1 + (1 : Int32))), (0, .ref (h 2))]) hx hb dX0_finish_74 hl (k := 1) rfl rfl (by decide) rfl (fun ls hl => ?_)
        refine lv_goto (tgt := 33) hx hb dX0_finish_77 (by decide) ?_
        exact ih _ _ _ _ _ hP hD hS (lv_sub hl [1, 0] rfl) hF
def FX0_finish (n : Nat) (st : St) : Option (Int32 × St) := bd (FX1_freePagesBut n  st) (fun r1 u2 => bd (FX1_setOpenPage n ((pt u2 2 17 r1).1 2 6) (pt u2 2 17 r1)) (fun r4 u5 => LX0_finish_33 n (0 : Int32) (pt u5 2 13 (0 : Int32))))
set_option maxHeartbeats 4000000 in
set_option maxRecDepth 100000 in
theorem kX0_finish (l : Launch) (D : va_G) (h : Nat → Nat) (cI cJ cZ : ClassId) (n : Nat) (st : St) (r : Int32) (u : St) (hF : FX0_finish n  st = some (r, u)) : Cv l yX0_finish cX0_finish 2 3 67 D (tyL cI cJ cZ) (wX h cI cJ cZ) st [.ref (h 2)] u := by
  refine body_v (by decide +kernel) (Nat.le_of_ble_eq_true rfl) ?_
  intro p e s m below meth c A ls E hr hlocks hA hP hD hS hl
  have E : Env1 p s m _ c cX0_finish 2 RX0 D (tyL cI cJ cZ) := E
  have hl : lv_has ls 2 [(0, .ref (h 2))] := hl
  have hx := E.1.1
  have hb := E.1.2.1
  have hml := E.1.2.2.1
  unfold FX0_finish at hF
  refine lv_aload_n hx hb dX0_finish_0 rfl (lv_at hl 0 rfl) ?_
  refine lv_aload_n hx hb dX0_finish_1 rfl (lv_at hl 0 rfl) ?_
  refine g_2_0 E hP dX0_finish_2 ?_
  refine lv_aload_n hx hb dX0_finish_5 rfl (lv_at hl 0 rfl) ?_
  refine g_2_5 E hP dX0_finish_6 ?_
  obtain ⟨r1, u2, hc3, hF⟩ := bd_some hF
  refine call_i (rest := [.ref (h 2)]) E hA hP hD hS hl.1 (kX1_freePagesBut l D h cI cJ cZ n  st r1 u2 hc3) cw_X0_183 1 rfl rfl rfl rfl rfl (Nat.le_of_ble_eq_true rfl) ⟨Nat.le_of_ble_eq_true rfl, Nat.le_of_ble_eq_true rfl⟩ ⟨Nat.zero_le _, Nat.zero_le _⟩ dX0_finish_9 (fun H locs hP hD hS => ?_)
  refine s_2_17 E hP hD hS dX0_finish_12 (fun H locs hP hD hS => ?_)
  refine lv_aload_n hx hb dX0_finish_15 rfl (lv_at hl 0 rfl) ?_
  refine g_2_0 E hP dX0_finish_16 ?_
  refine lv_aload_n hx hb dX0_finish_19 rfl (lv_at hl 0 rfl) ?_
  refine g_2_6 E hP dX0_finish_20 ?_
  obtain ⟨r4, u5, hc6, hF⟩ := bd_some hF
  refine call_v (rest := []) E hA hP hD hS hl.1 (kX1_setOpenPage l D h cI cJ cZ n ((pt u2 2 17 r1).1 2 6) (pt u2 2 17 r1) r4 u5 hc6) cw_X0_187 1 rfl rfl rfl rfl rfl (Nat.le_of_ble_eq_true rfl) ⟨Nat.le_of_ble_eq_true rfl, Nat.le_of_ble_eq_true rfl⟩ ⟨Nat.zero_le _, Nat.zero_le _⟩ dX0_finish_23 (fun H locs hP hD hS => ?_)
  refine lv_aload_n hx hb dX0_finish_26 rfl (lv_at hl 0 rfl) ?_
  refine lv_iconst (v := 0) hx hb dX0_finish_27 (by decide) ?_
  refine s_2_13 E hP hD hS dX0_finish_28 (fun H locs hP hD hS => ?_)
  refine lv_iconst (v := 0) hx hb dX0_finish_31 (by decide) ?_
  refine lv_istore_n (lv' := [(1, .int (0 : Int32)), (0, .ref (h 2))]) hx hb dX0_finish_32 rfl hl (by decide) rfl (fun ls hl => ?_)
  exact lX0_finish_33 E hr hlocks hA n (0 : Int32) (pt u5 2 13 (0 : Int32)) _ _ _ hP hD hS (lv_sub hl [1, 0] rfl) hF
theorem cw_X0_60 : cwd RX0 60 RX0 yX0_clearPlan cX0_clearPlan 2 none 0 := ⟨tb_V (tb_in 201 (by decide +kernel) (by decide +kernel)) (tb_in 203 (by decide +kernel) (by decide +kernel)) (tb_in 1 (by decide +kernel) (by decide +kernel)) (tb_in 48 (by decide +kernel) (by decide +kernel)) (tb_in 204 (by decide +kernel) (by decide +kernel)), by decide +kernel⟩
theorem cw_X0_63 : cwd RX0 63 RX0 yX0_markHits cX0_markHits 3 none 1 := ⟨tb_V (tb_in 205 (by decide +kernel) (by decide +kernel)) (tb_in 207 (by decide +kernel) (by decide +kernel)) (tb_in 2 (by decide +kernel) (by decide +kernel)) (tb_in 48 (by decide +kernel) (by decide +kernel)) (tb_in 208 (by decide +kernel) (by decide +kernel)), by decide +kernel⟩
theorem cw_X0_67 : cwd RX0 67 RX0 yX0_keepHitObjects cX0_keepHitObjects 2 none 0 := ⟨tb_V (tb_in 233 (by decide +kernel) (by decide +kernel)) (tb_in 235 (by decide +kernel) (by decide +kernel)) (tb_in 4 (by decide +kernel) (by decide +kernel)) (tb_in 48 (by decide +kernel) (by decide +kernel)) (tb_in 236 (by decide +kernel) (by decide +kernel)), by decide +kernel⟩
theorem cw_X0_70 : cwd RX0 70 RX0 yX0_reachFromRoots cX0_reachFromRoots 3 (some .boolean) 1 := ⟨tb_V (tb_in 262 (by decide +kernel) (by decide +kernel)) (tb_in 264 (by decide +kernel) (by decide +kernel)) (tb_in 7 (by decide +kernel) (by decide +kernel)) (tb_in 48 (by decide +kernel) (by decide +kernel)) (tb_in 265 (by decide +kernel) (by decide +kernel)), by decide +kernel⟩
theorem cw_X0_74 : cwd RX0 74 RX0 yX0_reachFromRow cX0_reachFromRow 4 (some .boolean) 0 := ⟨tb_V (tb_in 299 (by decide +kernel) (by decide +kernel)) (tb_in 301 (by decide +kernel) (by decide +kernel)) (tb_in 11 (by decide +kernel) (by decide +kernel)) (tb_in 48 (by decide +kernel) (by decide +kernel)) (tb_in 302 (by decide +kernel) (by decide +kernel)), by decide +kernel⟩
theorem cw_X0_78 : cwd RX0 78 RX0 yX0_moveRow cX0_moveRow 4 none 0 := ⟨tb_V (tb_in 308 (by decide +kernel) (by decide +kernel)) (tb_in 310 (by decide +kernel) (by decide +kernel)) (tb_in 12 (by decide +kernel) (by decide +kernel)) (tb_in 48 (by decide +kernel) (by decide +kernel)) (tb_in 311 (by decide +kernel) (by decide +kernel)), by decide +kernel⟩
theorem cw_X0_81 : cwd RX0 81 RX0 yX0_tellNewAddresses cX0_tellNewAddresses 3 none 1 := ⟨tb_V (tb_in 336 (by decide +kernel) (by decide +kernel)) (tb_in 338 (by decide +kernel) (by decide +kernel)) (tb_in 16 (by decide +kernel) (by decide +kernel)) (tb_in 48 (by decide +kernel) (by decide +kernel)) (tb_in 339 (by decide +kernel) (by decide +kernel)), by decide +kernel⟩
theorem cw_X0_84 : cwd RX0 84 RX0 yX0_finish cX0_finish 2 none 0 := ⟨tb_V (tb_in 340 (by decide +kernel) (by decide +kernel)) (tb_in 342 (by decide +kernel) (by decide +kernel)) (tb_in 17 (by decide +kernel) (by decide +kernel)) (tb_in 48 (by decide +kernel) (by decide +kernel)) (tb_in 343 (by decide +kernel) (by decide +kernel)), by decide +kernel⟩
-- LooseHeap$Collector.run
def FX0_run (n : Nat) (st : St) : Option (Int32 × St) := bd (FX0_clearPlan n  st) (fun r1 u2 => bd (FX0_markHits n  u2) (fun r4 u5 => bd (FX0_keepHitObjects n  u5) (fun r7 u8 => bd (FX0_reachFromRoots n  u8) (fun r10 u11 => (if r10 = 0 then some ((0 : Int32), (pt u11 2 11 ((u11.1 2 11) + (1 : Int32)))) else bd (FX0_reachFromRow n  u11) (fun r13 u14 => (if r13 = 0 then some ((0 : Int32), (pt u14 2 11 ((u14.1 2 11) + (1 : Int32)))) else bd (FX0_moveRow n  u14) (fun r16 u17 => bd (FX0_tellNewAddresses n  u17) (fun r19 u20 => bd (FX0_finish n  u20) (fun r22 u23 => some ((1 : Int32), u23)))))))))))
set_option maxHeartbeats 4000000 in
set_option maxRecDepth 100000 in
theorem kX0_run (l : Launch) (D : va_G) (h : Nat → Nat) (cI cJ cZ : ClassId) (n : Nat) (st : St) (r : Int32) (u : St) (hF : FX0_run n  st = some (r, u)) : Ci l yX0_run cX0_run 3 (some .boolean) 5 146 D (tyL cI cJ cZ) (wX h cI cJ cZ) st [.ref (h 2), .ref (h 3), .ref (h 4)] r u := by
  refine body_i (by decide +kernel) (Nat.le_of_ble_eq_true rfl) ?_
  intro p e s m below meth c A ls E hr hlocks hA hP hD hS hl
  have E : Env1 p s m _ c cX0_run 3 RX0 D (tyL cI cJ cZ) := E
  have hl : lv_has ls 3 [(0, .ref (h 2)), (1, .ref (h 3)), (2, .ref (h 4))] := hl
  have hx := E.1.1
  have hb := E.1.2.1
  have hml := E.1.2.2.1
  unfold FX0_run at hF
  refine lv_aload_n hx hb dX0_run_0 rfl (lv_at hl 0 rfl) ?_
  obtain ⟨r1, u2, hc3, hF⟩ := bd_some hF
  refine call_v (rest := []) E hA hP hD hS hl.1 (kX0_clearPlan l D h cI cJ cZ n  st r1 u2 hc3) cw_X0_60 2 rfl rfl rfl rfl rfl (Nat.le_of_ble_eq_true rfl) ⟨Nat.le_of_ble_eq_true rfl, Nat.le_of_ble_eq_true rfl⟩ ⟨Nat.zero_le _, Nat.zero_le _⟩ dX0_run_1 (fun H locs hP hD hS => ?_)
  refine lv_aload_n hx hb dX0_run_4 rfl (lv_at hl 0 rfl) ?_
  refine lv_aload_n hx hb dX0_run_5 rfl (lv_at hl 2 rfl) ?_
  obtain ⟨r4, u5, hc6, hF⟩ := bd_some hF
  refine call_v (rest := []) E hA hP hD hS hl.1 (kX0_markHits l D h cI cJ cZ n  u2 r4 u5 hc6) cw_X0_63 2 rfl rfl rfl rfl rfl (Nat.le_of_ble_eq_true rfl) ⟨Nat.le_of_ble_eq_true rfl, Nat.le_of_ble_eq_true rfl⟩ ⟨Nat.zero_le _, Nat.zero_le _⟩ dX0_run_6 (fun H locs hP hD hS => ?_)
  refine lv_aload_n hx hb dX0_run_9 rfl (lv_at hl 0 rfl) ?_
  obtain ⟨r7, u8, hc9, hF⟩ := bd_some hF
  refine call_v (rest := []) E hA hP hD hS hl.1 (kX0_keepHitObjects l D h cI cJ cZ n  u5 r7 u8 hc9) cw_X0_67 2 rfl rfl rfl rfl rfl (Nat.le_of_ble_eq_true rfl) ⟨Nat.le_of_ble_eq_true rfl, Nat.le_of_ble_eq_true rfl⟩ ⟨Nat.zero_le _, Nat.zero_le _⟩ dX0_run_10 (fun H locs hP hD hS => ?_)
  refine lv_aload_n hx hb dX0_run_13 rfl (lv_at hl 0 rfl) ?_
  refine lv_aload_n hx hb dX0_run_14 rfl (lv_at hl 1 rfl) ?_
  obtain ⟨r10, u11, hc12, hF⟩ := bd_some hF
  refine call_i (rest := []) E hA hP hD hS hl.1 (kX0_reachFromRoots l D h cI cJ cZ n  u8 r10 u11 hc12) cw_X0_70 2 rfl rfl rfl rfl rfl (Nat.le_of_ble_eq_true rfl) ⟨Nat.le_of_ble_eq_true rfl, Nat.le_of_ble_eq_true rfl⟩ ⟨Nat.zero_le _, Nat.zero_le _⟩ dX0_run_15 (fun H locs hP hD hS => ?_)
  refine lv_if_eq (tgt := 28) hx hb dX0_run_18 (by decide) (fun hc => ?_) (fun hc => ?_)
  · have hF := if_t hc hF
    refine lv_aload_n hx hb dX0_run_28 rfl (lv_at hl 0 rfl) ?_
    refine lv_dup hx hb dX0_run_29 rfl ?_
    refine g_2_11 E hP dX0_run_30 ?_
    refine lv_iconst (v := 1) hx hb dX0_run_33 (by decide) ?_
    refine lv_iadd hx hb dX0_run_34 ?_
    refine s_2_11 E hP hD hS dX0_run_35 (fun H locs hP hD hS => ?_)
    refine lv_iconst (v := 0) hx hb dX0_run_38 (by decide) ?_
    exact endZ0 E hr hlocks hP hD hS dX0_run_39 rfl hF
  · have hF := if_f hc hF
    refine lv_aload_n hx hb dX0_run_21 rfl (lv_at hl 0 rfl) ?_
    obtain ⟨r13, u14, hc15, hF⟩ := bd_some hF
    refine call_i (rest := []) E hA hP hD hS hl.1 (kX0_reachFromRow l D h cI cJ cZ n  u11 r13 u14 hc15) cw_X0_74 2 rfl rfl rfl rfl rfl (Nat.le_of_ble_eq_true rfl) ⟨Nat.le_of_ble_eq_true rfl, Nat.le_of_ble_eq_true rfl⟩ ⟨Nat.zero_le _, Nat.zero_le _⟩ dX0_run_22 (fun H locs hP hD hS => ?_)
    refine lv_if_ne (tgt := 40) hx hb dX0_run_25 (by decide) (fun hc => ?_) (fun hc => ?_)
    · have hF := if_f hc hF
      refine lv_aload_n hx hb dX0_run_40 rfl (lv_at hl 0 rfl) ?_
      obtain ⟨r16, u17, hc18, hF⟩ := bd_some hF
      refine call_v (rest := []) E hA hP hD hS hl.1 (kX0_moveRow l D h cI cJ cZ n  u14 r16 u17 hc18) cw_X0_78 2 rfl rfl rfl rfl rfl (Nat.le_of_ble_eq_true rfl) ⟨Nat.le_of_ble_eq_true rfl, Nat.le_of_ble_eq_true rfl⟩ ⟨Nat.zero_le _, Nat.zero_le _⟩ dX0_run_41 (fun H locs hP hD hS => ?_)
      refine lv_aload_n hx hb dX0_run_44 rfl (lv_at hl 0 rfl) ?_
      refine lv_aload_n hx hb dX0_run_45 rfl (lv_at hl 1 rfl) ?_
      obtain ⟨r19, u20, hc21, hF⟩ := bd_some hF
      refine call_v (rest := []) E hA hP hD hS hl.1 (kX0_tellNewAddresses l D h cI cJ cZ n  u17 r19 u20 hc21) cw_X0_81 2 rfl rfl rfl rfl rfl (Nat.le_of_ble_eq_true rfl) ⟨Nat.le_of_ble_eq_true rfl, Nat.le_of_ble_eq_true rfl⟩ ⟨Nat.zero_le _, Nat.zero_le _⟩ dX0_run_46 (fun H locs hP hD hS => ?_)
      refine lv_aload_n hx hb dX0_run_49 rfl (lv_at hl 0 rfl) ?_
      obtain ⟨r22, u23, hc24, hF⟩ := bd_some hF
      refine call_v (rest := []) E hA hP hD hS hl.1 (kX0_finish l D h cI cJ cZ n  u20 r22 u23 hc24) cw_X0_84 2 rfl rfl rfl rfl rfl (Nat.le_of_ble_eq_true rfl) ⟨Nat.le_of_ble_eq_true rfl, Nat.le_of_ble_eq_true rfl⟩ ⟨Nat.zero_le _, Nat.zero_le _⟩ dX0_run_50 (fun H locs hP hD hS => ?_)
      refine lv_iconst (v := 1) hx hb dX0_run_53 (by decide) ?_
      exact endZ0 E hr hlocks hP hD hS dX0_run_54 rfl hF
    · have hF := if_t hc hF
      refine lv_aload_n hx hb dX0_run_28 rfl (lv_at hl 0 rfl) ?_
      refine lv_dup hx hb dX0_run_29 rfl ?_
      refine g_2_11 E hP dX0_run_30 ?_
      refine lv_iconst (v := 1) hx hb dX0_run_33 (by decide) ?_
      refine lv_iadd hx hb dX0_run_34 ?_
      refine s_2_11 E hP hD hS dX0_run_35 (fun H locs hP hD hS => ?_)
      refine lv_iconst (v := 0) hx hb dX0_run_38 (by decide) ?_
      exact endZ0 E hr hlocks hP hD hS dX0_run_39 rfl hF
