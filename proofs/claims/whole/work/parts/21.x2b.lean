-- LooseHeap.needRoot
def FX2_needRoot (n : Nat) (x0 : Int32) (st : St) : Option (Nat × Int32 × St) := bd (FX2_isRoot n x0 st) (fun r1 u2 => (if r1 = 0 then some (1, (0 : Int32), u2) else some (0, (0 : Int32), u2)))
set_option maxHeartbeats 4000000 in
set_option maxRecDepth 100000 in
theorem kX2_needRoot (l : Launch) (D : va_G) (h : Nat → Nat) (cI cJ cZ : ClassId) (n : Nat) (x0 : Int32) (st : St) (r : Int32) (u : St) (hF : FX2_needRoot n x0 st = some (0, r, u)) : Cv l yX2_needRoot cX2_needRoot 1 6 90 D (tyL cI cJ cZ) (wX h cI cJ cZ) st [.int x0] u := by
  refine body_v (by decide +kernel) (Nat.le_of_ble_eq_true rfl) ?_
  intro p e s m below meth c A ls E hr hlocks hA hP hD hS hl
  have E : Env1 p s m _ c cX2_needRoot 1 RX2 D (tyL cI cJ cZ) := E
  have hl : lv_has ls 1 [(0, .int x0)] := hl
  have hx := E.1.1
  have hb := E.1.2.1
  have hml := E.1.2.2.1
  unfold FX2_needRoot at hF
  refine lv_iload_n hx hb dX2_needRoot_0 rfl (lv_at hl 0 rfl) ?_
  obtain ⟨r1, u2, hc3, hF⟩ := bd_some hF
  refine calls_i (rest := []) E hA hP hD hS hl.1 (kX2_isRoot l D h cI cJ cZ n x0 st r1 u2 hc3) cw_X2_98 rfl rfl (Nat.le_of_ble_eq_true rfl) ⟨Nat.le_of_ble_eq_true rfl, Nat.le_of_ble_eq_true rfl⟩ ⟨Nat.zero_le _, Nat.zero_le _⟩ dX2_needRoot_1 (fun H locs hP hD hS => ?_)
  refine lv_if_ne (tgt := 17) hx hb dX2_needRoot_4 (by decide) (fun hc => ?_) (fun hc => ?_)
  · have hF := if_f hc hF
    exact endV E hr hlocks hP hD hS dX2_needRoot_17 (tz hF)
  · have hF := if_t hc hF
    exact absurd hF (tm (by decide))
set_option maxHeartbeats 4000000 in
set_option maxRecDepth 100000 in
theorem xX2_needRoot (l : Launch) (hst : l.stackTraces = false) (D : va_G) (h : Nat → Nat) (cI cJ cZ : ClassId) (n : Nat) (x0 : Int32) (st : St) (t : Nat) (r : Int32) (u : St) (ht : t ≠ 0) (hF : FX2_needRoot n x0 st = some (t, r, u)) : Cx l yX2_needRoot cX2_needRoot 1 none 6 90 D (tyL cI cJ cZ) (wX h cI cJ cZ) st [.int x0] t u := by
  refine body_x (by decide +kernel) (Nat.le_of_ble_eq_true rfl) ?_
  intro p e s m below meth c A ls E hr hlocks hA hno hG hX hP hD hS hl
  have E : Env1 p s m _ c cX2_needRoot 1 RX2 D (tyL cI cJ cZ) := E
  have hl : lv_has ls 1 [(0, .int x0)] := hl
  have hx := E.1.1
  have hb := E.1.2.1
  have hml := E.1.2.2.1
  unfold FX2_needRoot at hF
  refine lv_iload_n hx hb dX2_needRoot_0 rfl (lv_at hl 0 rfl) ?_
  obtain ⟨r1, u2, hc3, hF⟩ := bd_some hF
  refine calls_i (rest := []) E hA hP hD hS hl.1 (kX2_isRoot l D h cI cJ cZ n x0 st r1 u2 hc3) cw_X2_98 rfl rfl (Nat.le_of_ble_eq_true rfl) ⟨Nat.le_of_ble_eq_true rfl, Nat.le_of_ble_eq_true rfl⟩ ⟨Nat.zero_le _, Nat.zero_le _⟩ dX2_needRoot_1 (fun H locs hP hD hS => ?_)
  refine lv_if_ne (tgt := 17) hx hb dX2_needRoot_4 (by decide) (fun hc => ?_) (fun hc => ?_)
  · have hF := if_f hc hF
    exact absurd hF (tn ht)
  · have hF := if_t hc hF
    exact thr_173 E hst hA hno hG hX hlocks hP hD hS hl.1 (Nat.le_of_ble_eq_true rfl) (Nat.le_of_ble_eq_true rfl) ⟨Nat.le_refl _, Nat.le_refl _⟩ dX2_needRoot_7 dX2_needRoot_10 dX2_needRoot_11 dX2_needRoot_13 dX2_needRoot_16 hF
-- LooseHeap.needObject
def FX2_needObject (n : Nat) (x1 : Int32) (st : St) : Option (Nat × Int32 × St) := gd x1 32 ((if (st.1 3 x1.toNatClampNeg) = (-1 : Int32) then some (2, (0 : Int32), st) else some (0, (0 : Int32), st)))
set_option maxHeartbeats 4000000 in
set_option maxRecDepth 100000 in
theorem kX2_needObject (l : Launch) (D : va_G) (h : Nat → Nat) (cI cJ cZ : ClassId) (n : Nat) (x1 : Int32) (st : St) (r : Int32) (u : St) (hF : FX2_needObject n x1 st = some (0, r, u)) : Cv l yX2_needObject cX2_needObject 2 6 90 D (tyL cI cJ cZ) (wX h cI cJ cZ) st [.ref (h 0), .int x1] u := by
  refine body_v (by decide +kernel) (Nat.le_of_ble_eq_true rfl) ?_
  intro p e s m below meth c A ls E hr hlocks hA hP hD hS hl
  have E : Env1 p s m _ c cX2_needObject 2 RX2 D (tyL cI cJ cZ) := E
  have hl : lv_has ls 2 [(0, .ref (h 0)), (1, .int x1)] := hl
  have hx := E.1.1
  have hb := E.1.2.1
  have hml := E.1.2.2.1
  unfold FX2_needObject at hF
  refine lv_aload_n hx hb dX2_needObject_0 rfl (lv_at hl 0 rfl) ?_
  refine g_0_2 E hP dX2_needObject_1 ?_
  refine lv_iload_n hx hb dX2_needObject_4 rfl (lv_at hl 1 rfl) ?_
  obtain ⟨hi1, hF⟩ := gd_some hF
  refine la_3 E hP hi1 dX2_needObject_5 ?_
  refine lv_iconst (v := (-1)) hx hb dX2_needObject_6 (by decide) ?_
  refine lv_icmp_ne (tgt := 20) hx hb dX2_needObject_7 (by decide) (fun hc => ?_) (fun hc => ?_)
  · have hF := if_f hc hF
    exact endV E hr hlocks hP hD hS dX2_needObject_20 (tz hF)
  · have hF := if_t hc hF
    exact absurd hF (tm (by decide))
set_option maxHeartbeats 4000000 in
set_option maxRecDepth 100000 in
theorem xX2_needObject (l : Launch) (hst : l.stackTraces = false) (D : va_G) (h : Nat → Nat) (cI cJ cZ : ClassId) (n : Nat) (x1 : Int32) (st : St) (t : Nat) (r : Int32) (u : St) (ht : t ≠ 0) (hF : FX2_needObject n x1 st = some (t, r, u)) : Cx l yX2_needObject cX2_needObject 2 none 6 90 D (tyL cI cJ cZ) (wX h cI cJ cZ) st [.ref (h 0), .int x1] t u := by
  refine body_x (by decide +kernel) (Nat.le_of_ble_eq_true rfl) ?_
  intro p e s m below meth c A ls E hr hlocks hA hno hG hX hP hD hS hl
  have E : Env1 p s m _ c cX2_needObject 2 RX2 D (tyL cI cJ cZ) := E
  have hl : lv_has ls 2 [(0, .ref (h 0)), (1, .int x1)] := hl
  have hx := E.1.1
  have hb := E.1.2.1
  have hml := E.1.2.2.1
  unfold FX2_needObject at hF
  refine lv_aload_n hx hb dX2_needObject_0 rfl (lv_at hl 0 rfl) ?_
  refine g_0_2 E hP dX2_needObject_1 ?_
  refine lv_iload_n hx hb dX2_needObject_4 rfl (lv_at hl 1 rfl) ?_
  obtain ⟨hi1, hF⟩ := gd_some hF
  refine la_3 E hP hi1 dX2_needObject_5 ?_
  refine lv_iconst (v := (-1)) hx hb dX2_needObject_6 (by decide) ?_
  refine lv_icmp_ne (tgt := 20) hx hb dX2_needObject_7 (by decide) (fun hc => ?_) (fun hc => ?_)
  · have hF := if_f hc hF
    exact absurd hF (tn ht)
  · have hF := if_t hc hF
    exact thr_177 E hst hA hno hG hX hlocks hP hD hS hl.1 (Nat.le_of_ble_eq_true rfl) (Nat.le_of_ble_eq_true rfl) ⟨Nat.le_refl _, Nat.le_refl _⟩ dX2_needObject_10 dX2_needObject_13 dX2_needObject_14 dX2_needObject_16 dX2_needObject_19 hF
-- LooseHeap.needRef
def FX2_needRef (n : Nat) (x1 x2 : Int32) (st : St) : Option (Nat × Int32 × St) := (if x2 < 0 then some (3, (0 : Int32), st) else gd x1 32 (bd (FX1_refsOf n (st.1 3 x1.toNatClampNeg) st) (fun r2 u3 => (if x2 < r2 then some (0, (0 : Int32), u3) else some (3, (0 : Int32), u3)))))
set_option maxHeartbeats 4000000 in
set_option maxRecDepth 100000 in
theorem kX2_needRef (l : Launch) (D : va_G) (h : Nat → Nat) (cI cJ cZ : ClassId) (n : Nat) (x1 x2 : Int32) (st : St) (r : Int32) (u : St) (hF : FX2_needRef n x1 x2 st = some (0, r, u)) : Cv l yX2_needRef cX2_needRef 3 6 90 D (tyL cI cJ cZ) (wX h cI cJ cZ) st [.ref (h 0), .int x1, .int x2] u := by
  refine body_v (by decide +kernel) (Nat.le_of_ble_eq_true rfl) ?_
  intro p e s m below meth c A ls E hr hlocks hA hP hD hS hl
  have E : Env1 p s m _ c cX2_needRef 3 RX2 D (tyL cI cJ cZ) := E
  have hl : lv_has ls 3 [(0, .ref (h 0)), (1, .int x1), (2, .int x2)] := hl
  have hx := E.1.1
  have hb := E.1.2.1
  have hml := E.1.2.2.1
  unfold FX2_needRef at hF
  refine lv_iload_n hx hb dX2_needRef_0 rfl (lv_at hl 2 rfl) ?_
  refine lv_if_lt (tgt := 21) hx hb dX2_needRef_1 (by decide) (fun hc => ?_) (fun hc => ?_)
  · have hF := if_t hc hF
    exact absurd hF (tm (by decide))
  · have hF := if_f hc hF
    refine lv_iload_n hx hb dX2_needRef_4 rfl (lv_at hl 2 rfl) ?_
    refine lv_aload_n hx hb dX2_needRef_5 rfl (lv_at hl 0 rfl) ?_
    refine g_0_0 E hP dX2_needRef_6 ?_
    refine lv_aload_n hx hb dX2_needRef_9 rfl (lv_at hl 0 rfl) ?_
    refine g_0_2 E hP dX2_needRef_10 ?_
    refine lv_iload_n hx hb dX2_needRef_13 rfl (lv_at hl 1 rfl) ?_
    obtain ⟨hi1, hF⟩ := gd_some hF
    refine la_3 E hP hi1 dX2_needRef_14 ?_
    obtain ⟨r2, u3, hc4, hF⟩ := bd_some hF
    refine call_i (rest := [.int x2]) E hA hP hD hS hl.1 (kX1_refsOf l D h cI cJ cZ n (st.1 3 x1.toNatClampNeg) st r2 u3 hc4) cw_X2_107 1 rfl rfl rfl rfl rfl (Nat.le_of_ble_eq_true rfl) ⟨Nat.le_of_ble_eq_true rfl, Nat.le_of_ble_eq_true rfl⟩ ⟨Nat.zero_le _, Nat.zero_le _⟩ dX2_needRef_15 (fun H locs hP hD hS => ?_)
    refine lv_icmp_lt (tgt := 31) hx hb dX2_needRef_18 (by decide) (fun hc => ?_) (fun hc => ?_)
    · have hF := if_t hc hF
      exact endV E hr hlocks hP hD hS dX2_needRef_31 (tz hF)
    · have hF := if_f hc hF
      exact absurd hF (tm (by decide))
set_option maxHeartbeats 4000000 in
set_option maxRecDepth 100000 in
theorem xX2_needRef (l : Launch) (hst : l.stackTraces = false) (D : va_G) (h : Nat → Nat) (cI cJ cZ : ClassId) (n : Nat) (x1 x2 : Int32) (st : St) (t : Nat) (r : Int32) (u : St) (ht : t ≠ 0) (hF : FX2_needRef n x1 x2 st = some (t, r, u)) : Cx l yX2_needRef cX2_needRef 3 none 6 90 D (tyL cI cJ cZ) (wX h cI cJ cZ) st [.ref (h 0), .int x1, .int x2] t u := by
  refine body_x (by decide +kernel) (Nat.le_of_ble_eq_true rfl) ?_
  intro p e s m below meth c A ls E hr hlocks hA hno hG hX hP hD hS hl
  have E : Env1 p s m _ c cX2_needRef 3 RX2 D (tyL cI cJ cZ) := E
  have hl : lv_has ls 3 [(0, .ref (h 0)), (1, .int x1), (2, .int x2)] := hl
  have hx := E.1.1
  have hb := E.1.2.1
  have hml := E.1.2.2.1
  unfold FX2_needRef at hF
  refine lv_iload_n hx hb dX2_needRef_0 rfl (lv_at hl 2 rfl) ?_
  refine lv_if_lt (tgt := 21) hx hb dX2_needRef_1 (by decide) (fun hc => ?_) (fun hc => ?_)
  · have hF := if_t hc hF
    exact thr_180 E hst hA hno hG hX hlocks hP hD hS hl.1 (Nat.le_of_ble_eq_true rfl) (Nat.le_of_ble_eq_true rfl) ⟨Nat.le_refl _, Nat.le_refl _⟩ dX2_needRef_21 dX2_needRef_24 dX2_needRef_25 dX2_needRef_27 dX2_needRef_30 hF
  · have hF := if_f hc hF
    refine lv_iload_n hx hb dX2_needRef_4 rfl (lv_at hl 2 rfl) ?_
    refine lv_aload_n hx hb dX2_needRef_5 rfl (lv_at hl 0 rfl) ?_
    refine g_0_0 E hP dX2_needRef_6 ?_
    refine lv_aload_n hx hb dX2_needRef_9 rfl (lv_at hl 0 rfl) ?_
    refine g_0_2 E hP dX2_needRef_10 ?_
    refine lv_iload_n hx hb dX2_needRef_13 rfl (lv_at hl 1 rfl) ?_
    obtain ⟨hi1, hF⟩ := gd_some hF
    refine la_3 E hP hi1 dX2_needRef_14 ?_
    obtain ⟨r2, u3, hc4, hF⟩ := bd_some hF
    refine call_i (rest := [.int x2]) E hA hP hD hS hl.1 (kX1_refsOf l D h cI cJ cZ n (st.1 3 x1.toNatClampNeg) st r2 u3 hc4) cw_X2_107 1 rfl rfl rfl rfl rfl (Nat.le_of_ble_eq_true rfl) ⟨Nat.le_of_ble_eq_true rfl, Nat.le_of_ble_eq_true rfl⟩ ⟨Nat.zero_le _, Nat.zero_le _⟩ dX2_needRef_15 (fun H locs hP hD hS => ?_)
    refine lv_icmp_lt (tgt := 31) hx hb dX2_needRef_18 (by decide) (fun hc => ?_) (fun hc => ?_)
    · have hF := if_t hc hF
      exact absurd hF (tn ht)
    · have hF := if_f hc hF
      exact thr_180 E hst hA hno hG hX hlocks hP hD hS hl.1 (Nat.le_of_ble_eq_true rfl) (Nat.le_of_ble_eq_true rfl) ⟨Nat.le_refl _, Nat.le_refl _⟩ dX2_needRef_21 dX2_needRef_24 dX2_needRef_25 dX2_needRef_27 dX2_needRef_30 hF
theorem cw_X2_32 : cwd RX2 32 RX2 yX2_startOver cX2_startOver 3 none 2 := ⟨tb_V (tb_in 160 (by decide +kernel) (by decide +kernel)) (tb_in 162 (by decide +kernel) (by decide +kernel)) (tb_in 0 (by decide +kernel) (by decide +kernel)) (tb_in 46 (by decide +kernel) (by decide +kernel)) (tb_in 163 (by decide +kernel) (by decide +kernel)), by decide +kernel⟩
-- LooseHeap.format
def FX2_format (n : Nat) (x1 x2 : Int32) (st : St) : Option (Nat × Int32 × St) := (if x1 < (4 : Int32) then some (1, (0 : Int32), st) else (if x1 ≤ (64 : Int32) then (if x2 < (8 : Int32) then some (1, (0 : Int32), st) else (if x2 ≤ (64 : Int32) then bd (FX2_startOver n x1 x2 st) (fun r1 u2 => some (0, (0 : Int32), u2)) else some (1, (0 : Int32), st))) else some (1, (0 : Int32), st)))
set_option maxHeartbeats 4000000 in
set_option maxRecDepth 100000 in
theorem kX2_format (l : Launch) (D : va_G) (h : Nat → Nat) (cI cJ cZ : ClassId) (n : Nat) (x1 x2 : Int32) (st : St) (r : Int32) (u : St) (hF : FX2_format n x1 x2 st = some (0, r, u)) : Cv l yX2_format cX2_format 3 6 90 D (tyL cI cJ cZ) (wX h cI cJ cZ) st [.ref (h 0), .int x1, .int x2] u := by
  refine body_v (by decide +kernel) (Nat.le_of_ble_eq_true rfl) ?_
  intro p e s m below meth c A ls E hr hlocks hA hP hD hS hl
  have E : Env1 p s m _ c cX2_format 3 RX2 D (tyL cI cJ cZ) := E
  have hl : lv_has ls 3 [(0, .ref (h 0)), (1, .int x1), (2, .int x2)] := hl
  have hx := E.1.1
  have hb := E.1.2.1
  have hml := E.1.2.2.1
  unfold FX2_format at hF
  refine lv_iload_n hx hb dX2_format_0 rfl (lv_at hl 1 rfl) ?_
  refine lv_iconst (v := 4) hx hb dX2_format_1 (by decide) ?_
  refine lv_icmp_lt (tgt := 11) hx hb dX2_format_2 (by decide) (fun hc => ?_) (fun hc => ?_)
  · have hF := if_t hc hF
    exact absurd hF (tm (by decide))
  · have hF := if_f hc hF
    refine lv_iload_n hx hb dX2_format_5 rfl (lv_at hl 1 rfl) ?_
    refine lv_bipush (v := 64) hx hb dX2_format_6 (by decide) ?_
    refine lv_icmp_le (tgt := 21) hx hb dX2_format_8 (by decide) (fun hc => ?_) (fun hc => ?_)
    · have hF := if_t hc hF
      refine lv_iload_n hx hb dX2_format_21 rfl (lv_at hl 2 rfl) ?_
      refine lv_bipush (v := 8) hx hb dX2_format_22 (by decide) ?_
      refine lv_icmp_lt (tgt := 33) hx hb dX2_format_24 (by decide) (fun hc => ?_) (fun hc => ?_)
      · have hF := if_t hc hF
        exact absurd hF (tm (by decide))
      · have hF := if_f hc hF
        refine lv_iload_n hx hb dX2_format_27 rfl (lv_at hl 2 rfl) ?_
        refine lv_bipush (v := 64) hx hb dX2_format_28 (by decide) ?_
        refine lv_icmp_le (tgt := 43) hx hb dX2_format_30 (by decide) (fun hc => ?_) (fun hc => ?_)
        · have hF := if_t hc hF
          refine lv_aload_n hx hb dX2_format_43 rfl (lv_at hl 0 rfl) ?_
          refine lv_iload_n hx hb dX2_format_44 rfl (lv_at hl 1 rfl) ?_
          refine lv_iload_n hx hb dX2_format_45 rfl (lv_at hl 2 rfl) ?_
          obtain ⟨r1, u2, hc3, hF⟩ := bd_some hF
          refine call_v (rest := []) E hA hP hD hS hl.1 (kX2_startOver l D h cI cJ cZ n x1 x2 st r1 u2 hc3) cw_X2_32 0 rfl rfl rfl rfl rfl (Nat.le_of_ble_eq_true rfl) ⟨Nat.le_of_ble_eq_true rfl, Nat.le_of_ble_eq_true rfl⟩ ⟨Nat.zero_le _, Nat.zero_le _⟩ dX2_format_46 (fun H locs hP hD hS => ?_)
          exact endV E hr hlocks hP hD hS dX2_format_49 (tz hF)
        · have hF := if_f hc hF
          exact absurd hF (tm (by decide))
    · have hF := if_f hc hF
      exact absurd hF (tm (by decide))
set_option maxHeartbeats 4000000 in
set_option maxRecDepth 100000 in
theorem xX2_format (l : Launch) (hst : l.stackTraces = false) (D : va_G) (h : Nat → Nat) (cI cJ cZ : ClassId) (n : Nat) (x1 x2 : Int32) (st : St) (t : Nat) (r : Int32) (u : St) (ht : t ≠ 0) (hF : FX2_format n x1 x2 st = some (t, r, u)) : Cx l yX2_format cX2_format 3 none 6 90 D (tyL cI cJ cZ) (wX h cI cJ cZ) st [.ref (h 0), .int x1, .int x2] t u := by
  refine body_x (by decide +kernel) (Nat.le_of_ble_eq_true rfl) ?_
  intro p e s m below meth c A ls E hr hlocks hA hno hG hX hP hD hS hl
  have E : Env1 p s m _ c cX2_format 3 RX2 D (tyL cI cJ cZ) := E
  have hl : lv_has ls 3 [(0, .ref (h 0)), (1, .int x1), (2, .int x2)] := hl
  have hx := E.1.1
  have hb := E.1.2.1
  have hml := E.1.2.2.1
  unfold FX2_format at hF
  refine lv_iload_n hx hb dX2_format_0 rfl (lv_at hl 1 rfl) ?_
  refine lv_iconst (v := 4) hx hb dX2_format_1 (by decide) ?_
  refine lv_icmp_lt (tgt := 11) hx hb dX2_format_2 (by decide) (fun hc => ?_) (fun hc => ?_)
  · have hF := if_t hc hF
    exact thr_38 E hst hA hno hG hX hlocks hP hD hS hl.1 (Nat.le_of_ble_eq_true rfl) (Nat.le_of_ble_eq_true rfl) ⟨Nat.le_refl _, Nat.le_refl _⟩ dX2_format_11 dX2_format_14 dX2_format_15 dX2_format_17 dX2_format_20 hF
  · have hF := if_f hc hF
    refine lv_iload_n hx hb dX2_format_5 rfl (lv_at hl 1 rfl) ?_
    refine lv_bipush (v := 64) hx hb dX2_format_6 (by decide) ?_
    refine lv_icmp_le (tgt := 21) hx hb dX2_format_8 (by decide) (fun hc => ?_) (fun hc => ?_)
    · have hF := if_t hc hF
      refine lv_iload_n hx hb dX2_format_21 rfl (lv_at hl 2 rfl) ?_
      refine lv_bipush (v := 8) hx hb dX2_format_22 (by decide) ?_
      refine lv_icmp_lt (tgt := 33) hx hb dX2_format_24 (by decide) (fun hc => ?_) (fun hc => ?_)
      · have hF := if_t hc hF
        exact thr_43 E hst hA hno hG hX hlocks hP hD hS hl.1 (Nat.le_of_ble_eq_true rfl) (Nat.le_of_ble_eq_true rfl) ⟨Nat.le_refl _, Nat.le_refl _⟩ dX2_format_33 dX2_format_36 dX2_format_37 dX2_format_39 dX2_format_42 hF
      · have hF := if_f hc hF
        refine lv_iload_n hx hb dX2_format_27 rfl (lv_at hl 2 rfl) ?_
        refine lv_bipush (v := 64) hx hb dX2_format_28 (by decide) ?_
        refine lv_icmp_le (tgt := 43) hx hb dX2_format_30 (by decide) (fun hc => ?_) (fun hc => ?_)
        · have hF := if_t hc hF
          refine lv_aload_n hx hb dX2_format_43 rfl (lv_at hl 0 rfl) ?_
          refine lv_iload_n hx hb dX2_format_44 rfl (lv_at hl 1 rfl) ?_
          refine lv_iload_n hx hb dX2_format_45 rfl (lv_at hl 2 rfl) ?_
          obtain ⟨r1, u2, hc3, hF⟩ := bd_some hF
          refine call_v (rest := []) E hA hP hD hS hl.1 (kX2_startOver l D h cI cJ cZ n x1 x2 st r1 u2 hc3) cw_X2_32 0 rfl rfl rfl rfl rfl (Nat.le_of_ble_eq_true rfl) ⟨Nat.le_of_ble_eq_true rfl, Nat.le_of_ble_eq_true rfl⟩ ⟨Nat.zero_le _, Nat.zero_le _⟩ dX2_format_46 (fun H locs hP hD hS => ?_)
          exact absurd hF (tn ht)
        · have hF := if_f hc hF
          exact thr_43 E hst hA hno hG hX hlocks hP hD hS hl.1 (Nat.le_of_ble_eq_true rfl) (Nat.le_of_ble_eq_true rfl) ⟨Nat.le_refl _, Nat.le_refl _⟩ dX2_format_33 dX2_format_36 dX2_format_37 dX2_format_39 dX2_format_42 hF
    · have hF := if_f hc hF
      exact thr_38 E hst hA hno hG hX hlocks hP hD hS hl.1 (Nat.le_of_ble_eq_true rfl) (Nat.le_of_ble_eq_true rfl) ⟨Nat.le_refl _, Nat.le_refl _⟩ dX2_format_11 dX2_format_14 dX2_format_15 dX2_format_17 dX2_format_20 hF
theorem cw_X2_45 : cwt RX2 45 yX2_needRoot cX2_needRoot 1 none 1 := ⟨tb_S (tb_in 546 (by decide +kernel) (by decide +kernel)) (tb_in 547 (by decide +kernel) (by decide +kernel)) (tb_in 46 (by decide +kernel) (by decide +kernel)) (tb_in 548 (by decide +kernel) (by decide +kernel)), by decide +kernel⟩
theorem cw_X2_53 : cwd RX2 53 RX1 yX1_roomFor cX1_roomFor 2 (some .int) 1 := ⟨tb_V (tb_in 552 (by decide +kernel) (by decide +kernel)) (tb_in 553 (by decide +kernel) (by decide +kernel)) (tb_in 554 (by decide +kernel) (by decide +kernel)) (tb_in 47 (by decide +kernel) (by decide +kernel)) (tb_in 555 (by decide +kernel) (by decide +kernel)), by decide +kernel⟩
theorem cw_X2_61 : cwd RX2 61 RX1 yX1_putNew cX1_putNew 6 none 3 := ⟨tb_V (tb_in 574 (by decide +kernel) (by decide +kernel)) (tb_in 575 (by decide +kernel) (by decide +kernel)) (tb_in 576 (by decide +kernel) (by decide +kernel)) (tb_in 47 (by decide +kernel) (by decide +kernel)) (tb_in 577 (by decide +kernel) (by decide +kernel)), by decide +kernel⟩
-- LooseHeap.make
def FX2_make (n : Nat) (x1 x2 x3 : Int32) (st : St) : Option (Nat × Int32 × St) := bth (FX2_needRoot n x1 st) (fun r1 u2 => (if x2 < 0 then some (1, (0 : Int32), u2) else (if x2 ≤ (31 : Int32) then (if x3 < 0 then some (1, (0 : Int32), u2) else (if x3 ≤ (200 : Int32) then bd (FX1_roomFor n (((1 : Int32) + x2) + x3) u2) (fun r6 u7 => (if r6 = (-1 : Int32) then bd (FX0_run n  u7) (fun r13 u14 => bd (FX1_roomFor n (((1 : Int32) + x2) + x3) u14) (fun r16 u17 => (if r16 = (-1 : Int32) then some (0, (0 : Int32), u17) else bd (FX1_putNew n r16 x2 x3 u17) (fun r19 u20 => gd x1 32 (some (0, (1 : Int32), (pt u20 3 x1.toNatClampNeg r16))))))) else (if r6 = (-1 : Int32) then some (0, (0 : Int32), u7) else bd (FX1_putNew n r6 x2 x3 u7) (fun r9 u10 => gd x1 32 (some (0, (1 : Int32), (pt u10 3 x1.toNatClampNeg r6))))))) else some (1, (0 : Int32), u2))) else some (1, (0 : Int32), u2))))
set_option maxHeartbeats 4000000 in
set_option maxRecDepth 100000 in
theorem kX2_make (l : Launch) (D : va_G) (h : Nat → Nat) (cI cJ cZ : ClassId) (n : Nat) (x1 x2 x3 : Int32) (st : St) (r : Int32) (u : St) (hF : FX2_make n x1 x2 x3 st = some (0, r, u)) : Ci l yX2_make cX2_make 6 (some .boolean) 7 168 D (tyL cI cJ cZ) (wX h cI cJ cZ) st [.ref (h 0), .int x1, .int x2, .int x3] r u := by
  refine body_i (by decide +kernel) (Nat.le_of_ble_eq_true rfl) ?_
  intro p e s m below meth c A ls E hr hlocks hA hP hD hS hl
  have E : Env1 p s m _ c cX2_make 6 RX2 D (tyL cI cJ cZ) := E
  have hl : lv_has ls 6 [(0, .ref (h 0)), (1, .int x1), (2, .int x2), (3, .int x3)] := hl
  have hx := E.1.1
  have hb := E.1.2.1
  have hml := E.1.2.2.1
  unfold FX2_make at hF
  refine lv_iload_n hx hb dX2_make_0 rfl (lv_at hl 1 rfl) ?_
  obtain ⟨t4, r1, u2, hc3, hF⟩ := bth_some hF
  by_cases ht5 : t4 = 0
  rotate_left
  · have hF := if_f ht5 hF
    exact absurd hF (tm ht5)
  subst ht5
  have hF := if_t rfl hF
  refine calls_v (rest := []) E hA hP hD hS hl.1 (kX2_needRoot l D h cI cJ cZ n x1 st r1 u2 hc3) cw_X2_45 rfl rfl (Nat.le_of_ble_eq_true rfl) ⟨Nat.le_of_ble_eq_true rfl, Nat.le_of_ble_eq_true rfl⟩ ⟨Nat.zero_le _, Nat.zero_le _⟩ dX2_make_1 (fun H locs hP hD hS => ?_)
  refine lv_iload_n hx hb dX2_make_4 rfl (lv_at hl 2 rfl) ?_
  refine lv_if_lt (tgt := 14) hx hb dX2_make_5 (by decide) (fun hc => ?_) (fun hc => ?_)
  · have hF := if_t hc hF
    exact absurd hF (tm (by decide))
  · have hF := if_f hc hF
    refine lv_iload_n hx hb dX2_make_8 rfl (lv_at hl 2 rfl) ?_
    refine lv_bipush (v := 31) hx hb dX2_make_9 (by decide) ?_
    refine lv_icmp_le (tgt := 24) hx hb dX2_make_11 (by decide) (fun hc => ?_) (fun hc => ?_)
    · have hF := if_t hc hF
      refine lv_iload_n hx hb dX2_make_24 rfl (lv_at hl 3 rfl) ?_
      refine lv_if_lt (tgt := 35) hx hb dX2_make_25 (by decide) (fun hc => ?_) (fun hc => ?_)
      · have hF := if_t hc hF
        exact absurd hF (tm (by decide))
      · have hF := if_f hc hF
        refine lv_iload_n hx hb dX2_make_28 rfl (lv_at hl 3 rfl) ?_
        refine lv_sipush (v := 200) hx hb dX2_make_29 (by decide) ?_
        refine lv_icmp_le (tgt := 45) hx hb dX2_make_32 (by decide) (fun hc => ?_) (fun hc => ?_)
        · have hF := if_t hc hF
          refine lv_iconst (v := 1) hx hb dX2_make_45 (by decide) ?_
          refine lv_iload_n hx hb dX2_make_46 rfl (lv_at hl 2 rfl) ?_
          refine lv_iadd hx hb dX2_make_47 ?_
          refine lv_iload_n hx hb dX2_make_48 rfl (lv_at hl 3 rfl) ?_
          refine lv_iadd hx hb dX2_make_49 ?_
          refine lv_istore (lv' := [(4, .int (((1 : Int32) + x2) + x3)), (0, .ref (h 0)), (1, .int x1), (2, .int x2), (3, .int x3)]) hx hb dX2_make_50 hl (by decide) rfl (fun ls hl => ?_)
          refine lv_aload_n hx hb dX2_make_52 rfl (lv_at hl 1 rfl) ?_
          refine g_0_0 E hP dX2_make_53 ?_
          refine lv_iload hx hb dX2_make_56 (lv_at hl 0 rfl) ?_
          obtain ⟨r6, u7, hc8, hF⟩ := bd_some hF
          refine call_i (rest := []) E hA hP hD hS hl.1 (kX1_roomFor l D h cI cJ cZ n (((1 : Int32) + x2) + x3) u2 r6 u7 hc8) cw_X2_53 1 rfl rfl rfl rfl rfl (Nat.le_of_ble_eq_true rfl) ⟨Nat.le_of_ble_eq_true rfl, Nat.le_of_ble_eq_true rfl⟩ ⟨Nat.zero_le _, Nat.zero_le _⟩ dX2_make_58 (fun H locs hP hD hS => ?_)
          refine lv_istore (lv' := [(5, .int r6), (4, .int (((1 : Int32) + x2) + x3)), (0, .ref (h 0)), (1, .int x1), (2, .int x2), (3, .int x3)]) hx hb dX2_make_61 hl (by decide) rfl (fun ls hl => ?_)
          refine lv_iload hx hb dX2_make_63 (lv_at hl 0 rfl) ?_
          refine lv_iconst (v := (-1)) hx hb dX2_make_65 (by decide) ?_
          refine lv_icmp_ne (tgt := 96) hx hb dX2_make_66 (by decide) (fun hc => ?_) (fun hc => ?_)
          · have hF := if_f hc hF
            refine lv_iload hx hb dX2_make_96 (lv_at hl 0 rfl) ?_
            refine lv_iconst (v := (-1)) hx hb dX2_make_98 (by decide) ?_
            refine lv_icmp_ne (tgt := 104) hx hb dX2_make_99 (by decide) (fun hc => ?_) (fun hc => ?_)
            · have hF := if_f hc hF
              refine lv_aload_n hx hb dX2_make_104 rfl (lv_at hl 2 rfl) ?_
              refine g_0_0 E hP dX2_make_105 ?_
              refine lv_iload hx hb dX2_make_108 (lv_at hl 0 rfl) ?_
              refine lv_iload_n hx hb dX2_make_110 rfl (lv_at hl 4 rfl) ?_
              refine lv_iload_n hx hb dX2_make_111 rfl (lv_at hl 5 rfl) ?_
              obtain ⟨r9, u10, hc11, hF⟩ := bd_some hF
              refine call_v (rest := []) E hA hP hD hS hl.1 (kX1_putNew l D h cI cJ cZ n r6 x2 x3 u7 r9 u10 hc11) cw_X2_61 1 rfl rfl rfl rfl rfl (Nat.le_of_ble_eq_true rfl) ⟨Nat.le_of_ble_eq_true rfl, Nat.le_of_ble_eq_true rfl⟩ ⟨Nat.zero_le _, Nat.zero_le _⟩ dX2_make_112 (fun H locs hP hD hS => ?_)
              refine lv_aload_n hx hb dX2_make_115 rfl (lv_at hl 2 rfl) ?_
              refine g_0_2 E hP dX2_make_116 ?_
              refine lv_iload_n hx hb dX2_make_119 rfl (lv_at hl 3 rfl) ?_
              refine lv_iload hx hb dX2_make_120 (lv_at hl 0 rfl) ?_
              obtain ⟨hi12, hF⟩ := gd_some hF
              refine sa_3 E hP hD hS hi12 dX2_make_122 (fun H locs hP hD hS => ?_)
              refine lv_iconst (v := 1) hx hb dX2_make_123 (by decide) ?_
              exact endZ0 E hr hlocks hP hD hS dX2_make_124 rfl (tz hF)
            · have hF := if_t hc hF
              refine lv_iconst (v := 0) hx hb dX2_make_102 (by decide) ?_
              exact endZ0 E hr hlocks hP hD hS dX2_make_103 rfl (tz hF)
          · have hF := if_t hc hF
            refine lv_aload_n hx hb dX2_make_69 rfl (lv_at hl 2 rfl) ?_
            refine g_0_1 E hP dX2_make_70 ?_
            refine lv_aload_n hx hb dX2_make_73 rfl (lv_at hl 2 rfl) ?_
            refine g_0_2 E hP dX2_make_74 ?_
            refine lv_aload_n hx hb dX2_make_77 rfl (lv_at hl 2 rfl) ?_
            refine g_0_3 E hP dX2_make_78 ?_
            obtain ⟨r13, u14, hc15, hF⟩ := bd_some hF
            refine call_i (rest := []) E hA hP hD hS hl.1 (kX0_run l D h cI cJ cZ n  u7 r13 u14 hc15) cw_X2_57 2 rfl rfl rfl rfl rfl (Nat.le_of_ble_eq_true rfl) ⟨Nat.le_of_ble_eq_true rfl, Nat.le_of_ble_eq_true rfl⟩ ⟨Nat.zero_le _, Nat.zero_le _⟩ dX2_make_81 (fun H locs hP hD hS => ?_)
            refine lv_pop hx hb dX2_make_84 rfl ?_
            refine lv_aload_n hx hb dX2_make_85 rfl (lv_at hl 2 rfl) ?_
            refine g_0_0 E hP dX2_make_86 ?_
            refine lv_iload hx hb dX2_make_89 (lv_at hl 1 rfl) ?_
            obtain ⟨r16, u17, hc18, hF⟩ := bd_some hF
            refine call_i (rest := []) E hA hP hD hS hl.1 (kX1_roomFor l D h cI cJ cZ n (((1 : Int32) + x2) + x3) u14 r16 u17 hc18) cw_X2_53 1 rfl rfl rfl rfl rfl (Nat.le_of_ble_eq_true rfl) ⟨Nat.le_of_ble_eq_true rfl, Nat.le_of_ble_eq_true rfl⟩ ⟨Nat.zero_le _, Nat.zero_le _⟩ dX2_make_91 (fun H locs hP hD hS => ?_)
            refine lv_istore (lv' := [(5, .int r16), (4, .int (((1 : Int32) + x2) + x3)), (0, .ref (h 0)), (1, .int x1), (2, .int x2), (3, .int x3)]) hx hb dX2_make_94 hl (by decide) rfl (fun ls hl => ?_)
            refine lv_iload hx hb dX2_make_96 (lv_at hl 0 rfl) ?_
            refine lv_iconst (v := (-1)) hx hb dX2_make_98 (by decide) ?_
            refine lv_icmp_ne (tgt := 104) hx hb dX2_make_99 (by decide) (fun hc => ?_) (fun hc => ?_)
            · have hF := if_f hc hF
              refine lv_aload_n hx hb dX2_make_104 rfl (lv_at hl 2 rfl) ?_
              refine g_0_0 E hP dX2_make_105 ?_
              refine lv_iload hx hb dX2_make_108 (lv_at hl 0 rfl) ?_
              refine lv_iload_n hx hb dX2_make_110 rfl (lv_at hl 4 rfl) ?_
              refine lv_iload_n hx hb dX2_make_111 rfl (lv_at hl 5 rfl) ?_
              obtain ⟨r19, u20, hc21, hF⟩ := bd_some hF
              refine call_v (rest := []) E hA hP hD hS hl.1 (kX1_putNew l D h cI cJ cZ n r16 x2 x3 u17 r19 u20 hc21) cw_X2_61 1 rfl rfl rfl rfl rfl (Nat.le_of_ble_eq_true rfl) ⟨Nat.le_of_ble_eq_true rfl, Nat.le_of_ble_eq_true rfl⟩ ⟨Nat.zero_le _, Nat.zero_le _⟩ dX2_make_112 (fun H locs hP hD hS => ?_)
              refine lv_aload_n hx hb dX2_make_115 rfl (lv_at hl 2 rfl) ?_
              refine g_0_2 E hP dX2_make_116 ?_
              refine lv_iload_n hx hb dX2_make_119 rfl (lv_at hl 3 rfl) ?_
              refine lv_iload hx hb dX2_make_120 (lv_at hl 0 rfl) ?_
              obtain ⟨hi22, hF⟩ := gd_some hF
              refine sa_3 E hP hD hS hi22 dX2_make_122 (fun H locs hP hD hS => ?_)
              refine lv_iconst (v := 1) hx hb dX2_make_123 (by decide) ?_
              exact endZ0 E hr hlocks hP hD hS dX2_make_124 rfl (tz hF)
            · have hF := if_t hc hF
              refine lv_iconst (v := 0) hx hb dX2_make_102 (by decide) ?_
              exact endZ0 E hr hlocks hP hD hS dX2_make_103 rfl (tz hF)
        · have hF := if_f hc hF
          exact absurd hF (tm (by decide))
    · have hF := if_f hc hF
      exact absurd hF (tm (by decide))
set_option maxHeartbeats 4000000 in
set_option maxRecDepth 100000 in
theorem xX2_make (l : Launch) (hst : l.stackTraces = false) (D : va_G) (h : Nat → Nat) (cI cJ cZ : ClassId) (n : Nat) (x1 x2 x3 : Int32) (st : St) (t : Nat) (r : Int32) (u : St) (ht : t ≠ 0) (hF : FX2_make n x1 x2 x3 st = some (t, r, u)) : Cx l yX2_make cX2_make 6 (some .boolean) 7 168 D (tyL cI cJ cZ) (wX h cI cJ cZ) st [.ref (h 0), .int x1, .int x2, .int x3] t u := by
  refine body_x (by decide +kernel) (Nat.le_of_ble_eq_true rfl) ?_
  intro p e s m below meth c A ls E hr hlocks hA hno hG hX hP hD hS hl
  have E : Env1 p s m _ c cX2_make 6 RX2 D (tyL cI cJ cZ) := E
  have hl : lv_has ls 6 [(0, .ref (h 0)), (1, .int x1), (2, .int x2), (3, .int x3)] := hl
  have hx := E.1.1
  have hb := E.1.2.1
  have hml := E.1.2.2.1
  unfold FX2_make at hF
  refine lv_iload_n hx hb dX2_make_0 rfl (lv_at hl 1 rfl) ?_
  obtain ⟨t4, r1, u2, hc3, hF⟩ := bth_some hF
  by_cases ht5 : t4 = 0
  rotate_left
  · have hF := if_f ht5 hF
    exact callx_s (rest := []) E hA hno hG hX hlocks hP hD hS hl.1 (xX2_needRoot l hst D h cI cJ cZ n x1 st t4 r1 u2 ht5 hc3) cw_X2_45 rfl rfl (Nat.le_of_ble_eq_true rfl) ⟨Nat.le_of_ble_eq_true rfl, Nat.le_of_ble_eq_true rfl⟩ ⟨Nat.le_refl _, Nat.le_refl _⟩ dX2_make_1 hF
  subst ht5
  have hF := if_t rfl hF
  refine calls_v (rest := []) E hA hP hD hS hl.1 (kX2_needRoot l D h cI cJ cZ n x1 st r1 u2 hc3) cw_X2_45 rfl rfl (Nat.le_of_ble_eq_true rfl) ⟨Nat.le_of_ble_eq_true rfl, Nat.le_of_ble_eq_true rfl⟩ ⟨Nat.zero_le _, Nat.zero_le _⟩ dX2_make_1 (fun H locs hP hD hS => ?_)
  refine lv_iload_n hx hb dX2_make_4 rfl (lv_at hl 2 rfl) ?_
  refine lv_if_lt (tgt := 14) hx hb dX2_make_5 (by decide) (fun hc => ?_) (fun hc => ?_)
  · have hF := if_t hc hF
    exact thr_49 E hst hA hno hG hX hlocks hP hD hS hl.1 (Nat.le_of_ble_eq_true rfl) (Nat.le_of_ble_eq_true rfl) ⟨Nat.le_refl _, Nat.le_refl _⟩ dX2_make_14 dX2_make_17 dX2_make_18 dX2_make_20 dX2_make_23 hF
  · have hF := if_f hc hF
    refine lv_iload_n hx hb dX2_make_8 rfl (lv_at hl 2 rfl) ?_
    refine lv_bipush (v := 31) hx hb dX2_make_9 (by decide) ?_
    refine lv_icmp_le (tgt := 24) hx hb dX2_make_11 (by decide) (fun hc => ?_) (fun hc => ?_)
    · have hF := if_t hc hF
      refine lv_iload_n hx hb dX2_make_24 rfl (lv_at hl 3 rfl) ?_
      refine lv_if_lt (tgt := 35) hx hb dX2_make_25 (by decide) (fun hc => ?_) (fun hc => ?_)
      · have hF := if_t hc hF
        exact thr_51 E hst hA hno hG hX hlocks hP hD hS hl.1 (Nat.le_of_ble_eq_true rfl) (Nat.le_of_ble_eq_true rfl) ⟨Nat.le_refl _, Nat.le_refl _⟩ dX2_make_35 dX2_make_38 dX2_make_39 dX2_make_41 dX2_make_44 hF
      · have hF := if_f hc hF
        refine lv_iload_n hx hb dX2_make_28 rfl (lv_at hl 3 rfl) ?_
        refine lv_sipush (v := 200) hx hb dX2_make_29 (by decide) ?_
        refine lv_icmp_le (tgt := 45) hx hb dX2_make_32 (by decide) (fun hc => ?_) (fun hc => ?_)
        · have hF := if_t hc hF
          refine lv_iconst (v := 1) hx hb dX2_make_45 (by decide) ?_
          refine lv_iload_n hx hb dX2_make_46 rfl (lv_at hl 2 rfl) ?_
          refine lv_iadd hx hb dX2_make_47 ?_
          refine lv_iload_n hx hb dX2_make_48 rfl (lv_at hl 3 rfl) ?_
          refine lv_iadd hx hb dX2_make_49 ?_
          refine lv_istore (lv' := [(4, .int (((1 : Int32) + x2) + x3)), (0, .ref (h 0)), (1, .int x1), (2, .int x2), (3, .int x3)]) hx hb dX2_make_50 hl (by decide) rfl (fun ls hl => ?_)
          refine lv_aload_n hx hb dX2_make_52 rfl (lv_at hl 1 rfl) ?_
          refine g_0_0 E hP dX2_make_53 ?_
          refine lv_iload hx hb dX2_make_56 (lv_at hl 0 rfl) ?_
          obtain ⟨r6, u7, hc8, hF⟩ := bd_some hF
          refine call_i (rest := []) E hA hP hD hS hl.1 (kX1_roomFor l D h cI cJ cZ n (((1 : Int32) + x2) + x3) u2 r6 u7 hc8) cw_X2_53 1 rfl rfl rfl rfl rfl (Nat.le_of_ble_eq_true rfl) ⟨Nat.le_of_ble_eq_true rfl, Nat.le_of_ble_eq_true rfl⟩ ⟨Nat.zero_le _, Nat.zero_le _⟩ dX2_make_58 (fun H locs hP hD hS => ?_)
          refine lv_istore (lv' := [(5, .int r6), (4, .int (((1 : Int32) + x2) + x3)), (0, .ref (h 0)), (1, .int x1), (2, .int x2), (3, .int x3)]) hx hb dX2_make_61 hl (by decide) rfl (fun ls hl => ?_)
          refine lv_iload hx hb dX2_make_63 (lv_at hl 0 rfl) ?_
          refine lv_iconst (v := (-1)) hx hb dX2_make_65 (by decide) ?_
          refine lv_icmp_ne (tgt := 96) hx hb dX2_make_66 (by decide) (fun hc => ?_) (fun hc => ?_)
          · have hF := if_f hc hF
            refine lv_iload hx hb dX2_make_96 (lv_at hl 0 rfl) ?_
            refine lv_iconst (v := (-1)) hx hb dX2_make_98 (by decide) ?_
            refine lv_icmp_ne (tgt := 104) hx hb dX2_make_99 (by decide) (fun hc => ?_) (fun hc => ?_)
            · have hF := if_f hc hF
              refine lv_aload_n hx hb dX2_make_104 rfl (lv_at hl 2 rfl) ?_
              refine g_0_0 E hP dX2_make_105 ?_
              refine lv_iload hx hb dX2_make_108 (lv_at hl 0 rfl) ?_
              refine lv_iload_n hx hb dX2_make_110 rfl (lv_at hl 4 rfl) ?_
              refine lv_iload_n hx hb dX2_make_111 rfl (lv_at hl 5 rfl) ?_
              obtain ⟨r9, u10, hc11, hF⟩ := bd_some hF
              refine call_v (rest := []) E hA hP hD hS hl.1 (kX1_putNew l D h cI cJ cZ n r6 x2 x3 u7 r9 u10 hc11) cw_X2_61 1 rfl rfl rfl rfl rfl (Nat.le_of_ble_eq_true rfl) ⟨Nat.le_of_ble_eq_true rfl, Nat.le_of_ble_eq_true rfl⟩ ⟨Nat.zero_le _, Nat.zero_le _⟩ dX2_make_112 (fun H locs hP hD hS => ?_)
              refine lv_aload_n hx hb dX2_make_115 rfl (lv_at hl 2 rfl) ?_
              refine g_0_2 E hP dX2_make_116 ?_
              refine lv_iload_n hx hb dX2_make_119 rfl (lv_at hl 3 rfl) ?_
              refine lv_iload hx hb dX2_make_120 (lv_at hl 0 rfl) ?_
              obtain ⟨hi12, hF⟩ := gd_some hF
              refine sa_3 E hP hD hS hi12 dX2_make_122 (fun H locs hP hD hS => ?_)
              refine lv_iconst (v := 1) hx hb dX2_make_123 (by decide) ?_
              exact absurd hF (tn ht)
            · have hF := if_t hc hF
              refine lv_iconst (v := 0) hx hb dX2_make_102 (by decide) ?_
              exact absurd hF (tn ht)
          · have hF := if_t hc hF
            refine lv_aload_n hx hb dX2_make_69 rfl (lv_at hl 2 rfl) ?_
            refine g_0_1 E hP dX2_make_70 ?_
            refine lv_aload_n hx hb dX2_make_73 rfl (lv_at hl 2 rfl) ?_
            refine g_0_2 E hP dX2_make_74 ?_
            refine lv_aload_n hx hb dX2_make_77 rfl (lv_at hl 2 rfl) ?_
            refine g_0_3 E hP dX2_make_78 ?_
            obtain ⟨r13, u14, hc15, hF⟩ := bd_some hF
            refine call_i (rest := []) E hA hP hD hS hl.1 (kX0_run l D h cI cJ cZ n  u7 r13 u14 hc15) cw_X2_57 2 rfl rfl rfl rfl rfl (Nat.le_of_ble_eq_true rfl) ⟨Nat.le_of_ble_eq_true rfl, Nat.le_of_ble_eq_true rfl⟩ ⟨Nat.zero_le _, Nat.zero_le _⟩ dX2_make_81 (fun H locs hP hD hS => ?_)
            refine lv_pop hx hb dX2_make_84 rfl ?_
            refine lv_aload_n hx hb dX2_make_85 rfl (lv_at hl 2 rfl) ?_
            refine g_0_0 E hP dX2_make_86 ?_
            refine lv_iload hx hb dX2_make_89 (lv_at hl 1 rfl) ?_
            obtain ⟨r16, u17, hc18, hF⟩ := bd_some hF
            refine call_i (rest := []) E hA hP hD hS hl.1 (kX1_roomFor l D h cI cJ cZ n (((1 : Int32) + x2) + x3) u14 r16 u17 hc18) cw_X2_53 1 rfl rfl rfl rfl rfl (Nat.le_of_ble_eq_true rfl) ⟨Nat.le_of_ble_eq_true rfl, Nat.le_of_ble_eq_true rfl⟩ ⟨Nat.zero_le _, Nat.zero_le _⟩ dX2_make_91 (fun H locs hP hD hS => ?_)
            refine lv_istore (lv' := [(5, .int r16), (4, .int (((1 : Int32) + x2) + x3)), (0, .ref (h 0)), (1, .int x1), (2, .int x2), (3, .int x3)]) hx hb dX2_make_94 hl (by decide) rfl (fun ls hl => ?_)
            refine lv_iload hx hb dX2_make_96 (lv_at hl 0 rfl) ?_
            refine lv_iconst (v := (-1)) hx hb dX2_make_98 (by decide) ?_
            refine lv_icmp_ne (tgt := 104) hx hb dX2_make_99 (by decide) (fun hc => ?_) (fun hc => ?_)
            · have hF := if_f hc hF
              refine lv_aload_n hx hb dX2_make_104 rfl (lv_at hl 2 rfl) ?_
              refine g_0_0 E hP dX2_make_105 ?_
              refine lv_iload hx hb dX2_make_108 (lv_at hl 0 rfl) ?_
              refine lv_iload_n hx hb dX2_make_110 rfl (lv_at hl 4 rfl) ?_
              refine lv_iload_n hx hb dX2_make_111 rfl (lv_at hl 5 rfl) ?_
              obtain ⟨r19, u20, hc21, hF⟩ := bd_some hF
              refine call_v (rest := []) E hA hP hD hS hl.1 (kX1_putNew l D h cI cJ cZ n r16 x2 x3 u17 r19 u20 hc21) cw_X2_61 1 rfl rfl rfl rfl rfl (Nat.le_of_ble_eq_true rfl) ⟨Nat.le_of_ble_eq_true rfl, Nat.le_of_ble_eq_true rfl⟩ ⟨Nat.zero_le _, Nat.zero_le _⟩ dX2_make_112 (fun H locs hP hD hS => ?_)
              refine lv_aload_n hx hb dX2_make_115 rfl (lv_at hl 2 rfl) ?_
              refine g_0_2 E hP dX2_make_116 ?_
              refine lv_iload_n hx hb dX2_make_119 rfl (lv_at hl 3 rfl) ?_
              refine lv_iload hx hb dX2_make_120 (lv_at hl 0 rfl) ?_
              obtain ⟨hi22, hF⟩ := gd_some hF
              refine sa_3 E hP hD hS hi22 dX2_make_122 (fun H locs hP hD hS => ?_)
              refine lv_iconst (v := 1) hx hb dX2_make_123 (by decide) ?_
              exact absurd hF (tn ht)
            · have hF := if_t hc hF
              refine lv_iconst (v := 0) hx hb dX2_make_102 (by decide) ?_
              exact absurd hF (tn ht)
        · have hF := if_f hc hF
          exact thr_51 E hst hA hno hG hX hlocks hP hD hS hl.1 (Nat.le_of_ble_eq_true rfl) (Nat.le_of_ble_eq_true rfl) ⟨Nat.le_refl _, Nat.le_refl _⟩ dX2_make_35 dX2_make_38 dX2_make_39 dX2_make_41 dX2_make_44 hF
    · have hF := if_f hc hF
      exact thr_49 E hst hA hno hG hX hlocks hP hD hS hl.1 (Nat.le_of_ble_eq_true rfl) (Nat.le_of_ble_eq_true rfl) ⟨Nat.le_refl _, Nat.le_refl _⟩ dX2_make_14 dX2_make_17 dX2_make_18 dX2_make_20 dX2_make_23 hF
-- LooseHeap.copy
def FX2_copy (n : Nat) (x1 x2 : Int32) (st : St) : Option (Nat × Int32 × St) := bth (FX2_needRoot n x1 st) (fun r1 u2 => bth (FX2_needRoot n x2 u2) (fun r6 u7 => gd x1 32 (gd x2 32 (some (0, (0 : Int32), (pt u7 3 x2.toNatClampNeg (u7.1 3 x1.toNatClampNeg)))))))
set_option maxHeartbeats 4000000 in
set_option maxRecDepth 100000 in
theorem kX2_copy (l : Launch) (D : va_G) (h : Nat → Nat) (cI cJ cZ : ClassId) (n : Nat) (x1 x2 : Int32) (st : St) (r : Int32) (u : St) (hF : FX2_copy n x1 x2 st = some (0, r, u)) : Cv l yX2_copy cX2_copy 3 7 110 D (tyL cI cJ cZ) (wX h cI cJ cZ) st [.ref (h 0), .int x1, .int x2] u := by
  refine body_v (by decide +kernel) (Nat.le_of_ble_eq_true rfl) ?_
  intro p e s m below meth c A ls E hr hlocks hA hP hD hS hl
  have E : Env1 p s m _ c cX2_copy 3 RX2 D (tyL cI cJ cZ) := E
  have hl : lv_has ls 3 [(0, .ref (h 0)), (1, .int x1), (2, .int x2)] := hl
  have hx := E.1.1
  have hb := E.1.2.1
  have hml := E.1.2.2.1
  unfold FX2_copy at hF
  refine lv_iload_n hx hb dX2_copy_0 rfl (lv_at hl 1 rfl) ?_
  obtain ⟨t4, r1, u2, hc3, hF⟩ := bth_some hF
  by_cases ht5 : t4 = 0
  rotate_left
  · have hF := if_f ht5 hF
    exact absurd hF (tm ht5)
  subst ht5
  have hF := if_t rfl hF
  refine calls_v (rest := []) E hA hP hD hS hl.1 (kX2_needRoot l D h cI cJ cZ n x1 st r1 u2 hc3) cw_X2_45 rfl rfl (Nat.le_of_ble_eq_true rfl) ⟨Nat.le_of_ble_eq_true rfl, Nat.le_of_ble_eq_true rfl⟩ ⟨Nat.zero_le _, Nat.zero_le _⟩ dX2_copy_1 (fun H locs hP hD hS => ?_)
  refine lv_iload_n hx hb dX2_copy_4 rfl (lv_at hl 2 rfl) ?_
  obtain ⟨t9, r6, u7, hc8, hF⟩ := bth_some hF
  by_cases ht10 : t9 = 0
  rotate_left
  · have hF := if_f ht10 hF
    exact absurd hF (tm ht10)
  subst ht10
  have hF := if_t rfl hF
  refine calls_v (rest := []) E hA hP hD hS hl.1 (kX2_needRoot l D h cI cJ cZ n x2 u2 r6 u7 hc8) cw_X2_45 rfl rfl (Nat.le_of_ble_eq_true rfl) ⟨Nat.le_of_ble_eq_true rfl, Nat.le_of_ble_eq_true rfl⟩ ⟨Nat.zero_le _, Nat.zero_le _⟩ dX2_copy_5 (fun H locs hP hD hS => ?_)
  refine lv_aload_n hx hb dX2_copy_8 rfl (lv_at hl 0 rfl) ?_
  refine g_0_2 E hP dX2_copy_9 ?_
  refine lv_iload_n hx hb dX2_copy_12 rfl (lv_at hl 2 rfl) ?_
  refine lv_aload_n hx hb dX2_copy_13 rfl (lv_at hl 0 rfl) ?_
  refine g_0_2 E hP dX2_copy_14 ?_
  refine lv_iload_n hx hb dX2_copy_17 rfl (lv_at hl 1 rfl) ?_
  obtain ⟨hi11, hF⟩ := gd_some hF
  refine la_3 E hP hi11 dX2_copy_18 ?_
  obtain ⟨hi12, hF⟩ := gd_some hF
  refine sa_3 E hP hD hS hi12 dX2_copy_19 (fun H locs hP hD hS => ?_)
  exact endV E hr hlocks hP hD hS dX2_copy_20 (tz hF)
set_option maxHeartbeats 4000000 in
set_option maxRecDepth 100000 in
theorem xX2_copy (l : Launch) (hst : l.stackTraces = false) (D : va_G) (h : Nat → Nat) (cI cJ cZ : ClassId) (n : Nat) (x1 x2 : Int32) (st : St) (t : Nat) (r : Int32) (u : St) (ht : t ≠ 0) (hF : FX2_copy n x1 x2 st = some (t, r, u)) : Cx l yX2_copy cX2_copy 3 none 7 110 D (tyL cI cJ cZ) (wX h cI cJ cZ) st [.ref (h 0), .int x1, .int x2] t u := by
  refine body_x (by decide +kernel) (Nat.le_of_ble_eq_true rfl) ?_
  intro p e s m below meth c A ls E hr hlocks hA hno hG hX hP hD hS hl
  have E : Env1 p s m _ c cX2_copy 3 RX2 D (tyL cI cJ cZ) := E
  have hl : lv_has ls 3 [(0, .ref (h 0)), (1, .int x1), (2, .int x2)] := hl
  have hx := E.1.1
  have hb := E.1.2.1
  have hml := E.1.2.2.1
  unfold FX2_copy at hF
  refine lv_iload_n hx hb dX2_copy_0 rfl (lv_at hl 1 rfl) ?_
  obtain ⟨t4, r1, u2, hc3, hF⟩ := bth_some hF
  by_cases ht5 : t4 = 0
  rotate_left
  · have hF := if_f ht5 hF
    exact callx_s (rest := []) E hA hno hG hX hlocks hP hD hS hl.1 (xX2_needRoot l hst D h cI cJ cZ n x1 st t4 r1 u2 ht5 hc3) cw_X2_45 rfl rfl (Nat.le_of_ble_eq_true rfl) ⟨Nat.le_of_ble_eq_true rfl, Nat.le_of_ble_eq_true rfl⟩ ⟨Nat.le_refl _, Nat.le_refl _⟩ dX2_copy_1 hF
  subst ht5
  have hF := if_t rfl hF
  refine calls_v (rest := []) E hA hP hD hS hl.1 (kX2_needRoot l D h cI cJ cZ n x1 st r1 u2 hc3) cw_X2_45 rfl rfl (Nat.le_of_ble_eq_true rfl) ⟨Nat.le_of_ble_eq_true rfl, Nat.le_of_ble_eq_true rfl⟩ ⟨Nat.zero_le _, Nat.zero_le _⟩ dX2_copy_1 (fun H locs hP hD hS => ?_)
  refine lv_iload_n hx hb dX2_copy_4 rfl (lv_at hl 2 rfl) ?_
  obtain ⟨t9, r6, u7, hc8, hF⟩ := bth_some hF
  by_cases ht10 : t9 = 0
  rotate_left
  · have hF := if_f ht10 hF
    exact callx_s (rest := []) E hA hno hG hX hlocks hP hD hS hl.1 (xX2_needRoot l hst D h cI cJ cZ n x2 u2 t9 r6 u7 ht10 hc8) cw_X2_45 rfl rfl (Nat.le_of_ble_eq_true rfl) ⟨Nat.le_of_ble_eq_true rfl, Nat.le_of_ble_eq_true rfl⟩ ⟨Nat.le_refl _, Nat.le_refl _⟩ dX2_copy_5 hF
  subst ht10
  have hF := if_t rfl hF
  refine calls_v (rest := []) E hA hP hD hS hl.1 (kX2_needRoot l D h cI cJ cZ n x2 u2 r6 u7 hc8) cw_X2_45 rfl rfl (Nat.le_of_ble_eq_true rfl) ⟨Nat.le_of_ble_eq_true rfl, Nat.le_of_ble_eq_true rfl⟩ ⟨Nat.zero_le _, Nat.zero_le _⟩ dX2_copy_5 (fun H locs hP hD hS => ?_)
  refine lv_aload_n hx hb dX2_copy_8 rfl (lv_at hl 0 rfl) ?_
  refine g_0_2 E hP dX2_copy_9 ?_
  refine lv_iload_n hx hb dX2_copy_12 rfl (lv_at hl 2 rfl) ?_
  refine lv_aload_n hx hb dX2_copy_13 rfl (lv_at hl 0 rfl) ?_
  refine g_0_2 E hP dX2_copy_14 ?_
  refine lv_iload_n hx hb dX2_copy_17 rfl (lv_at hl 1 rfl) ?_
  obtain ⟨hi11, hF⟩ := gd_some hF
  refine la_3 E hP hi11 dX2_copy_18 ?_
  obtain ⟨hi12, hF⟩ := gd_some hF
  refine sa_3 E hP hD hS hi12 dX2_copy_19 (fun H locs hP hD hS => ?_)
  exact absurd hF (tn ht)
-- LooseHeap.drop
def FX2_drop (n : Nat) (x1 : Int32) (st : St) : Option (Nat × Int32 × St) := bth (FX2_needRoot n x1 st) (fun r1 u2 => gd x1 32 (some (0, (0 : Int32), (pt u2 3 x1.toNatClampNeg (-1 : Int32)))))
set_option maxHeartbeats 4000000 in
set_option maxRecDepth 100000 in
theorem kX2_drop (l : Launch) (D : va_G) (h : Nat → Nat) (cI cJ cZ : ClassId) (n : Nat) (x1 : Int32) (st : St) (r : Int32) (u : St) (hF : FX2_drop n x1 st = some (0, r, u)) : Cv l yX2_drop cX2_drop 2 7 110 D (tyL cI cJ cZ) (wX h cI cJ cZ) st [.ref (h 0), .int x1] u := by
  refine body_v (by decide +kernel) (Nat.le_of_ble_eq_true rfl) ?_
  intro p e s m below meth c A ls E hr hlocks hA hP hD hS hl
  have E : Env1 p s m _ c cX2_drop 2 RX2 D (tyL cI cJ cZ) := E
  have hl : lv_has ls 2 [(0, .ref (h 0)), (1, .int x1)] := hl
  have hx := E.1.1
  have hb := E.1.2.1
  have hml := E.1.2.2.1
  unfold FX2_drop at hF
  refine lv_iload_n hx hb dX2_drop_0 rfl (lv_at hl 1 rfl) ?_
  obtain ⟨t4, r1, u2, hc3, hF⟩ := bth_some hF
  by_cases ht5 : t4 = 0
  rotate_left
  · have hF := if_f ht5 hF
    exact absurd hF (tm ht5)
  subst ht5
  have hF := if_t rfl hF
  refine calls_v (rest := []) E hA hP hD hS hl.1 (kX2_needRoot l D h cI cJ cZ n x1 st r1 u2 hc3) cw_X2_45 rfl rfl (Nat.le_of_ble_eq_true rfl) ⟨Nat.le_of_ble_eq_true rfl, Nat.le_of_ble_eq_true rfl⟩ ⟨Nat.zero_le _, Nat.zero_le _⟩ dX2_drop_1 (fun H locs hP hD hS => ?_)
  refine lv_aload_n hx hb dX2_drop_4 rfl (lv_at hl 0 rfl) ?_
  refine g_0_2 E hP dX2_drop_5 ?_
  refine lv_iload_n hx hb dX2_drop_8 rfl (lv_at hl 1 rfl) ?_
  refine lv_iconst (v := (-1)) hx hb dX2_drop_9 (by decide) ?_
  obtain ⟨hi6, hF⟩ := gd_some hF
  refine sa_3 E hP hD hS hi6 dX2_drop_10 (fun H locs hP hD hS => ?_)
  exact endV E hr hlocks hP hD hS dX2_drop_11 (tz hF)
set_option maxHeartbeats 4000000 in
set_option maxRecDepth 100000 in
theorem xX2_drop (l : Launch) (hst : l.stackTraces = false) (D : va_G) (h : Nat → Nat) (cI cJ cZ : ClassId) (n : Nat) (x1 : Int32) (st : St) (t : Nat) (r : Int32) (u : St) (ht : t ≠ 0) (hF : FX2_drop n x1 st = some (t, r, u)) : Cx l yX2_drop cX2_drop 2 none 7 110 D (tyL cI cJ cZ) (wX h cI cJ cZ) st [.ref (h 0), .int x1] t u := by
  refine body_x (by decide +kernel) (Nat.le_of_ble_eq_true rfl) ?_
  intro p e s m below meth c A ls E hr hlocks hA hno hG hX hP hD hS hl
  have E : Env1 p s m _ c cX2_drop 2 RX2 D (tyL cI cJ cZ) := E
  have hl : lv_has ls 2 [(0, .ref (h 0)), (1, .int x1)] := hl
  have hx := E.1.1
  have hb := E.1.2.1
  have hml := E.1.2.2.1
  unfold FX2_drop at hF
  refine lv_iload_n hx hb dX2_drop_0 rfl (lv_at hl 1 rfl) ?_
  obtain ⟨t4, r1, u2, hc3, hF⟩ := bth_some hF
  by_cases ht5 : t4 = 0
  rotate_left
  · have hF := if_f ht5 hF
    exact callx_s (rest := []) E hA hno hG hX hlocks hP hD hS hl.1 (xX2_needRoot l hst D h cI cJ cZ n x1 st t4 r1 u2 ht5 hc3) cw_X2_45 rfl rfl (Nat.le_of_ble_eq_true rfl) ⟨Nat.le_of_ble_eq_true rfl, Nat.le_of_ble_eq_true rfl⟩ ⟨Nat.le_refl _, Nat.le_refl _⟩ dX2_drop_1 hF
  subst ht5
  have hF := if_t rfl hF
  refine calls_v (rest := []) E hA hP hD hS hl.1 (kX2_needRoot l D h cI cJ cZ n x1 st r1 u2 hc3) cw_X2_45 rfl rfl (Nat.le_of_ble_eq_true rfl) ⟨Nat.le_of_ble_eq_true rfl, Nat.le_of_ble_eq_true rfl⟩ ⟨Nat.zero_le _, Nat.zero_le _⟩ dX2_drop_1 (fun H locs hP hD hS => ?_)
  refine lv_aload_n hx hb dX2_drop_4 rfl (lv_at hl 0 rfl) ?_
  refine g_0_2 E hP dX2_drop_5 ?_
  refine lv_iload_n hx hb dX2_drop_8 rfl (lv_at hl 1 rfl) ?_
  refine lv_iconst (v := (-1)) hx hb dX2_drop_9 (by decide) ?_
  obtain ⟨hi6, hF⟩ := gd_some hF
  refine sa_3 E hP hD hS hi6 dX2_drop_10 (fun H locs hP hD hS => ?_)
  exact absurd hF (tn ht)
theorem cw_X2_65 : cwd RX2 65 RX2 yX2_needObject cX2_needObject 2 none 1 := ⟨tb_V (tb_in 609 (by decide +kernel) (by decide +kernel)) (tb_in 611 (by decide +kernel) (by decide +kernel)) (tb_in 25 (by decide +kernel) (by decide +kernel)) (tb_in 46 (by decide +kernel) (by decide +kernel)) (tb_in 612 (by decide +kernel) (by decide +kernel)), by decide +kernel⟩
theorem cw_X2_68 : cwd RX2 68 RX2 yX2_needRef cX2_needRef 3 none 2 := ⟨tb_V (tb_in 629 (by decide +kernel) (by decide +kernel)) (tb_in 631 (by decide +kernel) (by decide +kernel)) (tb_in 26 (by decide +kernel) (by decide +kernel)) (tb_in 46 (by decide +kernel) (by decide +kernel)) (tb_in 632 (by decide +kernel) (by decide +kernel)), by decide +kernel⟩
theorem cw_X2_71 : cwd RX2 71 RX1 yX1_setRef cX1_setRef 4 none 3 := ⟨tb_V (tb_in 649 (by decide +kernel) (by decide +kernel)) (tb_in 333 (by decide +kernel) (by decide +kernel)) (tb_in 334 (by decide +kernel) (by decide +kernel)) (tb_in 47 (by decide +kernel) (by decide +kernel)) (tb_in 335 (by decide +kernel) (by decide +kernel)), by decide +kernel⟩
-- LooseHeap.link
def FX2_link (n : Nat) (x1 x2 x3 : Int32) (st : St) : Option (Nat × Int32 × St) := bth (FX2_needRoot n x1 st) (fun r1 u2 => bth (FX2_needRoot n x3 u2) (fun r6 u7 => bth (FX2_needObject n x1 u7) (fun r11 u12 => bth (FX2_needRef n x1 x2 u12) (fun r16 u17 => gd x1 32 (gd x3 32 (bd (FX1_setRef n (u17.1 3 x1.toNatClampNeg) x2 (u17.1 3 x3.toNatClampNeg) u17) (fun r23 u24 => some (0, (0 : Int32), u24))))))))
set_option maxHeartbeats 4000000 in
set_option maxRecDepth 100000 in
theorem kX2_link (l : Launch) (D : va_G) (h : Nat → Nat) (cI cJ cZ : ClassId) (n : Nat) (x1 x2 x3 : Int32) (st : St) (r : Int32) (u : St) (hF : FX2_link n x1 x2 x3 st = some (0, r, u)) : Cv l yX2_link cX2_link 4 7 112 D (tyL cI cJ cZ) (wX h cI cJ cZ) st [.ref (h 0), .int x1, .int x2, .int x3] u := by
  refine body_v (by decide +kernel) (Nat.le_of_ble_eq_true rfl) ?_
  intro p e s m below meth c A ls E hr hlocks hA hP hD hS hl
  have E : Env1 p s m _ c cX2_link 4 RX2 D (tyL cI cJ cZ) := E
  have hl : lv_has ls 4 [(0, .ref (h 0)), (1, .int x1), (2, .int x2), (3, .int x3)] := hl
  have hx := E.1.1
  have hb := E.1.2.1
  have hml := E.1.2.2.1
  unfold FX2_link at hF
  refine lv_iload_n hx hb dX2_link_0 rfl (lv_at hl 1 rfl) ?_
  obtain ⟨t4, r1, u2, hc3, hF⟩ := bth_some hF
  by_cases ht5 : t4 = 0
  rotate_left
  · have hF := if_f ht5 hF
    exact absurd hF (tm ht5)
  subst ht5
  have hF := if_t rfl hF
  refine calls_v (rest := []) E hA hP hD hS hl.1 (kX2_needRoot l D h cI cJ cZ n x1 st r1 u2 hc3) cw_X2_45 rfl rfl (Nat.le_of_ble_eq_true rfl) ⟨Nat.le_of_ble_eq_true rfl, Nat.le_of_ble_eq_true rfl⟩ ⟨Nat.zero_le _, Nat.zero_le _⟩ dX2_link_1 (fun H locs hP hD hS => ?_)
  refine lv_iload_n hx hb dX2_link_4 rfl (lv_at hl 3 rfl) ?_
  obtain ⟨t9, r6, u7, hc8, hF⟩ := bth_some hF
  by_cases ht10 : t9 = 0
  rotate_left
  · have hF := if_f ht10 hF
    exact absurd hF (tm ht10)
  subst ht10
  have hF := if_t rfl hF
  refine calls_v (rest := []) E hA hP hD hS hl.1 (kX2_needRoot l D h cI cJ cZ n x3 u2 r6 u7 hc8) cw_X2_45 rfl rfl (Nat.le_of_ble_eq_true rfl) ⟨Nat.le_of_ble_eq_true rfl, Nat.le_of_ble_eq_true rfl⟩ ⟨Nat.zero_le _, Nat.zero_le _⟩ dX2_link_5 (fun H locs hP hD hS => ?_)
  refine lv_aload_n hx hb dX2_link_8 rfl (lv_at hl 0 rfl) ?_
  refine lv_iload_n hx hb dX2_link_9 rfl (lv_at hl 1 rfl) ?_
  obtain ⟨t14, r11, u12, hc13, hF⟩ := bth_some hF
  by_cases ht15 : t14 = 0
  rotate_left
  · have hF := if_f ht15 hF
    exact absurd hF (tm ht15)
  subst ht15
  have hF := if_t rfl hF
  refine call_v (rest := []) E hA hP hD hS hl.1 (kX2_needObject l D h cI cJ cZ n x1 u7 r11 u12 hc13) cw_X2_65 0 rfl rfl rfl rfl rfl (Nat.le_of_ble_eq_true rfl) ⟨Nat.le_of_ble_eq_true rfl, Nat.le_of_ble_eq_true rfl⟩ ⟨Nat.zero_le _, Nat.zero_le _⟩ dX2_link_10 (fun H locs hP hD hS => ?_)
  refine lv_aload_n hx hb dX2_link_13 rfl (lv_at hl 0 rfl) ?_
  refine lv_iload_n hx hb dX2_link_14 rfl (lv_at hl 1 rfl) ?_
  refine lv_iload_n hx hb dX2_link_15 rfl (lv_at hl 2 rfl) ?_
  obtain ⟨t19, r16, u17, hc18, hF⟩ := bth_some hF
  by_cases ht20 : t19 = 0
  rotate_left
  · have hF := if_f ht20 hF
    exact absurd hF (tm ht20)
  subst ht20
  have hF := if_t rfl hF
  refine call_v (rest := []) E hA hP hD hS hl.1 (kX2_needRef l D h cI cJ cZ n x1 x2 u12 r16 u17 hc18) cw_X2_68 0 rfl rfl rfl rfl rfl (Nat.le_of_ble_eq_true rfl) ⟨Nat.le_of_ble_eq_true rfl, Nat.le_of_ble_eq_true rfl⟩ ⟨Nat.zero_le _, Nat.zero_le _⟩ dX2_link_16 (fun H locs hP hD hS => ?_)
  refine lv_aload_n hx hb dX2_link_19 rfl (lv_at hl 0 rfl) ?_
  refine g_0_0 E hP dX2_link_20 ?_
  refine lv_aload_n hx hb dX2_link_23 rfl (lv_at hl 0 rfl) ?_
  refine g_0_2 E hP dX2_link_24 ?_
  refine lv_iload_n hx hb dX2_link_27 rfl (lv_at hl 1 rfl) ?_
  obtain ⟨hi21, hF⟩ := gd_some hF
  refine la_3 E hP hi21 dX2_link_28 ?_
  refine lv_iload_n hx hb dX2_link_29 rfl (lv_at hl 2 rfl) ?_
  refine lv_aload_n hx hb dX2_link_30 rfl (lv_at hl 0 rfl) ?_
  refine g_0_2 E hP dX2_link_31 ?_
  refine lv_iload_n hx hb dX2_link_34 rfl (lv_at hl 3 rfl) ?_
  obtain ⟨hi22, hF⟩ := gd_some hF
  refine la_3 E hP hi22 dX2_link_35 ?_
  obtain ⟨r23, u24, hc25, hF⟩ := bd_some hF
  refine call_v (rest := []) E hA hP hD hS hl.1 (kX1_setRef l D h cI cJ cZ n (u17.1 3 x1.toNatClampNeg) x2 (u17.1 3 x3.toNatClampNeg) u17 r23 u24 hc25) cw_X2_71 1 rfl rfl rfl rfl rfl (Nat.le_of_ble_eq_true rfl) ⟨Nat.le_of_ble_eq_true rfl, Nat.le_of_ble_eq_true rfl⟩ ⟨Nat.zero_le _, Nat.zero_le _⟩ dX2_link_36 (fun H locs hP hD hS => ?_)
  exact endV E hr hlocks hP hD hS dX2_link_39 (tz hF)
set_option maxHeartbeats 4000000 in
set_option maxRecDepth 100000 in
theorem xX2_link (l : Launch) (hst : l.stackTraces = false) (D : va_G) (h : Nat → Nat) (cI cJ cZ : ClassId) (n : Nat) (x1 x2 x3 : Int32) (st : St) (t : Nat) (r : Int32) (u : St) (ht : t ≠ 0) (hF : FX2_link n x1 x2 x3 st = some (t, r, u)) : Cx l yX2_link cX2_link 4 none 7 112 D (tyL cI cJ cZ) (wX h cI cJ cZ) st [.ref (h 0), .int x1, .int x2, .int x3] t u := by
  refine body_x (by decide +kernel) (Nat.le_of_ble_eq_true rfl) ?_
  intro p e s m below meth c A ls E hr hlocks hA hno hG hX hP hD hS hl
  have E : Env1 p s m _ c cX2_link 4 RX2 D (tyL cI cJ cZ) := E
  have hl : lv_has ls 4 [(0, .ref (h 0)), (1, .int x1), (2, .int x2), (3, .int x3)] := hl
  have hx := E.1.1
  have hb := E.1.2.1
  have hml := E.1.2.2.1
  unfold FX2_link at hF
  refine lv_iload_n hx hb dX2_link_0 rfl (lv_at hl 1 rfl) ?_
  obtain ⟨t4, r1, u2, hc3, hF⟩ := bth_some hF
  by_cases ht5 : t4 = 0
  rotate_left
  · have hF := if_f ht5 hF
    exact callx_s (rest := []) E hA hno hG hX hlocks hP hD hS hl.1 (xX2_needRoot l hst D h cI cJ cZ n x1 st t4 r1 u2 ht5 hc3) cw_X2_45 rfl rfl (Nat.le_of_ble_eq_true rfl) ⟨Nat.le_of_ble_eq_true rfl, Nat.le_of_ble_eq_true rfl⟩ ⟨Nat.le_refl _, Nat.le_refl _⟩ dX2_link_1 hF
  subst ht5
  have hF := if_t rfl hF
  refine calls_v (rest := []) E hA hP hD hS hl.1 (kX2_needRoot l D h cI cJ cZ n x1 st r1 u2 hc3) cw_X2_45 rfl rfl (Nat.le_of_ble_eq_true rfl) ⟨Nat.le_of_ble_eq_true rfl, Nat.le_of_ble_eq_true rfl⟩ ⟨Nat.zero_le _, Nat.zero_le _⟩ dX2_link_1 (fun H locs hP hD hS => ?_)
  refine lv_iload_n hx hb dX2_link_4 rfl (lv_at hl 3 rfl) ?_
  obtain ⟨t9, r6, u7, hc8, hF⟩ := bth_some hF
  by_cases ht10 : t9 = 0
  rotate_left
  · have hF := if_f ht10 hF
    exact callx_s (rest := []) E hA hno hG hX hlocks hP hD hS hl.1 (xX2_needRoot l hst D h cI cJ cZ n x3 u2 t9 r6 u7 ht10 hc8) cw_X2_45 rfl rfl (Nat.le_of_ble_eq_true rfl) ⟨Nat.le_of_ble_eq_true rfl, Nat.le_of_ble_eq_true rfl⟩ ⟨Nat.le_refl _, Nat.le_refl _⟩ dX2_link_5 hF
  subst ht10
  have hF := if_t rfl hF
  refine calls_v (rest := []) E hA hP hD hS hl.1 (kX2_needRoot l D h cI cJ cZ n x3 u2 r6 u7 hc8) cw_X2_45 rfl rfl (Nat.le_of_ble_eq_true rfl) ⟨Nat.le_of_ble_eq_true rfl, Nat.le_of_ble_eq_true rfl⟩ ⟨Nat.zero_le _, Nat.zero_le _⟩ dX2_link_5 (fun H locs hP hD hS => ?_)
  refine lv_aload_n hx hb dX2_link_8 rfl (lv_at hl 0 rfl) ?_
  refine lv_iload_n hx hb dX2_link_9 rfl (lv_at hl 1 rfl) ?_
  obtain ⟨t14, r11, u12, hc13, hF⟩ := bth_some hF
  by_cases ht15 : t14 = 0
  rotate_left
  · have hF := if_f ht15 hF
    exact callx_v (rest := []) E hA hno hG hX hlocks hP hD hS hl.1 (xX2_needObject l hst D h cI cJ cZ n x1 u7 t14 r11 u12 ht15 hc13) cw_X2_65 0 rfl rfl rfl rfl rfl (Nat.le_of_ble_eq_true rfl) ⟨Nat.le_of_ble_eq_true rfl, Nat.le_of_ble_eq_true rfl⟩ ⟨Nat.le_refl _, Nat.le_refl _⟩ dX2_link_10 hF
  subst ht15
  have hF := if_t rfl hF
  refine call_v (rest := []) E hA hP hD hS hl.1 (kX2_needObject l D h cI cJ cZ n x1 u7 r11 u12 hc13) cw_X2_65 0 rfl rfl rfl rfl rfl (Nat.le_of_ble_eq_true rfl) ⟨Nat.le_of_ble_eq_true rfl, Nat.le_of_ble_eq_true rfl⟩ ⟨Nat.zero_le _, Nat.zero_le _⟩ dX2_link_10 (fun H locs hP hD hS => ?_)
  refine lv_aload_n hx hb dX2_link_13 rfl (lv_at hl 0 rfl) ?_
  refine lv_iload_n hx hb dX2_link_14 rfl (lv_at hl 1 rfl) ?_
  refine lv_iload_n hx hb dX2_link_15 rfl (lv_at hl 2 rfl) ?_
  obtain ⟨t19, r16, u17, hc18, hF⟩ := bth_some hF
  by_cases ht20 : t19 = 0
  rotate_left
  · have hF := if_f ht20 hF
    exact callx_v (rest := []) E hA hno hG hX hlocks hP hD hS hl.1 (xX2_needRef l hst D h cI cJ cZ n x1 x2 u12 t19 r16 u17 ht20 hc18) cw_X2_68 0 rfl rfl rfl rfl rfl (Nat.le_of_ble_eq_true rfl) ⟨Nat.le_of_ble_eq_true rfl, Nat.le_of_ble_eq_true rfl⟩ ⟨Nat.le_refl _, Nat.le_refl _⟩ dX2_link_16 hF
  subst ht20
  have hF := if_t rfl hF
  refine call_v (rest := []) E hA hP hD hS hl.1 (kX2_needRef l D h cI cJ cZ n x1 x2 u12 r16 u17 hc18) cw_X2_68 0 rfl rfl rfl rfl rfl (Nat.le_of_ble_eq_true rfl) ⟨Nat.le_of_ble_eq_true rfl, Nat.le_of_ble_eq_true rfl⟩ ⟨Nat.zero_le _, Nat.zero_le _⟩ dX2_link_16 (fun H locs hP hD hS => ?_)
  refine lv_aload_n hx hb dX2_link_19 rfl (lv_at hl 0 rfl) ?_
  refine g_0_0 E hP dX2_link_20 ?_
  refine lv_aload_n hx hb dX2_link_23 rfl (lv_at hl 0 rfl) ?_
  refine g_0_2 E hP dX2_link_24 ?_
  refine lv_iload_n hx hb dX2_link_27 rfl (lv_at hl 1 rfl) ?_
  obtain ⟨hi21, hF⟩ := gd_some hF
  refine la_3 E hP hi21 dX2_link_28 ?_
  refine lv_iload_n hx hb dX2_link_29 rfl (lv_at hl 2 rfl) ?_
  refine lv_aload_n hx hb dX2_link_30 rfl (lv_at hl 0 rfl) ?_
  refine g_0_2 E hP dX2_link_31 ?_
  refine lv_iload_n hx hb dX2_link_34 rfl (lv_at hl 3 rfl) ?_
  obtain ⟨hi22, hF⟩ := gd_some hF
  refine la_3 E hP hi22 dX2_link_35 ?_
  obtain ⟨r23, u24, hc25, hF⟩ := bd_some hF
  refine call_v (rest := []) E hA hP hD hS hl.1 (kX1_setRef l D h cI cJ cZ n (u17.1 3 x1.toNatClampNeg) x2 (u17.1 3 x3.toNatClampNeg) u17 r23 u24 hc25) cw_X2_71 1 rfl rfl rfl rfl rfl (Nat.le_of_ble_eq_true rfl) ⟨Nat.le_of_ble_eq_true rfl, Nat.le_of_ble_eq_true rfl⟩ ⟨Nat.zero_le _, Nat.zero_le _⟩ dX2_link_36 (fun H locs hP hD hS => ?_)
  exact absurd hF (tn ht)
theorem cw_X2_74 : cwd RX2 74 RX1 yX1_ref cX1_ref 3 (some .int) 2 := ⟨tb_V (tb_in 657 (by decide +kernel) (by decide +kernel)) (tb_in 305 (by decide +kernel) (by decide +kernel)) (tb_in 306 (by decide +kernel) (by decide +kernel)) (tb_in 47 (by decide +kernel) (by decide +kernel)) (tb_in 307 (by decide +kernel) (by decide +kernel)), by decide +kernel⟩
-- LooseHeap.follow
def FX2_follow (n : Nat) (x1 x2 x3 : Int32) (st : St) : Option (Nat × Int32 × St) := bth (FX2_needRoot n x1 st) (fun r1 u2 => bth (FX2_needRoot n x3 u2) (fun r6 u7 => bth (FX2_needObject n x1 u7) (fun r11 u12 => bth (FX2_needRef n x1 x2 u12) (fun r16 u17 => gd x1 32 (bd (FX1_ref n (u17.1 3 x1.toNatClampNeg) x2 u17) (fun r22 u23 => gd x3 32 (gd x3 32 (some (0, ((pt u23 3 x3.toNatClampNeg r22).1 3 x3.toNatClampNeg), (pt u23 3 x3.toNatClampNeg r22))))))))))
set_option maxHeartbeats 4000000 in
set_option maxRecDepth 100000 in
theorem kX2_follow (l : Launch) (D : va_G) (h : Nat → Nat) (cI cJ cZ : ClassId) (n : Nat) (x1 x2 x3 : Int32) (st : St) (r : Int32) (u : St) (hF : FX2_follow n x1 x2 x3 st = some (0, r, u)) : Ci l yX2_follow cX2_follow 4 (some .int) 7 112 D (tyL cI cJ cZ) (wX h cI cJ cZ) st [.ref (h 0), .int x1, .int x2, .int x3] r u := by
  refine body_i (by decide +kernel) (Nat.le_of_ble_eq_true rfl) ?_
  intro p e s m below meth c A ls E hr hlocks hA hP hD hS hl
  have E : Env1 p s m _ c cX2_follow 4 RX2 D (tyL cI cJ cZ) := E
  have hl : lv_has ls 4 [(0, .ref (h 0)), (1, .int x1), (2, .int x2), (3, .int x3)] := hl
  have hx := E.1.1
  have hb := E.1.2.1
  have hml := E.1.2.2.1
  unfold FX2_follow at hF
  refine lv_iload_n hx hb dX2_follow_0 rfl (lv_at hl 1 rfl) ?_
  obtain ⟨t4, r1, u2, hc3, hF⟩ := bth_some hF
  by_cases ht5 : t4 = 0
  rotate_left
  · have hF := if_f ht5 hF
    exact absurd hF (tm ht5)
  subst ht5
  have hF := if_t rfl hF
  refine calls_v (rest := []) E hA hP hD hS hl.1 (kX2_needRoot l D h cI cJ cZ n x1 st r1 u2 hc3) cw_X2_45 rfl rfl (Nat.le_of_ble_eq_true rfl) ⟨Nat.le_of_ble_eq_true rfl, Nat.le_of_ble_eq_true rfl⟩ ⟨Nat.zero_le _, Nat.zero_le _⟩ dX2_follow_1 (fun H locs hP hD hS => ?_)
  refine lv_iload_n hx hb dX2_follow_4 rfl (lv_at hl 3 rfl) ?_
  obtain ⟨t9, r6, u7, hc8, hF⟩ := bth_some hF
  by_cases ht10 : t9 = 0
  rotate_left
  · have hF := if_f ht10 hF
    exact absurd hF (tm ht10)
  subst ht10
  have hF := if_t rfl hF
  refine calls_v (rest := []) E hA hP hD hS hl.1 (kX2_needRoot l D h cI cJ cZ n x3 u2 r6 u7 hc8) cw_X2_45 rfl rfl (Nat.le_of_ble_eq_true rfl) ⟨Nat.le_of_ble_eq_true rfl, Nat.le_of_ble_eq_true rfl⟩ ⟨Nat.zero_le _, Nat.zero_le _⟩ dX2_follow_5 (fun H locs hP hD hS => ?_)
  refine lv_aload_n hx hb dX2_follow_8 rfl (lv_at hl 0 rfl) ?_
  refine lv_iload_n hx hb dX2_follow_9 rfl (lv_at hl 1 rfl) ?_
  obtain ⟨t14, r11, u12, hc13, hF⟩ := bth_some hF
  by_cases ht15 : t14 = 0
  rotate_left
  · have hF := if_f ht15 hF
    exact absurd hF (tm ht15)
  subst ht15
  have hF := if_t rfl hF
  refine call_v (rest := []) E hA hP hD hS hl.1 (kX2_needObject l D h cI cJ cZ n x1 u7 r11 u12 hc13) cw_X2_65 0 rfl rfl rfl rfl rfl (Nat.le_of_ble_eq_true rfl) ⟨Nat.le_of_ble_eq_true rfl, Nat.le_of_ble_eq_true rfl⟩ ⟨Nat.zero_le _, Nat.zero_le _⟩ dX2_follow_10 (fun H locs hP hD hS => ?_)
  refine lv_aload_n hx hb dX2_follow_13 rfl (lv_at hl 0 rfl) ?_
  refine lv_iload_n hx hb dX2_follow_14 rfl (lv_at hl 1 rfl) ?_
  refine lv_iload_n hx hb dX2_follow_15 rfl (lv_at hl 2 rfl) ?_
  obtain ⟨t19, r16, u17, hc18, hF⟩ := bth_some hF
  by_cases ht20 : t19 = 0
  rotate_left
  · have hF := if_f ht20 hF
    exact absurd hF (tm ht20)
  subst ht20
  have hF := if_t rfl hF
  refine call_v (rest := []) E hA hP hD hS hl.1 (kX2_needRef l D h cI cJ cZ n x1 x2 u12 r16 u17 hc18) cw_X2_68 0 rfl rfl rfl rfl rfl (Nat.le_of_ble_eq_true rfl) ⟨Nat.le_of_ble_eq_true rfl, Nat.le_of_ble_eq_true rfl⟩ ⟨Nat.zero_le _, Nat.zero_le _⟩ dX2_follow_16 (fun H locs hP hD hS => ?_)
  refine lv_aload_n hx hb dX2_follow_19 rfl (lv_at hl 0 rfl) ?_
  refine g_0_2 E hP dX2_follow_20 ?_
  refine lv_iload_n hx hb dX2_follow_23 rfl (lv_at hl 3 rfl) ?_
  refine lv_aload_n hx hb dX2_follow_24 rfl (lv_at hl 0 rfl) ?_
  refine g_0_0 E hP dX2_follow_25 ?_
  refine lv_aload_n hx hb dX2_follow_28 rfl (lv_at hl 0 rfl) ?_
  refine g_0_2 E hP dX2_follow_29 ?_
  refine lv_iload_n hx hb dX2_follow_32 rfl (lv_at hl 1 rfl) ?_
  obtain ⟨hi21, hF⟩ := gd_some hF
  refine la_3 E hP hi21 dX2_follow_33 ?_
  refine lv_iload_n hx hb dX2_follow_34 rfl (lv_at hl 2 rfl) ?_
  obtain ⟨r22, u23, hc24, hF⟩ := bd_some hF
  refine call_i (rest := [.int x3, .ref (h 3)]) E hA hP hD hS hl.1 (kX1_ref l D h cI cJ cZ n (u17.1 3 x1.toNatClampNeg) x2 u17 r22 u23 hc24) cw_X2_74 1 rfl rfl rfl rfl rfl (Nat.le_of_ble_eq_true rfl) ⟨Nat.le_of_ble_eq_true rfl, Nat.le_of_ble_eq_true rfl⟩ ⟨Nat.zero_le _, Nat.zero_le _⟩ dX2_follow_35 (fun H locs hP hD hS => ?_)
  obtain ⟨hi25, hF⟩ := gd_some hF
  refine sa_3 E hP hD hS hi25 dX2_follow_38 (fun H locs hP hD hS => ?_)
  refine lv_aload_n hx hb dX2_follow_39 rfl (lv_at hl 0 rfl) ?_
  refine g_0_2 E hP dX2_follow_40 ?_
  refine lv_iload_n hx hb dX2_follow_43 rfl (lv_at hl 3 rfl) ?_
  obtain ⟨hi26, hF⟩ := gd_some hF
  refine la_3 E hP hi26 dX2_follow_44 ?_
  exact endI E hr hlocks hP hD hS dX2_follow_45 (tz hF)
set_option maxHeartbeats 4000000 in
set_option maxRecDepth 100000 in
theorem xX2_follow (l : Launch) (hst : l.stackTraces = false) (D : va_G) (h : Nat → Nat) (cI cJ cZ : ClassId) (n : Nat) (x1 x2 x3 : Int32) (st : St) (t : Nat) (r : Int32) (u : St) (ht : t ≠ 0) (hF : FX2_follow n x1 x2 x3 st = some (t, r, u)) : Cx l yX2_follow cX2_follow 4 (some .int) 7 112 D (tyL cI cJ cZ) (wX h cI cJ cZ) st [.ref (h 0), .int x1, .int x2, .int x3] t u := by
  refine body_x (by decide +kernel) (Nat.le_of_ble_eq_true rfl) ?_
  intro p e s m below meth c A ls E hr hlocks hA hno hG hX hP hD hS hl
  have E : Env1 p s m _ c cX2_follow 4 RX2 D (tyL cI cJ cZ) := E
  have hl : lv_has ls 4 [(0, .ref (h 0)), (1, .int x1), (2, .int x2), (3, .int x3)] := hl
  have hx := E.1.1
  have hb := E.1.2.1
  have hml := E.1.2.2.1
  unfold FX2_follow at hF
  refine lv_iload_n hx hb dX2_follow_0 rfl (lv_at hl 1 rfl) ?_
  obtain ⟨t4, r1, u2, hc3, hF⟩ := bth_some hF
  by_cases ht5 : t4 = 0
  rotate_left
  · have hF := if_f ht5 hF
    exact callx_s (rest := []) E hA hno hG hX hlocks hP hD hS hl.1 (xX2_needRoot l hst D h cI cJ cZ n x1 st t4 r1 u2 ht5 hc3) cw_X2_45 rfl rfl (Nat.le_of_ble_eq_true rfl) ⟨Nat.le_of_ble_eq_true rfl, Nat.le_of_ble_eq_true rfl⟩ ⟨Nat.le_refl _, Nat.le_refl _⟩ dX2_follow_1 hF
  subst ht5
  have hF := if_t rfl hF
  refine calls_v (rest := []) E hA hP hD hS hl.1 (kX2_needRoot l D h cI cJ cZ n x1 st r1 u2 hc3) cw_X2_45 rfl rfl (Nat.le_of_ble_eq_true rfl) ⟨Nat.le_of_ble_eq_true rfl, Nat.le_of_ble_eq_true rfl⟩ ⟨Nat.zero_le _, Nat.zero_le _⟩ dX2_follow_1 (fun H locs hP hD hS => ?_)
  refine lv_iload_n hx hb dX2_follow_4 rfl (lv_at hl 3 rfl) ?_
  obtain ⟨t9, r6, u7, hc8, hF⟩ := bth_some hF
  by_cases ht10 : t9 = 0
  rotate_left
  · have hF := if_f ht10 hF
    exact callx_s (rest := []) E hA hno hG hX hlocks hP hD hS hl.1 (xX2_needRoot l hst D h cI cJ cZ n x3 u2 t9 r6 u7 ht10 hc8) cw_X2_45 rfl rfl (Nat.le_of_ble_eq_true rfl) ⟨Nat.le_of_ble_eq_true rfl, Nat.le_of_ble_eq_true rfl⟩ ⟨Nat.le_refl _, Nat.le_refl _⟩ dX2_follow_5 hF
  subst ht10
  have hF := if_t rfl hF
  refine calls_v (rest := []) E hA hP hD hS hl.1 (kX2_needRoot l D h cI cJ cZ n x3 u2 r6 u7 hc8) cw_X2_45 rfl rfl (Nat.le_of_ble_eq_true rfl) ⟨Nat.le_of_ble_eq_true rfl, Nat.le_of_ble_eq_true rfl⟩ ⟨Nat.zero_le _, Nat.zero_le _⟩ dX2_follow_5 (fun H locs hP hD hS => ?_)
  refine lv_aload_n hx hb dX2_follow_8 rfl (lv_at hl 0 rfl) ?_
  refine lv_iload_n hx hb dX2_follow_9 rfl (lv_at hl 1 rfl) ?_
  obtain ⟨t14, r11, u12, hc13, hF⟩ := bth_some hF
  by_cases ht15 : t14 = 0
  rotate_left
  · have hF := if_f ht15 hF
    exact callx_v (rest := []) E hA hno hG hX hlocks hP hD hS hl.1 (xX2_needObject l hst D h cI cJ cZ n x1 u7 t14 r11 u12 ht15 hc13) cw_X2_65 0 rfl rfl rfl rfl rfl (Nat.le_of_ble_eq_true rfl) ⟨Nat.le_of_ble_eq_true rfl, Nat.le_of_ble_eq_true rfl⟩ ⟨Nat.le_refl _, Nat.le_refl _⟩ dX2_follow_10 hF
  subst ht15
  have hF := if_t rfl hF
  refine call_v (rest := []) E hA hP hD hS hl.1 (kX2_needObject l D h cI cJ cZ n x1 u7 r11 u12 hc13) cw_X2_65 0 rfl rfl rfl rfl rfl (Nat.le_of_ble_eq_true rfl) ⟨Nat.le_of_ble_eq_true rfl, Nat.le_of_ble_eq_true rfl⟩ ⟨Nat.zero_le _, Nat.zero_le _⟩ dX2_follow_10 (fun H locs hP hD hS => ?_)
  refine lv_aload_n hx hb dX2_follow_13 rfl (lv_at hl 0 rfl) ?_
  refine lv_iload_n hx hb dX2_follow_14 rfl (lv_at hl 1 rfl) ?_
  refine lv_iload_n hx hb dX2_follow_15 rfl (lv_at hl 2 rfl) ?_
  obtain ⟨t19, r16, u17, hc18, hF⟩ := bth_some hF
  by_cases ht20 : t19 = 0
  rotate_left
  · have hF := if_f ht20 hF
    exact callx_v (rest := []) E hA hno hG hX hlocks hP hD hS hl.1 (xX2_needRef l hst D h cI cJ cZ n x1 x2 u12 t19 r16 u17 ht20 hc18) cw_X2_68 0 rfl rfl rfl rfl rfl (Nat.le_of_ble_eq_true rfl) ⟨Nat.le_of_ble_eq_true rfl, Nat.le_of_ble_eq_true rfl⟩ ⟨Nat.le_refl _, Nat.le_refl _⟩ dX2_follow_16 hF
  subst ht20
  have hF := if_t rfl hF
  refine call_v (rest := []) E hA hP hD hS hl.1 (kX2_needRef l D h cI cJ cZ n x1 x2 u12 r16 u17 hc18) cw_X2_68 0 rfl rfl rfl rfl rfl (Nat.le_of_ble_eq_true rfl) ⟨Nat.le_of_ble_eq_true rfl, Nat.le_of_ble_eq_true rfl⟩ ⟨Nat.zero_le _, Nat.zero_le _⟩ dX2_follow_16 (fun H locs hP hD hS => ?_)
  refine lv_aload_n hx hb dX2_follow_19 rfl (lv_at hl 0 rfl) ?_
  refine g_0_2 E hP dX2_follow_20 ?_
  refine lv_iload_n hx hb dX2_follow_23 rfl (lv_at hl 3 rfl) ?_
  refine lv_aload_n hx hb dX2_follow_24 rfl (lv_at hl 0 rfl) ?_
  refine g_0_0 E hP dX2_follow_25 ?_
  refine lv_aload_n hx hb dX2_follow_28 rfl (lv_at hl 0 rfl) ?_
  refine g_0_2 E hP dX2_follow_29 ?_
  refine lv_iload_n hx hb dX2_follow_32 rfl (lv_at hl 1 rfl) ?_
  obtain ⟨hi21, hF⟩ := gd_some hF
  refine la_3 E hP hi21 dX2_follow_33 ?_
  refine lv_iload_n hx hb dX2_follow_34 rfl (lv_at hl 2 rfl) ?_
  obtain ⟨r22, u23, hc24, hF⟩ := bd_some hF
  refine call_i (rest := [.int x3, .ref (h 3)]) E hA hP hD hS hl.1 (kX1_ref l D h cI cJ cZ n (u17.1 3 x1.toNatClampNeg) x2 u17 r22 u23 hc24) cw_X2_74 1 rfl rfl rfl rfl rfl (Nat.le_of_ble_eq_true rfl) ⟨Nat.le_of_ble_eq_true rfl, Nat.le_of_ble_eq_true rfl⟩ ⟨Nat.zero_le _, Nat.zero_le _⟩ dX2_follow_35 (fun H locs hP hD hS => ?_)
  obtain ⟨hi25, hF⟩ := gd_some hF
  refine sa_3 E hP hD hS hi25 dX2_follow_38 (fun H locs hP hD hS => ?_)
  refine lv_aload_n hx hb dX2_follow_39 rfl (lv_at hl 0 rfl) ?_
  refine g_0_2 E hP dX2_follow_40 ?_
  refine lv_iload_n hx hb dX2_follow_43 rfl (lv_at hl 3 rfl) ?_
  obtain ⟨hi26, hF⟩ := gd_some hF
  refine la_3 E hP hi26 dX2_follow_44 ?_
  exact absurd hF (tn ht)
theorem cw_X2_86 : cwd RX2 86 RX1 yX1_swapData cX1_swapData 6 (some .int) 3 := ⟨tb_V (tb_in 666 (by decide +kernel) (by decide +kernel)) (tb_in 667 (by decide +kernel) (by decide +kernel)) (tb_in 668 (by decide +kernel) (by decide +kernel)) (tb_in 47 (by decide +kernel) (by decide +kernel)) (tb_in 669 (by decide +kernel) (by decide +kernel)), by decide +kernel⟩
-- LooseHeap.set
def FX2_set (n : Nat) (x1 x2 x3 : Int32) (st : St) : Option (Nat × Int32 × St) := bth (FX2_needRoot n x1 st) (fun r1 u2 => bth (FX2_needObject n x1 u2) (fun r6 u7 => (if x2 < 0 then some (3, (0 : Int32), u7) else gd x1 32 (bd (FX1_dataOf n (u7.1 3 x1.toNatClampNeg) u7) (fun r12 u13 => (if x2 < r12 then gd x1 32 (bd (FX1_swapData n (u13.1 3 x1.toNatClampNeg) x2 x3 u13) (fun r16 u17 => some (0, r16, u17))) else some (3, (0 : Int32), u13)))))))
set_option maxHeartbeats 4000000 in
set_option maxRecDepth 100000 in
theorem kX2_set (l : Launch) (D : va_G) (h : Nat → Nat) (cI cJ cZ : ClassId) (n : Nat) (x1 x2 x3 : Int32) (st : St) (r : Int32) (u : St) (hF : FX2_set n x1 x2 x3 st = some (0, r, u)) : Ci l yX2_set cX2_set 4 (some .int) 7 111 D (tyL cI cJ cZ) (wX h cI cJ cZ) st [.ref (h 0), .int x1, .int x2, .int x3] r u := by
  refine body_i (by decide +kernel) (Nat.le_of_ble_eq_true rfl) ?_
  intro p e s m below meth c A ls E hr hlocks hA hP hD hS hl
  have E : Env1 p s m _ c cX2_set 4 RX2 D (tyL cI cJ cZ) := E
  have hl : lv_has ls 4 [(0, .ref (h 0)), (1, .int x1), (2, .int x2), (3, .int x3)] := hl
  have hx := E.1.1
  have hb := E.1.2.1
  have hml := E.1.2.2.1
  unfold FX2_set at hF
  refine lv_iload_n hx hb dX2_set_0 rfl (lv_at hl 1 rfl) ?_
  obtain ⟨t4, r1, u2, hc3, hF⟩ := bth_some hF
  by_cases ht5 : t4 = 0
  rotate_left
  · have hF := if_f ht5 hF
    exact absurd hF (tm ht5)
  subst ht5
  have hF := if_t rfl hF
  refine calls_v (rest := []) E hA hP hD hS hl.1 (kX2_needRoot l D h cI cJ cZ n x1 st r1 u2 hc3) cw_X2_45 rfl rfl (Nat.le_of_ble_eq_true rfl) ⟨Nat.le_of_ble_eq_true rfl, Nat.le_of_ble_eq_true rfl⟩ ⟨Nat.zero_le _, Nat.zero_le _⟩ dX2_set_1 (fun H locs hP hD hS => ?_)
  refine lv_aload_n hx hb dX2_set_4 rfl (lv_at hl 0 rfl) ?_
  refine lv_iload_n hx hb dX2_set_5 rfl (lv_at hl 1 rfl) ?_
  obtain ⟨t9, r6, u7, hc8, hF⟩ := bth_some hF
  by_cases ht10 : t9 = 0
  rotate_left
  · have hF := if_f ht10 hF
    exact absurd hF (tm ht10)
  subst ht10
  have hF := if_t rfl hF
  refine call_v (rest := []) E hA hP hD hS hl.1 (kX2_needObject l D h cI cJ cZ n x1 u2 r6 u7 hc8) cw_X2_65 0 rfl rfl rfl rfl rfl (Nat.le_of_ble_eq_true rfl) ⟨Nat.le_of_ble_eq_true rfl, Nat.le_of_ble_eq_true rfl⟩ ⟨Nat.zero_le _, Nat.zero_le _⟩ dX2_set_6 (fun H locs hP hD hS => ?_)
  refine lv_iload_n hx hb dX2_set_9 rfl (lv_at hl 2 rfl) ?_
  refine lv_if_lt (tgt := 30) hx hb dX2_set_10 (by decide) (fun hc => ?_) (fun hc => ?_)
  · have hF := if_t hc hF
    exact absurd hF (tm (by decide))
  · have hF := if_f hc hF
    refine lv_iload_n hx hb dX2_set_13 rfl (lv_at hl 2 rfl) ?_
    refine lv_aload_n hx hb dX2_set_14 rfl (lv_at hl 0 rfl) ?_
    refine g_0_0 E hP dX2_set_15 ?_
    refine lv_aload_n hx hb dX2_set_18 rfl (lv_at hl 0 rfl) ?_
    refine g_0_2 E hP dX2_set_19 ?_
    refine lv_iload_n hx hb dX2_set_22 rfl (lv_at hl 1 rfl) ?_
    obtain ⟨hi11, hF⟩ := gd_some hF
    refine la_3 E hP hi11 dX2_set_23 ?_
    obtain ⟨r12, u13, hc14, hF⟩ := bd_some hF
    refine call_i (rest := [.int x2]) E hA hP hD hS hl.1 (kX1_dataOf l D h cI cJ cZ n (u7.1 3 x1.toNatClampNeg) u7 r12 u13 hc14) cw_X2_78 1 rfl rfl rfl rfl rfl (Nat.le_of_ble_eq_true rfl) ⟨Nat.le_of_ble_eq_true rfl, Nat.le_of_ble_eq_true rfl⟩ ⟨Nat.zero_le _, Nat.zero_le _⟩ dX2_set_24 (fun H locs hP hD hS => ?_)
    refine lv_icmp_lt (tgt := 40) hx hb dX2_set_27 (by decide) (fun hc => ?_) (fun hc => ?_)
    · have hF := if_t hc hF
      refine lv_aload_n hx hb dX2_set_40 rfl (lv_at hl 0 rfl) ?_
      refine g_0_0 E hP dX2_set_41 ?_
      refine lv_aload_n hx hb dX2_set_44 rfl (lv_at hl 0 rfl) ?_
      refine g_0_2 E hP dX2_set_45 ?_
      refine lv_iload_n hx hb dX2_set_48 rfl (lv_at hl 1 rfl) ?_
      obtain ⟨hi15, hF⟩ := gd_some hF
      refine la_3 E hP hi15 dX2_set_49 ?_
      refine lv_iload_n hx hb dX2_set_50 rfl (lv_at hl 2 rfl) ?_
      refine lv_iload_n hx hb dX2_set_51 rfl (lv_at hl 3 rfl) ?_
      obtain ⟨r16, u17, hc18, hF⟩ := bd_some hF
      refine call_i (rest := []) E hA hP hD hS hl.1 (kX1_swapData l D h cI cJ cZ n (u13.1 3 x1.toNatClampNeg) x2 x3 u13 r16 u17 hc18) cw_X2_86 1 rfl rfl rfl rfl rfl (Nat.le_of_ble_eq_true rfl) ⟨Nat.le_of_ble_eq_true rfl, Nat.le_of_ble_eq_true rfl⟩ ⟨Nat.zero_le _, Nat.zero_le _⟩ dX2_set_52 (fun H locs hP hD hS => ?_)
      exact endI E hr hlocks hP hD hS dX2_set_55 (tz hF)
    · have hF := if_f hc hF
      exact absurd hF (tm (by decide))
set_option maxHeartbeats 4000000 in
set_option maxRecDepth 100000 in
theorem xX2_set (l : Launch) (hst : l.stackTraces = false) (D : va_G) (h : Nat → Nat) (cI cJ cZ : ClassId) (n : Nat) (x1 x2 x3 : Int32) (st : St) (t : Nat) (r : Int32) (u : St) (ht : t ≠ 0) (hF : FX2_set n x1 x2 x3 st = some (t, r, u)) : Cx l yX2_set cX2_set 4 (some .int) 7 111 D (tyL cI cJ cZ) (wX h cI cJ cZ) st [.ref (h 0), .int x1, .int x2, .int x3] t u := by
  refine body_x (by decide +kernel) (Nat.le_of_ble_eq_true rfl) ?_
  intro p e s m below meth c A ls E hr hlocks hA hno hG hX hP hD hS hl
  have E : Env1 p s m _ c cX2_set 4 RX2 D (tyL cI cJ cZ) := E
  have hl : lv_has ls 4 [(0, .ref (h 0)), (1, .int x1), (2, .int x2), (3, .int x3)] := hl
  have hx := E.1.1
  have hb := E.1.2.1
  have hml := E.1.2.2.1
  unfold FX2_set at hF
  refine lv_iload_n hx hb dX2_set_0 rfl (lv_at hl 1 rfl) ?_
  obtain ⟨t4, r1, u2, hc3, hF⟩ := bth_some hF
  by_cases ht5 : t4 = 0
  rotate_left
  · have hF := if_f ht5 hF
    exact callx_s (rest := []) E hA hno hG hX hlocks hP hD hS hl.1 (xX2_needRoot l hst D h cI cJ cZ n x1 st t4 r1 u2 ht5 hc3) cw_X2_45 rfl rfl (Nat.le_of_ble_eq_true rfl) ⟨Nat.le_of_ble_eq_true rfl, Nat.le_of_ble_eq_true rfl⟩ ⟨Nat.le_refl _, Nat.le_refl _⟩ dX2_set_1 hF
  subst ht5
  have hF := if_t rfl hF
  refine calls_v (rest := []) E hA hP hD hS hl.1 (kX2_needRoot l D h cI cJ cZ n x1 st r1 u2 hc3) cw_X2_45 rfl rfl (Nat.le_of_ble_eq_true rfl) ⟨Nat.le_of_ble_eq_true rfl, Nat.le_of_ble_eq_true rfl⟩ ⟨Nat.zero_le _, Nat.zero_le _⟩ dX2_set_1 (fun H locs hP hD hS => ?_)
  refine lv_aload_n hx hb dX2_set_4 rfl (lv_at hl 0 rfl) ?_
  refine lv_iload_n hx hb dX2_set_5 rfl (lv_at hl 1 rfl) ?_
  obtain ⟨t9, r6, u7, hc8, hF⟩ := bth_some hF
  by_cases ht10 : t9 = 0
  rotate_left
  · have hF := if_f ht10 hF
    exact callx_v (rest := []) E hA hno hG hX hlocks hP hD hS hl.1 (xX2_needObject l hst D h cI cJ cZ n x1 u2 t9 r6 u7 ht10 hc8) cw_X2_65 0 rfl rfl rfl rfl rfl (Nat.le_of_ble_eq_true rfl) ⟨Nat.le_of_ble_eq_true rfl, Nat.le_of_ble_eq_true rfl⟩ ⟨Nat.le_refl _, Nat.le_refl _⟩ dX2_set_6 hF
  subst ht10
  have hF := if_t rfl hF
  refine call_v (rest := []) E hA hP hD hS hl.1 (kX2_needObject l D h cI cJ cZ n x1 u2 r6 u7 hc8) cw_X2_65 0 rfl rfl rfl rfl rfl (Nat.le_of_ble_eq_true rfl) ⟨Nat.le_of_ble_eq_true rfl, Nat.le_of_ble_eq_true rfl⟩ ⟨Nat.zero_le _, Nat.zero_le _⟩ dX2_set_6 (fun H locs hP hD hS => ?_)
  refine lv_iload_n hx hb dX2_set_9 rfl (lv_at hl 2 rfl) ?_
  refine lv_if_lt (tgt := 30) hx hb dX2_set_10 (by decide) (fun hc => ?_) (fun hc => ?_)
  · have hF := if_t hc hF
    exact thr_83 E hst hA hno hG hX hlocks hP hD hS hl.1 (Nat.le_of_ble_eq_true rfl) (Nat.le_of_ble_eq_true rfl) ⟨Nat.le_refl _, Nat.le_refl _⟩ dX2_set_30 dX2_set_33 dX2_set_34 dX2_set_36 dX2_set_39 hF
  · have hF := if_f hc hF
    refine lv_iload_n hx hb dX2_set_13 rfl (lv_at hl 2 rfl) ?_
    refine lv_aload_n hx hb dX2_set_14 rfl (lv_at hl 0 rfl) ?_
    refine g_0_0 E hP dX2_set_15 ?_
    refine lv_aload_n hx hb dX2_set_18 rfl (lv_at hl 0 rfl) ?_
    refine g_0_2 E hP dX2_set_19 ?_
    refine lv_iload_n hx hb dX2_set_22 rfl (lv_at hl 1 rfl) ?_
    obtain ⟨hi11, hF⟩ := gd_some hF
    refine la_3 E hP hi11 dX2_set_23 ?_
    obtain ⟨r12, u13, hc14, hF⟩ := bd_some hF
    refine call_i (rest := [.int x2]) E hA hP hD hS hl.1 (kX1_dataOf l D h cI cJ cZ n (u7.1 3 x1.toNatClampNeg) u7 r12 u13 hc14) cw_X2_78 1 rfl rfl rfl rfl rfl (Nat.le_of_ble_eq_true rfl) ⟨Nat.le_of_ble_eq_true rfl, Nat.le_of_ble_eq_true rfl⟩ ⟨Nat.zero_le _, Nat.zero_le _⟩ dX2_set_24 (fun H locs hP hD hS => ?_)
    refine lv_icmp_lt (tgt := 40) hx hb dX2_set_27 (by decide) (fun hc => ?_) (fun hc => ?_)
    · have hF := if_t hc hF
      refine lv_aload_n hx hb dX2_set_40 rfl (lv_at hl 0 rfl) ?_
      refine g_0_0 E hP dX2_set_41 ?_
      refine lv_aload_n hx hb dX2_set_44 rfl (lv_at hl 0 rfl) ?_
      refine g_0_2 E hP dX2_set_45 ?_
      refine lv_iload_n hx hb dX2_set_48 rfl (lv_at hl 1 rfl) ?_
      obtain ⟨hi15, hF⟩ := gd_some hF
      refine la_3 E hP hi15 dX2_set_49 ?_
      refine lv_iload_n hx hb dX2_set_50 rfl (lv_at hl 2 rfl) ?_
      refine lv_iload_n hx hb dX2_set_51 rfl (lv_at hl 3 rfl) ?_
      obtain ⟨r16, u17, hc18, hF⟩ := bd_some hF
      refine call_i (rest := []) E hA hP hD hS hl.1 (kX1_swapData l D h cI cJ cZ n (u13.1 3 x1.toNatClampNeg) x2 x3 u13 r16 u17 hc18) cw_X2_86 1 rfl rfl rfl rfl rfl (Nat.le_of_ble_eq_true rfl) ⟨Nat.le_of_ble_eq_true rfl, Nat.le_of_ble_eq_true rfl⟩ ⟨Nat.zero_le _, Nat.zero_le _⟩ dX2_set_52 (fun H locs hP hD hS => ?_)
      exact absurd hF (tn ht)
    · have hF := if_f hc hF
      exact thr_83 E hst hA hno hG hX hlocks hP hD hS hl.1 (Nat.le_of_ble_eq_true rfl) (Nat.le_of_ble_eq_true rfl) ⟨Nat.le_refl _, Nat.le_refl _⟩ dX2_set_30 dX2_set_33 dX2_set_34 dX2_set_36 dX2_set_39 hF
-- LooseHeap.loose
def FX2_loose (n : Nat) (x1 x2 : Int32) (st : St) : Option (Nat × Int32 × St) := bth (FX2_needRoot n x1 st) (fun r1 u2 => gd x1 32 (gd x1 32 (some (0, (u2.1 4 x1.toNatClampNeg), (pt u2 4 x1.toNatClampNeg x2)))))
set_option maxHeartbeats 4000000 in
set_option maxRecDepth 100000 in
theorem kX2_loose (l : Launch) (D : va_G) (h : Nat → Nat) (cI cJ cZ : ClassId) (n : Nat) (x1 x2 : Int32) (st : St) (r : Int32) (u : St) (hF : FX2_loose n x1 x2 st = some (0, r, u)) : Ci l yX2_loose cX2_loose 4 (some .int) 7 110 D (tyL cI cJ cZ) (wX h cI cJ cZ) st [.ref (h 0), .int x1, .int x2] r u := by
  refine body_i (by decide +kernel) (Nat.le_of_ble_eq_true rfl) ?_
  intro p e s m below meth c A ls E hr hlocks hA hP hD hS hl
  have E : Env1 p s m _ c cX2_loose 4 RX2 D (tyL cI cJ cZ) := E
  have hl : lv_has ls 4 [(0, .ref (h 0)), (1, .int x1), (2, .int x2)] := hl
  have hx := E.1.1
  have hb := E.1.2.1
  have hml := E.1.2.2.1
  unfold FX2_loose at hF
  refine lv_iload_n hx hb dX2_loose_0 rfl (lv_at hl 1 rfl) ?_
  obtain ⟨t4, r1, u2, hc3, hF⟩ := bth_some hF
  by_cases ht5 : t4 = 0
  rotate_left
  · have hF := if_f ht5 hF
    exact absurd hF (tm ht5)
  subst ht5
  have hF := if_t rfl hF
  refine calls_v (rest := []) E hA hP hD hS hl.1 (kX2_needRoot l D h cI cJ cZ n x1 st r1 u2 hc3) cw_X2_45 rfl rfl (Nat.le_of_ble_eq_true rfl) ⟨Nat.le_of_ble_eq_true rfl, Nat.le_of_ble_eq_true rfl⟩ ⟨Nat.zero_le _, Nat.zero_le _⟩ dX2_loose_1 (fun H locs hP hD hS => ?_)
  refine lv_aload_n hx hb dX2_loose_4 rfl (lv_at hl 0 rfl) ?_
  refine g_0_3 E hP dX2_loose_5 ?_
  refine lv_iload_n hx hb dX2_loose_8 rfl (lv_at hl 1 rfl) ?_
  obtain ⟨hi6, hF⟩ := gd_some hF
  refine la_4 E hP hi6 dX2_loose_9 ?_
  refine lv_istore_n (lv' := [(3, .int (u2.1 4 x1.toNatClampNeg)), (0, .ref (h 0)), (1, .int x1), (2, .int x2)]) hx hb dX2_loose_10 rfl hl (by decide) rfl (fun ls hl => ?_)
  refine lv_aload_n hx hb dX2_loose_11 rfl (lv_at hl 1 rfl) ?_
  refine g_0_3 E hP dX2_loose_12 ?_
  refine lv_iload_n hx hb dX2_loose_15 rfl (lv_at hl 2 rfl) ?_
  refine lv_iload_n hx hb dX2_loose_16 rfl (lv_at hl 3 rfl) ?_
  obtain ⟨hi7, hF⟩ := gd_some hF
  refine sa_4 E hP hD hS hi7 dX2_loose_17 (fun H locs hP hD hS => ?_)
  refine lv_iload_n hx hb dX2_loose_18 rfl (lv_at hl 0 rfl) ?_
  exact endI E hr hlocks hP hD hS dX2_loose_19 (tz hF)
set_option maxHeartbeats 4000000 in
set_option maxRecDepth 100000 in
theorem xX2_loose (l : Launch) (hst : l.stackTraces = false) (D : va_G) (h : Nat → Nat) (cI cJ cZ : ClassId) (n : Nat) (x1 x2 : Int32) (st : St) (t : Nat) (r : Int32) (u : St) (ht : t ≠ 0) (hF : FX2_loose n x1 x2 st = some (t, r, u)) : Cx l yX2_loose cX2_loose 4 (some .int) 7 110 D (tyL cI cJ cZ) (wX h cI cJ cZ) st [.ref (h 0), .int x1, .int x2] t u := by
  refine body_x (by decide +kernel) (Nat.le_of_ble_eq_true rfl) ?_
  intro p e s m below meth c A ls E hr hlocks hA hno hG hX hP hD hS hl
  have E : Env1 p s m _ c cX2_loose 4 RX2 D (tyL cI cJ cZ) := E
  have hl : lv_has ls 4 [(0, .ref (h 0)), (1, .int x1), (2, .int x2)] := hl
  have hx := E.1.1
  have hb := E.1.2.1
  have hml := E.1.2.2.1
  unfold FX2_loose at hF
  refine lv_iload_n hx hb dX2_loose_0 rfl (lv_at hl 1 rfl) ?_
  obtain ⟨t4, r1, u2, hc3, hF⟩ := bth_some hF
  by_cases ht5 : t4 = 0
  rotate_left
  · have hF := if_f ht5 hF
    exact callx_s (rest := []) E hA hno hG hX hlocks hP hD hS hl.1 (xX2_needRoot l hst D h cI cJ cZ n x1 st t4 r1 u2 ht5 hc3) cw_X2_45 rfl rfl (Nat.le_of_ble_eq_true rfl) ⟨Nat.le_of_ble_eq_true rfl, Nat.le_of_ble_eq_true rfl⟩ ⟨Nat.le_refl _, Nat.le_refl _⟩ dX2_loose_1 hF
  subst ht5
  have hF := if_t rfl hF
  refine calls_v (rest := []) E hA hP hD hS hl.1 (kX2_needRoot l D h cI cJ cZ n x1 st r1 u2 hc3) cw_X2_45 rfl rfl (Nat.le_of_ble_eq_true rfl) ⟨Nat.le_of_ble_eq_true rfl, Nat.le_of_ble_eq_true rfl⟩ ⟨Nat.zero_le _, Nat.zero_le _⟩ dX2_loose_1 (fun H locs hP hD hS => ?_)
  refine lv_aload_n hx hb dX2_loose_4 rfl (lv_at hl 0 rfl) ?_
  refine g_0_3 E hP dX2_loose_5 ?_
  refine lv_iload_n hx hb dX2_loose_8 rfl (lv_at hl 1 rfl) ?_
  obtain ⟨hi6, hF⟩ := gd_some hF
  refine la_4 E hP hi6 dX2_loose_9 ?_
  refine lv_istore_n (lv' := [(3, .int (u2.1 4 x1.toNatClampNeg)), (0, .ref (h 0)), (1, .int x1), (2, .int x2)]) hx hb dX2_loose_10 rfl hl (by decide) rfl (fun ls hl => ?_)
  refine lv_aload_n hx hb dX2_loose_11 rfl (lv_at hl 1 rfl) ?_
  refine g_0_3 E hP dX2_loose_12 ?_
  refine lv_iload_n hx hb dX2_loose_15 rfl (lv_at hl 2 rfl) ?_
  refine lv_iload_n hx hb dX2_loose_16 rfl (lv_at hl 3 rfl) ?_
  obtain ⟨hi7, hF⟩ := gd_some hF
  refine sa_4 E hP hD hS hi7 dX2_loose_17 (fun H locs hP hD hS => ?_)
  refine lv_iload_n hx hb dX2_loose_18 rfl (lv_at hl 0 rfl) ?_
  exact absurd hF (tn ht)
-- LooseHeap.take
def FX2_take (n : Nat) (x1 x2 : Int32) (st : St) : Option (Nat × Int32 × St) := bth (FX2_needRoot n x2 st) (fun r1 u2 => bd (FX1_beginsAt n x1 u2) (fun r6 u7 => (if r6 = 0 then some (0, (0 : Int32), u7) else gd x2 32 (some (0, (1 : Int32), (pt u7 3 x2.toNatClampNeg x1))))))
set_option maxHeartbeats 4000000 in
set_option maxRecDepth 100000 in
theorem kX2_take (l : Launch) (D : va_G) (h : Nat → Nat) (cI cJ cZ : ClassId) (n : Nat) (x1 x2 : Int32) (st : St) (r : Int32) (u : St) (hF : FX2_take n x1 x2 st = some (0, r, u)) : Ci l yX2_take cX2_take 3 (some .boolean) 7 110 D (tyL cI cJ cZ) (wX h cI cJ cZ) st [.ref (h 0), .int x1, .int x2] r u := by
  refine body_i (by decide +kernel) (Nat.le_of_ble_eq_true rfl) ?_
  intro p e s m below meth c A ls E hr hlocks hA hP hD hS hl
  have E : Env1 p s m _ c cX2_take 3 RX2 D (tyL cI cJ cZ) := E
  have hl : lv_has ls 3 [(0, .ref (h 0)), (1, .int x1), (2, .int x2)] := hl
  have hx := E.1.1
  have hb := E.1.2.1
  have hml := E.1.2.2.1
  unfold FX2_take at hF
  refine lv_iload_n hx hb dX2_take_0 rfl (lv_at hl 2 rfl) ?_
  obtain ⟨t4, r1, u2, hc3, hF⟩ := bth_some hF
  by_cases ht5 : t4 = 0
  rotate_left
  · have hF := if_f ht5 hF
    exact absurd hF (tm ht5)
  subst ht5
  have hF := if_t rfl hF
  refine calls_v (rest := []) E hA hP hD hS hl.1 (kX2_needRoot l D h cI cJ cZ n x2 st r1 u2 hc3) cw_X2_45 rfl rfl (Nat.le_of_ble_eq_true rfl) ⟨Nat.le_of_ble_eq_true rfl, Nat.le_of_ble_eq_true rfl⟩ ⟨Nat.zero_le _, Nat.zero_le _⟩ dX2_take_1 (fun H locs hP hD hS => ?_)
  refine lv_aload_n hx hb dX2_take_4 rfl (lv_at hl 0 rfl) ?_
  refine g_0_0 E hP dX2_take_5 ?_
  refine lv_iload_n hx hb dX2_take_8 rfl (lv_at hl 1 rfl) ?_
  obtain ⟨r6, u7, hc8, hF⟩ := bd_some hF
  refine call_i (rest := []) E hA hP hD hS hl.1 (kX1_beginsAt l D h cI cJ cZ n x1 u2 r6 u7 hc8) cw_X2_90 1 rfl rfl rfl rfl rfl (Nat.le_of_ble_eq_true rfl) ⟨Nat.le_of_ble_eq_true rfl, Nat.le_of_ble_eq_true rfl⟩ ⟨Nat.zero_le _, Nat.zero_le _⟩ dX2_take_9 (fun H locs hP hD hS => ?_)
  refine lv_if_ne (tgt := 17) hx hb dX2_take_12 (by decide) (fun hc => ?_) (fun hc => ?_)
  · have hF := if_f hc hF
    refine lv_aload_n hx hb dX2_take_17 rfl (lv_at hl 0 rfl) ?_
    refine g_0_2 E hP dX2_take_18 ?_
    refine lv_iload_n hx hb dX2_take_21 rfl (lv_at hl 2 rfl) ?_
    refine lv_iload_n hx hb dX2_take_22 rfl (lv_at hl 1 rfl) ?_
    obtain ⟨hi9, hF⟩ := gd_some hF
    refine sa_3 E hP hD hS hi9 dX2_take_23 (fun H locs hP hD hS => ?_)
    refine lv_iconst (v := 1) hx hb dX2_take_24 (by decide) ?_
    exact endZ0 E hr hlocks hP hD hS dX2_take_25 rfl (tz hF)
  · have hF := if_t hc hF
    refine lv_iconst (v := 0) hx hb dX2_take_15 (by decide) ?_
    exact endZ0 E hr hlocks hP hD hS dX2_take_16 rfl (tz hF)
set_option maxHeartbeats 4000000 in
set_option maxRecDepth 100000 in
theorem xX2_take (l : Launch) (hst : l.stackTraces = false) (D : va_G) (h : Nat → Nat) (cI cJ cZ : ClassId) (n : Nat) (x1 x2 : Int32) (st : St) (t : Nat) (r : Int32) (u : St) (ht : t ≠ 0) (hF : FX2_take n x1 x2 st = some (t, r, u)) : Cx l yX2_take cX2_take 3 (some .boolean) 7 110 D (tyL cI cJ cZ) (wX h cI cJ cZ) st [.ref (h 0), .int x1, .int x2] t u := by
  refine body_x (by decide +kernel) (Nat.le_of_ble_eq_true rfl) ?_
  intro p e s m below meth c A ls E hr hlocks hA hno hG hX hP hD hS hl
  have E : Env1 p s m _ c cX2_take 3 RX2 D (tyL cI cJ cZ) := E
  have hl : lv_has ls 3 [(0, .ref (h 0)), (1, .int x1), (2, .int x2)] := hl
  have hx := E.1.1
  have hb := E.1.2.1
  have hml := E.1.2.2.1
  unfold FX2_take at hF
  refine lv_iload_n hx hb dX2_take_0 rfl (lv_at hl 2 rfl) ?_
  obtain ⟨t4, r1, u2, hc3, hF⟩ := bth_some hF
  by_cases ht5 : t4 = 0
  rotate_left
  · have hF := if_f ht5 hF
    exact callx_s (rest := []) E hA hno hG hX hlocks hP hD hS hl.1 (xX2_needRoot l hst D h cI cJ cZ n x2 st t4 r1 u2 ht5 hc3) cw_X2_45 rfl rfl (Nat.le_of_ble_eq_true rfl) ⟨Nat.le_of_ble_eq_true rfl, Nat.le_of_ble_eq_true rfl⟩ ⟨Nat.le_refl _, Nat.le_refl _⟩ dX2_take_1 hF
  subst ht5
  have hF := if_t rfl hF
  refine calls_v (rest := []) E hA hP hD hS hl.1 (kX2_needRoot l D h cI cJ cZ n x2 st r1 u2 hc3) cw_X2_45 rfl rfl (Nat.le_of_ble_eq_true rfl) ⟨Nat.le_of_ble_eq_true rfl, Nat.le_of_ble_eq_true rfl⟩ ⟨Nat.zero_le _, Nat.zero_le _⟩ dX2_take_1 (fun H locs hP hD hS => ?_)
  refine lv_aload_n hx hb dX2_take_4 rfl (lv_at hl 0 rfl) ?_
  refine g_0_0 E hP dX2_take_5 ?_
  refine lv_iload_n hx hb dX2_take_8 rfl (lv_at hl 1 rfl) ?_
  obtain ⟨r6, u7, hc8, hF⟩ := bd_some hF
  refine call_i (rest := []) E hA hP hD hS hl.1 (kX1_beginsAt l D h cI cJ cZ n x1 u2 r6 u7 hc8) cw_X2_90 1 rfl rfl rfl rfl rfl (Nat.le_of_ble_eq_true rfl) ⟨Nat.le_of_ble_eq_true rfl, Nat.le_of_ble_eq_true rfl⟩ ⟨Nat.zero_le _, Nat.zero_le _⟩ dX2_take_9 (fun H locs hP hD hS => ?_)
  refine lv_if_ne (tgt := 17) hx hb dX2_take_12 (by decide) (fun hc => ?_) (fun hc => ?_)
  · have hF := if_f hc hF
    refine lv_aload_n hx hb dX2_take_17 rfl (lv_at hl 0 rfl) ?_
    refine g_0_2 E hP dX2_take_18 ?_
    refine lv_iload_n hx hb dX2_take_21 rfl (lv_at hl 2 rfl) ?_
    refine lv_iload_n hx hb dX2_take_22 rfl (lv_at hl 1 rfl) ?_
    obtain ⟨hi9, hF⟩ := gd_some hF
    refine sa_3 E hP hD hS hi9 dX2_take_23 (fun H locs hP hD hS => ?_)
    refine lv_iconst (v := 1) hx hb dX2_take_24 (by decide) ?_
    exact absurd hF (tn ht)
  · have hF := if_t hc hF
    refine lv_iconst (v := 0) hx hb dX2_take_15 (by decide) ?_
    exact absurd hF (tn ht)
