-- LooseHeap$Space.pages
def FX1_pages (n : Nat) (st : St) : Option (Int32 × St) := some ((st.1 1 4), st)
set_option maxHeartbeats 4000000 in
set_option maxRecDepth 100000 in
theorem kX1_pages (l : Launch) (D : va_G) (h : Nat → Nat) (cI cJ cZ : ClassId) (n : Nat) (st : St) (r : Int32) (u : St) (hF : FX1_pages n  st = some (r, u)) : Ci l yX1_pages cX1_pages 1 (some .int) 0 0 D (tyL cI cJ cZ) (wX h cI cJ cZ) st [.ref (h 1)] r u := by
  refine body_i (by decide +kernel) (Nat.le_of_ble_eq_true rfl) ?_
  intro p e s m below meth c A ls E hr hlocks hA hP hD hS hl
  have E : Env1 p s m _ c cX1_pages 1 RX1 D (tyL cI cJ cZ) := E
  have hl : lv_has ls 1 [(0, .ref (h 1))] := hl
  have hx := E.1.1
  have hb := E.1.2.1
  have hml := E.1.2.2.1
  unfold FX1_pages at hF
  refine lv_aload_n hx hb dX1_pages_0 rfl (lv_at hl 0 rfl) ?_
  refine g_1_4 E hP dX1_pages_1 ?_
  exact endI E hr hlocks hP hD hS dX1_pages_4 hF
-- LooseHeap$Space.words
def FX1_words (n : Nat) (st : St) : Option (Int32 × St) := some ((st.1 1 5), st)
set_option maxHeartbeats 4000000 in
set_option maxRecDepth 100000 in
theorem kX1_words (l : Launch) (D : va_G) (h : Nat → Nat) (cI cJ cZ : ClassId) (n : Nat) (st : St) (r : Int32) (u : St) (hF : FX1_words n  st = some (r, u)) : Ci l yX1_words cX1_words 1 (some .int) 0 0 D (tyL cI cJ cZ) (wX h cI cJ cZ) st [.ref (h 1)] r u := by
  refine body_i (by decide +kernel) (Nat.le_of_ble_eq_true rfl) ?_
  intro p e s m below meth c A ls E hr hlocks hA hP hD hS hl
  have E : Env1 p s m _ c cX1_words 1 RX1 D (tyL cI cJ cZ) := E
  have hl : lv_has ls 1 [(0, .ref (h 1))] := hl
  have hx := E.1.1
  have hb := E.1.2.1
  have hml := E.1.2.2.1
  unfold FX1_words at hF
  refine lv_aload_n hx hb dX1_words_0 rfl (lv_at hl 0 rfl) ?_
  refine g_1_5 E hP dX1_words_1 ?_
  exact endI E hr hlocks hP hD hS dX1_words_4 hF
-- LooseHeap$Space.openPage
def FX1_openPage (n : Nat) (st : St) : Option (Int32 × St) := some ((st.1 1 6), st)
set_option maxHeartbeats 4000000 in
set_option maxRecDepth 100000 in
theorem kX1_openPage (l : Launch) (D : va_G) (h : Nat → Nat) (cI cJ cZ : ClassId) (n : Nat) (st : St) (r : Int32) (u : St) (hF : FX1_openPage n  st = some (r, u)) : Ci l yX1_openPage cX1_openPage 1 (some .int) 0 0 D (tyL cI cJ cZ) (wX h cI cJ cZ) st [.ref (h 1)] r u := by
  refine body_i (by decide +kernel) (Nat.le_of_ble_eq_true rfl) ?_
  intro p e s m below meth c A ls E hr hlocks hA hP hD hS hl
  have E : Env1 p s m _ c cX1_openPage 1 RX1 D (tyL cI cJ cZ) := E
  have hl : lv_has ls 1 [(0, .ref (h 1))] := hl
  have hx := E.1.1
  have hb := E.1.2.1
  have hml := E.1.2.2.1
  unfold FX1_openPage at hF
  refine lv_aload_n hx hb dX1_openPage_0 rfl (lv_at hl 0 rfl) ?_
  refine g_1_6 E hP dX1_openPage_1 ?_
  exact endI E hr hlocks hP hD hS dX1_openPage_4 hF
-- LooseHeap$Space.setOpenPage
def FX1_setOpenPage (n : Nat) (x1 : Int32) (st : St) : Option (Int32 × St) := some ((0 : Int32), (pt st 1 6 x1))
set_option maxHeartbeats 4000000 in
set_option maxRecDepth 100000 in
theorem kX1_setOpenPage (l : Launch) (D : va_G) (h : Nat → Nat) (cI cJ cZ : ClassId) (n : Nat) (x1 : Int32) (st : St) (r : Int32) (u : St) (hF : FX1_setOpenPage n x1 st = some (r, u)) : Cv l yX1_setOpenPage cX1_setOpenPage 2 0 0 D (tyL cI cJ cZ) (wX h cI cJ cZ) st [.ref (h 1), .int x1] u := by
  refine body_v (by decide +kernel) (Nat.le_of_ble_eq_true rfl) ?_
  intro p e s m below meth c A ls E hr hlocks hA hP hD hS hl
  have E : Env1 p s m _ c cX1_setOpenPage 2 RX1 D (tyL cI cJ cZ) := E
  have hl : lv_has ls 2 [(0, .ref (h 1)), (1, .int x1)] := hl
  have hx := E.1.1
  have hb := E.1.2.1
  have hml := E.1.2.2.1
  unfold FX1_setOpenPage at hF
  refine lv_aload_n hx hb dX1_setOpenPage_0 rfl (lv_at hl 0 rfl) ?_
  refine lv_iload_n hx hb dX1_setOpenPage_1 rfl (lv_at hl 1 rfl) ?_
  refine s_1_6 E hP hD hS dX1_setOpenPage_2 (fun H locs hP hD hS => ?_)
  exact endV E hr hlocks hP hD hS dX1_setOpenPage_5 hF
-- LooseHeap$Space.isPage
def FX1_isPage (n : Nat) (x1 : Int32) (st : St) : Option (Int32 × St) := be (some ((if x1 < 0 then (0 : Int32) else (if (st.1 1 4) ≤ x1 then (0 : Int32) else (1 : Int32))))) (fun v1 => gz v1 (some (v1, st)))
set_option maxHeartbeats 4000000 in
set_option maxRecDepth 100000 in
theorem kX1_isPage (l : Launch) (D : va_G) (h : Nat → Nat) (cI cJ cZ : ClassId) (n : Nat) (x1 : Int32) (st : St) (r : Int32) (u : St) (hF : FX1_isPage n x1 st = some (r, u)) : Ci l yX1_isPage cX1_isPage 2 (some .boolean) 0 0 D (tyL cI cJ cZ) (wX h cI cJ cZ) st [.ref (h 1), .int x1] r u := by
  refine body_i (by decide +kernel) (Nat.le_of_ble_eq_true rfl) ?_
  intro p e s m below meth c A ls E hr hlocks hA hP hD hS hl
  have E : Env1 p s m _ c cX1_isPage 2 RX1 D (tyL cI cJ cZ) := E
  have hl : lv_has ls 2 [(0, .ref (h 1)), (1, .int x1)] := hl
  have hx := E.1.1
  have hb := E.1.2.1
  have hml := E.1.2.2.1
  unfold FX1_isPage at hF
  refine lv_iload_n hx hb dX1_isPage_0 rfl (lv_at hl 1 rfl) ?_
  obtain ⟨v1, hv, hF⟩ := be_some hF
  have hv := Option.some.inj hv
  refine dia (jpc := 17) (v1 := v1) (rest := []) (ls := ls) ?_ (fun kont => ?_)
  · skip
    exact endZ E hr hlocks hP hD hS dX1_isPage_17 hF
  · skip
    refine lv_if_lt (tgt := 16) hx hb dX1_isPage_1 (by decide) (fun hc => ?_) (fun hc => ?_)
    · have hv := if_t hc hv
      refine lv_iconst (v := 0) hx hb dX1_isPage_16 (by decide) ?_
      exact topE hv kont
    · have hv := if_f hc hv
      refine lv_iload_n hx hb dX1_isPage_4 rfl (lv_at hl 1 rfl) ?_
      refine lv_aload_n hx hb dX1_isPage_5 rfl (lv_at hl 0 rfl) ?_
      refine g_1_4 E hP dX1_isPage_6 ?_
      refine lv_icmp_ge (tgt := 16) hx hb dX1_isPage_9 (by decide) (fun hc => ?_) (fun hc => ?_)
      · have hv := if_t hc hv
        refine lv_iconst (v := 0) hx hb dX1_isPage_16 (by decide) ?_
        exact topE hv kont
      · have hv := if_f hc hv
        refine lv_iconst (v := 1) hx hb dX1_isPage_12 (by decide) ?_
        refine lv_goto (tgt := 17) hx hb dX1_isPage_13 (by decide) ?_
        exact topE hv kont
-- LooseHeap$Space.isAddress
def FX1_isAddress (n : Nat) (x1 : Int32) (st : St) : Option (Int32 × St) := be (some ((if x1 < 0 then (0 : Int32) else (if ((st.1 1 4) * (st.1 1 5)) ≤ x1 then (0 : Int32) else (1 : Int32))))) (fun v1 => gz v1 (some (v1, st)))
set_option maxHeartbeats 4000000 in
set_option maxRecDepth 100000 in
theorem kX1_isAddress (l : Launch) (D : va_G) (h : Nat → Nat) (cI cJ cZ : ClassId) (n : Nat) (x1 : Int32) (st : St) (r : Int32) (u : St) (hF : FX1_isAddress n x1 st = some (r, u)) : Ci l yX1_isAddress cX1_isAddress 2 (some .boolean) 0 0 D (tyL cI cJ cZ) (wX h cI cJ cZ) st [.ref (h 1), .int x1] r u := by
  refine body_i (by decide +kernel) (Nat.le_of_ble_eq_true rfl) ?_
  intro p e s m below meth c A ls E hr hlocks hA hP hD hS hl
  have E : Env1 p s m _ c cX1_isAddress 2 RX1 D (tyL cI cJ cZ) := E
  have hl : lv_has ls 2 [(0, .ref (h 1)), (1, .int x1)] := hl
  have hx := E.1.1
  have hb := E.1.2.1
  have hml := E.1.2.2.1
  unfold FX1_isAddress at hF
  refine lv_iload_n hx hb dX1_isAddress_0 rfl (lv_at hl 1 rfl) ?_
  obtain ⟨v1, hv, hF⟩ := be_some hF
  have hv := Option.some.inj hv
  refine dia (jpc := 22) (v1 := v1) (rest := []) (ls := ls) ?_ (fun kont => ?_)
  · skip
    exact endZ E hr hlocks hP hD hS dX1_isAddress_22 hF
  · skip
    refine lv_if_lt (tgt := 21) hx hb dX1_isAddress_1 (by decide) (fun hc => ?_) (fun hc => ?_)
    · have hv := if_t hc hv
      refine lv_iconst (v := 0) hx hb dX1_isAddress_21 (by decide) ?_
      exact topE hv kont
    · have hv := if_f hc hv
      refine lv_iload_n hx hb dX1_isAddress_4 rfl (lv_at hl 1 rfl) ?_
      refine lv_aload_n hx hb dX1_isAddress_5 rfl (lv_at hl 0 rfl) ?_
      refine g_1_4 E hP dX1_isAddress_6 ?_
      refine lv_aload_n hx hb dX1_isAddress_9 rfl (lv_at hl 0 rfl) ?_
      refine g_1_5 E hP dX1_isAddress_10 ?_
      refine lv_imul hx hb dX1_isAddress_13 ?_
      refine lv_icmp_ge (tgt := 21) hx hb dX1_isAddress_14 (by decide) (fun hc => ?_) (fun hc => ?_)
      · have hv := if_t hc hv
        refine lv_iconst (v := 0) hx hb dX1_isAddress_21 (by decide) ?_
        exact topE hv kont
      · have hv := if_f hc hv
        refine lv_iconst (v := 1) hx hb dX1_isAddress_17 (by decide) ?_
        refine lv_goto (tgt := 22) hx hb dX1_isAddress_18 (by decide) ?_
        exact topE hv kont
theorem cw_X1_44 : cwd RX1 44 RX1 yX1_isAddress cX1_isAddress 2 (some .boolean) 1 := ⟨tb_V (tb_in 257 (by decide +kernel) (by decide +kernel)) (tb_in 210 (by decide +kernel) (by decide +kernel)) (tb_in 211 (by decide +kernel) (by decide +kernel)) (tb_in 47 (by decide +kernel) (by decide +kernel)) (tb_in 212 (by decide +kernel) (by decide +kernel)), by decide +kernel⟩
-- LooseHeap$Space.beginsAt
def FX1_beginsAt (n : Nat) (x1 : Int32) (st : St) : Option (Int32 × St) := bd (FX1_isAddress n x1 st) (fun r1 u2 => (if r1 = 0 then some ((0 : Int32), u2) else dz (u2.1 1 5) (gd (x1 / (u2.1 1 5)) 64 (dz (u2.1 1 5) (be (some ((if (lg_cmp (((u2.2 (x1 / (u2.1 1 5)).toNatClampNeg).toUInt64 >>> ((x1 - x1 / (u2.1 1 5) * (u2.1 1 5)).toInt64.toUInt64 &&& Int64.toUInt64 63)).toInt64 &&& (1 : Int64)) (0 : Int64)) = 0 then (0 : Int32) else (1 : Int32)))) (fun v7 => gz v7 (some (v7, u2))))))))
set_option maxHeartbeats 4000000 in
set_option maxRecDepth 100000 in
theorem kX1_beginsAt (l : Launch) (D : va_G) (h : Nat → Nat) (cI cJ cZ : ClassId) (n : Nat) (x1 : Int32) (st : St) (r : Int32) (u : St) (hF : FX1_beginsAt n x1 st = some (r, u)) : Ci l yX1_beginsAt cX1_beginsAt 2 (some .boolean) 1 21 D (tyL cI cJ cZ) (wX h cI cJ cZ) st [.ref (h 1), .int x1] r u := by
  refine body_i (by decide +kernel) (Nat.le_of_ble_eq_true rfl) ?_
  intro p e s m below meth c A ls E hr hlocks hA hP hD hS hl
  have E : Env1 p s m _ c cX1_beginsAt 2 RX1 D (tyL cI cJ cZ) := E
  have hl : lv_has ls 2 [(0, .ref (h 1)), (1, .int x1)] := hl
  have hx := E.1.1
  have hb := E.1.2.1
  have hml := E.1.2.2.1
  unfold FX1_beginsAt at hF
  refine lv_aload_n hx hb dX1_beginsAt_0 rfl (lv_at hl 0 rfl) ?_
  refine lv_iload_n hx hb dX1_beginsAt_1 rfl (lv_at hl 1 rfl) ?_
  obtain ⟨r1, u2, hc3, hF⟩ := bd_some hF
  refine call_i (rest := []) E hA hP hD hS hl.1 (kX1_isAddress l D h cI cJ cZ n x1 st r1 u2 hc3) cw_X1_44 1 rfl rfl rfl rfl rfl (Nat.le_of_ble_eq_true rfl) ⟨Nat.le_of_ble_eq_true rfl, Nat.le_of_ble_eq_true rfl⟩ ⟨Nat.zero_le _, Nat.zero_le _⟩ dX1_beginsAt_2 (fun H locs hP hD hS => ?_)
  refine lv_if_eq (tgt := 37) hx hb dX1_beginsAt_5 (by decide) (fun hc => ?_) (fun hc => ?_)
  · have hF := if_t hc hF
    refine lv_iconst (v := 0) hx hb dX1_beginsAt_37 (by decide) ?_
    exact endZ0 E hr hlocks hP hD hS dX1_beginsAt_38 rfl hF
  · have hF := if_f hc hF
    refine lv_aload_n hx hb dX1_beginsAt_8 rfl (lv_at hl 0 rfl) ?_
    refine g_1_3 E hP dX1_beginsAt_9 ?_
    refine lv_iload_n hx hb dX1_beginsAt_12 rfl (lv_at hl 1 rfl) ?_
    refine lv_aload_n hx hb dX1_beginsAt_13 rfl (lv_at hl 0 rfl) ?_
    refine g_1_5 E hP dX1_beginsAt_14 ?_
    obtain ⟨hz4, hF⟩ := dz_some hF
    refine lv_idiv hx hb dX1_beginsAt_17 hz4 ?_
    obtain ⟨hi5, hF⟩ := gd_some hF
    refine la_8 E hP hi5 dX1_beginsAt_18 ?_
    refine lv_iload_n hx hb dX1_beginsAt_19 rfl (lv_at hl 1 rfl) ?_
    refine lv_aload_n hx hb dX1_beginsAt_20 rfl (lv_at hl 0 rfl) ?_
    refine g_1_5 E hP dX1_beginsAt_21 ?_
    obtain ⟨hz6, hF⟩ := dz_some hF
    refine lv_irem hx hb dX1_beginsAt_24 hz6 ?_
    refine lv_lushr hx hb dX1_beginsAt_25 rfl ?_
    refine lv_lconst (v := 1) hx hb dX1_beginsAt_26 rfl ?_
    refine lv_land hx hb dX1_beginsAt_27 ?_
    refine lv_lconst (v := 0) hx hb dX1_beginsAt_28 rfl ?_
    refine W.lcmp hx hb dX1_beginsAt_29 ?_
    obtain ⟨v7, hv, hF⟩ := be_some hF
    have hv := Option.some.inj hv
    refine dia (jpc := 38) (v1 := v7) (rest := []) (ls := ls) ?_ (fun kont => ?_)
    · skip
      exact endZ E hr hlocks hP hD hS dX1_beginsAt_38 hF
    · skip
      refine lv_if_eq (tgt := 37) hx hb dX1_beginsAt_30 (by decide) (fun hc => ?_) (fun hc => ?_)
      · have hv := if_t hc hv
        refine lv_iconst (v := 0) hx hb dX1_beginsAt_37 (by decide) ?_
        exact topE hv kont
      · have hv := if_f hc hv
        refine lv_iconst (v := 1) hx hb dX1_beginsAt_33 (by decide) ?_
        refine lv_goto (tgt := 38) hx hb dX1_beginsAt_34 (by decide) ?_
        exact topE hv kont
-- LooseHeap$Space.addressOf
def FX1_addressOf (n : Nat) (x1 x2 : Int32) (st : St) : Option (Int32 × St) := some (((x1 * (st.1 1 5)) + x2), st)
set_option maxHeartbeats 4000000 in
set_option maxRecDepth 100000 in
theorem kX1_addressOf (l : Launch) (D : va_G) (h : Nat → Nat) (cI cJ cZ : ClassId) (n : Nat) (x1 x2 : Int32) (st : St) (r : Int32) (u : St) (hF : FX1_addressOf n x1 x2 st = some (r, u)) : Ci l yX1_addressOf cX1_addressOf 3 (some .int) 0 0 D (tyL cI cJ cZ) (wX h cI cJ cZ) st [.ref (h 1), .int x1, .int x2] r u := by
  refine body_i (by decide +kernel) (Nat.le_of_ble_eq_true rfl) ?_
  intro p e s m below meth c A ls E hr hlocks hA hP hD hS hl
  have E : Env1 p s m _ c cX1_addressOf 3 RX1 D (tyL cI cJ cZ) := E
  have hl : lv_has ls 3 [(0, .ref (h 1)), (1, .int x1), (2, .int x2)] := hl
  have hx := E.1.1
  have hb := E.1.2.1
  have hml := E.1.2.2.1
  unfold FX1_addressOf at hF
  refine lv_iload_n hx hb dX1_addressOf_0 rfl (lv_at hl 1 rfl) ?_
  refine lv_aload_n hx hb dX1_addressOf_1 rfl (lv_at hl 0 rfl) ?_
  refine g_1_5 E hP dX1_addressOf_2 ?_
  refine lv_imul hx hb dX1_addressOf_5 ?_
  refine lv_iload_n hx hb dX1_addressOf_6 rfl (lv_at hl 2 rfl) ?_
  refine lv_iadd hx hb dX1_addressOf_7 ?_
  exact endI E hr hlocks hP hD hS dX1_addressOf_8 hF
-- LooseHeap$Space.pageOf
def FX1_pageOf (n : Nat) (x1 : Int32) (st : St) : Option (Int32 × St) := dz (st.1 1 5) (some ((x1 / (st.1 1 5)), st))
set_option maxHeartbeats 4000000 in
set_option maxRecDepth 100000 in
theorem kX1_pageOf (l : Launch) (D : va_G) (h : Nat → Nat) (cI cJ cZ : ClassId) (n : Nat) (x1 : Int32) (st : St) (r : Int32) (u : St) (hF : FX1_pageOf n x1 st = some (r, u)) : Ci l yX1_pageOf cX1_pageOf 2 (some .int) 0 0 D (tyL cI cJ cZ) (wX h cI cJ cZ) st [.ref (h 1), .int x1] r u := by
  refine body_i (by decide +kernel) (Nat.le_of_ble_eq_true rfl) ?_
  intro p e s m below meth c A ls E hr hlocks hA hP hD hS hl
  have E : Env1 p s m _ c cX1_pageOf 2 RX1 D (tyL cI cJ cZ) := E
  have hl : lv_has ls 2 [(0, .ref (h 1)), (1, .int x1)] := hl
  have hx := E.1.1
  have hb := E.1.2.1
  have hml := E.1.2.2.1
  unfold FX1_pageOf at hF
  refine lv_iload_n hx hb dX1_pageOf_0 rfl (lv_at hl 1 rfl) ?_
  refine lv_aload_n hx hb dX1_pageOf_1 rfl (lv_at hl 0 rfl) ?_
  refine g_1_5 E hP dX1_pageOf_2 ?_
  obtain ⟨hz1, hF⟩ := dz_some hF
  refine lv_idiv hx hb dX1_pageOf_5 hz1 ?_
  exact endI E hr hlocks hP hD hS dX1_pageOf_6 hF
-- LooseHeap$Space.kindOf
def FX1_kindOf (n : Nat) (x1 : Int32) (st : St) : Option (Int32 × St) := gd x1 64 (some ((st.1 6 x1.toNatClampNeg), st))
set_option maxHeartbeats 4000000 in
set_option maxRecDepth 100000 in
theorem kX1_kindOf (l : Launch) (D : va_G) (h : Nat → Nat) (cI cJ cZ : ClassId) (n : Nat) (x1 : Int32) (st : St) (r : Int32) (u : St) (hF : FX1_kindOf n x1 st = some (r, u)) : Ci l yX1_kindOf cX1_kindOf 2 (some .int) 0 0 D (tyL cI cJ cZ) (wX h cI cJ cZ) st [.ref (h 1), .int x1] r u := by
  refine body_i (by decide +kernel) (Nat.le_of_ble_eq_true rfl) ?_
  intro p e s m below meth c A ls E hr hlocks hA hP hD hS hl
  have E : Env1 p s m _ c cX1_kindOf 2 RX1 D (tyL cI cJ cZ) := E
  have hl : lv_has ls 2 [(0, .ref (h 1)), (1, .int x1)] := hl
  have hx := E.1.1
  have hb := E.1.2.1
  have hml := E.1.2.2.1
  unfold FX1_kindOf at hF
  refine lv_aload_n hx hb dX1_kindOf_0 rfl (lv_at hl 0 rfl) ?_
  refine g_1_1 E hP dX1_kindOf_1 ?_
  refine lv_iload_n hx hb dX1_kindOf_4 rfl (lv_at hl 1 rfl) ?_
  obtain ⟨hi1, hF⟩ := gd_some hF
  refine la_6 E hP hi1 dX1_kindOf_5 ?_
  exact endI E hr hlocks hP hD hS dX1_kindOf_6 hF
-- LooseHeap$Space.isFree
def FX1_isFree (n : Nat) (x1 : Int32) (st : St) : Option (Int32 × St) := gd x1 64 (be (some ((if (st.1 6 x1.toNatClampNeg) = 0 then (1 : Int32) else (0 : Int32)))) (fun v2 => gz v2 (some (v2, st))))
set_option maxHeartbeats 4000000 in
set_option maxRecDepth 100000 in
theorem kX1_isFree (l : Launch) (D : va_G) (h : Nat → Nat) (cI cJ cZ : ClassId) (n : Nat) (x1 : Int32) (st : St) (r : Int32) (u : St) (hF : FX1_isFree n x1 st = some (r, u)) : Ci l yX1_isFree cX1_isFree 2 (some .boolean) 0 0 D (tyL cI cJ cZ) (wX h cI cJ cZ) st [.ref (h 1), .int x1] r u := by
  refine body_i (by decide +kernel) (Nat.le_of_ble_eq_true rfl) ?_
  intro p e s m below meth c A ls E hr hlocks hA hP hD hS hl
  have E : Env1 p s m _ c cX1_isFree 2 RX1 D (tyL cI cJ cZ) := E
  have hl : lv_has ls 2 [(0, .ref (h 1)), (1, .int x1)] := hl
  have hx := E.1.1
  have hb := E.1.2.1
  have hml := E.1.2.2.1
  unfold FX1_isFree at hF
  refine lv_aload_n hx hb dX1_isFree_0 rfl (lv_at hl 0 rfl) ?_
  refine g_1_1 E hP dX1_isFree_1 ?_
  refine lv_iload_n hx hb dX1_isFree_4 rfl (lv_at hl 1 rfl) ?_
  obtain ⟨hi1, hF⟩ := gd_some hF
  refine la_6 E hP hi1 dX1_isFree_5 ?_
  obtain ⟨v2, hv, hF⟩ := be_some hF
  have hv := Option.some.inj hv
  refine dia (jpc := 14) (v1 := v2) (rest := []) (ls := ls) ?_ (fun kont => ?_)
  · skip
    exact endZ E hr hlocks hP hD hS dX1_isFree_14 hF
  · skip
    refine lv_if_ne (tgt := 13) hx hb dX1_isFree_6 (by decide) (fun hc => ?_) (fun hc => ?_)
    · have hv := if_f hc hv
      refine lv_iconst (v := 0) hx hb dX1_isFree_13 (by decide) ?_
      exact topE hv kont
    · have hv := if_t hc hv
      refine lv_iconst (v := 1) hx hb dX1_isFree_9 (by decide) ?_
      refine lv_goto (tgt := 14) hx hb dX1_isFree_10 (by decide) ?_
      exact topE hv kont
-- LooseHeap$Space.filledOf
def FX1_filledOf (n : Nat) (x1 : Int32) (st : St) : Option (Int32 × St) := gd x1 64 (some ((st.1 7 x1.toNatClampNeg), st))
set_option maxHeartbeats 4000000 in
set_option maxRecDepth 100000 in
theorem kX1_filledOf (l : Launch) (D : va_G) (h : Nat → Nat) (cI cJ cZ : ClassId) (n : Nat) (x1 : Int32) (st : St) (r : Int32) (u : St) (hF : FX1_filledOf n x1 st = some (r, u)) : Ci l yX1_filledOf cX1_filledOf 2 (some .int) 0 0 D (tyL cI cJ cZ) (wX h cI cJ cZ) st [.ref (h 1), .int x1] r u := by
  refine body_i (by decide +kernel) (Nat.le_of_ble_eq_true rfl) ?_
  intro p e s m below meth c A ls E hr hlocks hA hP hD hS hl
  have E : Env1 p s m _ c cX1_filledOf 2 RX1 D (tyL cI cJ cZ) := E
  have hl : lv_has ls 2 [(0, .ref (h 1)), (1, .int x1)] := hl
  have hx := E.1.1
  have hb := E.1.2.1
  have hml := E.1.2.2.1
  unfold FX1_filledOf at hF
  refine lv_aload_n hx hb dX1_filledOf_0 rfl (lv_at hl 0 rfl) ?_
  refine g_1_2 E hP dX1_filledOf_1 ?_
  refine lv_iload_n hx hb dX1_filledOf_4 rfl (lv_at hl 1 rfl) ?_
  obtain ⟨hi1, hF⟩ := gd_some hF
  refine la_7 E hP hi1 dX1_filledOf_5 ?_
  exact endI E hr hlocks hP hD hS dX1_filledOf_6 hF
-- LooseHeap$Space.usedPages
def LX1_usedPages_4 : Nat → Int32 → Int32 → St → Option (Int32 × St)
  | 0 => fun _ _ _ => none
  | n + 1 => fun x1 x2 st => (if (st.1 1 4) ≤ x2 then some (x1, st) else gd x2 64 ((if (st.1 6 x2.toNatClampNeg) = 0 then LX1_usedPages_4 n x1 (x2 + (1 : Int32)) st else LX1_usedPages_4 n (x1 + (1 : Int32)) (x2 + (1 : Int32)) st)))
set_option maxHeartbeats 4000000 in
set_option maxRecDepth 100000 in
theorem lX1_usedPages_4 {l : Launch} {D : va_G} {h : Nat → Nat} {cI cJ cZ : ClassId} {p : Program} {e : Env} {s : State} {m : MethodId} {args : Array Value} {below : List Frame} {meth : Method} {c : Code} {A : Nat → Prop} {r : Int32} {u : St} (E : Env1 p s m args c cX1_usedPages 3 RX1 D (tyL cI cJ cZ)) (hr : meth.sig.returnType = some .int) (hlocks : meth.locks = false) (hA : ∀ q : Nat, s.heap.size ≤ q → A q) : ∀ (n : Nat) (x1 x2 : Int32) (st : St) (H : Heap) (locs : List Loc) (ls : Array Slot), va_P D vwCl (wX h cI cJ cZ st) H → va_D A (wX h cI cJ cZ st) → va_S A s.heap H locs → lv_has ls 3 [(0, .ref (h 1)), (1, .int x1), (2, .int x2)] → LX1_usedPages_4 n x1 x2 st = some (r, u) → W p l e (rm 0 0) s m args below meth c H locs 0 0 (MQ below (CQ D (tyL cI cJ cZ) (wX h cI cJ cZ) A r u) args s 0 0 A) (F0 m 4 ls []) := by
  have hx := E.1.1
  have hb := E.1.2.1
  have hml := E.1.2.2.1
  intro n
  induction n with
  | zero => intro x1 x2 st H locs ls hP hD hS hl hF; simp only [LX1_usedPages_4] at hF; cases hF
  | succ n ih =>
    intro x1 x2 st H locs ls hP hD hS hl hF
    simp only [LX1_usedPages_4] at hF
    refine lv_iload_n hx hb dX1_usedPages_4 rfl (lv_at hl 2 rfl) ?_
    refine lv_aload_n hx hb dX1_usedPages_5 rfl (lv_at hl 0 rfl) ?_
    refine g_1_4 E hP dX1_usedPages_6 ?_
    refine lv_icmp_ge (tgt := 30) hx hb dX1_usedPages_9 (by decide) (fun hc => ?_) (fun hc => ?_)
    · have hF := if_t hc hF
      refine lv_iload_n hx hb dX1_usedPages_30 rfl (lv_at hl 1 rfl) ?_
      exact endI E hr hlocks hP hD hS dX1_usedPages_31 hF
    · have hF := if_f hc hF
      refine lv_aload_n hx hb dX1_usedPages_12 rfl (lv_at hl 0 rfl) ?_
      refine g_1_1 E hP dX1_usedPages_13 ?_
      refine lv_iload_n hx hb dX1_usedPages_16 rfl (lv_at hl 2 rfl) ?_
      obtain ⟨hi1, hF⟩ := gd_some hF
      refine la_6 E hP hi1 dX1_usedPages_17 ?_
      refine lv_if_eq (tgt := 24) hx hb dX1_usedPages_18 (by decide) (fun hc => ?_) (fun hc => ?_)
      · have hF := if_t hc hF
        refine lv_iinc (v := (x2 + (1 : Int32))) (lv' := [(2, .int (x2 + (1 : Int32))), (0, .ref (h 1)), (1, .int x1)]) hx hb dX1_usedPages_24 hl (k := 2) rfl rfl (by decide) rfl (fun ls hl => ?_)
        refine lv_goto (tgt := 4) hx hb dX1_usedPages_27 (by decide) ?_
        exact ih _ _ _ _ _ _ hP hD hS (lv_sub hl [1, 2, 0] rfl) hF
      · have hF := if_f hc hF
        refine lv_iinc (v := (x1 + (1 : Int32))) (lv' := [(1, .int (x1 + (1 : Int32))), (0, .ref (h 1)), (2, .int x2)]) hx hb dX1_usedPages_21 hl (k := 1) rfl rfl (by decide) rfl (fun ls hl => ?_)
        refine lv_iinc (v := (x2 + (1 : Int32))) (lv' := [(2, .int (x2 + (1 : Int32))), (1, .int (x1 + (1 : Int32))), (0, .ref (h 1))]) hx hb dX1_usedPages_24 hl (k := 2) rfl rfl (by decide) rfl (fun ls hl => ?_)
        refine lv_goto (tgt := 4) hx hb dX1_usedPages_27 (by decide) ?_
        exact ih _ _ _ _ _ _ hP hD hS (lv_sub hl [2, 1, 0] rfl) hF
def FX1_usedPages (n : Nat) (st : St) : Option (Int32 × St) := LX1_usedPages_4 n (0 : Int32) (0 : Int32) st
set_option maxHeartbeats 4000000 in
set_option maxRecDepth 100000 in
theorem kX1_usedPages (l : Launch) (D : va_G) (h : Nat → Nat) (cI cJ cZ : ClassId) (n : Nat) (st : St) (r : Int32) (u : St) (hF : FX1_usedPages n  st = some (r, u)) : Ci l yX1_usedPages cX1_usedPages 3 (some .int) 0 0 D (tyL cI cJ cZ) (wX h cI cJ cZ) st [.ref (h 1)] r u := by
  refine body_i (by decide +kernel) (Nat.le_of_ble_eq_true rfl) ?_
  intro p e s m below meth c A ls E hr hlocks hA hP hD hS hl
  have E : Env1 p s m _ c cX1_usedPages 3 RX1 D (tyL cI cJ cZ) := E
  have hl : lv_has ls 3 [(0, .ref (h 1))] := hl
  have hx := E.1.1
  have hb := E.1.2.1
  have hml := E.1.2.2.1
  unfold FX1_usedPages at hF
  refine lv_iconst (v := 0) hx hb dX1_usedPages_0 (by decide) ?_
  refine lv_istore_n (lv' := [(1, .int (0 : Int32)), (0, .ref (h 1))]) hx hb dX1_usedPages_1 rfl hl (by decide) rfl (fun ls hl => ?_)
  refine lv_iconst (v := 0) hx hb dX1_usedPages_2 (by decide) ?_
  refine lv_istore_n (lv' := [(2, .int (0 : Int32)), (1, .int (0 : Int32)), (0, .ref (h 1))]) hx hb dX1_usedPages_3 rfl hl (by decide) rfl (fun ls hl => ?_)
  exact lX1_usedPages_4 E hr hlocks hA n (0 : Int32) (0 : Int32) st _ _ _ hP hD hS (lv_sub hl [2, 1, 0] rfl) hF
-- LooseHeap$Space.allFilled
def LX1_allFilled_4 : Nat → Int32 → Int32 → St → Option (Int32 × St)
  | 0 => fun _ _ _ => none
  | n + 1 => fun x1 x2 st => (if (st.1 1 4) ≤ x2 then some (x1, st) else gd x2 64 (LX1_allFilled_4 n (x1 + (st.1 7 x2.toNatClampNeg)) (x2 + (1 : Int32)) st))
set_option maxHeartbeats 4000000 in
set_option maxRecDepth 100000 in
theorem lX1_allFilled_4 {l : Launch} {D : va_G} {h : Nat → Nat} {cI cJ cZ : ClassId} {p : Program} {e : Env} {s : State} {m : MethodId} {args : Array Value} {below : List Frame} {meth : Method} {c : Code} {A : Nat → Prop} {r : Int32} {u : St} (E : Env1 p s m args c cX1_allFilled 3 RX1 D (tyL cI cJ cZ)) (hr : meth.sig.returnType = some .int) (hlocks : meth.locks = false) (hA : ∀ q : Nat, s.heap.size ≤ q → A q) : ∀ (n : Nat) (x1 x2 : Int32) (st : St) (H : Heap) (locs : List Loc) (ls : Array Slot), va_P D vwCl (wX h cI cJ cZ st) H → va_D A (wX h cI cJ cZ st) → va_S A s.heap H locs → lv_has ls 3 [(0, .ref (h 1)), (1, .int x1), (2, .int x2)] → LX1_allFilled_4 n x1 x2 st = some (r, u) → W p l e (rm 0 0) s m args below meth c H locs 0 0 (MQ below (CQ D (tyL cI cJ cZ) (wX h cI cJ cZ) A r u) args s 0 0 A) (F0 m 4 ls []) := by
  have hx := E.1.1
  have hb := E.1.2.1
  have hml := E.1.2.2.1
  intro n
  induction n with
  | zero => intro x1 x2 st H locs ls hP hD hS hl hF; simp only [LX1_allFilled_4] at hF; cases hF
  | succ n ih =>
    intro x1 x2 st H locs ls hP hD hS hl hF
    simp only [LX1_allFilled_4] at hF
    refine lv_iload_n hx hb dX1_allFilled_4 rfl (lv_at hl 2 rfl) ?_
    refine lv_aload_n hx hb dX1_allFilled_5 rfl (lv_at hl 0 rfl) ?_
    refine g_1_4 E hP dX1_allFilled_6 ?_
    refine lv_icmp_ge (tgt := 27) hx hb dX1_allFilled_9 (by decide) (fun hc => ?_) (fun hc => ?_)
    · have hF := if_t hc hF
      refine lv_iload_n hx hb dX1_allFilled_27 rfl (lv_at hl 1 rfl) ?_
      exact endI E hr hlocks hP hD hS dX1_allFilled_28 hF
    · have hF := if_f hc hF
      refine lv_iload_n hx hb dX1_allFilled_12 rfl (lv_at hl 1 rfl) ?_
      refine lv_aload_n hx hb dX1_allFilled_13 rfl (lv_at hl 0 rfl) ?_
      refine g_1_2 E hP dX1_allFilled_14 ?_
      refine lv_iload_n hx hb dX1_allFilled_17 rfl (lv_at hl 2 rfl) ?_
      obtain ⟨hi1, hF⟩ := gd_some hF
      refine la_7 E hP hi1 dX1_allFilled_18 ?_
      refine lv_iadd hx hb dX1_allFilled_19 ?_
      refine lv_istore_n (lv' := [(1, .int (x1 + (st.1 7 x2.toNatClampNeg))), (0, .ref (h 1)), (2, .int x2)]) hx hb dX1_allFilled_20 rfl hl (by decide) rfl (fun ls hl => ?_)
      refine lv_iinc (v := (x2 + (1 : Int32))) (lv' := [(2, .int (x2 + (1 : Int32))), (1, .int (x1 + (st.1 7 x2.toNatClampNeg))), (0, .ref (h 1))]) hx hb dX1_allFilled_21 hl (k := 2) rfl rfl (by decide) rfl (fun ls hl => ?_)
      refine lv_goto (tgt := 4) hx hb dX1_allFilled_24 (by decide) ?_
      exact ih _ _ _ _ _ _ hP hD hS (lv_sub hl [2, 1, 0] rfl) hF
def FX1_allFilled (n : Nat) (st : St) : Option (Int32 × St) := LX1_allFilled_4 n (0 : Int32) (0 : Int32) st
set_option maxHeartbeats 4000000 in
set_option maxRecDepth 100000 in
theorem kX1_allFilled (l : Launch) (D : va_G) (h : Nat → Nat) (cI cJ cZ : ClassId) (n : Nat) (st : St) (r : Int32) (u : St) (hF : FX1_allFilled n  st = some (r, u)) : Ci l yX1_allFilled cX1_allFilled 3 (some .int) 0 0 D (tyL cI cJ cZ) (wX h cI cJ cZ) st [.ref (h 1)] r u := by
  refine body_i (by decide +kernel) (Nat.le_of_ble_eq_true rfl) ?_
  intro p e s m below meth c A ls E hr hlocks hA hP hD hS hl
  have E : Env1 p s m _ c cX1_allFilled 3 RX1 D (tyL cI cJ cZ) := E
  have hl : lv_has ls 3 [(0, .ref (h 1))] := hl
  have hx := E.1.1
  have hb := E.1.2.1
  have hml := E.1.2.2.1
  unfold FX1_allFilled at hF
  refine lv_iconst (v := 0) hx hb dX1_allFilled_0 (by decide) ?_
  refine lv_istore_n (lv' := [(1, .int (0 : Int32)), (0, .ref (h 1))]) hx hb dX1_allFilled_1 rfl hl (by decide) rfl (fun ls hl => ?_)
  refine lv_iconst (v := 0) hx hb dX1_allFilled_2 (by decide) ?_
  refine lv_istore_n (lv' := [(2, .int (0 : Int32)), (1, .int (0 : Int32)), (0, .ref (h 1))]) hx hb dX1_allFilled_3 rfl hl (by decide) rfl (fun ls hl => ?_)
  exact lX1_allFilled_4 E hr hlocks hA n (0 : Int32) (0 : Int32) st _ _ _ hP hD hS (lv_sub hl [2, 1, 0] rfl) hF
-- LooseHeap$Space.wordAt
def FX1_wordAt (n : Nat) (x1 : Int32) (st : St) : Option (Int32 × St) := gd x1 4096 (some ((st.1 5 x1.toNatClampNeg), st))
set_option maxHeartbeats 4000000 in
set_option maxRecDepth 100000 in
theorem kX1_wordAt (l : Launch) (D : va_G) (h : Nat → Nat) (cI cJ cZ : ClassId) (n : Nat) (x1 : Int32) (st : St) (r : Int32) (u : St) (hF : FX1_wordAt n x1 st = some (r, u)) : Ci l yX1_wordAt cX1_wordAt 2 (some .int) 0 0 D (tyL cI cJ cZ) (wX h cI cJ cZ) st [.ref (h 1), .int x1] r u := by
  refine body_i (by decide +kernel) (Nat.le_of_ble_eq_true rfl) ?_
  intro p e s m below meth c A ls E hr hlocks hA hP hD hS hl
  have E : Env1 p s m _ c cX1_wordAt 2 RX1 D (tyL cI cJ cZ) := E
  have hl : lv_has ls 2 [(0, .ref (h 1)), (1, .int x1)] := hl
  have hx := E.1.1
  have hb := E.1.2.1
  have hml := E.1.2.2.1
  unfold FX1_wordAt at hF
  refine lv_aload_n hx hb dX1_wordAt_0 rfl (lv_at hl 0 rfl) ?_
  refine g_1_0 E hP dX1_wordAt_1 ?_
  refine lv_iload_n hx hb dX1_wordAt_4 rfl (lv_at hl 1 rfl) ?_
  obtain ⟨hi1, hF⟩ := gd_some hF
  refine la_5 E hP hi1 dX1_wordAt_5 ?_
  exact endI E hr hlocks hP hD hS dX1_wordAt_6 hF
-- LooseHeap$Space.refsOf
def FX1_refsOf (n : Nat) (x1 : Int32) (st : St) : Option (Int32 × St) := gd x1 4096 (dz (256 : Int32) (some (((st.1 5 x1.toNatClampNeg) / (256 : Int32)), st)))
set_option maxHeartbeats 4000000 in
set_option maxRecDepth 100000 in
theorem kX1_refsOf (l : Launch) (D : va_G) (h : Nat → Nat) (cI cJ cZ : ClassId) (n : Nat) (x1 : Int32) (st : St) (r : Int32) (u : St) (hF : FX1_refsOf n x1 st = some (r, u)) : Ci l yX1_refsOf cX1_refsOf 2 (some .int) 0 0 D (tyL cI cJ cZ) (wX h cI cJ cZ) st [.ref (h 1), .int x1] r u := by
  refine body_i (by decide +kernel) (Nat.le_of_ble_eq_true rfl) ?_
  intro p e s m below meth c A ls E hr hlocks hA hP hD hS hl
  have E : Env1 p s m _ c cX1_refsOf 2 RX1 D (tyL cI cJ cZ) := E
  have hl : lv_has ls 2 [(0, .ref (h 1)), (1, .int x1)] := hl
  have hx := E.1.1
  have hb := E.1.2.1
  have hml := E.1.2.2.1
  unfold FX1_refsOf at hF
  refine lv_aload_n hx hb dX1_refsOf_0 rfl (lv_at hl 0 rfl) ?_
  refine g_1_0 E hP dX1_refsOf_1 ?_
  refine lv_iload_n hx hb dX1_refsOf_4 rfl (lv_at hl 1 rfl) ?_
  obtain ⟨hi1, hF⟩ := gd_some hF
  refine la_5 E hP hi1 dX1_refsOf_5 ?_
  refine lv_sipush (v := 256) hx hb dX1_refsOf_6 (by decide) ?_
  obtain ⟨hz2, hF⟩ := dz_some hF
  refine lv_idiv hx hb dX1_refsOf_9 hz2 ?_
  exact endI E hr hlocks hP hD hS dX1_refsOf_10 hF
-- LooseHeap$Space.dataOf
def FX1_dataOf (n : Nat) (x1 : Int32) (st : St) : Option (Int32 × St) := gd x1 4096 (dz (256 : Int32) (some (((st.1 5 x1.toNatClampNeg) - (st.1 5 x1.toNatClampNeg) / (256 : Int32) * (256 : Int32)), st)))
set_option maxHeartbeats 4000000 in
set_option maxRecDepth 100000 in
theorem kX1_dataOf (l : Launch) (D : va_G) (h : Nat → Nat) (cI cJ cZ : ClassId) (n : Nat) (x1 : Int32) (st : St) (r : Int32) (u : St) (hF : FX1_dataOf n x1 st = some (r, u)) : Ci l yX1_dataOf cX1_dataOf 2 (some .int) 0 0 D (tyL cI cJ cZ) (wX h cI cJ cZ) st [.ref (h 1), .int x1] r u := by
  refine body_i (by decide +kernel) (Nat.le_of_ble_eq_true rfl) ?_
  intro p e s m below meth c A ls E hr hlocks hA hP hD hS hl
  have E : Env1 p s m _ c cX1_dataOf 2 RX1 D (tyL cI cJ cZ) := E
  have hl : lv_has ls 2 [(0, .ref (h 1)), (1, .int x1)] := hl
  have hx := E.1.1
  have hb := E.1.2.1
  have hml := E.1.2.2.1
  unfold FX1_dataOf at hF
  refine lv_aload_n hx hb dX1_dataOf_0 rfl (lv_at hl 0 rfl) ?_
  refine g_1_0 E hP dX1_dataOf_1 ?_
  refine lv_iload_n hx hb dX1_dataOf_4 rfl (lv_at hl 1 rfl) ?_
  obtain ⟨hi1, hF⟩ := gd_some hF
  refine la_5 E hP hi1 dX1_dataOf_5 ?_
  refine lv_sipush (v := 256) hx hb dX1_dataOf_6 (by decide) ?_
  obtain ⟨hz2, hF⟩ := dz_some hF
  refine lv_irem hx hb dX1_dataOf_9 hz2 ?_
  exact endI E hr hlocks hP hD hS dX1_dataOf_10 hF
theorem cw_X1_58 : cwd RX1 58 RX1 yX1_refsOf cX1_refsOf 2 (some .int) 1 := ⟨tb_V (tb_in 278 (by decide +kernel) (by decide +kernel)) (tb_in 279 (by decide +kernel) (by decide +kernel)) (tb_in 280 (by decide +kernel) (by decide +kernel)) (tb_in 47 (by decide +kernel) (by decide +kernel)) (tb_in 281 (by decide +kernel) (by decide +kernel)), by decide +kernel⟩
theorem cw_X1_61 : cwd RX1 61 RX1 yX1_dataOf cX1_dataOf 2 (some .int) 1 := ⟨tb_V (tb_in 282 (by decide +kernel) (by decide +kernel)) (tb_in 283 (by decide +kernel) (by decide +kernel)) (tb_in 284 (by decide +kernel) (by decide +kernel)) (tb_in 47 (by decide +kernel) (by decide +kernel)) (tb_in 285 (by decide +kernel) (by decide +kernel)), by decide +kernel⟩
-- LooseHeap$Space.sizeOf
def FX1_sizeOf (n : Nat) (x1 : Int32) (st : St) : Option (Int32 × St) := bd (FX1_refsOf n x1 st) (fun r1 u2 => bd (FX1_dataOf n x1 u2) (fun r4 u5 => some ((((1 : Int32) + r1) + r4), u5)))
set_option maxHeartbeats 4000000 in
set_option maxRecDepth 100000 in
theorem kX1_sizeOf (l : Launch) (D : va_G) (h : Nat → Nat) (cI cJ cZ : ClassId) (n : Nat) (x1 : Int32) (st : St) (r : Int32) (u : St) (hF : FX1_sizeOf n x1 st = some (r, u)) : Ci l yX1_sizeOf cX1_sizeOf 2 (some .int) 1 21 D (tyL cI cJ cZ) (wX h cI cJ cZ) st [.ref (h 1), .int x1] r u := by
  refine body_i (by decide +kernel) (Nat.le_of_ble_eq_true rfl) ?_
  intro p e s m below meth c A ls E hr hlocks hA hP hD hS hl
  have E : Env1 p s m _ c cX1_sizeOf 2 RX1 D (tyL cI cJ cZ) := E
  have hl : lv_has ls 2 [(0, .ref (h 1)), (1, .int x1)] := hl
  have hx := E.1.1
  have hb := E.1.2.1
  have hml := E.1.2.2.1
  unfold FX1_sizeOf at hF
  refine lv_iconst (v := 1) hx hb dX1_sizeOf_0 (by decide) ?_
  refine lv_aload_n hx hb dX1_sizeOf_1 rfl (lv_at hl 0 rfl) ?_
  refine lv_iload_n hx hb dX1_sizeOf_2 rfl (lv_at hl 1 rfl) ?_
  obtain ⟨r1, u2, hc3, hF⟩ := bd_some hF
  refine call_i (rest := [.int (1 : Int32)]) E hA hP hD hS hl.1 (kX1_refsOf l D h cI cJ cZ n x1 st r1 u2 hc3) cw_X1_58 1 rfl rfl rfl rfl rfl (Nat.le_of_ble_eq_true rfl) ⟨Nat.le_of_ble_eq_true rfl, Nat.le_of_ble_eq_true rfl⟩ ⟨Nat.zero_le _, Nat.zero_le _⟩ dX1_sizeOf_3 (fun H locs hP hD hS => ?_)
  refine lv_iadd hx hb dX1_sizeOf_6 ?_
  refine lv_aload_n hx hb dX1_sizeOf_7 rfl (lv_at hl 0 rfl) ?_
  refine lv_iload_n hx hb dX1_sizeOf_8 rfl (lv_at hl 1 rfl) ?_
  obtain ⟨r4, u5, hc6, hF⟩ := bd_some hF
  refine call_i (rest := [.int ((1 : Int32) + r1)]) E hA hP hD hS hl.1 (kX1_dataOf l D h cI cJ cZ n x1 u2 r4 u5 hc6) cw_X1_61 1 rfl rfl rfl rfl rfl (Nat.le_of_ble_eq_true rfl) ⟨Nat.le_of_ble_eq_true rfl, Nat.le_of_ble_eq_true rfl⟩ ⟨Nat.zero_le _, Nat.zero_le _⟩ dX1_sizeOf_9 (fun H locs hP hD hS => ?_)
  refine lv_iadd hx hb dX1_sizeOf_12 ?_
  exact endI E hr hlocks hP hD hS dX1_sizeOf_13 hF
theorem cw_X1_64 : cwd RX1 64 RX1 yX1_sizeOf cX1_sizeOf 2 (some .int) 1 := ⟨tb_V (tb_in 274 (by decide +kernel) (by decide +kernel)) (tb_in 275 (by decide +kernel) (by decide +kernel)) (tb_in 276 (by decide +kernel) (by decide +kernel)) (tb_in 47 (by decide +kernel) (by decide +kernel)) (tb_in 277 (by decide +kernel) (by decide +kernel)), by decide +kernel⟩
-- LooseHeap$Space.isLong
def FX1_isLong (n : Nat) (x1 : Int32) (st : St) : Option (Int32 × St) := bd (FX1_sizeOf n x1 st) (fun r1 u2 => be (some ((if r1 ≤ (u2.1 1 5) then (0 : Int32) else (1 : Int32)))) (fun v4 => gz v4 (some (v4, u2))))
set_option maxHeartbeats 4000000 in
set_option maxRecDepth 100000 in
theorem kX1_isLong (l : Launch) (D : va_G) (h : Nat → Nat) (cI cJ cZ : ClassId) (n : Nat) (x1 : Int32) (st : St) (r : Int32) (u : St) (hF : FX1_isLong n x1 st = some (r, u)) : Ci l yX1_isLong cX1_isLong 2 (some .boolean) 2 42 D (tyL cI cJ cZ) (wX h cI cJ cZ) st [.ref (h 1), .int x1] r u := by
  refine body_i (by decide +kernel) (Nat.le_of_ble_eq_true rfl) ?_
  intro p e s m below meth c A ls E hr hlocks hA hP hD hS hl
  have E : Env1 p s m _ c cX1_isLong 2 RX1 D (tyL cI cJ cZ) := E
  have hl : lv_has ls 2 [(0, .ref (h 1)), (1, .int x1)] := hl
  have hx := E.1.1
  have hb := E.1.2.1
  have hml := E.1.2.2.1
  unfold FX1_isLong at hF
  refine lv_aload_n hx hb dX1_isLong_0 rfl (lv_at hl 0 rfl) ?_
  refine lv_iload_n hx hb dX1_isLong_1 rfl (lv_at hl 1 rfl) ?_
  obtain ⟨r1, u2, hc3, hF⟩ := bd_some hF
  refine call_i (rest := []) E hA hP hD hS hl.1 (kX1_sizeOf l D h cI cJ cZ n x1 st r1 u2 hc3) cw_X1_64 1 rfl rfl rfl rfl rfl (Nat.le_of_ble_eq_true rfl) ⟨Nat.le_of_ble_eq_true rfl, Nat.le_of_ble_eq_true rfl⟩ ⟨Nat.zero_le _, Nat.zero_le _⟩ dX1_isLong_2 (fun H locs hP hD hS => ?_)
  refine lv_aload_n hx hb dX1_isLong_5 rfl (lv_at hl 0 rfl) ?_
  refine g_1_5 E hP dX1_isLong_6 ?_
  obtain ⟨v4, hv, hF⟩ := be_some hF
  have hv := Option.some.inj hv
  refine dia (jpc := 17) (v1 := v4) (rest := []) (ls := ls) ?_ (fun kont => ?_)
  · skip
    exact endZ E hr hlocks hP hD hS dX1_isLong_17 hF
  · skip
    refine lv_icmp_le (tgt := 16) hx hb dX1_isLong_9 (by decide) (fun hc => ?_) (fun hc => ?_)
    · have hv := if_t hc hv
      refine lv_iconst (v := 0) hx hb dX1_isLong_16 (by decide) ?_
      exact topE hv kont
    · have hv := if_f hc hv
      refine lv_iconst (v := 1) hx hb dX1_isLong_12 (by decide) ?_
      refine lv_goto (tgt := 17) hx hb dX1_isLong_13 (by decide) ?_
      exact topE hv kont
-- LooseHeap$Space.ref
def FX1_ref (n : Nat) (x1 x2 : Int32) (st : St) : Option (Int32 × St) := gd ((x1 + (1 : Int32)) + x2) 4096 (some ((st.1 5 ((x1 + (1 : Int32)) + x2).toNatClampNeg), st))
set_option maxHeartbeats 4000000 in
set_option maxRecDepth 100000 in
theorem kX1_ref (l : Launch) (D : va_G) (h : Nat → Nat) (cI cJ cZ : ClassId) (n : Nat) (x1 x2 : Int32) (st : St) (r : Int32) (u : St) (hF : FX1_ref n x1 x2 st = some (r, u)) : Ci l yX1_ref cX1_ref 3 (some .int) 0 0 D (tyL cI cJ cZ) (wX h cI cJ cZ) st [.ref (h 1), .int x1, .int x2] r u := by
  refine body_i (by decide +kernel) (Nat.le_of_ble_eq_true rfl) ?_
  intro p e s m below meth c A ls E hr hlocks hA hP hD hS hl
  have E : Env1 p s m _ c cX1_ref 3 RX1 D (tyL cI cJ cZ) := E
  have hl : lv_has ls 3 [(0, .ref (h 1)), (1, .int x1), (2, .int x2)] := hl
  have hx := E.1.1
  have hb := E.1.2.1
  have hml := E.1.2.2.1
  unfold FX1_ref at hF
  refine lv_aload_n hx hb dX1_ref_0 rfl (lv_at hl 0 rfl) ?_
  refine g_1_0 E hP dX1_ref_1 ?_
  refine lv_iload_n hx hb dX1_ref_4 rfl (lv_at hl 1 rfl) ?_
  refine lv_iconst (v := 1) hx hb dX1_ref_5 (by decide) ?_
  refine lv_iadd hx hb dX1_ref_6 ?_
  refine lv_iload_n hx hb dX1_ref_7 rfl (lv_at hl 2 rfl) ?_
  refine lv_iadd hx hb dX1_ref_8 ?_
  obtain ⟨hi1, hF⟩ := gd_some hF
  refine la_5 E hP hi1 dX1_ref_9 ?_
  exact endI E hr hlocks hP hD hS dX1_ref_10 hF
-- LooseHeap$Space.setRef
def FX1_setRef (n : Nat) (x1 x2 x3 : Int32) (st : St) : Option (Int32 × St) := gd ((x1 + (1 : Int32)) + x2) 4096 (some ((0 : Int32), (pt st 5 ((x1 + (1 : Int32)) + x2).toNatClampNeg x3)))
set_option maxHeartbeats 4000000 in
set_option maxRecDepth 100000 in
theorem kX1_setRef (l : Launch) (D : va_G) (h : Nat → Nat) (cI cJ cZ : ClassId) (n : Nat) (x1 x2 x3 : Int32) (st : St) (r : Int32) (u : St) (hF : FX1_setRef n x1 x2 x3 st = some (r, u)) : Cv l yX1_setRef cX1_setRef 4 0 0 D (tyL cI cJ cZ) (wX h cI cJ cZ) st [.ref (h 1), .int x1, .int x2, .int x3] u := by
  refine body_v (by decide +kernel) (Nat.le_of_ble_eq_true rfl) ?_
  intro p e s m below meth c A ls E hr hlocks hA hP hD hS hl
  have E : Env1 p s m _ c cX1_setRef 4 RX1 D (tyL cI cJ cZ) := E
  have hl : lv_has ls 4 [(0, .ref (h 1)), (1, .int x1), (2, .int x2), (3, .int x3)] := hl
  have hx := E.1.1
  have hb := E.1.2.1
  have hml := E.1.2.2.1
  unfold FX1_setRef at hF
  refine lv_aload_n hx hb dX1_setRef_0 rfl (lv_at hl 0 rfl) ?_
  refine g_1_0 E hP dX1_setRef_1 ?_
  refine lv_iload_n hx hb dX1_setRef_4 rfl (lv_at hl 1 rfl) ?_
  refine lv_iconst (v := 1) hx hb dX1_setRef_5 (by decide) ?_
  refine lv_iadd hx hb dX1_setRef_6 ?_
  refine lv_iload_n hx hb dX1_setRef_7 rfl (lv_at hl 2 rfl) ?_
  refine lv_iadd hx hb dX1_setRef_8 ?_
  refine lv_iload_n hx hb dX1_setRef_9 rfl (lv_at hl 3 rfl) ?_
  obtain ⟨hi1, hF⟩ := gd_some hF
  refine sa_5 E hP hD hS hi1 dX1_setRef_10 (fun H locs hP hD hS => ?_)
  exact endV E hr hlocks hP hD hS dX1_setRef_11 hF
-- LooseHeap$Space.swapData
def FX1_swapData (n : Nat) (x1 x2 x3 : Int32) (st : St) : Option (Int32 × St) := bd (FX1_refsOf n x1 st) (fun r1 u2 => gd (((x1 + (1 : Int32)) + r1) + x2) 4096 (gd (((x1 + (1 : Int32)) + r1) + x2) 4096 (some ((u2.1 5 (((x1 + (1 : Int32)) + r1) + x2).toNatClampNeg), (pt u2 5 (((x1 + (1 : Int32)) + r1) + x2).toNatClampNeg x3)))))
set_option maxHeartbeats 4000000 in
set_option maxRecDepth 100000 in
theorem kX1_swapData (l : Launch) (D : va_G) (h : Nat → Nat) (cI cJ cZ : ClassId) (n : Nat) (x1 x2 x3 : Int32) (st : St) (r : Int32) (u : St) (hF : FX1_swapData n x1 x2 x3 st = some (r, u)) : Ci l yX1_swapData cX1_swapData 6 (some .int) 1 21 D (tyL cI cJ cZ) (wX h cI cJ cZ) st [.ref (h 1), .int x1, .int x2, .int x3] r u := by
  refine body_i (by decide +kernel) (Nat.le_of_ble_eq_true rfl) ?_
  intro p e s m below meth c A ls E hr hlocks hA hP hD hS hl
  have E : Env1 p s m _ c cX1_swapData 6 RX1 D (tyL cI cJ cZ) := E
  have hl : lv_has ls 6 [(0, .ref (h 1)), (1, .int x1), (2, .int x2), (3, .int x3)] := hl
  have hx := E.1.1
  have hb := E.1.2.1
  have hml := E.1.2.2.1
  unfold FX1_swapData at hF
  refine lv_iload_n hx hb dX1_swapData_0 rfl (lv_at hl 1 rfl) ?_
  refine lv_iconst (v := 1) hx hb dX1_swapData_1 (by decide) ?_
  refine lv_iadd hx hb dX1_swapData_2 ?_
  refine lv_aload_n hx hb dX1_swapData_3 rfl (lv_at hl 0 rfl) ?_
  refine lv_iload_n hx hb dX1_swapData_4 rfl (lv_at hl 1 rfl) ?_
  obtain ⟨r1, u2, hc3, hF⟩ := bd_some hF
  refine call_i (rest := [.int (x1 + (1 : Int32))]) E hA hP hD hS hl.1 (kX1_refsOf l D h cI cJ cZ n x1 st r1 u2 hc3) cw_X1_58 1 rfl rfl rfl rfl rfl (Nat.le_of_ble_eq_true rfl) ⟨Nat.le_of_ble_eq_true rfl, Nat.le_of_ble_eq_true rfl⟩ ⟨Nat.zero_le _, Nat.zero_le _⟩ dX1_swapData_5 (fun H locs hP hD hS => ?_)
  refine lv_iadd hx hb dX1_swapData_8 ?_
  refine lv_iload_n hx hb dX1_swapData_9 rfl (lv_at hl 2 rfl) ?_
  refine lv_iadd hx hb dX1_swapData_10 ?_
  refine lv_istore (lv' := [(4, .int (((x1 + (1 : Int32)) + r1) + x2)), (0, .ref (h 1)), (1, .int x1), (2, .int x2), (3, .int x3)]) hx hb dX1_swapData_11 hl (by decide) rfl (fun ls hl => ?_)
  refine lv_aload_n hx hb dX1_swapData_13 rfl (lv_at hl 1 rfl) ?_
  refine g_1_0 E hP dX1_swapData_14 ?_
  refine lv_iload hx hb dX1_swapData_17 (lv_at hl 0 rfl) ?_
  obtain ⟨hi4, hF⟩ := gd_some hF
  refine la_5 E hP hi4 dX1_swapData_19 ?_
  refine lv_istore (lv' := [(5, .int (u2.1 5 (((x1 + (1 : Int32)) + r1) + x2).toNatClampNeg)), (4, .int (((x1 + (1 : Int32)) + r1) + x2)), (0, .ref (h 1)), (1, .int x1), (2, .int x2), (3, .int x3)]) hx hb dX1_swapData_20 hl (by decide) rfl (fun ls hl => ?_)
  refine lv_aload_n hx hb dX1_swapData_22 rfl (lv_at hl 2 rfl) ?_
  refine g_1_0 E hP dX1_swapData_23 ?_
  refine lv_iload hx hb dX1_swapData_26 (lv_at hl 1 rfl) ?_
  refine lv_iload_n hx hb dX1_swapData_28 rfl (lv_at hl 5 rfl) ?_
  obtain ⟨hi5, hF⟩ := gd_some hF
  refine sa_5 E hP hD hS hi5 dX1_swapData_29 (fun H locs hP hD hS => ?_)
  refine lv_iload hx hb dX1_swapData_30 (lv_at hl 0 rfl) ?_
  exact endI E hr hlocks hP hD hS dX1_swapData_32 hF
-- LooseHeap$Space.firstPageWith
def LX1_firstPageWith_2 : Nat → Int32 → Int32 → St → Option (Int32 × St)
  | 0 => fun _ _ _ => none
  | n + 1 => fun x1 x2 st => (if x2 ≤ 0 then some (x2, st) else gd x2 64 ((if (st.1 6 x2.toNatClampNeg) = (3 : Int32) then LX1_firstPageWith_2 n x1 (x2 + (-1 : Int32)) st else some (x2, st))))
set_option maxHeartbeats 4000000 in
set_option maxRecDepth 100000 in
theorem lX1_firstPageWith_2 {l : Launch} {D : va_G} {h : Nat → Nat} {cI cJ cZ : ClassId} {p : Program} {e : Env} {s : State} {m : MethodId} {args : Array Value} {below : List Frame} {meth : Method} {c : Code} {A : Nat → Prop} {r : Int32} {u : St} (E : Env1 p s m args c cX1_firstPageWith 3 RX1 D (tyL cI cJ cZ)) (hr : meth.sig.returnType = some .int) (hlocks : meth.locks = false) (hA : ∀ q : Nat, s.heap.size ≤ q → A q) : ∀ (n : Nat) (x1 x2 : Int32) (st : St) (H : Heap) (locs : List Loc) (ls : Array Slot), va_P D vwCl (wX h cI cJ cZ st) H → va_D A (wX h cI cJ cZ st) → va_S A s.heap H locs → lv_has ls 3 [(0, .ref (h 1)), (1, .int x1), (2, .int x2)] → LX1_firstPageWith_2 n x1 x2 st = some (r, u) → W p l e (rm 0 0) s m args below meth c H locs 0 0 (MQ below (CQ D (tyL cI cJ cZ) (wX h cI cJ cZ) A r u) args s 0 0 A) (F0 m 2 ls []) := by
  have hx := E.1.1
  have hb := E.1.2.1
  have hml := E.1.2.2.1
  intro n
  induction n with
  | zero => intro x1 x2 st H locs ls hP hD hS hl hF; simp only [LX1_firstPageWith_2] at hF; cases hF
  | succ n ih =>
    intro x1 x2 st H locs ls hP hD hS hl hF
    simp only [LX1_firstPageWith_2] at hF
    refine lv_iload_n hx hb dX1_firstPageWith_2 rfl (lv_at hl 2 rfl) ?_
    refine lv_if_le (tgt := 22) hx hb dX1_firstPageWith_3 (by decide) (fun hc => ?_) (fun hc => ?_)
    · have hF := if_t hc hF
      refine lv_iload_n hx hb dX1_firstPageWith_22 rfl (lv_at hl 2 rfl) ?_
      exact endI E hr hlocks hP hD hS dX1_firstPageWith_23 hF
    · have hF := if_f hc hF
      refine lv_aload_n hx hb dX1_firstPageWith_6 rfl (lv_at hl 0 rfl) ?_
      refine g_1_1 E hP dX1_firstPageWith_7 ?_
      refine lv_iload_n hx hb dX1_firstPageWith_10 rfl (lv_at hl 2 rfl) ?_
      obtain ⟨hi1, hF⟩ := gd_some hF
      refine la_6 E hP hi1 dX1_firstPageWith_11 ?_
      refine lv_iconst (v := 3) hx hb dX1_firstPageWith_12 (by decide) ?_
      refine lv_icmp_ne (tgt := 22) hx hb dX1_firstPageWith_13 (by decide) (fun hc => ?_) (fun hc => ?_)
      · have hF := if_f hc hF
        refine lv_iload_n hx hb dX1_firstPageWith_22 rfl (lv_at hl 2 rfl) ?_
        exact endI E hr hlocks hP hD hS dX1_firstPageWith_23 hF
      · have hF := if_t hc hF
        refine lv_iinc (v := (x2 + (-1 : Int32))) (lv' := [(2, .int (x2 + (-1 : Int32))), (0, .ref (h 1)), (1, .int x1)]) hx hb dX1_firstPageWith_16 hl (k := 2) rfl rfl (by decide) rfl (fun ls hl => ?_)
        refine lv_goto (tgt := 2) hx hb dX1_firstPageWith_19 (by decide) ?_
        exact ih _ _ _ _ _ _ hP hD hS (lv_sub hl [1, 2, 0] rfl) hF
def FX1_firstPageWith (n : Nat) (x1 : Int32) (st : St) : Option (Int32 × St) := LX1_firstPageWith_2 n x1 x1 st
set_option maxHeartbeats 4000000 in
set_option maxRecDepth 100000 in
theorem kX1_firstPageWith (l : Launch) (D : va_G) (h : Nat → Nat) (cI cJ cZ : ClassId) (n : Nat) (x1 : Int32) (st : St) (r : Int32) (u : St) (hF : FX1_firstPageWith n x1 st = some (r, u)) : Ci l yX1_firstPageWith cX1_firstPageWith 3 (some .int) 0 0 D (tyL cI cJ cZ) (wX h cI cJ cZ) st [.ref (h 1), .int x1] r u := by
  refine body_i (by decide +kernel) (Nat.le_of_ble_eq_true rfl) ?_
  intro p e s m below meth c A ls E hr hlocks hA hP hD hS hl
  have E : Env1 p s m _ c cX1_firstPageWith 3 RX1 D (tyL cI cJ cZ) := E
  have hl : lv_has ls 3 [(0, .ref (h 1)), (1, .int x1)] := hl
  have hx := E.1.1
  have hb := E.1.2.1
  have hml := E.1.2.2.1
  unfold FX1_firstPageWith at hF
  refine lv_iload_n hx hb dX1_firstPageWith_0 rfl (lv_at hl 1 rfl) ?_
  refine lv_istore_n (lv' := [(2, .int x1), (0, .ref (h 1)), (1, .int x1)]) hx hb dX1_firstPageWith_1 rfl hl (by decide) rfl (fun ls hl => ?_)
  exact lX1_firstPageWith_2 E hr hlocks hA n x1 x1 st _ _ _ hP hD hS (lv_sub hl [1, 2, 0] rfl) hF
-- LooseHeap$Space.pageBehind
def LX1_pageBehind_4 : Nat → Int32 → Int32 → St → Option (Int32 × St)
  | 0 => fun _ _ _ => none
  | n + 1 => fun x1 x2 st => (if (st.1 1 4) ≤ x2 then some (x2, st) else gd x2 64 ((if (st.1 6 x2.toNatClampNeg) = (3 : Int32) then LX1_pageBehind_4 n x1 (x2 + (1 : Int32)) st else some (x2, st))))
set_option maxHeartbeats 4000000 in
set_option maxRecDepth 100000 in
theorem lX1_pageBehind_4 {l : Launch} {D : va_G} {h : Nat → Nat} {cI cJ cZ : ClassId} {p : Program} {e : Env} {s : State} {m : MethodId} {args : Array Value} {below : List Frame} {meth : Method} {c : Code} {A : Nat → Prop} {r : Int32} {u : St} (E : Env1 p s m args c cX1_pageBehind 3 RX1 D (tyL cI cJ cZ)) (hr : meth.sig.returnType = some .int) (hlocks : meth.locks = false) (hA : ∀ q : Nat, s.heap.size ≤ q → A q) : ∀ (n : Nat) (x1 x2 : Int32) (st : St) (H : Heap) (locs : List Loc) (ls : Array Slot), va_P D vwCl (wX h cI cJ cZ st) H → va_D A (wX h cI cJ cZ st) → va_S A s.heap H locs → lv_has ls 3 [(0, .ref (h 1)), (1, .int x1), (2, .int x2)] → LX1_pageBehind_4 n x1 x2 st = some (r, u) → W p l e (rm 0 0) s m args below meth c H locs 0 0 (MQ below (CQ D (tyL cI cJ cZ) (wX h cI cJ cZ) A r u) args s 0 0 A) (F0 m 4 ls []) := by
  have hx := E.1.1
  have hb := E.1.2.1
  have hml := E.1.2.2.1
  intro n
  induction n with
  | zero => intro x1 x2 st H locs ls hP hD hS hl hF; simp only [LX1_pageBehind_4] at hF; cases hF
  | succ n ih =>
    intro x1 x2 st H locs ls hP hD hS hl hF
    simp only [LX1_pageBehind_4] at hF
    refine lv_iload_n hx hb dX1_pageBehind_4 rfl (lv_at hl 2 rfl) ?_
    refine lv_aload_n hx hb dX1_pageBehind_5 rfl (lv_at hl 0 rfl) ?_
    refine g_1_4 E hP dX1_pageBehind_6 ?_
    refine lv_icmp_ge (tgt := 28) hx hb dX1_pageBehind_9 (by decide) (fun hc => ?_) (fun hc => ?_)
    · have hF := if_t hc hF
      refine lv_iload_n hx hb dX1_pageBehind_28 rfl (lv_at hl 2 rfl) ?_
      exact endI E hr hlocks hP hD hS dX1_pageBehind_29 hF
    · have hF := if_f hc hF
      refine lv_aload_n hx hb dX1_pageBehind_12 rfl (lv_at hl 0 rfl) ?_
      refine g_1_1 E hP dX1_pageBehind_13 ?_
      refine lv_iload_n hx hb dX1_pageBehind_16 rfl (lv_at hl 2 rfl) ?_
      obtain ⟨hi1, hF⟩ := gd_some hF
      refine la_6 E hP hi1 dX1_pageBehind_17 ?_
      refine lv_iconst (v := 3) hx hb dX1_pageBehind_18 (by decide) ?_
      refine lv_icmp_ne (tgt := 28) hx hb dX1_pageBehind_19 (by decide) (fun hc => ?_) (fun hc => ?_)
      · have hF := if_f hc hF
        refine lv_iload_n hx hb dX1_pageBehind_28 rfl (lv_at hl 2 rfl) ?_
        exact endI E hr hlocks hP hD hS dX1_pageBehind_29 hF
      · have hF := if_t hc hF
        refine lv_iinc (v := (x2 + (1 : Int32))) (lv' := [(2, .int (x2 + (1 : Int32))), (0, .ref (h 1)), (1, .int x1)]) hx hb dX1_pageBehind_22 hl (k := 2) rfl rfl (by decide) rfl (fun ls hl => ?_)
        refine lv_goto (tgt := 4) hx hb dX1_pageBehind_25 (by decide) ?_
        exact ih _ _ _ _ _ _ hP hD hS (lv_sub hl [1, 2, 0] rfl) hF
def FX1_pageBehind (n : Nat) (x1 : Int32) (st : St) : Option (Int32 × St) := LX1_pageBehind_4 n x1 (x1 + (1 : Int32)) st
set_option maxHeartbeats 4000000 in
set_option maxRecDepth 100000 in
theorem kX1_pageBehind (l : Launch) (D : va_G) (h : Nat → Nat) (cI cJ cZ : ClassId) (n : Nat) (x1 : Int32) (st : St) (r : Int32) (u : St) (hF : FX1_pageBehind n x1 st = some (r, u)) : Ci l yX1_pageBehind cX1_pageBehind 3 (some .int) 0 0 D (tyL cI cJ cZ) (wX h cI cJ cZ) st [.ref (h 1), .int x1] r u := by
  refine body_i (by decide +kernel) (Nat.le_of_ble_eq_true rfl) ?_
  intro p e s m below meth c A ls E hr hlocks hA hP hD hS hl
  have E : Env1 p s m _ c cX1_pageBehind 3 RX1 D (tyL cI cJ cZ) := E
  have hl : lv_has ls 3 [(0, .ref (h 1)), (1, .int x1)] := hl
  have hx := E.1.1
  have hb := E.1.2.1
  have hml := E.1.2.2.1
  unfold FX1_pageBehind at hF
  refine lv_iload_n hx hb dX1_pageBehind_0 rfl (lv_at hl 1 rfl) ?_
  refine lv_iconst (v := 1) hx hb dX1_pageBehind_1 (by decide) ?_
  refine lv_iadd hx hb dX1_pageBehind_2 ?_
  refine lv_istore_n (lv' := [(2, .int (x1 + (1 : Int32))), (0, .ref (h 1)), (1, .int x1)]) hx hb dX1_pageBehind_3 rfl hl (by decide) rfl (fun ls hl => ?_)
  exact lX1_pageBehind_4 E hr hlocks hA n x1 (x1 + (1 : Int32)) st _ _ _ hP hD hS (lv_sub hl [1, 2, 0] rfl) hF
-- LooseHeap$Space.freePageFrom
def LX1_freePageFrom_2 : Nat → Int32 → Int32 → St → Option (Int32 × St)
  | 0 => fun _ _ _ => none
  | n + 1 => fun x1 x2 st => (if (st.1 1 4) ≤ x2 then some ((-1 : Int32), st) else gd x2 64 ((if (st.1 6 x2.toNatClampNeg) = 0 then some (x2, st) else LX1_freePageFrom_2 n x1 (x2 + (1 : Int32)) st)))
set_option maxHeartbeats 4000000 in
set_option maxRecDepth 100000 in
theorem lX1_freePageFrom_2 {l : Launch} {D : va_G} {h : Nat → Nat} {cI cJ cZ : ClassId} {p : Program} {e : Env} {s : State} {m : MethodId} {args : Array Value} {below : List Frame} {meth : Method} {c : Code} {A : Nat → Prop} {r : Int32} {u : St} (E : Env1 p s m args c cX1_freePageFrom 3 RX1 D (tyL cI cJ cZ)) (hr : meth.sig.returnType = some .int) (hlocks : meth.locks = false) (hA : ∀ q : Nat, s.heap.size ≤ q → A q) : ∀ (n : Nat) (x1 x2 : Int32) (st : St) (H : Heap) (locs : List Loc) (ls : Array Slot), va_P D vwCl (wX h cI cJ cZ st) H → va_D A (wX h cI cJ cZ st) → va_S A s.heap H locs → lv_has ls 3 [(0, .ref (h 1)), (1, .int x1), (2, .int x2)] → LX1_freePageFrom_2 n x1 x2 st = some (r, u) → W p l e (rm 0 0) s m args below meth c H locs 0 0 (MQ below (CQ D (tyL cI cJ cZ) (wX h cI cJ cZ) A r u) args s 0 0 A) (F0 m 2 ls []) := by
  have hx := E.1.1
  have hb := E.1.2.1
  have hml := E.1.2.2.1
  intro n
  induction n with
  | zero => intro x1 x2 st H locs ls hP hD hS hl hF; simp only [LX1_freePageFrom_2] at hF; cases hF
  | succ n ih =>
    intro x1 x2 st H locs ls hP hD hS hl hF
    simp only [LX1_freePageFrom_2] at hF
    refine lv_iload_n hx hb dX1_freePageFrom_2 rfl (lv_at hl 2 rfl) ?_
    refine lv_aload_n hx hb dX1_freePageFrom_3 rfl (lv_at hl 0 rfl) ?_
    refine g_1_4 E hP dX1_freePageFrom_4 ?_
    refine lv_icmp_ge (tgt := 27) hx hb dX1_freePageFrom_7 (by decide) (fun hc => ?_) (fun hc => ?_)
    · have hF := if_t hc hF
      refine lv_iconst (v := (-1)) hx hb dX1_freePageFrom_27 (by decide) ?_
      exact endI E hr hlocks hP hD hS dX1_freePageFrom_28 hF
    · have hF := if_f hc hF
      refine lv_aload_n hx hb dX1_freePageFrom_10 rfl (lv_at hl 0 rfl) ?_
      refine g_1_1 E hP dX1_freePageFrom_11 ?_
      refine lv_iload_n hx hb dX1_freePageFrom_14 rfl (lv_at hl 2 rfl) ?_
      obtain ⟨hi1, hF⟩ := gd_some hF
      refine la_6 E hP hi1 dX1_freePageFrom_15 ?_
      refine lv_if_ne (tgt := 21) hx hb dX1_freePageFrom_16 (by decide) (fun hc => ?_) (fun hc => ?_)
      · have hF := if_f hc hF
        refine lv_iinc (v := (x2 + (1 : Int32))) (lv' := [(2, .int (x2 + (1 : Int32))), (0, .ref (h 1)), (1, .int x1)]) hx hb dX1_freePageFrom_21 hl (k := 2) rfl rfl (by decide) rfl (fun ls hl => ?_)
        refine lv_goto (tgt := 2) hx hb dX1_freePageFrom_24 (by decide) ?_
        exact ih _ _ _ _ _ _ hP hD hS (lv_sub hl [1, 2, 0] rfl) hF
      · have hF := if_t hc hF
        refine lv_iload_n hx hb dX1_freePageFrom_19 rfl (lv_at hl 2 rfl) ?_
        exact endI E hr hlocks hP hD hS dX1_freePageFrom_20 hF
def FX1_freePageFrom (n : Nat) (x1 : Int32) (st : St) : Option (Int32 × St) := LX1_freePageFrom_2 n x1 x1 st
set_option maxHeartbeats 4000000 in
set_option maxRecDepth 100000 in
theorem kX1_freePageFrom (l : Launch) (D : va_G) (h : Nat → Nat) (cI cJ cZ : ClassId) (n : Nat) (x1 : Int32) (st : St) (r : Int32) (u : St) (hF : FX1_freePageFrom n x1 st = some (r, u)) : Ci l yX1_freePageFrom cX1_freePageFrom 3 (some .int) 0 0 D (tyL cI cJ cZ) (wX h cI cJ cZ) st [.ref (h 1), .int x1] r u := by
  refine body_i (by decide +kernel) (Nat.le_of_ble_eq_true rfl) ?_
  intro p e s m below meth c A ls E hr hlocks hA hP hD hS hl
  have E : Env1 p s m _ c cX1_freePageFrom 3 RX1 D (tyL cI cJ cZ) := E
  have hl : lv_has ls 3 [(0, .ref (h 1)), (1, .int x1)] := hl
  have hx := E.1.1
  have hb := E.1.2.1
  have hml := E.1.2.2.1
  unfold FX1_freePageFrom at hF
  refine lv_iload_n hx hb dX1_freePageFrom_0 rfl (lv_at hl 1 rfl) ?_
  refine lv_istore_n (lv' := [(2, .int x1), (0, .ref (h 1)), (1, .int x1)]) hx hb dX1_freePageFrom_1 rfl hl (by decide) rfl (fun ls hl => ?_)
  exact lX1_freePageFrom_2 E hr hlocks hA n x1 x1 st _ _ _ hP hD hS (lv_sub hl [1, 2, 0] rfl) hF
theorem cw_X1_86 : cwd RX1 86 RX1 yX1_usedPages cX1_usedPages 3 (some .int) 0 := ⟨tb_V (tb_in 564 (by decide +kernel) (by decide +kernel)) (tb_in 358 (by decide +kernel) (by decide +kernel)) (tb_in 359 (by decide +kernel) (by decide +kernel)) (tb_in 47 (by decide +kernel) (by decide +kernel)) (tb_in 360 (by decide +kernel) (by decide +kernel)), by decide +kernel⟩
-- LooseHeap$Space.mayTake
def FX1_mayTake (n : Nat) (x1 : Int32) (st : St) : Option (Int32 × St) := bd (FX1_usedPages n  st) (fun r1 u2 => dz (2 : Int32) (be (some ((if ((u2.1 1 4) / (2 : Int32)) < (r1 + x1) then (0 : Int32) else (1 : Int32)))) (fun v5 => gz v5 (some (v5, u2)))))
set_option maxHeartbeats 4000000 in
set_option maxRecDepth 100000 in
theorem kX1_mayTake (l : Launch) (D : va_G) (h : Nat → Nat) (cI cJ cZ : ClassId) (n : Nat) (x1 : Int32) (st : St) (r : Int32) (u : St) (hF : FX1_mayTake n x1 st = some (r, u)) : Ci l yX1_mayTake cX1_mayTake 2 (some .boolean) 1 22 D (tyL cI cJ cZ) (wX h cI cJ cZ) st [.ref (h 1), .int x1] r u := by
  refine body_i (by decide +kernel) (Nat.le_of_ble_eq_true rfl) ?_
  intro p e s m below meth c A ls E hr hlocks hA hP hD hS hl
  have E : Env1 p s m _ c cX1_mayTake 2 RX1 D (tyL cI cJ cZ) := E
  have hl : lv_has ls 2 [(0, .ref (h 1)), (1, .int x1)] := hl
  have hx := E.1.1
  have hb := E.1.2.1
  have hml := E.1.2.2.1
  unfold FX1_mayTake at hF
  refine lv_aload_n hx hb dX1_mayTake_0 rfl (lv_at hl 0 rfl) ?_
  obtain ⟨r1, u2, hc3, hF⟩ := bd_some hF
  refine call_i (rest := []) E hA hP hD hS hl.1 (kX1_usedPages l D h cI cJ cZ n  st r1 u2 hc3) cw_X1_86 1 rfl rfl rfl rfl rfl (Nat.le_of_ble_eq_true rfl) ⟨Nat.le_of_ble_eq_true rfl, Nat.le_of_ble_eq_true rfl⟩ ⟨Nat.zero_le _, Nat.zero_le _⟩ dX1_mayTake_1 (fun H locs hP hD hS => ?_)
  refine lv_iload_n hx hb dX1_mayTake_4 rfl (lv_at hl 1 rfl) ?_
  refine lv_iadd hx hb dX1_mayTake_5 ?_
  refine lv_aload_n hx hb dX1_mayTake_6 rfl (lv_at hl 0 rfl) ?_
  refine g_1_4 E hP dX1_mayTake_7 ?_
  refine lv_iconst (v := 2) hx hb dX1_mayTake_10 (by decide) ?_
  obtain ⟨hz4, hF⟩ := dz_some hF
  refine lv_idiv hx hb dX1_mayTake_11 hz4 ?_
  obtain ⟨v5, hv, hF⟩ := be_some hF
  have hv := Option.some.inj hv
  refine dia (jpc := 20) (v1 := v5) (rest := []) (ls := ls) ?_ (fun kont => ?_)
  · skip
    exact endZ E hr hlocks hP hD hS dX1_mayTake_20 hF
  · skip
    refine lv_icmp_gt (tgt := 19) hx hb dX1_mayTake_12 (by decide) (fun hc => ?_) (fun hc => ?_)
    · have hv := if_t hc hv
      refine lv_iconst (v := 0) hx hb dX1_mayTake_19 (by decide) ?_
      exact topE hv kont
    · have hv := if_f hc hv
      refine lv_iconst (v := 1) hx hb dX1_mayTake_15 (by decide) ?_
      refine lv_goto (tgt := 20) hx hb dX1_mayTake_16 (by decide) ?_
      exact topE hv kont
theorem cw_X1_73 : cwd RX1 73 RX1 yX1_addressOf cX1_addressOf 3 (some .int) 2 := ⟨tb_V (tb_in 352 (by decide +kernel) (by decide +kernel)) (tb_in 250 (by decide +kernel) (by decide +kernel)) (tb_in 251 (by decide +kernel) (by decide +kernel)) (tb_in 47 (by decide +kernel) (by decide +kernel)) (tb_in 252 (by decide +kernel) (by decide +kernel)), by decide +kernel⟩
theorem cw_X1_77 : cwd RX1 77 RX1 yX1_mayTake cX1_mayTake 2 (some .boolean) 1 := ⟨tb_V (tb_in 560 (by decide +kernel) (by decide +kernel)) (tb_in 562 (by decide +kernel) (by decide +kernel)) (tb_in 21 (by decide +kernel) (by decide +kernel)) (tb_in 47 (by decide +kernel) (by decide +kernel)) (tb_in 563 (by decide +kernel) (by decide +kernel)), by decide +kernel⟩
theorem cw_X1_80 : cwd RX1 80 RX1 yX1_freePageFrom cX1_freePageFrom 3 (some .int) 1 := ⟨tb_V (tb_in 565 (by decide +kernel) (by decide +kernel)) (tb_in 296 (by decide +kernel) (by decide +kernel)) (tb_in 297 (by decide +kernel) (by decide +kernel)) (tb_in 47 (by decide +kernel) (by decide +kernel)) (tb_in 298 (by decide +kernel) (by decide +kernel)), by decide +kernel⟩
-- LooseHeap$Space.roomForSmall
def JX1_roomForSmall_44 (n : Nat) (st : St) : Option (Int32 × St) := bd (FX1_mayTake n (1 : Int32) st) (fun r1 u2 => (if r1 = 0 then (if (-1 : Int32) = (-1 : Int32) then some ((-1 : Int32), u2) else bd (FX1_addressOf n (-1 : Int32) (0 : Int32) u2) (fun r4 u5 => some (r4, u5))) else bd (FX1_freePageFrom n (0 : Int32) u2) (fun r7 u8 => (if r7 = (-1 : Int32) then some ((-1 : Int32), u8) else bd (FX1_addressOf n r7 (0 : Int32) u8) (fun r10 u11 => some (r10, u11))))))
set_option maxHeartbeats 4000000 in
set_option maxRecDepth 100000 in
theorem jX1_roomForSmall_44 {l : Launch} {D : va_G} {h : Nat → Nat} {cI cJ cZ : ClassId} {p : Program} {e : Env} {s : State} {m : MethodId} {args : Array Value} {below : List Frame} {meth : Method} {c : Code} {A : Nat → Prop} {r : Int32} {u : St} (E : Env1 p s m args c cX1_roomForSmall 3 RX1 D (tyL cI cJ cZ)) (hr : meth.sig.returnType = some .int) (hlocks : meth.locks = false) (hA : ∀ q : Nat, s.heap.size ≤ q → A q) (n : Nat) (st : St) (H : Heap) (locs : List Loc) (ls : Array Slot) (hP : va_P D vwCl (wX h cI cJ cZ st) H) (hD : va_D A (wX h cI cJ cZ st)) (hS : va_S A s.heap H locs) (hl : lv_has ls 3 [(0, .ref (h 1))]) (hF : JX1_roomForSmall_44 n  st = some (r, u)) : W p l e (rm 2 43) s m args below meth c H locs 0 0 (MQ below (CQ D (tyL cI cJ cZ) (wX h cI cJ cZ) A r u) args s 0 0 A) (F0 m 44 ls []) := by
  have hx := E.1.1
  have hb := E.1.2.1
  have hml := E.1.2.2.1
  unfold JX1_roomForSmall_44 at hF
  refine lv_aload_n hx hb dX1_roomForSmall_44 rfl (lv_at hl 0 rfl) ?_
  refine lv_iconst (v := 1) hx hb dX1_roomForSmall_45 (by decide) ?_
  obtain ⟨r1, u2, hc3, hF⟩ := bd_some hF
  refine call_i (rest := []) E hA hP hD hS hl.1 (kX1_mayTake l D h cI cJ cZ n (1 : Int32) st r1 u2 hc3) cw_X1_77 1 rfl rfl rfl rfl rfl (Nat.le_of_ble_eq_true rfl) ⟨Nat.le_of_ble_eq_true rfl, Nat.le_of_ble_eq_true rfl⟩ ⟨Nat.zero_le _, Nat.zero_le _⟩ dX1_roomForSmall_46 (fun H locs hP hD hS => ?_)
  refine lv_if_eq (tgt := 60) hx hb dX1_roomForSmall_49 (by decide) (fun hc => ?_) (fun hc => ?_)
  · have hF := if_t hc hF
    refine lv_iconst (v := (-1)) hx hb dX1_roomForSmall_60 (by decide) ?_
    refine lv_istore_n (lv' := [(2, .int (-1 : Int32)), (0, .ref (h 1))]) hx hb dX1_roomForSmall_61 rfl hl (by decide) rfl (fun ls hl => ?_)
    refine lv_iload_n hx hb dX1_roomForSmall_62 rfl (lv_at hl 0 rfl) ?_
    refine lv_iconst (v := (-1)) hx hb dX1_roomForSmall_63 (by decide) ?_
    refine lv_icmp_ne (tgt := 71) hx hb dX1_roomForSmall_64 (by decide) (fun hc => ?_) (fun hc => ?_)
    · have hF := if_f hc hF
      refine lv_aload_n hx hb dX1_roomForSmall_71 rfl (lv_at hl 1 rfl) ?_
      refine lv_iload_n hx hb dX1_roomForSmall_72 rfl (lv_at hl 0 rfl) ?_
      refine lv_iconst (v := 0) hx hb dX1_roomForSmall_73 (by decide) ?_
      obtain ⟨r4, u5, hc6, hF⟩ := bd_some hF
      refine call_i (rest := []) E hA hP hD hS hl.1 (kX1_addressOf l D h cI cJ cZ n (-1 : Int32) (0 : Int32) u2 r4 u5 hc6) cw_X1_73 1 rfl rfl rfl rfl rfl (Nat.le_of_ble_eq_true rfl) ⟨Nat.le_of_ble_eq_true rfl, Nat.le_of_ble_eq_true rfl⟩ ⟨Nat.zero_le _, Nat.zero_le _⟩ dX1_roomForSmall_74 (fun H locs hP hD hS => ?_)
      exact endI E hr hlocks hP hD hS dX1_roomForSmall_77 hF
    · have hF := if_t hc hF
      refine lv_iconst (v := (-1)) hx hb dX1_roomForSmall_67 (by decide) ?_
      refine lv_goto (tgt := 77) hx hb dX1_roomForSmall_68 (by decide) ?_
      exact endI E hr hlocks hP hD hS dX1_roomForSmall_77 hF
  · have hF := if_f hc hF
    refine lv_aload_n hx hb dX1_roomForSmall_52 rfl (lv_at hl 0 rfl) ?_
    refine lv_iconst (v := 0) hx hb dX1_roomForSmall_53 (by decide) ?_
    obtain ⟨r7, u8, hc9, hF⟩ := bd_some hF
    refine call_i (rest := []) E hA hP hD hS hl.1 (kX1_freePageFrom l D h cI cJ cZ n (0 : Int32) u2 r7 u8 hc9) cw_X1_80 1 rfl rfl rfl rfl rfl (Nat.le_of_ble_eq_true rfl) ⟨Nat.le_of_ble_eq_true rfl, Nat.le_of_ble_eq_true rfl⟩ ⟨Nat.zero_le _, Nat.zero_le _⟩ dX1_roomForSmall_54 (fun H locs hP hD hS => ?_)
    refine lv_goto (tgt := 61) hx hb dX1_roomForSmall_57 (by decide) ?_
    refine lv_istore_n (lv' := [(2, .int r7), (0, .ref (h 1))]) hx hb dX1_roomForSmall_61 rfl hl (by decide) rfl (fun ls hl => ?_)
    refine lv_iload_n hx hb dX1_roomForSmall_62 rfl (lv_at hl 0 rfl) ?_
    refine lv_iconst (v := (-1)) hx hb dX1_roomForSmall_63 (by decide) ?_
    refine lv_icmp_ne (tgt := 71) hx hb dX1_roomForSmall_64 (by decide) (fun hc => ?_) (fun hc => ?_)
    · have hF := if_f hc hF
      refine lv_aload_n hx hb dX1_roomForSmall_71 rfl (lv_at hl 1 rfl) ?_
      refine lv_iload_n hx hb dX1_roomForSmall_72 rfl (lv_at hl 0 rfl) ?_
      refine lv_iconst (v := 0) hx hb dX1_roomForSmall_73 (by decide) ?_
      obtain ⟨r10, u11, hc12, hF⟩ := bd_some hF
      refine call_i (rest := []) E hA hP hD hS hl.1 (kX1_addressOf l D h cI cJ cZ n r7 (0 : Int32) u8 r10 u11 hc12) cw_X1_73 1 rfl rfl rfl rfl rfl (Nat.le_of_ble_eq_true rfl) ⟨Nat.le_of_ble_eq_true rfl, Nat.le_of_ble_eq_true rfl⟩ ⟨Nat.zero_le _, Nat.zero_le _⟩ dX1_roomForSmall_74 (fun H locs hP hD hS => ?_)
      exact endI E hr hlocks hP hD hS dX1_roomForSmall_77 hF
    · have hF := if_t hc hF
      refine lv_iconst (v := (-1)) hx hb dX1_roomForSmall_67 (by decide) ?_
      refine lv_goto (tgt := 77) hx hb dX1_roomForSmall_68 (by decide) ?_
      exact endI E hr hlocks hP hD hS dX1_roomForSmall_77 hF
def FX1_roomForSmall (n : Nat) (x1 : Int32) (st : St) : Option (Int32 × St) := (if (st.1 1 6) = (-1 : Int32) then JX1_roomForSmall_44 n  st else gd (st.1 1 6) 64 ((if ((st.1 1 5) - (st.1 7 (st.1 1 6).toNatClampNeg)) < x1 then JX1_roomForSmall_44 n  st else gd (st.1 1 6) 64 (bd (FX1_addressOf n (st.1 1 6) (st.1 7 (st.1 1 6).toNatClampNeg) st) (fun r15 u16 => some (r15, u16))))))
set_option maxHeartbeats 4000000 in
set_option maxRecDepth 100000 in
theorem kX1_roomForSmall (l : Launch) (D : va_G) (h : Nat → Nat) (cI cJ cZ : ClassId) (n : Nat) (x1 : Int32) (st : St) (r : Int32) (u : St) (hF : FX1_roomForSmall n x1 st = some (r, u)) : Ci l yX1_roomForSmall cX1_roomForSmall 3 (some .int) 2 43 D (tyL cI cJ cZ) (wX h cI cJ cZ) st [.ref (h 1), .int x1] r u := by
  refine body_i (by decide +kernel) (Nat.le_of_ble_eq_true rfl) ?_
  intro p e s m below meth c A ls E hr hlocks hA hP hD hS hl
  have E : Env1 p s m _ c cX1_roomForSmall 3 RX1 D (tyL cI cJ cZ) := E
  have hl : lv_has ls 3 [(0, .ref (h 1)), (1, .int x1)] := hl
  have hx := E.1.1
  have hb := E.1.2.1
  have hml := E.1.2.2.1
  unfold FX1_roomForSmall at hF
  refine lv_aload_n hx hb dX1_roomForSmall_0 rfl (lv_at hl 0 rfl) ?_
  refine g_1_6 E hP dX1_roomForSmall_1 ?_
  refine lv_iconst (v := (-1)) hx hb dX1_roomForSmall_4 (by decide) ?_
  refine lv_icmp_eq (tgt := 44) hx hb dX1_roomForSmall_5 (by decide) (fun hc => ?_) (fun hc => ?_)
  · have hF := if_t hc hF
    exact jX1_roomForSmall_44 E hr hlocks hA n  st _ _ _ hP hD hS (lv_sub hl [0] rfl) hF
  · have hF := if_f hc hF
    refine lv_iload_n hx hb dX1_roomForSmall_8 rfl (lv_at hl 1 rfl) ?_
    refine lv_aload_n hx hb dX1_roomForSmall_9 rfl (lv_at hl 0 rfl) ?_
    refine g_1_5 E hP dX1_roomForSmall_10 ?_
    refine lv_aload_n hx hb dX1_roomForSmall_13 rfl (lv_at hl 0 rfl) ?_
    refine g_1_2 E hP dX1_roomForSmall_14 ?_
    refine lv_aload_n hx hb dX1_roomForSmall_17 rfl (lv_at hl 0 rfl) ?_
    refine g_1_6 E hP dX1_roomForSmall_18 ?_
    obtain ⟨hi13, hF⟩ := gd_some hF
    refine la_7 E hP hi13 dX1_roomForSmall_21 ?_
    refine lv_isub hx hb dX1_roomForSmall_22 ?_
    refine lv_icmp_gt (tgt := 44) hx hb dX1_roomForSmall_23 (by decide) (fun hc => ?_) (fun hc => ?_)
    · have hF := if_t hc hF
      exact jX1_roomForSmall_44 E hr hlocks hA n  st _ _ _ hP hD hS (lv_sub hl [0] rfl) hF
    · have hF := if_f hc hF
      refine lv_aload_n hx hb dX1_roomForSmall_26 rfl (lv_at hl 0 rfl) ?_
      refine lv_aload_n hx hb dX1_roomForSmall_27 rfl (lv_at hl 0 rfl) ?_
      refine g_1_6 E hP dX1_roomForSmall_28 ?_
      refine lv_aload_n hx hb dX1_roomForSmall_31 rfl (lv_at hl 0 rfl) ?_
      refine g_1_2 E hP dX1_roomForSmall_32 ?_
      refine lv_aload_n hx hb dX1_roomForSmall_35 rfl (lv_at hl 0 rfl) ?_
      refine g_1_6 E hP dX1_roomForSmall_36 ?_
      obtain ⟨hi14, hF⟩ := gd_some hF
      refine la_7 E hP hi14 dX1_roomForSmall_39 ?_
      obtain ⟨r15, u16, hc17, hF⟩ := bd_some hF
      refine call_i (rest := []) E hA hP hD hS hl.1 (kX1_addressOf l D h cI cJ cZ n (st.1 1 6) (st.1 7 (st.1 1 6).toNatClampNeg) st r15 u16 hc17) cw_X1_73 1 rfl rfl rfl rfl rfl (Nat.le_of_ble_eq_true rfl) ⟨Nat.le_of_ble_eq_true rfl, Nat.le_of_ble_eq_true rfl⟩ ⟨Nat.zero_le _, Nat.zero_le _⟩ dX1_roomForSmall_40 (fun H locs hP hD hS => ?_)
      exact endI E hr hlocks hP hD hS dX1_roomForSmall_43 hF
-- LooseHeap$Space.freeRow
def LX1_freeRow_4 : Nat → Int32 → Int32 → Int32 → St → Option (Int32 × St)
  | 0 => fun _ _ _ _ => none
  | n + 1 => fun x1 x2 x3 st => (if (st.1 1 4) ≤ x3 then some ((-1 : Int32), st) else gd x3 64 (be (some ((if (st.1 6 x3.toNatClampNeg) = 0 then (x2 + (1 : Int32)) else (0 : Int32)))) (fun v2 => (if v2 = x1 then some (((x3 - x1) + (1 : Int32)), st) else LX1_freeRow_4 n x1 v2 (x3 + (1 : Int32)) st))))
set_option maxHeartbeats 4000000 in
set_option maxRecDepth 100000 in
theorem lX1_freeRow_4 {l : Launch} {D : va_G} {h : Nat → Nat} {cI cJ cZ : ClassId} {p : Program} {e : Env} {s : State} {m : MethodId} {args : Array Value} {below : List Frame} {meth : Method} {c : Code} {A : Nat → Prop} {r : Int32} {u : St} (E : Env1 p s m args c cX1_freeRow 4 RX1 D (tyL cI cJ cZ)) (hr : meth.sig.returnType = some .int) (hlocks : meth.locks = false) (hA : ∀ q : Nat, s.heap.size ≤ q → A q) : ∀ (n : Nat) (x1 x2 x3 : Int32) (st : St) (H : Heap) (locs : List Loc) (ls : Array Slot), va_P D vwCl (wX h cI cJ cZ st) H → va_D A (wX h cI cJ cZ st) → va_S A s.heap H locs → lv_has ls 4 [(0, .ref (h 1)), (1, .int x1), (2, .int x2), (3, .int x3)] → LX1_freeRow_4 n x1 x2 x3 st = some (r, u) → W p l e (rm 0 0) s m args below meth c H locs 0 0 (MQ below (CQ D (tyL cI cJ cZ) (wX h cI cJ cZ) A r u) args s 0 0 A) (F0 m 4 ls []) := by
  have hx := E.1.1
  have hb := E.1.2.1
  have hml := E.1.2.2.1
  intro n
  induction n with
  | zero => intro x1 x2 x3 st H locs ls hP hD hS hl hF; simp only [LX1_freeRow_4] at hF; cases hF
  | succ n ih =>
    intro x1 x2 x3 st H locs ls hP hD hS hl hF
    simp only [LX1_freeRow_4] at hF
    refine lv_iload_n hx hb dX1_freeRow_4 rfl (lv_at hl 3 rfl) ?_
    refine lv_aload_n hx hb dX1_freeRow_5 rfl (lv_at hl 0 rfl) ?_
    refine g_1_4 E hP dX1_freeRow_6 ?_
    refine lv_icmp_ge (tgt := 46) hx hb dX1_freeRow_9 (by decide) (fun hc => ?_) (fun hc => ?_)
    · have hF := if_t hc hF
      refine lv_iconst (v := (-1)) hx hb dX1_freeRow_46 (by decide) ?_
      exact endI E hr hlocks hP hD hS dX1_freeRow_47 hF
    · have hF := if_f hc hF
      refine lv_aload_n hx hb dX1_freeRow_12 rfl (lv_at hl 0 rfl) ?_
      refine g_1_1 E hP dX1_freeRow_13 ?_
      refine lv_iload_n hx hb dX1_freeRow_16 rfl (lv_at hl 3 rfl) ?_
      obtain ⟨hi1, hF⟩ := gd_some hF
      refine la_6 E hP hi1 dX1_freeRow_17 ?_
      obtain ⟨v2, hv, hF⟩ := be_some hF
      have hv := Option.some.inj hv
      refine dia (jpc := 28) (v1 := v2) (rest := []) (ls := ls) ?_ (fun kont => ?_)
      · skip
        refine lv_istore_n (lv' := [(2, .int v2), (0, .ref (h 1)), (1, .int x1), (3, .int x3)]) hx hb dX1_freeRow_28 rfl hl (by decide) rfl (fun ls hl => ?_)
        refine lv_iload_n hx hb dX1_freeRow_29 rfl (lv_at hl 0 rfl) ?_
        refine lv_iload_n hx hb dX1_freeRow_30 rfl (lv_at hl 2 rfl) ?_
        refine lv_icmp_ne (tgt := 40) hx hb dX1_freeRow_31 (by decide) (fun hc => ?_) (fun hc => ?_)
        · have hF := if_f hc hF
          refine lv_iinc (v := (x3 + (1 : Int32))) (lv' := [(3, .int (x3 + (1 : Int32))), (2, .int v2), (0, .ref (h 1)), (1, .int x1)]) hx hb dX1_freeRow_40 hl (k := 3) rfl rfl (by decide) rfl (fun ls hl => ?_)
          refine lv_goto (tgt := 4) hx hb dX1_freeRow_43 (by decide) ?_
          exact ih _ _ _ _ _ _ _ hP hD hS (lv_sub hl [2, 3, 1, 0] rfl) hF
        · have hF := if_t hc hF
          refine lv_iload_n hx hb dX1_freeRow_34 rfl (lv_at hl 3 rfl) ?_
          refine lv_iload_n hx hb dX1_freeRow_35 rfl (lv_at hl 2 rfl) ?_
          refine lv_isub hx hb dX1_freeRow_36 ?_
          refine lv_iconst (v := 1) hx hb dX1_freeRow_37 (by decide) ?_
          refine lv_iadd hx hb dX1_freeRow_38 ?_
          exact endI E hr hlocks hP hD hS dX1_freeRow_39 hF
      · skip
        refine lv_if_ne (tgt := 27) hx hb dX1_freeRow_18 (by decide) (fun hc => ?_) (fun hc => ?_)
        · have hv := if_f hc hv
          refine lv_iconst (v := 0) hx hb dX1_freeRow_27 (by decide) ?_
          exact topE hv kont
        · have hv := if_t hc hv
          refine lv_iload_n hx hb dX1_freeRow_21 rfl (lv_at hl 2 rfl) ?_
          refine lv_iconst (v := 1) hx hb dX1_freeRow_22 (by decide) ?_
          refine lv_iadd hx hb dX1_freeRow_23 ?_
          refine lv_goto (tgt := 28) hx hb dX1_freeRow_24 (by decide) ?_
          exact topE hv kont
def FX1_freeRow (n : Nat) (x1 : Int32) (st : St) : Option (Int32 × St) := LX1_freeRow_4 n x1 (0 : Int32) (0 : Int32) st
set_option maxHeartbeats 4000000 in
set_option maxRecDepth 100000 in
theorem kX1_freeRow (l : Launch) (D : va_G) (h : Nat → Nat) (cI cJ cZ : ClassId) (n : Nat) (x1 : Int32) (st : St) (r : Int32) (u : St) (hF : FX1_freeRow n x1 st = some (r, u)) : Ci l yX1_freeRow cX1_freeRow 4 (some .int) 0 0 D (tyL cI cJ cZ) (wX h cI cJ cZ) st [.ref (h 1), .int x1] r u := by
  refine body_i (by decide +kernel) (Nat.le_of_ble_eq_true rfl) ?_
  intro p e s m below meth c A ls E hr hlocks hA hP hD hS hl
  have E : Env1 p s m _ c cX1_freeRow 4 RX1 D (tyL cI cJ cZ) := E
  have hl : lv_has ls 4 [(0, .ref (h 1)), (1, .int x1)] := hl
  have hx := E.1.1
  have hb := E.1.2.1
  have hml := E.1.2.2.1
  unfold FX1_freeRow at hF
  refine lv_iconst (v := 0) hx hb dX1_freeRow_0 (by decide) ?_
  refine lv_istore_n (lv' := [(2, .int (0 : Int32)), (0, .ref (h 1)), (1, .int x1)]) hx hb dX1_freeRow_1 rfl hl (by decide) rfl (fun ls hl => ?_)
  refine lv_iconst (v := 0) hx hb dX1_freeRow_2 (by decide) ?_
  refine lv_istore_n (lv' := [(3, .int (0 : Int32)), (2, .int (0 : Int32)), (0, .ref (h 1)), (1, .int x1)]) hx hb dX1_freeRow_3 rfl hl (by decide) rfl (fun ls hl => ?_)
  exact lX1_freeRow_4 E hr hlocks hA n x1 (0 : Int32) (0 : Int32) st _ _ _ hP hD hS (lv_sub hl [2, 3, 1, 0] rfl) hF
theorem cw_X1_83 : cwd RX1 83 RX1 yX1_freeRow cX1_freeRow 4 (some .int) 1 := ⟨tb_V (tb_in 570 (by decide +kernel) (by decide +kernel)) (tb_in 572 (by decide +kernel) (by decide +kernel)) (tb_in 23 (by decide +kernel) (by decide +kernel)) (tb_in 47 (by decide +kernel) (by decide +kernel)) (tb_in 573 (by decide +kernel) (by decide +kernel)), by decide +kernel⟩
-- LooseHeap$Space.roomForLong
def FX1_roomForLong (n : Nat) (x1 : Int32) (st : St) : Option (Int32 × St) := dz (st.1 1 5) (bd (FX1_mayTake n (((x1 + (st.1 1 5)) - (1 : Int32)) / (st.1 1 5)) st) (fun r2 u3 => (if r2 = 0 then (if (-1 : Int32) = (-1 : Int32) then some ((-1 : Int32), u3) else bd (FX1_addressOf n (-1 : Int32) (0 : Int32) u3) (fun r5 u6 => some (r5, u6))) else bd (FX1_freeRow n (((x1 + (st.1 1 5)) - (1 : Int32)) / (st.1 1 5)) u3) (fun r8 u9 => (if r8 = (-1 : Int32) then some ((-1 : Int32), u9) else bd (FX1_addressOf n r8 (0 : Int32) u9) (fun r11 u12 => some (r11, u12)))))))
set_option maxHeartbeats 4000000 in
set_option maxRecDepth 100000 in
theorem kX1_roomForLong (l : Launch) (D : va_G) (h : Nat → Nat) (cI cJ cZ : ClassId) (n : Nat) (x1 : Int32) (st : St) (r : Int32) (u : St) (hF : FX1_roomForLong n x1 st = some (r, u)) : Ci l yX1_roomForLong cX1_roomForLong 4 (some .int) 2 43 D (tyL cI cJ cZ) (wX h cI cJ cZ) st [.ref (h 1), .int x1] r u := by
  refine body_i (by decide +kernel) (Nat.le_of_ble_eq_true rfl) ?_
  intro p e s m below meth c A ls E hr hlocks hA hP hD hS hl
  have E : Env1 p s m _ c cX1_roomForLong 4 RX1 D (tyL cI cJ cZ) := E
  have hl : lv_has ls 4 [(0, .ref (h 1)), (1, .int x1)] := hl
  have hx := E.1.1
  have hb := E.1.2.1
  have hml := E.1.2.2.1
  unfold FX1_roomForLong at hF
  refine lv_iload_n hx hb dX1_roomForLong_0 rfl (lv_at hl 1 rfl) ?_
  refine lv_aload_n hx hb dX1_roomForLong_1 rfl (lv_at hl 0 rfl) ?_
  refine g_1_5 E hP dX1_roomForLong_2 ?_
  refine lv_iadd hx hb dX1_roomForLong_5 ?_
  refine lv_iconst (v := 1) hx hb dX1_roomForLong_6 (by decide) ?_
  refine lv_isub hx hb dX1_roomForLong_7 ?_
  refine lv_aload_n hx hb dX1_roomForLong_8 rfl (lv_at hl 0 rfl) ?_
  refine g_1_5 E hP dX1_roomForLong_9 ?_
  obtain ⟨hz1, hF⟩ := dz_some hF
  refine lv_idiv hx hb dX1_roomForLong_12 hz1 ?_
  refine lv_istore_n (lv' := [(2, .int (((x1 + (st.1 1 5)) - (1 : Int32)) / (st.1 1 5))), (0, .ref (h 1)), (1, .int x1)]) hx hb dX1_roomForLong_13 rfl hl (by decide) rfl (fun ls hl => ?_)
  refine lv_aload_n hx hb dX1_roomForLong_14 rfl (lv_at hl 1 rfl) ?_
  refine lv_iload_n hx hb dX1_roomForLong_15 rfl (lv_at hl 0 rfl) ?_
  obtain ⟨r2, u3, hc4, hF⟩ := bd_some hF
  refine call_i (rest := []) E hA hP hD hS hl.1 (kX1_mayTake l D h cI cJ cZ n (((x1 + (st.1 1 5)) - (1 : Int32)) / (st.1 1 5)) st r2 u3 hc4) cw_X1_77 1 rfl rfl rfl rfl rfl (Nat.le_of_ble_eq_true rfl) ⟨Nat.le_of_ble_eq_true rfl, Nat.le_of_ble_eq_true rfl⟩ ⟨Nat.zero_le _, Nat.zero_le _⟩ dX1_roomForLong_16 (fun H locs hP hD hS => ?_)
  refine lv_if_eq (tgt := 30) hx hb dX1_roomForLong_19 (by decide) (fun hc => ?_) (fun hc => ?_)
  · have hF := if_t hc hF
    refine lv_iconst (v := (-1)) hx hb dX1_roomForLong_30 (by decide) ?_
    refine lv_istore_n (lv' := [(3, .int (-1 : Int32)), (2, .int (((x1 + (st.1 1 5)) - (1 : Int32)) / (st.1 1 5))), (0, .ref (h 1)), (1, .int x1)]) hx hb dX1_roomForLong_31 rfl hl (by decide) rfl (fun ls hl => ?_)
    refine lv_iload_n hx hb dX1_roomForLong_32 rfl (lv_at hl 0 rfl) ?_
    refine lv_iconst (v := (-1)) hx hb dX1_roomForLong_33 (by decide) ?_
    refine lv_icmp_ne (tgt := 41) hx hb dX1_roomForLong_34 (by decide) (fun hc => ?_) (fun hc => ?_)
    · have hF := if_f hc hF
      refine lv_aload_n hx hb dX1_roomForLong_41 rfl (lv_at hl 2 rfl) ?_
      refine lv_iload_n hx hb dX1_roomForLong_42 rfl (lv_at hl 0 rfl) ?_
      refine lv_iconst (v := 0) hx hb dX1_roomForLong_43 (by decide) ?_
      obtain ⟨r5, u6, hc7, hF⟩ := bd_some hF
      refine call_i (rest := []) E hA hP hD hS hl.1 (kX1_addressOf l D h cI cJ cZ n (-1 : Int32) (0 : Int32) u3 r5 u6 hc7) cw_X1_73 1 rfl rfl rfl rfl rfl (Nat.le_of_ble_eq_true rfl) ⟨Nat.le_of_ble_eq_true rfl, Nat.le_of_ble_eq_true rfl⟩ ⟨Nat.zero_le _, Nat.zero_le _⟩ dX1_roomForLong_44 (fun H locs hP hD hS => ?_)
      exact endI E hr hlocks hP hD hS dX1_roomForLong_47 hF
    · have hF := if_t hc hF
      refine lv_iconst (v := (-1)) hx hb dX1_roomForLong_37 (by decide) ?_
      refine lv_goto (tgt := 47) hx hb dX1_roomForLong_38 (by decide) ?_
      exact endI E hr hlocks hP hD hS dX1_roomForLong_47 hF
  · have hF := if_f hc hF
    refine lv_aload_n hx hb dX1_roomForLong_22 rfl (lv_at hl 1 rfl) ?_
    refine lv_iload_n hx hb dX1_roomForLong_23 rfl (lv_at hl 0 rfl) ?_
    obtain ⟨r8, u9, hc10, hF⟩ := bd_some hF
    refine call_i (rest := []) E hA hP hD hS hl.1 (kX1_freeRow l D h cI cJ cZ n (((x1 + (st.1 1 5)) - (1 : Int32)) / (st.1 1 5)) u3 r8 u9 hc10) cw_X1_83 1 rfl rfl rfl rfl rfl (Nat.le_of_ble_eq_true rfl) ⟨Nat.le_of_ble_eq_true rfl, Nat.le_of_ble_eq_true rfl⟩ ⟨Nat.zero_le _, Nat.zero_le _⟩ dX1_roomForLong_24 (fun H locs hP hD hS => ?_)
    refine lv_goto (tgt := 31) hx hb dX1_roomForLong_27 (by decide) ?_
    refine lv_istore_n (lv' := [(3, .int r8), (2, .int (((x1 + (st.1 1 5)) - (1 : Int32)) / (st.1 1 5))), (0, .ref (h 1)), (1, .int x1)]) hx hb dX1_roomForLong_31 rfl hl (by decide) rfl (fun ls hl => ?_)
    refine lv_iload_n hx hb dX1_roomForLong_32 rfl (lv_at hl 0 rfl) ?_
    refine lv_iconst (v := (-1)) hx hb dX1_roomForLong_33 (by decide) ?_
    refine lv_icmp_ne (tgt := 41) hx hb dX1_roomForLong_34 (by decide) (fun hc => ?_) (fun hc => ?_)
    · have hF := if_f hc hF
      refine lv_aload_n hx hb dX1_roomForLong_41 rfl (lv_at hl 2 rfl) ?_
      refine lv_iload_n hx hb dX1_roomForLong_42 rfl (lv_at hl 0 rfl) ?_
      refine lv_iconst (v := 0) hx hb dX1_roomForLong_43 (by decide) ?_
      obtain ⟨r11, u12, hc13, hF⟩ := bd_some hF
      refine call_i (rest := []) E hA hP hD hS hl.1 (kX1_addressOf l D h cI cJ cZ n r8 (0 : Int32) u9 r11 u12 hc13) cw_X1_73 1 rfl rfl rfl rfl rfl (Nat.le_of_ble_eq_true rfl) ⟨Nat.le_of_ble_eq_true rfl, Nat.le_of_ble_eq_true rfl⟩ ⟨Nat.zero_le _, Nat.zero_le _⟩ dX1_roomForLong_44 (fun H locs hP hD hS => ?_)
      exact endI E hr hlocks hP hD hS dX1_roomForLong_47 hF
    · have hF := if_t hc hF
      refine lv_iconst (v := (-1)) hx hb dX1_roomForLong_37 (by decide) ?_
      refine lv_goto (tgt := 47) hx hb dX1_roomForLong_38 (by decide) ?_
      exact endI E hr hlocks hP hD hS dX1_roomForLong_47 hF
theorem cw_X1_67 : cwd RX1 67 RX1 yX1_roomForSmall cX1_roomForSmall 3 (some .int) 1 := ⟨tb_V (tb_in 556 (by decide +kernel) (by decide +kernel)) (tb_in 558 (by decide +kernel) (by decide +kernel)) (tb_in 20 (by decide +kernel) (by decide +kernel)) (tb_in 47 (by decide +kernel) (by decide +kernel)) (tb_in 559 (by decide +kernel) (by decide +kernel)), by decide +kernel⟩
theorem cw_X1_70 : cwd RX1 70 RX1 yX1_roomForLong cX1_roomForLong 4 (some .int) 1 := ⟨tb_V (tb_in 566 (by decide +kernel) (by decide +kernel)) (tb_in 568 (by decide +kernel) (by decide +kernel)) (tb_in 22 (by decide +kernel) (by decide +kernel)) (tb_in 47 (by decide +kernel) (by decide +kernel)) (tb_in 569 (by decide +kernel) (by decide +kernel)), by decide +kernel⟩
-- LooseHeap$Space.roomFor
def FX1_roomFor (n : Nat) (x1 : Int32) (st : St) : Option (Int32 × St) := (if (st.1 1 5) < x1 then bd (FX1_roomForLong n x1 st) (fun r1 u2 => some (r1, u2)) else bd (FX1_roomForSmall n x1 st) (fun r4 u5 => some (r4, u5)))
set_option maxHeartbeats 4000000 in
set_option maxRecDepth 100000 in
theorem kX1_roomFor (l : Launch) (D : va_G) (h : Nat → Nat) (cI cJ cZ : ClassId) (n : Nat) (x1 : Int32) (st : St) (r : Int32) (u : St) (hF : FX1_roomFor n x1 st = some (r, u)) : Ci l yX1_roomFor cX1_roomFor 2 (some .int) 3 66 D (tyL cI cJ cZ) (wX h cI cJ cZ) st [.ref (h 1), .int x1] r u := by
  refine body_i (by decide +kernel) (Nat.le_of_ble_eq_true rfl) ?_
  intro p e s m below meth c A ls E hr hlocks hA hP hD hS hl
  have E : Env1 p s m _ c cX1_roomFor 2 RX1 D (tyL cI cJ cZ) := E
  have hl : lv_has ls 2 [(0, .ref (h 1)), (1, .int x1)] := hl
  have hx := E.1.1
  have hb := E.1.2.1
  have hml := E.1.2.2.1
  unfold FX1_roomFor at hF
  refine lv_iload_n hx hb dX1_roomFor_0 rfl (lv_at hl 1 rfl) ?_
  refine lv_aload_n hx hb dX1_roomFor_1 rfl (lv_at hl 0 rfl) ?_
  refine g_1_5 E hP dX1_roomFor_2 ?_
  refine lv_icmp_gt (tgt := 16) hx hb dX1_roomFor_5 (by decide) (fun hc => ?_) (fun hc => ?_)
  · have hF := if_t hc hF
    refine lv_aload_n hx hb dX1_roomFor_16 rfl (lv_at hl 0 rfl) ?_
    refine lv_iload_n hx hb dX1_roomFor_17 rfl (lv_at hl 1 rfl) ?_
    obtain ⟨r1, u2, hc3, hF⟩ := bd_some hF
    refine call_i (rest := []) E hA hP hD hS hl.1 (kX1_roomForLong l D h cI cJ cZ n x1 st r1 u2 hc3) cw_X1_70 1 rfl rfl rfl rfl rfl (Nat.le_of_ble_eq_true rfl) ⟨Nat.le_of_ble_eq_true rfl, Nat.le_of_ble_eq_true rfl⟩ ⟨Nat.zero_le _, Nat.zero_le _⟩ dX1_roomFor_18 (fun H locs hP hD hS => ?_)
    exact endI E hr hlocks hP hD hS dX1_roomFor_21 hF
  · have hF := if_f hc hF
    refine lv_aload_n hx hb dX1_roomFor_8 rfl (lv_at hl 0 rfl) ?_
    refine lv_iload_n hx hb dX1_roomFor_9 rfl (lv_at hl 1 rfl) ?_
    obtain ⟨r4, u5, hc6, hF⟩ := bd_some hF
    refine call_i (rest := []) E hA hP hD hS hl.1 (kX1_roomForSmall l D h cI cJ cZ n x1 st r4 u5 hc6) cw_X1_67 1 rfl rfl rfl rfl rfl (Nat.le_of_ble_eq_true rfl) ⟨Nat.le_of_ble_eq_true rfl, Nat.le_of_ble_eq_true rfl⟩ ⟨Nat.zero_le _, Nat.zero_le _⟩ dX1_roomFor_10 (fun H locs hP hD hS => ?_)
    refine lv_goto (tgt := 21) hx hb dX1_roomFor_13 (by decide) ?_
    exact endI E hr hlocks hP hD hS dX1_roomFor_21 hF
