-- LooseHeap.isRoot
def FX2_isRoot (n : Nat) (x0 : Int32) (st : St) : Option (Int32 × St) := be (some ((if x0 < 0 then (0 : Int32) else (if (32 : Int32) ≤ x0 then (0 : Int32) else (1 : Int32))))) (fun v1 => gz v1 (some (v1, st)))
set_option maxHeartbeats 4000000 in
set_option maxRecDepth 100000 in
theorem kX2_isRoot (l : Launch) (D : va_G) (h : Nat → Nat) (cI cJ cZ : ClassId) (n : Nat) (x0 : Int32) (st : St) (r : Int32) (u : St) (hF : FX2_isRoot n x0 st = some (r, u)) : Ci l yX2_isRoot cX2_isRoot 1 (some .boolean) 0 0 D (tyL cI cJ cZ) (wX h cI cJ cZ) st [.int x0] r u := by
  refine body_i (by decide +kernel) (Nat.le_of_ble_eq_true rfl) ?_
  intro p e s m below meth c A ls E hr hlocks hA hP hD hS hl
  have E : Env1 p s m _ c cX2_isRoot 1 RX2 D (tyL cI cJ cZ) := E
  have hl : lv_has ls 1 [(0, .int x0)] := hl
  have hx := E.1.1
  have hb := E.1.2.1
  have hml := E.1.2.2.1
  unfold FX2_isRoot at hF
  refine lv_iload_n hx hb dX2_isRoot_0 rfl (lv_at hl 0 rfl) ?_
  obtain ⟨v1, hv, hF⟩ := be_some hF
  have hv := Option.some.inj hv
  refine dia (jpc := 15) (v1 := v1) (rest := []) (ls := ls) ?_ (fun kont => ?_)
  · skip
    exact endZ E hr hlocks hP hD hS dX2_isRoot_15 hF
  · skip
    refine lv_if_lt (tgt := 14) hx hb dX2_isRoot_1 (by decide) (fun hc => ?_) (fun hc => ?_)
    · have hv := if_t hc hv
      refine lv_iconst (v := 0) hx hb dX2_isRoot_14 (by decide) ?_
      exact topE hv kont
    · have hv := if_f hc hv
      refine lv_iload_n hx hb dX2_isRoot_4 rfl (lv_at hl 0 rfl) ?_
      refine lv_bipush (v := 32) hx hb dX2_isRoot_5 (by decide) ?_
      refine lv_icmp_ge (tgt := 14) hx hb dX2_isRoot_7 (by decide) (fun hc => ?_) (fun hc => ?_)
      · have hv := if_t hc hv
        refine lv_iconst (v := 0) hx hb dX2_isRoot_14 (by decide) ?_
        exact topE hv kont
      · have hv := if_f hc hv
        refine lv_iconst (v := 1) hx hb dX2_isRoot_10 (by decide) ?_
        refine lv_goto (tgt := 15) hx hb dX2_isRoot_11 (by decide) ?_
        exact topE hv kont
theorem cw_X2_164 : cwd RX2 164 RX1 yX1_startOver cX1_startOver 3 none 2 := ⟨tb_V (tb_in 164 (by decide +kernel) (by decide +kernel)) (tb_in 165 (by decide +kernel) (by decide +kernel)) (tb_in 166 (by decide +kernel) (by decide +kernel)) (tb_in 47 (by decide +kernel) (by decide +kernel)) (tb_in 167 (by decide +kernel) (by decide +kernel)), by decide +kernel⟩
theorem cw_X2_165 : cwd RX2 165 RX0 yX0_startOver cX0_startOver 1 none 0 := ⟨tb_V (tb_in 174 (by decide +kernel) (by decide +kernel)) (tb_in 175 (by decide +kernel) (by decide +kernel)) (tb_in 176 (by decide +kernel) (by decide +kernel)) (tb_in 48 (by decide +kernel) (by decide +kernel)) (tb_in 177 (by decide +kernel) (by decide +kernel)), by decide +kernel⟩
-- LooseHeap.startOver
def FX2_startOver (n : Nat) (x1 x2 : Int32) (st : St) : Option (Int32 × St) := bd (FX1_startOver n x1 x2 st) (fun r1 u2 => bd (FX0_startOver n  u2) (fun r4 u5 => some ((0 : Int32), (pf (pf u5 3 (flI 32 (-1 : Int32) (u5.1 3))) 4 (flI 32 (-1 : Int32) ((pf u5 3 (flI 32 (-1 : Int32) (u5.1 3))).1 4))))))
set_option maxHeartbeats 4000000 in
set_option maxRecDepth 100000 in
theorem kX2_startOver (l : Launch) (D : va_G) (h : Nat → Nat) (cI cJ cZ : ClassId) (n : Nat) (x1 x2 : Int32) (st : St) (r : Int32) (u : St) (hF : FX2_startOver n x1 x2 st = some (r, u)) : Cv l yX2_startOver cX2_startOver 3 2 62 D (tyL cI cJ cZ) (wX h cI cJ cZ) st [.ref (h 0), .int x1, .int x2] u := by
  refine body_v (by decide +kernel) (Nat.le_of_ble_eq_true rfl) ?_
  intro p e s m below meth c A ls E hr hlocks hA hP hD hS hl
  have E : Env1 p s m _ c cX2_startOver 3 RX2 D (tyL cI cJ cZ) := E
  have hl : lv_has ls 3 [(0, .ref (h 0)), (1, .int x1), (2, .int x2)] := hl
  have hx := E.1.1
  have hb := E.1.2.1
  have hml := E.1.2.2.1
  unfold FX2_startOver at hF
  refine lv_aload_n hx hb dX2_startOver_0 rfl (lv_at hl 0 rfl) ?_
  refine g_0_0 E hP dX2_startOver_1 ?_
  refine lv_iload_n hx hb dX2_startOver_4 rfl (lv_at hl 1 rfl) ?_
  refine lv_iload_n hx hb dX2_startOver_5 rfl (lv_at hl 2 rfl) ?_
  obtain ⟨r1, u2, hc3, hF⟩ := bd_some hF
  refine call_v (rest := []) E hA hP hD hS hl.1 (kX1_startOver l D h cI cJ cZ n x1 x2 st r1 u2 hc3) cw_X2_164 1 rfl rfl rfl rfl rfl (Nat.le_of_ble_eq_true rfl) ⟨Nat.le_of_ble_eq_true rfl, Nat.le_of_ble_eq_true rfl⟩ ⟨Nat.zero_le _, Nat.zero_le _⟩ dX2_startOver_6 (fun H locs hP hD hS => ?_)
  refine lv_aload_n hx hb dX2_startOver_9 rfl (lv_at hl 0 rfl) ?_
  refine g_0_1 E hP dX2_startOver_10 ?_
  obtain ⟨r4, u5, hc6, hF⟩ := bd_some hF
  refine call_v (rest := []) E hA hP hD hS hl.1 (kX0_startOver l D h cI cJ cZ n  u2 r4 u5 hc6) cw_X2_165 2 rfl rfl rfl rfl rfl (Nat.le_of_ble_eq_true rfl) ⟨Nat.le_of_ble_eq_true rfl, Nat.le_of_ble_eq_true rfl⟩ ⟨Nat.zero_le _, Nat.zero_le _⟩ dX2_startOver_13 (fun H locs hP hD hS => ?_)
  refine lv_aload_n hx hb dX2_startOver_16 rfl (lv_at hl 0 rfl) ?_
  refine g_0_2 E hP dX2_startOver_17 ?_
  refine lv_iconst (v := (-1)) hx hb dX2_startOver_20 (by decide) ?_
  refine fill_3 E hA hP hD hS hl.1 ml_X2_167 (rest := []) (Nat.le_of_ble_eq_true rfl) ⟨Nat.le_of_ble_eq_true rfl, Nat.le_of_ble_eq_true rfl⟩ dX2_startOver_21 (fun H locs hP hD hS => ?_)
  refine lv_aload_n hx hb dX2_startOver_24 rfl (lv_at hl 0 rfl) ?_
  refine g_0_3 E hP dX2_startOver_25 ?_
  refine lv_iconst (v := (-1)) hx hb dX2_startOver_28 (by decide) ?_
  refine fill_4 E hA hP hD hS hl.1 ml_X2_167 (rest := []) (Nat.le_of_ble_eq_true rfl) ⟨Nat.le_of_ble_eq_true rfl, Nat.le_of_ble_eq_true rfl⟩ dX2_startOver_29 (fun H locs hP hD hS => ?_)
  exact endV E hr hlocks hP hD hS dX2_startOver_32 hF
theorem cw_X2_57 : cwd RX2 57 RX0 yX0_run cX0_run 3 (some .boolean) 2 := ⟨tb_V (tb_in 197 (by decide +kernel) (by decide +kernel)) (tb_in 198 (by decide +kernel) (by decide +kernel)) (tb_in 199 (by decide +kernel) (by decide +kernel)) (tb_in 48 (by decide +kernel) (by decide +kernel)) (tb_in 200 (by decide +kernel) (by decide +kernel)), by decide +kernel⟩
theorem cw_X2_94 : cwd RX2 94 RX1 yX1_usedPages cX1_usedPages 3 (some .int) 0 := ⟨tb_V (tb_in 357 (by decide +kernel) (by decide +kernel)) (tb_in 358 (by decide +kernel) (by decide +kernel)) (tb_in 359 (by decide +kernel) (by decide +kernel)) (tb_in 47 (by decide +kernel) (by decide +kernel)) (tb_in 360 (by decide +kernel) (by decide +kernel)), by decide +kernel⟩
-- LooseHeap.collect
def FX2_collect (n : Nat) (st : St) : Option (Int32 × St) := bd (FX0_run n  st) (fun r1 u2 => (if r1 = 0 then some ((-1 : Int32), u2) else bd (FX1_usedPages n  u2) (fun r4 u5 => some (r4, u5))))
set_option maxHeartbeats 4000000 in
set_option maxRecDepth 100000 in
theorem kX2_collect (l : Launch) (D : va_G) (h : Nat → Nat) (cI cJ cZ : ClassId) (n : Nat) (st : St) (r : Int32) (u : St) (hF : FX2_collect n  st = some (r, u)) : Ci l yX2_collect cX2_collect 1 (some .int) 6 168 D (tyL cI cJ cZ) (wX h cI cJ cZ) st [.ref (h 0)] r u := by
  refine body_i (by decide +kernel) (Nat.le_of_ble_eq_true rfl) ?_
  intro p e s m below meth c A ls E hr hlocks hA hP hD hS hl
  have E : Env1 p s m _ c cX2_collect 1 RX2 D (tyL cI cJ cZ) := E
  have hl : lv_has ls 1 [(0, .ref (h 0))] := hl
  have hx := E.1.1
  have hb := E.1.2.1
  have hml := E.1.2.2.1
  unfold FX2_collect at hF
  refine lv_aload_n hx hb dX2_collect_0 rfl (lv_at hl 0 rfl) ?_
  refine g_0_1 E hP dX2_collect_1 ?_
  refine lv_aload_n hx hb dX2_collect_4 rfl (lv_at hl 0 rfl) ?_
  refine g_0_2 E hP dX2_collect_5 ?_
  refine lv_aload_n hx hb dX2_collect_8 rfl (lv_at hl 0 rfl) ?_
  refine g_0_3 E hP dX2_collect_9 ?_
  obtain ⟨r1, u2, hc3, hF⟩ := bd_some hF
  refine call_i (rest := []) E hA hP hD hS hl.1 (kX0_run l D h cI cJ cZ n  st r1 u2 hc3) cw_X2_57 2 rfl rfl rfl rfl rfl (Nat.le_of_ble_eq_true rfl) ⟨Nat.le_of_ble_eq_true rfl, Nat.le_of_ble_eq_true rfl⟩ ⟨Nat.zero_le _, Nat.zero_le _⟩ dX2_collect_12 (fun H locs hP hD hS => ?_)
  refine lv_if_eq (tgt := 28) hx hb dX2_collect_15 (by decide) (fun hc => ?_) (fun hc => ?_)
  · have hF := if_t hc hF
    refine lv_iconst (v := (-1)) hx hb dX2_collect_28 (by decide) ?_
    exact endI E hr hlocks hP hD hS dX2_collect_29 hF
  · have hF := if_f hc hF
    refine lv_aload_n hx hb dX2_collect_18 rfl (lv_at hl 0 rfl) ?_
    refine g_0_0 E hP dX2_collect_19 ?_
    obtain ⟨r4, u5, hc6, hF⟩ := bd_some hF
    refine call_i (rest := []) E hA hP hD hS hl.1 (kX1_usedPages l D h cI cJ cZ n  u2 r4 u5 hc6) cw_X2_94 1 rfl rfl rfl rfl rfl (Nat.le_of_ble_eq_true rfl) ⟨Nat.le_of_ble_eq_true rfl, Nat.le_of_ble_eq_true rfl⟩ ⟨Nat.zero_le _, Nat.zero_le _⟩ dX2_collect_22 (fun H locs hP hD hS => ?_)
    refine lv_goto (tgt := 29) hx hb dX2_collect_25 (by decide) ?_
    exact endI E hr hlocks hP hD hS dX2_collect_29 hF
theorem cw_X2_98 : cwt RX2 98 yX2_isRoot cX2_isRoot 1 (some .boolean) 1 := ⟨tb_S (tb_in 365 (by decide +kernel) (by decide +kernel)) (tb_in 366 (by decide +kernel) (by decide +kernel)) (tb_in 46 (by decide +kernel) (by decide +kernel)) (tb_in 367 (by decide +kernel) (by decide +kernel)), by decide +kernel⟩
-- LooseHeap.root
def FX2_root (n : Nat) (x1 : Int32) (st : St) : Option (Int32 × St) := bd (FX2_isRoot n x1 st) (fun r1 u2 => be ((if r1 = 0 then some (-1 : Int32) else gd x1 32 (some (u2.1 3 x1.toNatClampNeg)))) (fun v5 => some (v5, u2)))
set_option maxHeartbeats 4000000 in
set_option maxRecDepth 100000 in
theorem kX2_root (l : Launch) (D : va_G) (h : Nat → Nat) (cI cJ cZ : ClassId) (n : Nat) (x1 : Int32) (st : St) (r : Int32) (u : St) (hF : FX2_root n x1 st = some (r, u)) : Ci l yX2_root cX2_root 2 (some .int) 1 20 D (tyL cI cJ cZ) (wX h cI cJ cZ) st [.ref (h 0), .int x1] r u := by
  refine body_i (by decide +kernel) (Nat.le_of_ble_eq_true rfl) ?_
  intro p e s m below meth c A ls E hr hlocks hA hP hD hS hl
  have E : Env1 p s m _ c cX2_root 2 RX2 D (tyL cI cJ cZ) := E
  have hl : lv_has ls 2 [(0, .ref (h 0)), (1, .int x1)] := hl
  have hx := E.1.1
  have hb := E.1.2.1
  have hml := E.1.2.2.1
  unfold FX2_root at hF
  refine lv_iload_n hx hb dX2_root_0 rfl (lv_at hl 1 rfl) ?_
  obtain ⟨r1, u2, hc3, hF⟩ := bd_some hF
  refine calls_i (rest := []) E hA hP hD hS hl.1 (kX2_isRoot l D h cI cJ cZ n x1 st r1 u2 hc3) cw_X2_98 rfl rfl (Nat.le_of_ble_eq_true rfl) ⟨Nat.le_of_ble_eq_true rfl, Nat.le_of_ble_eq_true rfl⟩ ⟨Nat.zero_le _, Nat.zero_le _⟩ dX2_root_1 (fun H locs hP hD hS => ?_)
  obtain ⟨v5, hv, hF⟩ := be_some hF
  refine dia (jpc := 17) (v1 := v5) (rest := []) (ls := ls) ?_ (fun kont => ?_)
  · skip
    exact endI E hr hlocks hP hD hS dX2_root_17 hF
  · skip
    refine lv_if_eq (tgt := 16) hx hb dX2_root_4 (by decide) (fun hc => ?_) (fun hc => ?_)
    · have hv := if_t hc hv
      refine lv_iconst (v := (-1)) hx hb dX2_root_16 (by decide) ?_
      exact topE (Option.some.inj hv) kont
    · have hv := if_f hc hv
      refine lv_aload_n hx hb dX2_root_7 rfl (lv_at hl 0 rfl) ?_
      refine g_0_2 E hP dX2_root_8 ?_
      refine lv_iload_n hx hb dX2_root_11 rfl (lv_at hl 1 rfl) ?_
      obtain ⟨hi6, hv⟩ := gd_some hv
      refine la_3 E hP hi6 dX2_root_12 ?_
      refine lv_goto (tgt := 17) hx hb dX2_root_13 (by decide) ?_
      exact topE (Option.some.inj hv) kont
theorem cw_X2_101 : cwd RX2 101 RX1 yX1_isAddress cX1_isAddress 2 (some .boolean) 1 := ⟨tb_V (tb_in 372 (by decide +kernel) (by decide +kernel)) (tb_in 210 (by decide +kernel) (by decide +kernel)) (tb_in 211 (by decide +kernel) (by decide +kernel)) (tb_in 47 (by decide +kernel) (by decide +kernel)) (tb_in 212 (by decide +kernel) (by decide +kernel)), by decide +kernel⟩
theorem cw_X2_104 : cwd RX2 104 RX1 yX1_wordAt cX1_wordAt 2 (some .int) 1 := ⟨tb_V (tb_in 373 (by decide +kernel) (by decide +kernel)) (tb_in 374 (by decide +kernel) (by decide +kernel)) (tb_in 375 (by decide +kernel) (by decide +kernel)) (tb_in 47 (by decide +kernel) (by decide +kernel)) (tb_in 376 (by decide +kernel) (by decide +kernel)), by decide +kernel⟩
-- LooseHeap.word
def FX2_word (n : Nat) (x1 : Int32) (st : St) : Option (Int32 × St) := bd (FX1_isAddress n x1 st) (fun r1 u2 => (if r1 = 0 then some ((0 : Int32), u2) else bd (FX1_wordAt n x1 u2) (fun r4 u5 => some (r4, u5))))
set_option maxHeartbeats 4000000 in
set_option maxRecDepth 100000 in
theorem kX2_word (l : Launch) (D : va_G) (h : Nat → Nat) (cI cJ cZ : ClassId) (n : Nat) (x1 : Int32) (st : St) (r : Int32) (u : St) (hF : FX2_word n x1 st = some (r, u)) : Ci l yX2_word cX2_word 2 (some .int) 1 21 D (tyL cI cJ cZ) (wX h cI cJ cZ) st [.ref (h 0), .int x1] r u := by
  refine body_i (by decide +kernel) (Nat.le_of_ble_eq_true rfl) ?_
  intro p e s m below meth c A ls E hr hlocks hA hP hD hS hl
  have E : Env1 p s m _ c cX2_word 2 RX2 D (tyL cI cJ cZ) := E
  have hl : lv_has ls 2 [(0, .ref (h 0)), (1, .int x1)] := hl
  have hx := E.1.1
  have hb := E.1.2.1
  have hml := E.1.2.2.1
  unfold FX2_word at hF
  refine lv_aload_n hx hb dX2_word_0 rfl (lv_at hl 0 rfl) ?_
  refine g_0_0 E hP dX2_word_1 ?_
  refine lv_iload_n hx hb dX2_word_4 rfl (lv_at hl 1 rfl) ?_
  obtain ⟨r1, u2, hc3, hF⟩ := bd_some hF
  refine call_i (rest := []) E hA hP hD hS hl.1 (kX1_isAddress l D h cI cJ cZ n x1 st r1 u2 hc3) cw_X2_101 1 rfl rfl rfl rfl rfl (Nat.le_of_ble_eq_true rfl) ⟨Nat.le_of_ble_eq_true rfl, Nat.le_of_ble_eq_true rfl⟩ ⟨Nat.zero_le _, Nat.zero_le _⟩ dX2_word_5 (fun H locs hP hD hS => ?_)
  refine lv_if_eq (tgt := 22) hx hb dX2_word_8 (by decide) (fun hc => ?_) (fun hc => ?_)
  · have hF := if_t hc hF
    refine lv_iconst (v := 0) hx hb dX2_word_22 (by decide) ?_
    exact endI E hr hlocks hP hD hS dX2_word_23 hF
  · have hF := if_f hc hF
    refine lv_aload_n hx hb dX2_word_11 rfl (lv_at hl 0 rfl) ?_
    refine g_0_0 E hP dX2_word_12 ?_
    refine lv_iload_n hx hb dX2_word_15 rfl (lv_at hl 1 rfl) ?_
    obtain ⟨r4, u5, hc6, hF⟩ := bd_some hF
    refine call_i (rest := []) E hA hP hD hS hl.1 (kX1_wordAt l D h cI cJ cZ n x1 u2 r4 u5 hc6) cw_X2_104 1 rfl rfl rfl rfl rfl (Nat.le_of_ble_eq_true rfl) ⟨Nat.le_of_ble_eq_true rfl, Nat.le_of_ble_eq_true rfl⟩ ⟨Nat.zero_le _, Nat.zero_le _⟩ dX2_word_16 (fun H locs hP hD hS => ?_)
    refine lv_goto (tgt := 23) hx hb dX2_word_19 (by decide) ?_
    exact endI E hr hlocks hP hD hS dX2_word_23 hF
theorem cw_X2_78 : cwd RX2 78 RX1 yX1_dataOf cX1_dataOf 2 (some .int) 1 := ⟨tb_V (tb_in 383 (by decide +kernel) (by decide +kernel)) (tb_in 283 (by decide +kernel) (by decide +kernel)) (tb_in 284 (by decide +kernel) (by decide +kernel)) (tb_in 47 (by decide +kernel) (by decide +kernel)) (tb_in 285 (by decide +kernel) (by decide +kernel)), by decide +kernel⟩
theorem cw_X2_90 : cwd RX2 90 RX1 yX1_beginsAt cX1_beginsAt 2 (some .boolean) 1 := ⟨tb_V (tb_in 381 (by decide +kernel) (by decide +kernel)) (tb_in 254 (by decide +kernel) (by decide +kernel)) (tb_in 255 (by decide +kernel) (by decide +kernel)) (tb_in 47 (by decide +kernel) (by decide +kernel)) (tb_in 256 (by decide +kernel) (by decide +kernel)), by decide +kernel⟩
theorem cw_X2_107 : cwd RX2 107 RX1 yX1_refsOf cX1_refsOf 2 (some .int) 1 := ⟨tb_V (tb_in 382 (by decide +kernel) (by decide +kernel)) (tb_in 279 (by decide +kernel) (by decide +kernel)) (tb_in 280 (by decide +kernel) (by decide +kernel)) (tb_in 47 (by decide +kernel) (by decide +kernel)) (tb_in 281 (by decide +kernel) (by decide +kernel)), by decide +kernel⟩
theorem cw_X2_110 : cwd RX2 110 RX1 yX1_sizeOf cX1_sizeOf 2 (some .int) 1 := ⟨tb_V (tb_in 384 (by decide +kernel) (by decide +kernel)) (tb_in 275 (by decide +kernel) (by decide +kernel)) (tb_in 276 (by decide +kernel) (by decide +kernel)) (tb_in 47 (by decide +kernel) (by decide +kernel)) (tb_in 277 (by decide +kernel) (by decide +kernel)), by decide +kernel⟩
-- LooseHeap.object
def FX2_object (n : Nat) (x1 x2 : Int32) (st : St) : Option (Int32 × St) := bd (FX1_beginsAt n x1 st) (fun r1 u2 => (if r1 = 0 then some ((-1 : Int32), u2) else (if x2 = (0 : Int32) then bd (FX1_refsOf n x1 u2) (fun r4 u5 => some (r4, u5)) else (if x2 = (1 : Int32) then bd (FX1_dataOf n x1 u2) (fun r7 u8 => some (r7, u8)) else (if x2 = (2 : Int32) then bd (FX1_sizeOf n x1 u2) (fun r10 u11 => some (r10, u11)) else some ((-1 : Int32), u2))))))
set_option maxHeartbeats 4000000 in
set_option maxRecDepth 100000 in
theorem kX2_object (l : Launch) (D : va_G) (h : Nat → Nat) (cI cJ cZ : ClassId) (n : Nat) (x1 x2 : Int32) (st : St) (r : Int32) (u : St) (hF : FX2_object n x1 x2 st = some (r, u)) : Ci l yX2_object cX2_object 3 (some .int) 2 42 D (tyL cI cJ cZ) (wX h cI cJ cZ) st [.ref (h 0), .int x1, .int x2] r u := by
  refine body_i (by decide +kernel) (Nat.le_of_ble_eq_true rfl) ?_
  intro p e s m below meth c A ls E hr hlocks hA hP hD hS hl
  have E : Env1 p s m _ c cX2_object 3 RX2 D (tyL cI cJ cZ) := E
  have hl : lv_has ls 3 [(0, .ref (h 0)), (1, .int x1), (2, .int x2)] := hl
  have hx := E.1.1
  have hb := E.1.2.1
  have hml := E.1.2.2.1
  unfold FX2_object at hF
  refine lv_aload_n hx hb dX2_object_0 rfl (lv_at hl 0 rfl) ?_
  refine g_0_0 E hP dX2_object_1 ?_
  refine lv_iload_n hx hb dX2_object_4 rfl (lv_at hl 1 rfl) ?_
  obtain ⟨r1, u2, hc3, hF⟩ := bd_some hF
  refine call_i (rest := []) E hA hP hD hS hl.1 (kX1_beginsAt l D h cI cJ cZ n x1 st r1 u2 hc3) cw_X2_90 1 rfl rfl rfl rfl rfl (Nat.le_of_ble_eq_true rfl) ⟨Nat.le_of_ble_eq_true rfl, Nat.le_of_ble_eq_true rfl⟩ ⟨Nat.zero_le _, Nat.zero_le _⟩ dX2_object_5 (fun H locs hP hD hS => ?_)
  refine lv_if_ne (tgt := 13) hx hb dX2_object_8 (by decide) (fun hc => ?_) (fun hc => ?_)
  · have hF := if_f hc hF
    refine lv_iload_n hx hb dX2_object_13 rfl (lv_at hl 2 rfl) ?_
    by_cases hk0 : x2 = (0 : Int32)
    · have hF := if_t hk0 hF
      refine lv_tableIn (tgt := 40) hx hb dX2_object_14 (by rw [hk0]; decide) (by rw [hk0]; decide) (by rw [hk0]; rfl) (by decide) ?_
      refine lv_aload_n hx hb dX2_object_40 rfl (lv_at hl 0 rfl) ?_
      refine g_0_0 E hP dX2_object_41 ?_
      refine lv_iload_n hx hb dX2_object_44 rfl (lv_at hl 1 rfl) ?_
      obtain ⟨r4, u5, hc6, hF⟩ := bd_some hF
      refine call_i (rest := []) E hA hP hD hS hl.1 (kX1_refsOf l D h cI cJ cZ n x1 u2 r4 u5 hc6) cw_X2_107 1 rfl rfl rfl rfl rfl (Nat.le_of_ble_eq_true rfl) ⟨Nat.le_of_ble_eq_true rfl, Nat.le_of_ble_eq_true rfl⟩ ⟨Nat.zero_le _, Nat.zero_le _⟩ dX2_object_45 (fun H locs hP hD hS => ?_)
      exact endI E hr hlocks hP hD hS dX2_object_48 hF
    have hF := if_f hk0 hF
    by_cases hk1 : x2 = (1 : Int32)
    · have hF := if_t hk1 hF
      refine lv_tableIn (tgt := 49) hx hb dX2_object_14 (by rw [hk1]; decide) (by rw [hk1]; decide) (by rw [hk1]; rfl) (by decide) ?_
      refine lv_aload_n hx hb dX2_object_49 rfl (lv_at hl 0 rfl) ?_
      refine g_0_0 E hP dX2_object_50 ?_
      refine lv_iload_n hx hb dX2_object_53 rfl (lv_at hl 1 rfl) ?_
      obtain ⟨r7, u8, hc9, hF⟩ := bd_some hF
      refine call_i (rest := []) E hA hP hD hS hl.1 (kX1_dataOf l D h cI cJ cZ n x1 u2 r7 u8 hc9) cw_X2_78 1 rfl rfl rfl rfl rfl (Nat.le_of_ble_eq_true rfl) ⟨Nat.le_of_ble_eq_true rfl, Nat.le_of_ble_eq_true rfl⟩ ⟨Nat.zero_le _, Nat.zero_le _⟩ dX2_object_54 (fun H locs hP hD hS => ?_)
      exact endI E hr hlocks hP hD hS dX2_object_57 hF
    have hF := if_f hk1 hF
    by_cases hk2 : x2 = (2 : Int32)
    · have hF := if_t hk2 hF
      refine lv_tableIn (tgt := 58) hx hb dX2_object_14 (by rw [hk2]; decide) (by rw [hk2]; decide) (by rw [hk2]; rfl) (by decide) ?_
      refine lv_aload_n hx hb dX2_object_58 rfl (lv_at hl 0 rfl) ?_
      refine g_0_0 E hP dX2_object_59 ?_
      refine lv_iload_n hx hb dX2_object_62 rfl (lv_at hl 1 rfl) ?_
      obtain ⟨r10, u11, hc12, hF⟩ := bd_some hF
      refine call_i (rest := []) E hA hP hD hS hl.1 (kX1_sizeOf l D h cI cJ cZ n x1 u2 r10 u11 hc12) cw_X2_110 1 rfl rfl rfl rfl rfl (Nat.le_of_ble_eq_true rfl) ⟨Nat.le_of_ble_eq_true rfl, Nat.le_of_ble_eq_true rfl⟩ ⟨Nat.zero_le _, Nat.zero_le _⟩ dX2_object_63 (fun H locs hP hD hS => ?_)
      exact endI E hr hlocks hP hD hS dX2_object_66 hF
    have hF := if_f hk2 hF
    refine lv_tableOut (tgt := 67) hx hb dX2_object_14 (sw_out2 hk0 hk1 hk2) (by decide) ?_
    refine lv_iconst (v := (-1)) hx hb dX2_object_67 (by decide) ?_
    exact endI E hr hlocks hP hD hS dX2_object_68 hF
  · have hF := if_t hc hF
    refine lv_iconst (v := (-1)) hx hb dX2_object_11 (by decide) ?_
    exact endI E hr hlocks hP hD hS dX2_object_12 hF
theorem cw_X2_113 : cwd RX2 113 RX1 yX1_isPage cX1_isPage 2 (some .boolean) 1 := ⟨tb_V (tb_in 389 (by decide +kernel) (by decide +kernel)) (tb_in 390 (by decide +kernel) (by decide +kernel)) (tb_in 391 (by decide +kernel) (by decide +kernel)) (tb_in 47 (by decide +kernel) (by decide +kernel)) (tb_in 392 (by decide +kernel) (by decide +kernel)), by decide +kernel⟩
theorem cw_X2_116 : cwd RX2 116 RX1 yX1_kindOf cX1_kindOf 2 (some .int) 1 := ⟨tb_V (tb_in 393 (by decide +kernel) (by decide +kernel)) (tb_in 394 (by decide +kernel) (by decide +kernel)) (tb_in 395 (by decide +kernel) (by decide +kernel)) (tb_in 47 (by decide +kernel) (by decide +kernel)) (tb_in 396 (by decide +kernel) (by decide +kernel)), by decide +kernel⟩
theorem cw_X2_119 : cwd RX2 119 RX1 yX1_filledOf cX1_filledOf 2 (some .int) 1 := ⟨tb_V (tb_in 397 (by decide +kernel) (by decide +kernel)) (tb_in 398 (by decide +kernel) (by decide +kernel)) (tb_in 399 (by decide +kernel) (by decide +kernel)) (tb_in 47 (by decide +kernel) (by decide +kernel)) (tb_in 400 (by decide +kernel) (by decide +kernel)), by decide +kernel⟩
theorem cw_X2_122 : cwd RX2 122 RX1 yX1_objectsOf cX1_objectsOf 2 (some .int) 1 := ⟨tb_V (tb_in 401 (by decide +kernel) (by decide +kernel)) (tb_in 402 (by decide +kernel) (by decide +kernel)) (tb_in 403 (by decide +kernel) (by decide +kernel)) (tb_in 47 (by decide +kernel) (by decide +kernel)) (tb_in 404 (by decide +kernel) (by decide +kernel)), by decide +kernel⟩
theorem cw_X2_125 : cwd RX2 125 RX0 yX0_hitOf cX0_hitOf 2 (some .int) 1 := ⟨tb_V (tb_in 411 (by decide +kernel) (by decide +kernel)) (tb_in 412 (by decide +kernel) (by decide +kernel)) (tb_in 413 (by decide +kernel) (by decide +kernel)) (tb_in 48 (by decide +kernel) (by decide +kernel)) (tb_in 414 (by decide +kernel) (by decide +kernel)), by decide +kernel⟩
-- LooseHeap.page
def FX2_page (n : Nat) (x1 x2 : Int32) (st : St) : Option (Int32 × St) := bd (FX1_isPage n x1 st) (fun r1 u2 => (if r1 = 0 then some ((-1 : Int32), u2) else (if x2 = (0 : Int32) then bd (FX1_kindOf n x1 u2) (fun r4 u5 => some (r4, u5)) else (if x2 = (1 : Int32) then bd (FX1_filledOf n x1 u2) (fun r7 u8 => some (r7, u8)) else (if x2 = (2 : Int32) then bd (FX1_objectsOf n x1 u2) (fun r10 u11 => some (r10, u11)) else (if x2 = (3 : Int32) then bd (FX0_hitOf n x1 u2) (fun r13 u14 => some (r13, u14)) else some ((-1 : Int32), u2)))))))
set_option maxHeartbeats 4000000 in
set_option maxRecDepth 100000 in
theorem kX2_page (l : Launch) (D : va_G) (h : Nat → Nat) (cI cJ cZ : ClassId) (n : Nat) (x1 x2 : Int32) (st : St) (r : Int32) (u : St) (hF : FX2_page n x1 x2 st = some (r, u)) : Ci l yX2_page cX2_page 3 (some .int) 2 81 D (tyL cI cJ cZ) (wX h cI cJ cZ) st [.ref (h 0), .int x1, .int x2] r u := by
  refine body_i (by decide +kernel) (Nat.le_of_ble_eq_true rfl) ?_
  intro p e s m below meth c A ls E hr hlocks hA hP hD hS hl
  have E : Env1 p s m _ c cX2_page 3 RX2 D (tyL cI cJ cZ) := E
  have hl : lv_has ls 3 [(0, .ref (h 0)), (1, .int x1), (2, .int x2)] := hl
  have hx := E.1.1
  have hb := E.1.2.1
  have hml := E.1.2.2.1
  unfold FX2_page at hF
  refine lv_aload_n hx hb dX2_page_0 rfl (lv_at hl 0 rfl) ?_
  refine g_0_0 E hP dX2_page_1 ?_
  refine lv_iload_n hx hb dX2_page_4 rfl (lv_at hl 1 rfl) ?_
  obtain ⟨r1, u2, hc3, hF⟩ := bd_some hF
  refine call_i (rest := []) E hA hP hD hS hl.1 (kX1_isPage l D h cI cJ cZ n x1 st r1 u2 hc3) cw_X2_113 1 rfl rfl rfl rfl rfl (Nat.le_of_ble_eq_true rfl) ⟨Nat.le_of_ble_eq_true rfl, Nat.le_of_ble_eq_true rfl⟩ ⟨Nat.zero_le _, Nat.zero_le _⟩ dX2_page_5 (fun H locs hP hD hS => ?_)
  refine lv_if_ne (tgt := 13) hx hb dX2_page_8 (by decide) (fun hc => ?_) (fun hc => ?_)
  · have hF := if_f hc hF
    refine lv_iload_n hx hb dX2_page_13 rfl (lv_at hl 2 rfl) ?_
    by_cases hk0 : x2 = (0 : Int32)
    · have hF := if_t hk0 hF
      refine lv_tableIn (tgt := 44) hx hb dX2_page_14 (by rw [hk0]; decide) (by rw [hk0]; decide) (by rw [hk0]; rfl) (by decide) ?_
      refine lv_aload_n hx hb dX2_page_44 rfl (lv_at hl 0 rfl) ?_
      refine g_0_0 E hP dX2_page_45 ?_
      refine lv_iload_n hx hb dX2_page_48 rfl (lv_at hl 1 rfl) ?_
      obtain ⟨r4, u5, hc6, hF⟩ := bd_some hF
      refine call_i (rest := []) E hA hP hD hS hl.1 (kX1_kindOf l D h cI cJ cZ n x1 u2 r4 u5 hc6) cw_X2_116 1 rfl rfl rfl rfl rfl (Nat.le_of_ble_eq_true rfl) ⟨Nat.le_of_ble_eq_true rfl, Nat.le_of_ble_eq_true rfl⟩ ⟨Nat.zero_le _, Nat.zero_le _⟩ dX2_page_49 (fun H locs hP hD hS => ?_)
      exact endI E hr hlocks hP hD hS dX2_page_52 hF
    have hF := if_f hk0 hF
    by_cases hk1 : x2 = (1 : Int32)
    · have hF := if_t hk1 hF
      refine lv_tableIn (tgt := 53) hx hb dX2_page_14 (by rw [hk1]; decide) (by rw [hk1]; decide) (by rw [hk1]; rfl) (by decide) ?_
      refine lv_aload_n hx hb dX2_page_53 rfl (lv_at hl 0 rfl) ?_
      refine g_0_0 E hP dX2_page_54 ?_
      refine lv_iload_n hx hb dX2_page_57 rfl (lv_at hl 1 rfl) ?_
      obtain ⟨r7, u8, hc9, hF⟩ := bd_some hF
      refine call_i (rest := []) E hA hP hD hS hl.1 (kX1_filledOf l D h cI cJ cZ n x1 u2 r7 u8 hc9) cw_X2_119 1 rfl rfl rfl rfl rfl (Nat.le_of_ble_eq_true rfl) ⟨Nat.le_of_ble_eq_true rfl, Nat.le_of_ble_eq_true rfl⟩ ⟨Nat.zero_le _, Nat.zero_le _⟩ dX2_page_58 (fun H locs hP hD hS => ?_)
      exact endI E hr hlocks hP hD hS dX2_page_61 hF
    have hF := if_f hk1 hF
    by_cases hk2 : x2 = (2 : Int32)
    · have hF := if_t hk2 hF
      refine lv_tableIn (tgt := 62) hx hb dX2_page_14 (by rw [hk2]; decide) (by rw [hk2]; decide) (by rw [hk2]; rfl) (by decide) ?_
      refine lv_aload_n hx hb dX2_page_62 rfl (lv_at hl 0 rfl) ?_
      refine g_0_0 E hP dX2_page_63 ?_
      refine lv_iload_n hx hb dX2_page_66 rfl (lv_at hl 1 rfl) ?_
      obtain ⟨r10, u11, hc12, hF⟩ := bd_some hF
      refine call_i (rest := []) E hA hP hD hS hl.1 (kX1_objectsOf l D h cI cJ cZ n x1 u2 r10 u11 hc12) cw_X2_122 1 rfl rfl rfl rfl rfl (Nat.le_of_ble_eq_true rfl) ⟨Nat.le_of_ble_eq_true rfl, Nat.le_of_ble_eq_true rfl⟩ ⟨Nat.zero_le _, Nat.zero_le _⟩ dX2_page_67 (fun H locs hP hD hS => ?_)
      exact endI E hr hlocks hP hD hS dX2_page_70 hF
    have hF := if_f hk2 hF
    by_cases hk3 : x2 = (3 : Int32)
    · have hF := if_t hk3 hF
      refine lv_tableIn (tgt := 71) hx hb dX2_page_14 (by rw [hk3]; decide) (by rw [hk3]; decide) (by rw [hk3]; rfl) (by decide) ?_
      refine lv_aload_n hx hb dX2_page_71 rfl (lv_at hl 0 rfl) ?_
      refine g_0_1 E hP dX2_page_72 ?_
      refine lv_iload_n hx hb dX2_page_75 rfl (lv_at hl 1 rfl) ?_
      obtain ⟨r13, u14, hc15, hF⟩ := bd_some hF
      refine call_i (rest := []) E hA hP hD hS hl.1 (kX0_hitOf l D h cI cJ cZ n x1 u2 r13 u14 hc15) cw_X2_125 2 rfl rfl rfl rfl rfl (Nat.le_of_ble_eq_true rfl) ⟨Nat.le_of_ble_eq_true rfl, Nat.le_of_ble_eq_true rfl⟩ ⟨Nat.zero_le _, Nat.zero_le _⟩ dX2_page_76 (fun H locs hP hD hS => ?_)
      exact endI E hr hlocks hP hD hS dX2_page_79 hF
    have hF := if_f hk3 hF
    refine lv_tableOut (tgt := 80) hx hb dX2_page_14 (sw_out3 hk0 hk1 hk2 hk3) (by decide) ?_
    refine lv_iconst (v := (-1)) hx hb dX2_page_80 (by decide) ?_
    exact endI E hr hlocks hP hD hS dX2_page_81 hF
  · have hF := if_t hc hF
    refine lv_iconst (v := (-1)) hx hb dX2_page_11 (by decide) ?_
    exact endI E hr hlocks hP hD hS dX2_page_12 hF
theorem cw_X2_128 : cwd RX2 128 RX1 yX1_pages cX1_pages 1 (some .int) 0 := ⟨tb_V (tb_in 419 (by decide +kernel) (by decide +kernel)) (tb_in 238 (by decide +kernel) (by decide +kernel)) (tb_in 239 (by decide +kernel) (by decide +kernel)) (tb_in 47 (by decide +kernel) (by decide +kernel)) (tb_in 240 (by decide +kernel) (by decide +kernel)), by decide +kernel⟩
theorem cw_X2_131 : cwd RX2 131 RX1 yX1_words cX1_words 1 (some .int) 0 := ⟨tb_V (tb_in 420 (by decide +kernel) (by decide +kernel)) (tb_in 246 (by decide +kernel) (by decide +kernel)) (tb_in 247 (by decide +kernel) (by decide +kernel)) (tb_in 47 (by decide +kernel) (by decide +kernel)) (tb_in 248 (by decide +kernel) (by decide +kernel)), by decide +kernel⟩
theorem cw_X2_134 : cwd RX2 134 RX1 yX1_openPage cX1_openPage 1 (some .int) 0 := ⟨tb_V (tb_in 421 (by decide +kernel) (by decide +kernel)) (tb_in 422 (by decide +kernel) (by decide +kernel)) (tb_in 423 (by decide +kernel) (by decide +kernel)) (tb_in 47 (by decide +kernel) (by decide +kernel)) (tb_in 424 (by decide +kernel) (by decide +kernel)), by decide +kernel⟩
theorem cw_X2_137 : cwd RX2 137 RX1 yX1_allObjects cX1_allObjects 3 (some .int) 0 := ⟨tb_V (tb_in 425 (by decide +kernel) (by decide +kernel)) (tb_in 426 (by decide +kernel) (by decide +kernel)) (tb_in 427 (by decide +kernel) (by decide +kernel)) (tb_in 47 (by decide +kernel) (by decide +kernel)) (tb_in 428 (by decide +kernel) (by decide +kernel)), by decide +kernel⟩
theorem cw_X2_140 : cwd RX2 140 RX1 yX1_allFilled cX1_allFilled 3 (some .int) 0 := ⟨tb_V (tb_in 430 (by decide +kernel) (by decide +kernel)) (tb_in 431 (by decide +kernel) (by decide +kernel)) (tb_in 432 (by decide +kernel) (by decide +kernel)) (tb_in 47 (by decide +kernel) (by decide +kernel)) (tb_in 433 (by decide +kernel) (by decide +kernel)), by decide +kernel⟩
theorem cw_X2_143 : cwd RX2 143 RX0 yX0_done cX0_done 1 (some .int) 0 := ⟨tb_V (tb_in 434 (by decide +kernel) (by decide +kernel)) (tb_in 435 (by decide +kernel) (by decide +kernel)) (tb_in 436 (by decide +kernel) (by decide +kernel)) (tb_in 48 (by decide +kernel) (by decide +kernel)) (tb_in 437 (by decide +kernel) (by decide +kernel)), by decide +kernel⟩
theorem cw_X2_146 : cwd RX2 146 RX0 yX0_givenUp cX0_givenUp 1 (some .int) 0 := ⟨tb_V (tb_in 438 (by decide +kernel) (by decide +kernel)) (tb_in 439 (by decide +kernel) (by decide +kernel)) (tb_in 440 (by decide +kernel) (by decide +kernel)) (tb_in 48 (by decide +kernel) (by decide +kernel)) (tb_in 441 (by decide +kernel) (by decide +kernel)), by decide +kernel⟩
theorem cw_X2_149 : cwd RX2 149 RX0 yX0_hitPages cX0_hitPages 1 (some .int) 0 := ⟨tb_V (tb_in 442 (by decide +kernel) (by decide +kernel)) (tb_in 443 (by decide +kernel) (by decide +kernel)) (tb_in 444 (by decide +kernel) (by decide +kernel)) (tb_in 48 (by decide +kernel) (by decide +kernel)) (tb_in 445 (by decide +kernel) (by decide +kernel)), by decide +kernel⟩
theorem cw_X2_152 : cwd RX2 152 RX0 yX0_rowObjects cX0_rowObjects 1 (some .int) 0 := ⟨tb_V (tb_in 446 (by decide +kernel) (by decide +kernel)) (tb_in 447 (by decide +kernel) (by decide +kernel)) (tb_in 448 (by decide +kernel) (by decide +kernel)) (tb_in 48 (by decide +kernel) (by decide +kernel)) (tb_in 449 (by decide +kernel) (by decide +kernel)), by decide +kernel⟩
theorem cw_X2_155 : cwd RX2 155 RX0 yX0_movedObjects cX0_movedObjects 1 (some .int) 0 := ⟨tb_V (tb_in 450 (by decide +kernel) (by decide +kernel)) (tb_in 451 (by decide +kernel) (by decide +kernel)) (tb_in 452 (by decide +kernel) (by decide +kernel)) (tb_in 48 (by decide +kernel) (by decide +kernel)) (tb_in 453 (by decide +kernel) (by decide +kernel)), by decide +kernel⟩
theorem cw_X2_158 : cwd RX2 158 RX0 yX0_takenPages cX0_takenPages 1 (some .int) 0 := ⟨tb_V (tb_in 454 (by decide +kernel) (by decide +kernel)) (tb_in 455 (by decide +kernel) (by decide +kernel)) (tb_in 456 (by decide +kernel) (by decide +kernel)) (tb_in 48 (by decide +kernel) (by decide +kernel)) (tb_in 457 (by decide +kernel) (by decide +kernel)), by decide +kernel⟩
theorem cw_X2_161 : cwd RX2 161 RX0 yX0_freedPages cX0_freedPages 1 (some .int) 0 := ⟨tb_V (tb_in 458 (by decide +kernel) (by decide +kernel)) (tb_in 459 (by decide +kernel) (by decide +kernel)) (tb_in 460 (by decide +kernel) (by decide +kernel)) (tb_in 48 (by decide +kernel) (by decide +kernel)) (tb_in 461 (by decide +kernel) (by decide +kernel)), by decide +kernel⟩
-- LooseHeap.look
def FX2_look (n : Nat) (x1 : Int32) (st : St) : Option (Int32 × St) := (if x1 = (0 : Int32) then bd (FX1_pages n  st) (fun r1 u2 => some (r1, u2)) else (if x1 = (1 : Int32) then bd (FX1_words n  st) (fun r4 u5 => some (r4, u5)) else (if x1 = (2 : Int32) then bd (FX1_usedPages n  st) (fun r7 u8 => some (r7, u8)) else (if x1 = (3 : Int32) then bd (FX1_openPage n  st) (fun r10 u11 => some (r10, u11)) else (if x1 = (4 : Int32) then bd (FX1_allObjects n  st) (fun r13 u14 => some (r13, u14)) else (if x1 = (5 : Int32) then bd (FX1_allFilled n  st) (fun r16 u17 => some (r16, u17)) else (if x1 = (6 : Int32) then bd (FX0_done n  st) (fun r19 u20 => some (r19, u20)) else (if x1 = (7 : Int32) then bd (FX0_givenUp n  st) (fun r22 u23 => some (r22, u23)) else (if x1 = (8 : Int32) then bd (FX0_hitPages n  st) (fun r25 u26 => some (r25, u26)) else (if x1 = (9 : Int32) then bd (FX0_rowObjects n  st) (fun r28 u29 => some (r28, u29)) else (if x1 = (10 : Int32) then bd (FX0_movedObjects n  st) (fun r31 u32 => some (r31, u32)) else (if x1 = (11 : Int32) then bd (FX0_takenPages n  st) (fun r34 u35 => some (r34, u35)) else (if x1 = (12 : Int32) then bd (FX0_freedPages n  st) (fun r37 u38 => some (r37, u38)) else some ((-1 : Int32), st))))))))))))))
set_option maxHeartbeats 4000000 in
set_option maxRecDepth 100000 in
theorem kX2_look (l : Launch) (D : va_G) (h : Nat → Nat) (cI cJ cZ : ClassId) (n : Nat) (x1 : Int32) (st : St) (r : Int32) (u : St) (hF : FX2_look n x1 st = some (r, u)) : Ci l yX2_look cX2_look 2 (some .int) 3 103 D (tyL cI cJ cZ) (wX h cI cJ cZ) st [.ref (h 0), .int x1] r u := by
  refine body_i (by decide +kernel) (Nat.le_of_ble_eq_true rfl) ?_
  intro p e s m below meth c A ls E hr hlocks hA hP hD hS hl
  have E : Env1 p s m _ c cX2_look 2 RX2 D (tyL cI cJ cZ) := E
  have hl : lv_has ls 2 [(0, .ref (h 0)), (1, .int x1)] := hl
  have hx := E.1.1
  have hb := E.1.2.1
  have hml := E.1.2.2.1
  unfold FX2_look at hF
  refine lv_iload_n hx hb dX2_look_0 rfl (lv_at hl 1 rfl) ?_
  by_cases hk0 : x1 = (0 : Int32)
  · have hF := if_t hk0 hF
    refine lv_tableIn (tgt := 68) hx hb dX2_look_1 (by rw [hk0]; decide) (by rw [hk0]; decide) (by rw [hk0]; rfl) (by decide) ?_
    refine lv_aload_n hx hb dX2_look_68 rfl (lv_at hl 0 rfl) ?_
    refine g_0_0 E hP dX2_look_69 ?_
    obtain ⟨r1, u2, hc3, hF⟩ := bd_some hF
    refine call_i (rest := []) E hA hP hD hS hl.1 (kX1_pages l D h cI cJ cZ n  st r1 u2 hc3) cw_X2_128 1 rfl rfl rfl rfl rfl (Nat.le_of_ble_eq_true rfl) ⟨Nat.le_of_ble_eq_true rfl, Nat.le_of_ble_eq_true rfl⟩ ⟨Nat.zero_le _, Nat.zero_le _⟩ dX2_look_72 (fun H locs hP hD hS => ?_)
    exact endI E hr hlocks hP hD hS dX2_look_75 hF
  have hF := if_f hk0 hF
  by_cases hk1 : x1 = (1 : Int32)
  · have hF := if_t hk1 hF
    refine lv_tableIn (tgt := 76) hx hb dX2_look_1 (by rw [hk1]; decide) (by rw [hk1]; decide) (by rw [hk1]; rfl) (by decide) ?_
    refine lv_aload_n hx hb dX2_look_76 rfl (lv_at hl 0 rfl) ?_
    refine g_0_0 E hP dX2_look_77 ?_
    obtain ⟨r4, u5, hc6, hF⟩ := bd_some hF
    refine call_i (rest := []) E hA hP hD hS hl.1 (kX1_words l D h cI cJ cZ n  st r4 u5 hc6) cw_X2_131 1 rfl rfl rfl rfl rfl (Nat.le_of_ble_eq_true rfl) ⟨Nat.le_of_ble_eq_true rfl, Nat.le_of_ble_eq_true rfl⟩ ⟨Nat.zero_le _, Nat.zero_le _⟩ dX2_look_80 (fun H locs hP hD hS => ?_)
    exact endI E hr hlocks hP hD hS dX2_look_83 hF
  have hF := if_f hk1 hF
  by_cases hk2 : x1 = (2 : Int32)
  · have hF := if_t hk2 hF
    refine lv_tableIn (tgt := 84) hx hb dX2_look_1 (by rw [hk2]; decide) (by rw [hk2]; decide) (by rw [hk2]; rfl) (by decide) ?_
    refine lv_aload_n hx hb dX2_look_84 rfl (lv_at hl 0 rfl) ?_
    refine g_0_0 E hP dX2_look_85 ?_
    obtain ⟨r7, u8, hc9, hF⟩ := bd_some hF
    refine call_i (rest := []) E hA hP hD hS hl.1 (kX1_usedPages l D h cI cJ cZ n  st r7 u8 hc9) cw_X2_94 1 rfl rfl rfl rfl rfl (Nat.le_of_ble_eq_true rfl) ⟨Nat.le_of_ble_eq_true rfl, Nat.le_of_ble_eq_true rfl⟩ ⟨Nat.zero_le _, Nat.zero_le _⟩ dX2_look_88 (fun H locs hP hD hS => ?_)
    exact endI E hr hlocks hP hD hS dX2_look_91 hF
  have hF := if_f hk2 hF
  by_cases hk3 : x1 = (3 : Int32)
  · have hF := if_t hk3 hF
    refine lv_tableIn (tgt := 92) hx hb dX2_look_1 (by rw [hk3]; decide) (by rw [hk3]; decide) (by rw [hk3]; rfl) (by decide) ?_
    refine lv_aload_n hx hb dX2_look_92 rfl (lv_at hl 0 rfl) ?_
    refine g_0_0 E hP dX2_look_93 ?_
    obtain ⟨r10, u11, hc12, hF⟩ := bd_some hF
    refine call_i (rest := []) E hA hP hD hS hl.1 (kX1_openPage l D h cI cJ cZ n  st r10 u11 hc12) cw_X2_134 1 rfl rfl rfl rfl rfl (Nat.le_of_ble_eq_true rfl) ⟨Nat.le_of_ble_eq_true rfl, Nat.le_of_ble_eq_true rfl⟩ ⟨Nat.zero_le _, Nat.zero_le _⟩ dX2_look_96 (fun H locs hP hD hS => ?_)
    exact endI E hr hlocks hP hD hS dX2_look_99 hF
  have hF := if_f hk3 hF
  by_cases hk4 : x1 = (4 : Int32)
  · have hF := if_t hk4 hF
    refine lv_tableIn (tgt := 100) hx hb dX2_look_1 (by rw [hk4]; decide) (by rw [hk4]; decide) (by rw [hk4]; rfl) (by decide) ?_
    refine lv_aload_n hx hb dX2_look_100 rfl (lv_at hl 0 rfl) ?_
    refine g_0_0 E hP dX2_look_101 ?_
    obtain ⟨r13, u14, hc15, hF⟩ := bd_some hF
    refine call_i (rest := []) E hA hP hD hS hl.1 (kX1_allObjects l D h cI cJ cZ n  st r13 u14 hc15) cw_X2_137 1 rfl rfl rfl rfl rfl (Nat.le_of_ble_eq_true rfl) ⟨Nat.le_of_ble_eq_true rfl, Nat.le_of_ble_eq_true rfl⟩ ⟨Nat.zero_le _, Nat.zero_le _⟩ dX2_look_104 (fun H locs hP hD hS => ?_)
    exact endI E hr hlocks hP hD hS dX2_look_107 hF
  have hF := if_f hk4 hF
  by_cases hk5 : x1 = (5 : Int32)
  · have hF := if_t hk5 hF
    refine lv_tableIn (tgt := 108) hx hb dX2_look_1 (by rw [hk5]; decide) (by rw [hk5]; decide) (by rw [hk5]; rfl) (by decide) ?_
    refine lv_aload_n hx hb dX2_look_108 rfl (lv_at hl 0 rfl) ?_
    refine g_0_0 E hP dX2_look_109 ?_
    obtain ⟨r16, u17, hc18, hF⟩ := bd_some hF
    refine call_i (rest := []) E hA hP hD hS hl.1 (kX1_allFilled l D h cI cJ cZ n  st r16 u17 hc18) cw_X2_140 1 rfl rfl rfl rfl rfl (Nat.le_of_ble_eq_true rfl) ⟨Nat.le_of_ble_eq_true rfl, Nat.le_of_ble_eq_true rfl⟩ ⟨Nat.zero_le _, Nat.zero_le _⟩ dX2_look_112 (fun H locs hP hD hS => ?_)
    exact endI E hr hlocks hP hD hS dX2_look_115 hF
  have hF := if_f hk5 hF
  by_cases hk6 : x1 = (6 : Int32)
  · have hF := if_t hk6 hF
    refine lv_tableIn (tgt := 116) hx hb dX2_look_1 (by rw [hk6]; decide) (by rw [hk6]; decide) (by rw [hk6]; rfl) (by decide) ?_
    refine lv_aload_n hx hb dX2_look_116 rfl (lv_at hl 0 rfl) ?_
    refine g_0_1 E hP dX2_look_117 ?_
    obtain ⟨r19, u20, hc21, hF⟩ := bd_some hF
    refine call_i (rest := []) E hA hP hD hS hl.1 (kX0_done l D h cI cJ cZ n  st r19 u20 hc21) cw_X2_143 2 rfl rfl rfl rfl rfl (Nat.le_of_ble_eq_true rfl) ⟨Nat.le_of_ble_eq_true rfl, Nat.le_of_ble_eq_true rfl⟩ ⟨Nat.zero_le _, Nat.zero_le _⟩ dX2_look_120 (fun H locs hP hD hS => ?_)
    exact endI E hr hlocks hP hD hS dX2_look_123 hF
  have hF := if_f hk6 hF
  by_cases hk7 : x1 = (7 : Int32)
  · have hF := if_t hk7 hF
    refine lv_tableIn (tgt := 124) hx hb dX2_look_1 (by rw [hk7]; decide) (by rw [hk7]; decide) (by rw [hk7]; rfl) (by decide) ?_
    refine lv_aload_n hx hb dX2_look_124 rfl (lv_at hl 0 rfl) ?_
    refine g_0_1 E hP dX2_look_125 ?_
    obtain ⟨r22, u23, hc24, hF⟩ := bd_some hF
    refine call_i (rest := []) E hA hP hD hS hl.1 (kX0_givenUp l D h cI cJ cZ n  st r22 u23 hc24) cw_X2_146 2 rfl rfl rfl rfl rfl (Nat.le_of_ble_eq_true rfl) ⟨Nat.le_of_ble_eq_true rfl, Nat.le_of_ble_eq_true rfl⟩ ⟨Nat.zero_le _, Nat.zero_le _⟩ dX2_look_128 (fun H locs hP hD hS => ?_)
    exact endI E hr hlocks hP hD hS dX2_look_131 hF
  have hF := if_f hk7 hF
  by_cases hk8 : x1 = (8 : Int32)
  · have hF := if_t hk8 hF
    refine lv_tableIn (tgt := 132) hx hb dX2_look_1 (by rw [hk8]; decide) (by rw [hk8]; decide) (by rw [hk8]; rfl) (by decide) ?_
    refine lv_aload_n hx hb dX2_look_132 rfl (lv_at hl 0 rfl) ?_
    refine g_0_1 E hP dX2_look_133 ?_
    obtain ⟨r25, u26, hc27, hF⟩ := bd_some hF
    refine call_i (rest := []) E hA hP hD hS hl.1 (kX0_hitPages l D h cI cJ cZ n  st r25 u26 hc27) cw_X2_149 2 rfl rfl rfl rfl rfl (Nat.le_of_ble_eq_true rfl) ⟨Nat.le_of_ble_eq_true rfl, Nat.le_of_ble_eq_true rfl⟩ ⟨Nat.zero_le _, Nat.zero_le _⟩ dX2_look_136 (fun H locs hP hD hS => ?_)
    exact endI E hr hlocks hP hD hS dX2_look_139 hF
  have hF := if_f hk8 hF
  by_cases hk9 : x1 = (9 : Int32)
  · have hF := if_t hk9 hF
    refine lv_tableIn (tgt := 140) hx hb dX2_look_1 (by rw [hk9]; decide) (by rw [hk9]; decide) (by rw [hk9]; rfl) (by decide) ?_
    refine lv_aload_n hx hb dX2_look_140 rfl (lv_at hl 0 rfl) ?_
    refine g_0_1 E hP dX2_look_141 ?_
    obtain ⟨r28, u29, hc30, hF⟩ := bd_some hF
    refine call_i (rest := []) E hA hP hD hS hl.1 (kX0_rowObjects l D h cI cJ cZ n  st r28 u29 hc30) cw_X2_152 2 rfl rfl rfl rfl rfl (Nat.le_of_ble_eq_true rfl) ⟨Nat.le_of_ble_eq_true rfl, Nat.le_of_ble_eq_true rfl⟩ ⟨Nat.zero_le _, Nat.zero_le _⟩ dX2_look_144 (fun H locs hP hD hS => ?_)
    exact endI E hr hlocks hP hD hS dX2_look_147 hF
  have hF := if_f hk9 hF
  by_cases hk10 : x1 = (10 : Int32)
  · have hF := if_t hk10 hF
    refine lv_tableIn (tgt := 148) hx hb dX2_look_1 (by rw [hk10]; decide) (by rw [hk10]; decide) (by rw [hk10]; rfl) (by decide) ?_
    refine lv_aload_n hx hb dX2_look_148 rfl (lv_at hl 0 rfl) ?_
    refine g_0_1 E hP dX2_look_149 ?_
    obtain ⟨r31, u32, hc33, hF⟩ := bd_some hF
    refine call_i (rest := []) E hA hP hD hS hl.1 (kX0_movedObjects l D h cI cJ cZ n  st r31 u32 hc33) cw_X2_155 2 rfl rfl rfl rfl rfl (Nat.le_of_ble_eq_true rfl) ⟨Nat.le_of_ble_eq_true rfl, Nat.le_of_ble_eq_true rfl⟩ ⟨Nat.zero_le _, Nat.zero_le _⟩ dX2_look_152 (fun H locs hP hD hS => ?_)
    exact endI E hr hlocks hP hD hS dX2_look_155 hF
  have hF := if_f hk10 hF
  by_cases hk11 : x1 = (11 : Int32)
  · have hF := if_t hk11 hF
    refine lv_tableIn (tgt := 156) hx hb dX2_look_1 (by rw [hk11]; decide) (by rw [hk11]; decide) (by rw [hk11]; rfl) (by decide) ?_
    refine lv_aload_n hx hb dX2_look_156 rfl (lv_at hl 0 rfl) ?_
    refine g_0_1 E hP dX2_look_157 ?_
    obtain ⟨r34, u35, hc36, hF⟩ := bd_some hF
    refine call_i (rest := []) E hA hP hD hS hl.1 (kX0_takenPages l D h cI cJ cZ n  st r34 u35 hc36) cw_X2_158 2 rfl rfl rfl rfl rfl (Nat.le_of_ble_eq_true rfl) ⟨Nat.le_of_ble_eq_true rfl, Nat.le_of_ble_eq_true rfl⟩ ⟨Nat.zero_le _, Nat.zero_le _⟩ dX2_look_160 (fun H locs hP hD hS => ?_)
    exact endI E hr hlocks hP hD hS dX2_look_163 hF
  have hF := if_f hk11 hF
  by_cases hk12 : x1 = (12 : Int32)
  · have hF := if_t hk12 hF
    refine lv_tableIn (tgt := 164) hx hb dX2_look_1 (by rw [hk12]; decide) (by rw [hk12]; decide) (by rw [hk12]; rfl) (by decide) ?_
    refine lv_aload_n hx hb dX2_look_164 rfl (lv_at hl 0 rfl) ?_
    refine g_0_1 E hP dX2_look_165 ?_
    obtain ⟨r37, u38, hc39, hF⟩ := bd_some hF
    refine call_i (rest := []) E hA hP hD hS hl.1 (kX0_freedPages l D h cI cJ cZ n  st r37 u38 hc39) cw_X2_161 2 rfl rfl rfl rfl rfl (Nat.le_of_ble_eq_true rfl) ⟨Nat.le_of_ble_eq_true rfl, Nat.le_of_ble_eq_true rfl⟩ ⟨Nat.zero_le _, Nat.zero_le _⟩ dX2_look_168 (fun H locs hP hD hS => ?_)
    exact endI E hr hlocks hP hD hS dX2_look_171 hF
  have hF := if_f hk12 hF
  refine lv_tableOut (tgt := 172) hx hb dX2_look_1 (sw_out12 hk0 hk1 hk2 hk3 hk4 hk5 hk6 hk7 hk8 hk9 hk10 hk11 hk12) (by decide) ?_
  refine lv_iconst (v := (-1)) hx hb dX2_look_172 (by decide) ?_
  exact endI E hr hlocks hP hD hS dX2_look_173 hF
