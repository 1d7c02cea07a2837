/-! reach and comes -/
section
variable {P W n ln : Nat} {K F A R D row B T : Nat → Nat} {sv H S : Nat → Bool} {tg : Int32} {tf tk mv : Nat} {C : Nat → Nat → Int32} {ex : Nat → Int32} {op : Int32} {sx sm s : St}
/-- the page behind -/
theorem ex_behind (h : PW P W K F) (v : VX P W K F s) (x1 : Int32) : ∀ (d b m : Nat), b + d = P → d < m → ∃ b', b ≤ b' ∧ b' ≤ P ∧ (∀ j, b ≤ j → j < b' → K j = 3) ∧ (b' = P ∨ K b' ≠ 3) ∧ LX1_pageBehind_4 m x1 (nI b) s = some (nI b', s)
  | 0, b, m, hd, hm => by
    obtain ⟨m, rfl⟩ : ∃ j, m = j + 1 := ⟨m - 1, by omega⟩
    have hP := h.2.1
    refine ⟨b, Nat.le_refl _, by omega, fun j h1 h2 => by omega, Or.inl (by omega), ?_⟩
    simp only [LX1_pageBehind_4, v.1]
    rw [if_pos (nI_le (by omega) (by omega))]
  | d + 1, b, m, hd, hm => by
    obtain ⟨m, rfl⟩ : ∃ j, m = j + 1 := ⟨m - 1, by omega⟩
    have hP := h.2.1
    have hK3 := h.2.2.2.2.1 b
    obtain ⟨b', h1, h2, h3, h4, h5⟩ := ex_behind h v x1 d (b + 1) m (by omega) (by omega)
    simp only [LX1_pageBehind_4, v.1, if_neg (nI_ge (show b < P by omega) (show P < 2 ^ 31 by omega)), gd_n (show b < 64 by omega) (show 64 < 2 ^ 31 by omega), nI_clamp (show b < 2 ^ 31 by omega), v.2.2.1 b (by omega), nI_p1]
    by_cases hk : K b = 3
    · refine ⟨b', by omega, h2, fun j j1 j2 => ?_, h4, ?_⟩
      · by_cases e : j = b
        · rw [e]; exact hk
        · exact h3 j (by omega) j2
      · rw [if_pos (by rw [hk]; rfl)]; exact h5
    · exact ⟨b, Nat.le_refl _, by omega, fun j h1 h2 => by omega, Or.inr hk, by rw [if_neg (show ¬ nI (K b) = (3 : Int32) from nI_ne (b := 3) (by omega) (by omega) hk)]⟩
theorem ex_pb (h : PW P W K F) (v : VX P W K F s) {q m : Nat} (hq : q < P) (hm : 64 < m) : ∃ b', q < b' ∧ b' ≤ P ∧ (∀ j, q < j → j < b' → K j = 3) ∧ (b' = P ∨ K b' ≠ 3) ∧ FX1_pageBehind m (nI q) s = some (nI b', s) := by
  have hP := h.2.1
  obtain ⟨b', h1, h2, h3, h4, h5⟩ := ex_behind h v (nI q) (P - (q + 1)) (q + 1) m (by omega) (by omega)
  exact ⟨b', h1, h2, fun j j1 j2 => h3 j j1 j2, h4, by unfold FX1_pageBehind; rw [nI_p1]; exact h5⟩
theorem Geo.A0 (g : Geo P W n K F A R D) {o : Nat} (ho : o < n) : A o / W < P := by
  have h := (g.2.2.2.1 o ho).2.2
  simp only [szo] at h
  exact Nat.div_lt_of_lt_mul (by rw [Nat.mul_comm]; omega)
/-- the pages from a long one's first to the page behind are its own -/
theorem lp_iff (g : Geo P W n K F A R D) {o b' : Nat} (ho : o < n) (hl : W < szo R D o) (h1 : A o / W < b') (h3 : ∀ j, A o / W < j → j < b' → K j = 3) (h4 : b' = P ∨ K b' ≠ 3) (p : Nat) : (A o / W ≤ p ∧ p < b') ↔ lp W A R D o p := by
  have hW := g.1.2.2.1
  obtain ⟨-, k2, k3, k4⟩ := g.2.2.2.2.2.2.2.1 o ho hl
  unfold lp
  generalize hq : A o / W = q at *
  constructor
  · rintro ⟨p1, p2⟩
    refine ⟨hl, p1, ?_⟩
    apply Nat.lt_of_not_le
    intro hle
    obtain ⟨need, hne⟩ : ∃ need, need = (szo R D o + W - 1) / W := ⟨_, rfl⟩
    obtain ⟨c1, c2, c3⟩ := ceil_l (by omega) hne hl
    have c4 := c2 (need - 1) (by omega)
    have c5 : (need - 1) * W + W = need * W := by rw [← mulS, show need - 1 + 1 = need by omega]
    have hnp : need ≤ p - q := by
      apply Nat.le_of_not_lt
      intro hlt
      have := c2 (p - q) hlt
      omega
    exact k4 need c3 (by omega) (h3 (q + need) (by omega) (by omega))
  · rintro ⟨-, p1, p2⟩
    refine ⟨p1, ?_⟩
    apply Nat.lt_of_not_le
    intro hle
    have hb3 : K (q + (b' - q)) = 3 := k3 (b' - q) (by omega) (by
      have := Nat.mul_le_mul_right W (show b' - q ≤ p - q by omega)
      omega)
    rw [show q + (b' - q) = b' by omega] at hb3
    rcases h4 with e | e
    · have := g.2.1 b' (by omega); omega
    · exact e hb3
theorem bI_nar (b : Int32) (h : b = 0 ∨ b = 1) : vp_nar .boolean b = b := by
  rcases h with rfl | rfl
  · exact nar0
  · exact nar1
/-- keepLong's loop -/
theorem ex_kl (a : Int32) (x2 : Int32) {b' : Nat} (hb : b' ≤ 64) : ∀ (d x m : Nat) (s : St), x + d = b' → d < m → ∃ s' m', LX0_keepLong_21 m a x2 (nI b') (nI x) s = bd (FX0_addToRow m' a a s') (fun _ u => some (0, u)) ∧ s'.2 = s.2 ∧ (∀ c, c ≠ 12 → s'.1 c = s.1 c) ∧ ∀ p, s'.1 12 p = if x ≤ p ∧ p < b' then 1 else s.1 12 p
  | 0, x, m, s, hd, hm => by
    obtain ⟨m, rfl⟩ : ∃ j, m = j + 1 := ⟨m - 1, by omega⟩
    refine ⟨s, m, ?_, rfl, fun _ _ => rfl, fun p => by rw [if_neg (by omega)]⟩
    simp only [LX0_keepLong_21]
    rw [if_pos (nI_le (by omega) (by omega))]
  | d + 1, x, m, s, hd, hm => by
    obtain ⟨m, rfl⟩ : ∃ j, m = j + 1 := ⟨m - 1, by omega⟩
    obtain ⟨s', m', h1, h2, h3, h4⟩ := ex_kl a x2 hb d (x + 1) m (pt s 12 x 1) (by omega) (by omega)
    refine ⟨s', m', ?_, h2, fun c hc => by rw [h3 c hc, pt_n _ _ _ _ hc], fun p => ?_⟩
    · simp only [LX0_keepLong_21, if_neg (nI_ge (show x < b' by omega) (show b' < 2 ^ 31 by omega)), gd_n (show x < 64 by omega) (show 64 < 2 ^ 31 by omega), nI_clamp (show x < 2 ^ 31 by omega), nI_p1, nar1]
      exact h1
    · rw [h4 p, pt_s]
      by_cases e : p = x
      · rw [if_neg (by omega), if_pos e, if_pos (by omega)]
      · rw [if_neg e]
        by_cases h : x + 1 ≤ p ∧ p < b'
        · rw [if_pos h, if_pos (by omega)]
        · rw [if_neg h, if_neg (by omega)]
/-- the model's next page -/
theorem em_next (h : PW P W K F) (v : VM P W K F s) (hT : ∀ p, p < 64 → s.1 29 p = nI (T p)) (hT2 : ∀ p, T p ≤ 65) (x : Int32) : ∀ (d p m : Nat), p + d = P → d < m →
    (∃ q m', p ≤ q ∧ q < P ∧ K q = 0 ∧ T q = 0 ∧ (∀ j, p ≤ j → j < q → K j = 0 → T j ≠ 0) ∧ LX3_comes_59 m x (nI p) s = JX3_comes_91 m' x (nI q) s) ∨ ((∀ j, p ≤ j → j < P → K j = 0 → T j ≠ 0) ∧ LX3_comes_59 m x (nI p) s = some (0, s))
  | 0, p, m, hd, hm => by
    obtain ⟨m, rfl⟩ : ∃ k, m = k + 1 := ⟨m - 1, by omega⟩
    have hP := h.2.1
    have e : p = P := by omega
    subst e
    refine Or.inr ⟨fun j h1 h2 => by omega, ?_⟩
    simp only [LX3_comes_59, v.1]
    rw [if_pos (nI_le (Nat.le_refl _) (by omega))]
    unfold JX3_comes_91
    rw [v.1, if_pos rfl]
  | d + 1, p, m, hd, hm => by
    obtain ⟨m, rfl⟩ : ∃ k, m = k + 1 := ⟨m - 1, by omega⟩
    have hP := h.2.1
    have hK3 := h.2.2.2.2.1 p
    have hT3 := hT2 p
    have ih := em_next h v hT hT2 x d (p + 1) m (by omega) (by omega)
    simp only [LX3_comes_59, v.1, if_neg (nI_ge (show p < P by omega) (show P < 2 ^ 31 by omega)), gd_n (show p < 64 by omega) (show 64 < 2 ^ 31 by omega), nI_clamp (show p < 2 ^ 31 by omega), v.2.2.1 p (by omega), hT p (by omega), nI_p1]
    have rest : (K p = 0 → T p ≠ 0) → (∃ q m', p ≤ q ∧ q < P ∧ K q = 0 ∧ T q = 0 ∧ (∀ j, p ≤ j → j < q → K j = 0 → T j ≠ 0) ∧ LX3_comes_59 m x (nI (p + 1)) s = JX3_comes_91 m' x (nI q) s) ∨ ((∀ j, p ≤ j → j < P → K j = 0 → T j ≠ 0) ∧ LX3_comes_59 m x (nI (p + 1)) s = some (0, s)) := by
      intro hno
      rcases ih with ⟨q, m', h1, h2, h3, h4, h5, h6⟩ | ⟨h1, h2⟩
      · exact Or.inl ⟨q, m', by omega, h2, h3, h4, fun j j1 j2 => by
          by_cases e : j = p
          · rw [e]; exact hno
          · exact h5 j (by omega) j2, h6⟩
      · exact Or.inr ⟨fun j j1 j2 => by
          by_cases e : j = p
          · rw [e]; exact hno
          · exact h1 j (by omega) j2, h2⟩
    by_cases hk : K p = 0
    · rw [if_pos ((nI_e0 (by omega)).mpr hk)]
      by_cases ht : T p = 0
      · rw [if_pos ((nI_e0 (by omega)).mpr ht)]
        exact Or.inl ⟨p, m, Nat.le_refl _, by omega, hk, ht, fun j h1 h2 => by omega, rfl⟩
      · rw [if_neg (fun e => ht ((nI_e0 (by omega)).mp e))]
        exact rest (fun _ => ht)
    · rw [if_neg (fun e => hk ((nI_e0 (by omega)).mp e))]
      exact rest (fun e => absurd e hk)
theorem PI.flle (h : PI P W n K A R D ln row B sv H S T tg tf) (p : Nat) : ∀ k, k ≤ ln → fl W A R D row B k p ≤ W
  | 0, _ => Nat.zero_le _
  | k + 1, hk => by
    have ih := h.flle p k (by omega)
    simp only [fl]
    by_cases hc : B (row k) ≠ A (row k) ∧ B (row k) / W = p
    · rw [if_pos hc]
      rcases h.lo (show k < ln by omega) with ⟨h1, _⟩ | ⟨_, _, _, _, h5, _⟩
      · exact absurd h1 hc.1
      · rw [hc.2] at h5; exact h5
    · rw [if_neg hc]; omega
theorem PI.Tle (h : PI P W n K A R D ln row B sv H S T tg tf) (p : Nat) : T p ≤ 1 + W := by
  have h1 := h.flle p ln (Nat.le_refl _)
  rw [h.Ti p]
  split <;> omega
/-- the next page is the same in both -/
theorem both_next (g : Geo P W n K F A R D) (vx : VX P W K F sx) (vm : VM P W K F sm) (pi : PI P W n K A R D ln row B sv H S T tg tf) (px : PX n A ln row B sv H S tg tf tk mv sx) (pm : PM n ln row B sv H T tg tf tk mv sm) (x1 x2 : Int32) (o : Int32) {m m2 : Nat} (hm : 64 < m) (hm2 : 64 < m2) :
    (JX0_planMove_33 m x1 x2 sx = some (0, sx) ∧ JX3_comes_57 m2 o sm = some (0, sm)) ∨
    (∃ q m', q < P ∧ K q = 0 ∧ T q = 0 ∧ (∀ p, p < P → K p = 0 → p ≠ q → (T p ≠ 0 ↔ p < q)) ∧ JX0_planMove_33 m x1 x2 sx = JX0_planMove_81 m x1 x2 (pt (pt (pt (pt sx 2 6 (nI q)) 2 7 0) 12 q 1) 2 9 (nI (tk + 1))) ∧ JX3_comes_57 m2 o sm = JX3_comes_128 m' o (pt (pt (pt (pt sm 14 22 (nI q)) 14 23 0) 29 q 1) 14 24 (nI (tk + 1)))) := by
  have hP := g.1.2.1
  have hW := g.1.2.2.2.1
  obtain ⟨t, ht, hT0⟩ : ∃ t, t ≤ P ∧ tg + 1 = nI t ∧ ∀ p, p < P → K p = 0 → (T p ≠ 0 ↔ p < t) := by
    rcases pi.tgt with ⟨e, h0⟩ | ⟨q, hq, e, _, _, _, h0⟩
    · exact ⟨0, by omega, by rw [e]; rfl, fun p _ _ => by rw [h0 p]; omega⟩
    · exact ⟨q + 1, by omega, by rw [e, nI_p1], fun p h1 h2 => by rw [h0 p h1 h2]; omega⟩
  have hx := ex_freeL g.1 vx (tg + 1) (P - t) t m (by omega) (by omega)
  have hmm := em_next g.1 vm pm.2.2.2.2.1 (fun p => by have := pi.Tle p; omega) o P 0 m2 (by omega) (by omega)
  rw [← hT0.1] at hx
  have eX : JX0_planMove_33 m x1 x2 sx = bd (LX1_freePageFrom_2 m (tg + 1) (tg + 1) sx) (fun r4 u5 => (if r4 = (-1 : Int32) then some ((0 : Int32), u5) else gd r4 64 (JX0_planMove_81 m x1 x2 (pt (pt (pt (pt u5 2 6 r4) 2 7 (0 : Int32)) 12 r4.toNatClampNeg (vp_nar .boolean (1 : Int32))) 2 9 (((pt (pt (pt u5 2 6 r4) 2 7 (0 : Int32)) 12 r4.toNatClampNeg (vp_nar .boolean (1 : Int32))).1 2 9) + (1 : Int32)))))) := by
    unfold JX0_planMove_33 FX1_freePageFrom
    rw [px.2.2.2.2.2.1]
  have eM : JX3_comes_57 m2 o sm = LX3_comes_59 m2 o (nI 0) sm := rfl
  rw [eX, eM]
  rcases hx with ⟨q, h1, h2, h3, h4, h5⟩ | ⟨h1, h2⟩
  · rcases hmm with ⟨q2, m', i1, i2, i3, i4, i5, i6⟩ | ⟨i1, _⟩
    · have e : q2 = q := by
        have a1 : t ≤ q2 := by
          apply Nat.le_of_not_lt; intro hh
          exact (hT0.2 q2 i2 i3).mpr hh i4
        rcases Nat.lt_trichotomy q2 q with e1 | e1 | e1
        · exact absurd i3 (h4 q2 a1 e1)
        · exact e1
        · exact absurd h1 (Nat.not_le_of_lt ((hT0.2 q h2 h3).mp (i5 q (Nat.zero_le _) e1 h3)))
      subst e
      refine Or.inr ⟨q2, m', i2, i3, i4, fun p p1 p2 p3 => ?_, ?_, ?_⟩
      · rw [hT0.2 p p1 p2]
        constructor
        · intro hh; omega
        · intro hh
          apply Nat.lt_of_not_le
          intro hle
          exact h4 p hle hh p2
      · rw [h5, bd_s, if_neg (nI_m1 (by omega)), gd_n (by omega) (by omega), nI_clamp (by omega), nar1]
        have a : (pt (pt (pt sx 2 6 (nI q2)) 2 7 (0 : Int32)) 12 q2 (1 : Int32)).1 2 9 = nI tk := by rw [pt_n _ _ _ _ (by decide), pt_j _ _ _ _ (by decide), pt_j _ _ _ _ (by decide)]; exact px.2.2.2.2.2.2.2.2
        rw [a, nI_p1]
      · rw [i6]
        unfold JX3_comes_91
        rw [vm.1, if_neg (nI_ne (by omega) (by omega) (by omega)), gd_n (by omega) (by omega), nI_clamp (by omega)]
        have a : (pt (pt (pt sm 14 22 (nI q2)) 14 23 (0 : Int32)) 29 q2 (1 : Int32)).1 14 24 = nI tk := by rw [pt_n _ _ _ _ (by decide), pt_j _ _ _ _ (by decide), pt_j _ _ _ _ (by decide)]; exact pm.2.2.2.2.2.2.2.1
        rw [a, nI_p1]
    · exact absurd h1 (Nat.not_le_of_lt ((hT0.2 q h2 h3).mp (i1 q (Nat.zero_le _) h2 h3)))
  · rcases hmm with ⟨q2, m', i1, i2, i3, i4, i5, i6⟩ | ⟨_, i2⟩
    · exfalso
      have a1 : t ≤ q2 := by
        apply Nat.le_of_not_lt; intro hh
        exact (hT0.2 q2 i2 i3).mpr hh i4
      exact h1 q2 a1 i2 i3
    · exact Or.inl ⟨by rw [h2, bd_s, if_pos rfl], i2⟩
/-- one that is told: both bring it to the row, or both give up -/
theorem both_reach (h : RR P W n K F A R D C ex op sx sm) (q : QQ P W n K A R D H ln row sv sx sm) (hK : ∀ o, o < n → H (A o / W) = true → sv o = true) {v : Int32} (hv : okv n v) {m m2 : Nat} (hm : 64 < m) (hm2 : 64 < m2) :
    ∃ sx' sm', KeepX sx sx' ∧ KeepM sm sm' ∧ ((FX0_reach m (ad A v) sx = some (0, sx') ∧ FX3_comes m2 v sm = some (0, sm')) ∨
      (FX0_reach m (ad A v) sx = some (1, sx') ∧ FX3_comes m2 v sm = some (1, sm') ∧ ∃ ln' row' sv', QQ P W n K A R D H ln' row' sv' sx' sm' ∧ Grow ln row sv ln' row' sv' ∧ (v = -1 ∨ sv' v.toNatClampNeg = true))) := by
  obtain ⟨g, vx, vm, hOX, -, hBX, hOM, -⟩ := h
  have hP := g.1.2.1
  have hW := g.1.2.2.2.1
  have hW8 := g.1.2.2.1
  have hn := g.nle
  obtain ⟨B, S, T, tg, tf, tk, mv, pi, px, pm⟩ := q
  rcases hv with rfl | ⟨o, ho, rfl⟩
  · refine ⟨sx, sm, KeepX.rfl' _, KeepM.rfl' _, Or.inr ⟨?_, ?_, ln, row, sv, ⟨B, S, T, tg, tf, tk, mv, pi, px, pm⟩, Grow.rfl' _ _ _, Or.inl rfl⟩⟩
    · unfold FX0_reach
      rw [ad_m]
      rcases ex_begins g vx hBX (-1) m with ⟨o, ho, e, _⟩ | ⟨_, e⟩
      · have hA := g.Alt ho
        simp only [szo] at hA
        exact absurd e.symm (nI_m1 (by omega))
      · rw [e, bd_s, if_pos rfl]
    · unfold FX3_comes; rw [if_pos rfl]
  · have hA := g.Alt ho
    have hs1 : 1 ≤ szo R D o := by simp only [szo]; omega
    have hd := (g.2.2.2.1 o ho)
    have hs2 : szo R D o ≤ 300 := by simp only [szo]; omega
    rw [ad_n (by omega)]
    have eX : FX0_reach m (nI (A o)) sx = if sv o = true then some (1, sx) else if szo R D o ≤ W then bd (FX0_planMove m (nI (A o)) sx) (fun r5 u6 => gz r5 (some (r5, u6))) else bd (FX0_keepLong m (nI (A o)) sx) (fun r8 u9 => some ((1 : Int32), u9)) := by
      have eb : FX1_beginsAt m (nI (A o)) sx = some (1, sx) := by
        rcases ex_begins g vx hBX (nI (A o)) m with ⟨_, _, _, e⟩ | ⟨h1, _⟩
        · exact e
        · exact absurd rfl (h1 o ho)
      unfold FX0_reach
      rw [eb, bd_s, if_neg (show ¬ (1 : Int32) = 0 by decide), gd_n (by omega) (by omega), nI_clamp (by omega), px.2.2.1 o ho, ex_long g vx hOX ho, bd_s]
      by_cases hsv : sv o = true
      · have hB : B o < 2 ^ 31 := by
          obtain ⟨k, hk, e⟩ := (pi.svi o).mp hsv
          rcases pi.lo hk with ⟨h1, _⟩ | ⟨_, _, h3, h4, h5, _⟩
          · rw [e] at h1; omega
          · rw [e] at h3 h4 h5
            have := Nat.div_add_mod (B o) W
            have h6 : W * (B o / W) ≤ 64 * 64 := Nat.mul_le_mul hW (by omega)
            omega
        rw [if_pos hsv, if_neg (nI_m1 hB), if_pos hsv]
      · rw [if_neg hsv, if_pos rfl, if_neg hsv]
        by_cases hl : szo R D o ≤ W
        · rw [if_pos hl, if_pos rfl, if_pos hl]
        · rw [if_neg hl, if_neg (by decide), if_neg hl]
    have eM : FX3_comes m2 (nI o) sm = if sv o = true then some (1, sm) else if szo R D o ≤ W then (if tg = -1 then JX3_comes_57 m2 (nI o) sm else (if nI (szo R D o) ≤ nI W - nI tf then JX3_comes_128 m2 (nI o) sm else JX3_comes_57 m2 (nI o) sm)) else bd (FX3_stays m2 (nI o) sm) (fun r17 u18 => some ((1 : Int32), u18)) := by
      unfold FX3_comes
      rw [if_neg (nI_m1 (by omega)), gd_n (by omega) (by omega), nI_clamp (by omega), pm.2.2.1 o ho, em_long g vm hOM ho, bd_s]
      by_cases hsv : sv o = true
      · have hB : B o < 2 ^ 31 := by
          obtain ⟨k, hk, e⟩ := (pi.svi o).mp hsv
          rcases pi.lo hk with ⟨h1, _⟩ | ⟨_, _, h3, h4, h5, _⟩
          · rw [e] at h1; omega
          · rw [e] at h3 h4 h5
            have := Nat.div_add_mod (B o) W
            have h6 : W * (B o / W) ≤ 64 * 64 := Nat.mul_le_mul hW (by omega)
            omega
        rw [if_pos hsv, if_neg (nI_m1 hB), if_pos hsv]
      · rw [if_neg hsv, if_pos rfl, if_neg hsv]
        by_cases hl : szo R D o ≤ W
        · rw [if_pos hl, if_pos rfl, if_pos hl, pm.2.2.2.2.2.1, em_size g hOM ho, bd_s, vm.2.1, pm.2.2.2.2.2.2.1]
        · rw [if_neg hl, if_neg (by decide), if_neg hl]
    by_cases hsv : sv o = true
    · rw [eX, eM, if_pos hsv, if_pos hsv]
      exact ⟨sx, sm, KeepX.rfl' _, KeepM.rfl' _, Or.inr ⟨rfl, rfl, ln, row, sv, ⟨B, S, T, tg, tf, tk, mv, pi, px, pm⟩, Grow.rfl' _ _ _, Or.inr (by rw [nI_clamp (by omega)]; exact hsv)⟩⟩
    · rw [eX, eM, if_neg hsv, if_neg hsv]
      have hsf : sv o = false := by simpa using hsv
      have hno : ∀ k, k < ln → row k ≠ o := fun k hk e => hsv ((pi.svi o).mpr ⟨k, hk, e⟩)
      have hHo : H (A o / W) = false := by
        cases hq : H (A o / W) with
        | false => rfl
        | true => exact absurd (hK o ho hq) hsv
      have hln : ln < 4096 := by
        have h1 := cnt_upB ho hsf
        have h2 := cnt_le (upB sv o) n
        have h3 := pi.cn
        omega
      by_cases hl : szo R D o ≤ W
      · rw [if_pos hl, if_pos hl]
        -- on the target as it is
        have onT : ∀ (q : Nat), tg = nI q → q < P → K q = 0 → T q = 1 + tf → (∀ p, p < P → K p = 0 → (T p ≠ 0 ↔ p ≤ q)) → tf + szo R D o ≤ W →
            ∃ sx' sm', KeepX sx sx' ∧ KeepM sm sm' ∧ ((bd (JX0_planMove_81 m (nI (A o)) (nI (szo R D o)) sx) (fun r5 u6 => gz r5 (some (r5, u6))) = some (0, sx') ∧ JX3_comes_128 m2 (nI o) sm = some (0, sm')) ∨
              (bd (JX0_planMove_81 m (nI (A o)) (nI (szo R D o)) sx) (fun r5 u6 => gz r5 (some (r5, u6))) = some (1, sx') ∧ JX3_comes_128 m2 (nI o) sm = some (1, sm') ∧ ∃ ln' row' sv', QQ P W n K A R D H ln' row' sv' sx' sm' ∧ Grow ln row sv ln' row' sv' ∧ (nI o = -1 ∨ sv' (nI o).toNatClampNeg = true))) := by
          intro q e1 hq hk ht hall hfit
          subst e1
          obtain ⟨u, u1, u2, u3⟩ := ex_81 g vx px ho hln hno m
          obtain ⟨w, w1, w2, w3⟩ := em_128 g vm hOM (show q < 64 by omega) (show tf ≤ 64 by omega) pm ho hln m2
          have hfl : fl W A R D row B ln q = tf := by
            have := pi.Ti q
            rw [ht] at this
            split at this <;> omega
          have pi' := pi.move g ho hsf hl hq hk hfit hfl (fun p p1 p2 p3 => by rw [hall p p1 p2]; omega) hHo
          have hSq : S q = true := (pi.Si q).mpr (Or.inr (Or.inl (by omega)))
          have eS : upB S q = S := by
            funext x
            by_cases e : x = q
            · rw [e, upB_s, hSq]
            · exact upB_n S e
          rw [eS] at pi'
          refine ⟨u, w, u3, w3, Or.inr ⟨by rw [u1, bd_s, gz_1], w1, _, _, _, ⟨_, _, _, _, _, _, _, pi', u2, w2⟩, Grow.up o, Or.inr (by rw [nI_clamp (by omega)]; exact upB_s sv o)⟩⟩
        -- on a new page, or none
        have newT : ∃ sx' sm', KeepX sx sx' ∧ KeepM sm sm' ∧ ((bd (JX0_planMove_33 m (nI (A o)) (nI (szo R D o)) sx) (fun r5 u6 => gz r5 (some (r5, u6))) = some (0, sx') ∧ JX3_comes_57 m2 (nI o) sm = some (0, sm')) ∨
              (bd (JX0_planMove_33 m (nI (A o)) (nI (szo R D o)) sx) (fun r5 u6 => gz r5 (some (r5, u6))) = some (1, sx') ∧ JX3_comes_57 m2 (nI o) sm = some (1, sm') ∧ ∃ ln' row' sv', QQ P W n K A R D H ln' row' sv' sx' sm' ∧ Grow ln row sv ln' row' sv' ∧ (nI o = -1 ∨ sv' (nI o).toNatClampNeg = true))) := by
          rcases both_next g vx vm pi px pm (nI (A o)) (nI (szo R D o)) (nI o) hm hm2 with ⟨n1, n2⟩ | ⟨q, m', hq, hk, ht, hall, n1, n2⟩
          · exact ⟨sx, sm, KeepX.rfl' _, KeepM.rfl' _, Or.inl ⟨by rw [n1, bd_s, gz_0], n2⟩⟩
          · obtain ⟨sx1, es1⟩ : ∃ s1, s1 = pt (pt (pt (pt sx 2 6 (nI q)) 2 7 0) 12 q 1) 2 9 (nI (tk + 1)) := ⟨_, rfl⟩
            obtain ⟨sm1, es2⟩ : ∃ s1, s1 = pt (pt (pt (pt sm 14 22 (nI q)) 14 23 0) 29 q 1) 14 24 (nI (tk + 1)) := ⟨_, rfl⟩
            rw [← es1] at n1
            rw [← es2] at n2
            have kx : KeepX sx sx1 := by
              refine ⟨by rw [es1]; rfl, fun c c1 c2 c3 c4 c5 => ?_, fun j hj => ?_⟩
              · rw [es1, pt_n _ _ _ _ c1, pt_n _ _ _ _ c5, pt_n _ _ _ _ c1, pt_n _ _ _ _ c1]
              · rw [es1, pt_j _ _ _ _ (by omega), pt_n _ _ _ _ (by decide), pt_j _ _ _ _ (by omega), pt_j _ _ _ _ (by omega)]
            have km : KeepM sm sm1 := by
              refine ⟨fun c c1 c2 c3 c4 c5 => ?_, fun j hj => ?_⟩
              · rw [es2, pt_n _ _ _ _ c1, pt_n _ _ _ _ c5, pt_n _ _ _ _ c1, pt_n _ _ _ _ c1]
              · rw [es2, pt_j _ _ _ _ (by omega), pt_n _ _ _ _ (by decide), pt_j _ _ _ _ (by omega), pt_j _ _ _ _ (by omega)]
            have vx1 : VX P W K F sx1 := by
              unfold VX at *
              rw [kx.2.1 1 (by decide) (by decide) (by decide) (by decide) (by decide), kx.2.1 6 (by decide) (by decide) (by decide) (by decide) (by decide), kx.2.1 7 (by decide) (by decide) (by decide) (by decide) (by decide)]; exact vx
            have vm1 : VM P W K F sm1 := by
              unfold VM at *
              rw [km.2 1 (by omega), km.2 2 (by omega), km.1 15 (by decide) (by decide) (by decide) (by decide) (by decide), km.1 16 (by decide) (by decide) (by decide) (by decide) (by decide)]; exact vm
            have hOM1 : OM n A R D C sm1 := by
              unfold OM at *
              rw [km.2 7 (by omega), km.2 13 (by omega), km.1 18 (by decide) (by decide) (by decide) (by decide) (by decide), km.1 19 (by decide) (by decide) (by decide) (by decide) (by decide), km.1 20 (by decide) (by decide) (by decide) (by decide) (by decide), km.1 21 (by decide) (by decide) (by decide) (by decide) (by decide), km.1 22 (by decide) (by decide) (by decide) (by decide) (by decide)]; exact hOM
            obtain ⟨x1, x2, x3, x4, x5, x6, x7, x8, x9⟩ := px
            obtain ⟨y1, y2, y3, y4, y5, y6, y7, y8, y9⟩ := pm
            have px1 : PX n A ln row B sv H (upB S q) (nI q) 0 (tk + 1) mv sx1 := by
              refine ⟨?_, fun k hk => ?_, fun x hx => ?_, fun p hp => ?_, fun p hp => ?_, ?_, ?_, ?_, ?_⟩
              · rw [es1, pt_j _ _ _ _ (by decide), pt_n _ _ _ _ (by decide), pt_j _ _ _ _ (by decide), pt_j _ _ _ _ (by decide)]; exact x1
              · rw [es1, pt_n _ _ _ _ (by decide), pt_n _ _ _ _ (by decide), pt_n _ _ _ _ (by decide), pt_n _ _ _ _ (by decide)]; exact x2 k hk
              · rw [es1, pt_n _ _ _ _ (by decide), pt_n _ _ _ _ (by decide), pt_n _ _ _ _ (by decide), pt_n _ _ _ _ (by decide)]; exact x3 x hx
              · rw [es1, pt_n _ _ _ _ (by decide), pt_n _ _ _ _ (by decide), pt_n _ _ _ _ (by decide), pt_n _ _ _ _ (by decide)]; exact x4 p hp
              · rw [es1, pt_n _ _ _ _ (by decide), pt_s]
                by_cases e : p = q
                · rw [if_pos e, e, upB_s, bI_t]
                · rw [if_neg e, upB_n S e, pt_n _ _ _ _ (by decide), pt_n _ _ _ _ (by decide)]; exact x5 p hp
              · rw [es1, pt_j _ _ _ _ (by decide), pt_n _ _ _ _ (by decide), pt_j _ _ _ _ (by decide), pt_k]
              · rw [es1, pt_j _ _ _ _ (by decide), pt_n _ _ _ _ (by decide), pt_k]; rfl
              · rw [es1, pt_j _ _ _ _ (by decide), pt_n _ _ _ _ (by decide), pt_j _ _ _ _ (by decide), pt_j _ _ _ _ (by decide)]; exact x8
              · rw [es1, pt_k]
            have pm1 : PM n ln row B sv H (upN T q 1) (nI q) 0 (tk + 1) mv sm1 := by
              refine ⟨?_, fun k hk => ?_, fun x hx => ?_, fun p hp => ?_, fun p hp => ?_, ?_, ?_, ?_, ?_⟩
              · rw [es2, pt_j _ _ _ _ (by decide), pt_n _ _ _ _ (by decide), pt_j _ _ _ _ (by decide), pt_j _ _ _ _ (by decide)]; exact y1
              · rw [es2, pt_n _ _ _ _ (by decide), pt_n _ _ _ _ (by decide), pt_n _ _ _ _ (by decide), pt_n _ _ _ _ (by decide)]; exact y2 k hk
              · rw [es2, pt_n _ _ _ _ (by decide), pt_n _ _ _ _ (by decide), pt_n _ _ _ _ (by decide), pt_n _ _ _ _ (by decide)]; exact y3 x hx
              · rw [es2, pt_n _ _ _ _ (by decide), pt_n _ _ _ _ (by decide), pt_n _ _ _ _ (by decide), pt_n _ _ _ _ (by decide)]; exact y4 p hp
              · rw [es2, pt_n _ _ _ _ (by decide), pt_s]
                unfold upN
                by_cases e : p = q
                · rw [if_pos e, if_pos e]; rfl
                · rw [if_neg e, if_neg e, pt_n _ _ _ _ (by decide), pt_n _ _ _ _ (by decide)]; exact y5 p hp
              · rw [es2, pt_j _ _ _ _ (by decide), pt_n _ _ _ _ (by decide), pt_j _ _ _ _ (by decide), pt_k]
              · rw [es2, pt_j _ _ _ _ (by decide), pt_n _ _ _ _ (by decide), pt_k]; rfl
              · rw [es2, pt_k]
              · rw [es2, pt_j _ _ _ _ (by decide), pt_n _ _ _ _ (by decide), pt_j _ _ _ _ (by decide), pt_j _ _ _ _ (by decide)]; exact y9
            obtain ⟨u, u1, u2, u3⟩ := ex_81 g vx1 px1 ho hln hno m
            obtain ⟨w, w1, w2, w3⟩ := em_128 g vm1 hOM1 (show q < 64 by omega) (show 0 ≤ 64 by omega) pm1 ho hln m'
            have hfl : fl W A R D row B ln q = 0 := by
              have := pi.Ti q
              rw [ht] at this
              split at this <;> omega
            have pi' := pi.move g ho hsf hl hq hk (f := 0) (by omega) hfl hall hHo
            have eT : upN (upN T q 1) q (1 + (0 + szo R D o)) = upN T q (1 + (0 + szo R D o)) := by
              funext x
              unfold upN
              by_cases e : x = q
              · rw [if_pos e, if_pos e]
              · rw [if_neg e, if_neg e, if_neg e]
            rw [eT] at w2
            refine ⟨u, w, kx.tr u3, km.tr w3, Or.inr ⟨by rw [n1, u1, bd_s, gz_1], by rw [n2]; exact w1, _, _, _, ⟨_, _, _, _, _, _, _, pi', u2, w2⟩, Grow.up o, Or.inr (by rw [nI_clamp (by omega)]; exact upB_s sv o)⟩⟩
        have ePM : FX0_planMove m (nI (A o)) sx = if tg = -1 then JX0_planMove_33 m (nI (A o)) (nI (szo R D o)) sx else if nI (szo R D o) ≤ nI W - nI tf then JX0_planMove_81 m (nI (A o)) (nI (szo R D o)) sx else JX0_planMove_33 m (nI (A o)) (nI (szo R D o)) sx := by
          unfold FX0_planMove FX1_words
          rw [ex_size g hOX ho, bd_s, px.2.2.2.2.2.1, bd_s, vx.2.1, px.2.2.2.2.2.2.1]
        rw [ePM]
        rcases pi.tgt with ⟨e, _⟩ | ⟨q, hq, e, hk, ht, htf, hall⟩
        · rw [if_pos e, if_pos e]; exact newT
        · have hne : ¬ tg = -1 := by rw [e]; exact nI_m1 (by omega)
          rw [if_neg hne, if_neg hne]
          by_cases hc : tf + szo R D o ≤ W
          · have := (most_le (a := W) (u := tf) (k := szo R D o) (by omega) (by omega) (by omega)).mpr hc
            rw [if_pos this, if_pos this]
            exact onT q e hq hk ht hall hc
          · have : ¬ nI (szo R D o) ≤ nI W - nI tf := fun e1 => hc ((most_le (by omega) (by omega) (by omega)).mp e1)
            rw [if_neg this, if_neg this]
            exact newT
      · rw [if_neg hl, if_neg hl]
        have hq0 := g.A0 ho
        obtain ⟨b', b1, b2, b3, b4, b5⟩ := ex_pb g.1 vx (m := m) hq0 hm
        have hlp := lp_iff g ho (by omega) b1 b3 b4
        obtain ⟨s', m', k1, k2, k3, k4⟩ := ex_kl (nI (A o)) (nI (A o / W)) (show b' ≤ 64 by omega) (b' - A o / W) (A o / W) m sx (Nat.add_sub_of_le (Nat.le_of_lt b1)) (Nat.lt_of_le_of_lt (Nat.sub_le _ _) (by omega))
        have kx : KeepX sx s' := ⟨k2, fun c c1 c2 c3 c4 c5 => k3 c c5, fun j hj => by rw [k3 2 (by decide)]⟩
        obtain ⟨x1, x2, x3, x4, x5, x6, x7, x8, x9⟩ := px
        have px1 : PX n A ln row B sv H (fun p => S p || decide (A o / W ≤ p ∧ p < b')) tg tf tk mv s' := by
          refine ⟨by rw [k3 2 (by decide)]; exact x1, by rw [k3 9 (by decide)]; exact x2, by rw [k3 10 (by decide)]; exact x3, by rw [k3 11 (by decide)]; exact x4, fun p hp => ?_, by rw [k3 2 (by decide)]; exact x6, by rw [k3 2 (by decide)]; exact x7, by rw [k3 2 (by decide)]; exact x8, by rw [k3 2 (by decide)]; exact x9⟩
          rw [k4 p]
          show _ = bI (S p || decide (A o / W ≤ p ∧ p < b'))
          by_cases hc : A o / W ≤ p ∧ p < b'
          · rw [if_pos hc, decide_eq_true hc, Bool.or_true, bI_t]
          · rw [if_neg hc, decide_eq_false hc, Bool.or_false]; exact x5 p hp
        obtain ⟨u, u1, u2, u3⟩ := ex_add g px1 ho hln hno (b := A o) m'
        obtain ⟨w, w1, w2, w3⟩ := em_stays hOM hn pm ho hln m2
        have pi' := pi.stay ho hsf (Or.inr (show W < szo R D o by omega)) (S' := fun p => S p || decide (A o / W ≤ p ∧ p < b')) (fun p => by
          simp only [Bool.or_eq_true, decide_eq_true_eq]
          rw [hlp p])
        refine ⟨u, w, kx.tr u3, w3, Or.inr ⟨?_, by rw [w1, bd_s], _, _, _, ⟨_, _, _, _, _, _, _, pi', u2, w2⟩, Grow.up o, Or.inr (by rw [nI_clamp (by omega)]; exact upB_s sv o)⟩⟩
        unfold FX0_keepLong
        rw [ex_pg vx (by omega) hW (by omega), bd_s, b5, bd_s, k1, u1, bd_s, bd_s]
end
