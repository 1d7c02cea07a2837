/-! the plan's beginning: cleared, and the pages that are hit -/
def fB : Nat → Bool := fun _ => false
def fN : Nat → Nat := fun _ => 0
def GH (P W n : Nat) (K A R D : Nat → Nat) (H : Nat → Bool) : Prop := (∀ p, H p = true → p < P ∧ K p ≠ 0) ∧ ∀ o p, o < n → lp W A R D o p → (H p = true ↔ H (A o / W) = true)
section
variable {P W n : Nat} {K F A R D : Nat → Nat} {C : Nat → Nat → Int32} {ex : Nat → Int32} {op : Int32}
theorem GH.pi {H : Nat → Bool} (h : GH P W n K A R D H) : PI P W n K A R D 0 fN fN fB H H fN (-1) 0 := by
  refine ⟨⟨?_, fun k hk => by omega⟩, fun o => ?_, fun k k' hk => by omega, fun k hk => by omega, fun p => ?_, fun p hp => absurd rfl hp, Or.inl ⟨rfl, fun _ => rfl⟩, fun p => ?_, h.1, h.2⟩
  · exact (cnt_false n (fun k _ => rfl)).symm
  · constructor
    · intro e; cases e
    · rintro ⟨k, hk, _⟩; omega
  · simp [fl, fN]
  · constructor
    · exact Or.inl
    · rintro (e | e | ⟨k, hk, _⟩)
      · exact e
      · exact absurd rfl e
      · omega
theorem ex_cl15 : ∀ (d p m : Nat) (s : St), p + d = 64 → d < m → (∀ j, j < p → s.1 11 j = 0 ∧ s.1 12 j = 0) → ∃ u, LX0_clearPlan_15 m (nI p) s = some (0, u) ∧ (∀ j, j < 64 → u.1 11 j = 0 ∧ u.1 12 j = 0) ∧ u.1 2 6 = -1 ∧ u.1 2 7 = 0 ∧ u.1 2 8 = 0 ∧ u.1 2 9 = 0 ∧ (∀ j, j ≠ 6 → j ≠ 7 → j ≠ 8 → j ≠ 9 → u.1 2 j = s.1 2 j) ∧ u.2 = s.2 ∧ ∀ c, c ≠ 2 → c ≠ 11 → c ≠ 12 → u.1 c = s.1 c
  | 0, p, m, s, hd, hm, h => by
    obtain ⟨m, rfl⟩ : ∃ j, m = j + 1 := ⟨m - 1, by omega⟩
    have e : p = 64 := by omega
    subst e
    refine ⟨pt (pt (pt (pt s 2 6 (-1)) 2 7 0) 2 8 0) 2 9 0, ?_, fun j hj => ?_, ?_, ?_, ?_, ?_, fun j j1 j2 j3 j4 => ?_, rfl, fun c c1 c2 c3 => ?_⟩
    · simp only [LX0_clearPlan_15]
      rw [if_pos (show (64 : Int32) ≤ nI 64 from nI_le (a := 64) (Nat.le_refl _) (by omega))]
    · rw [pt_n _ _ _ _ (by decide), pt_n _ _ _ _ (by decide), pt_n _ _ _ _ (by decide), pt_n _ _ _ _ (by decide), pt_n _ _ _ _ (by decide), pt_n _ _ _ _ (by decide), pt_n _ _ _ _ (by decide), pt_n _ _ _ _ (by decide)]; exact h j hj
    · rw [pt_j _ _ _ _ (by decide), pt_j _ _ _ _ (by decide), pt_j _ _ _ _ (by decide), pt_k]
    · rw [pt_j _ _ _ _ (by decide), pt_j _ _ _ _ (by decide), pt_k]
    · rw [pt_j _ _ _ _ (by decide), pt_k]
    · rw [pt_k]
    · rw [pt_j _ _ _ _ j4, pt_j _ _ _ _ j3, pt_j _ _ _ _ j2, pt_j _ _ _ _ j1]
    · rw [pt_n _ _ _ _ c1, pt_n _ _ _ _ c1, pt_n _ _ _ _ c1, pt_n _ _ _ _ c1]
  | d + 1, p, m, s, hd, hm, h => by
    obtain ⟨m, rfl⟩ : ∃ j, m = j + 1 := ⟨m - 1, by omega⟩
    obtain ⟨u, u1, u2, u3, u4, u5, u6, u7, u8, u9⟩ := ex_cl15 d (p + 1) m (pt (pt s 11 p 0) 12 p 0) (by omega) (by omega) (fun j hj => by
      rw [pt_n _ _ _ _ (by decide), pt_s, pt_s, pt_n _ _ _ _ (by decide)]
      by_cases e : j = p
      · rw [if_pos e, if_pos e]; exact ⟨rfl, rfl⟩
      · rw [if_neg e, if_neg e]; exact h j (by omega))
    refine ⟨u, ?_, u2, u3, u4, u5, u6, fun j j1 j2 j3 j4 => ?_, u8, fun c c1 c2 c3 => ?_⟩
    · simp only [LX0_clearPlan_15, if_neg (show ¬ (64 : Int32) ≤ nI p from nI_ge (b := 64) (by omega) (by omega)), gd_n (show p < 64 by omega) (show 64 < 2 ^ 31 by omega), nI_clamp (show p < 2 ^ 31 by omega), nI_p1, nar0]
      exact u1
    · rw [u7 j j1 j2 j3 j4, pt_n _ _ _ _ (by decide), pt_n _ _ _ _ (by decide)]
    · rw [u9 c c1 c2 c3, pt_n _ _ _ _ c3, pt_n _ _ _ _ c2]
theorem ex_clear (g : Geo P W n K F A R D) (s : St) {m : Nat} (hm : 64 < m) : ∃ u, FX0_clearPlan m s = some (0, u) ∧ KeepX s u ∧ PX n A 0 fN fN fB fB fB (-1) 0 0 0 u := by
  obtain ⟨s1, es1⟩ : ∃ s1, s1 = pf (pt s 2 2 (0 : Int32)) 10 (flI 4096 (-1 : Int32) ((pt s 2 2 (0 : Int32)).1 10)) := ⟨_, rfl⟩
  obtain ⟨u, u1, u2, u3, u4, u5, u6, u7, u8, u9⟩ := ex_cl15 64 0 m s1 (by omega) (by omega) (fun j hj => by omega)
  refine ⟨u, by unfold FX0_clearPlan; rw [← es1]; exact u1, ⟨?_, fun c c1 c2 c3 c4 c5 => ?_, fun j hj => ?_⟩, ?_, fun k hk => by omega, fun o ho => ?_, fun p hp => (u2 p hp).1, fun p hp => (u2 p hp).2, u3, u4, u5, u6⟩
  · rw [u8, es1]; rfl
  · rw [u9 c c1 c4 c5, es1, pf_n _ _ _ c3, pt_n _ _ _ _ c1]
  · rw [u7 j (by omega) (by omega) (by omega) (by omega), es1, pf_n _ _ _ (by decide), pt_j _ _ _ _ (by omega)]
  · rw [u7 2 (by decide) (by decide) (by decide) (by decide), es1, pf_n _ _ _ (by decide), pt_k]; rfl
  · have hA := g.Alt ho
    simp only [szo] at hA
    rw [u9 10 (by decide) (by decide) (by decide), es1, pf_s]
    have e : fB o = true ↔ False := by simp [fB]
    rw [if_neg (fun q => e.mp q)]
    exact if_pos (by omega)
theorem em_27 : ∀ (d p m : Nat) (s : St), p + d = 64 → d < m → (∀ j, j < p → s.1 29 j = 0) → ∃ u m', LX3_rows_27 m (nI p) s = LX3_rows_48 m' (nI 0) u ∧ m ≤ m' + (d + 1) ∧ (∀ j, j < 64 → u.1 29 j = 0) ∧ ∀ c, c ≠ 29 → u.1 c = s.1 c
  | 0, p, m, s, hd, hm, h => by
    obtain ⟨m, rfl⟩ : ∃ j, m = j + 1 := ⟨m - 1, by omega⟩
    have e : p = 64 := by omega
    subst e
    refine ⟨s, m, ?_, by omega, h, fun _ _ => rfl⟩
    simp only [LX3_rows_27]
    rw [if_pos (show (64 : Int32) ≤ nI 64 from nI_le (a := 64) (Nat.le_refl _) (by omega))]; rfl
  | d + 1, p, m, s, hd, hm, h => by
    obtain ⟨m, rfl⟩ : ∃ j, m = j + 1 := ⟨m - 1, by omega⟩
    obtain ⟨u, m', u1, u2, u3, u4⟩ := em_27 d (p + 1) m (pt s 29 p 0) (by omega) (by omega) (fun j hj => by
      rw [pt_s]
      by_cases e : j = p
      · rw [if_pos e]
      · rw [if_neg e]; exact h j (by omega))
    refine ⟨u, m', ?_, by omega, u3, fun c hc => by rw [u4 c hc, pt_n _ _ _ _ hc]⟩
    simp only [LX3_rows_27, if_neg (show ¬ (64 : Int32) ≤ nI p from nI_ge (b := 64) (by omega) (by omega)), gd_n (show p < 64 by omega) (show 64 < 2 ^ 31 by omega), nI_clamp (show p < 2 ^ 31 by omega), nI_p1]
    exact u1
theorem em_48 (hn : n ≤ 4096) : ∀ (d o m : Nat) (s : St), o + d = n → d < m → s.1 14 7 = nI n → (∀ j, j < o → s.1 27 j = -1) → ∃ u m', LX3_rows_48 m (nI o) s = bd (FX3_hits m' u) (fun _ u2 => LX3_rows_75 m' (nI 0) u2) ∧ m ≤ m' + (d + 1) ∧ (∀ j, j < n → u.1 27 j = -1) ∧ ∀ c, c ≠ 27 → u.1 c = s.1 c
  | 0, o, m, s, hd, hm, h7, h => by
    obtain ⟨m, rfl⟩ : ∃ j, m = j + 1 := ⟨m - 1, by omega⟩
    have e : o = n := by omega
    subst e
    refine ⟨s, m, ?_, by omega, h, fun _ _ => rfl⟩
    simp only [LX3_rows_48, h7]
    rw [if_pos (nI_le (Nat.le_refl _) (by omega))]; rfl
  | d + 1, o, m, s, hd, hm, h7, h => by
    obtain ⟨m, rfl⟩ : ∃ j, m = j + 1 := ⟨m - 1, by omega⟩
    obtain ⟨u, m', u1, u2, u3, u4⟩ := em_48 hn d (o + 1) m (pt s 27 o (-1)) (by omega) (by omega) (by rw [pt_n _ _ _ _ (by decide)]; exact h7) (fun j hj => by
      rw [pt_s]
      by_cases e : j = o
      · rw [if_pos e]
      · rw [if_neg e]; exact h j (by omega))
    refine ⟨u, m', ?_, by omega, u3, fun c hc => by rw [u4 c hc, pt_n _ _ _ _ hc]⟩
    simp only [LX3_rows_48, h7, if_neg (nI_ge (show o < n by omega) (show n < 2 ^ 31 by omega)), gd_n (show o < 4200 by omega) (show 4200 < 2 ^ 31 by omega), nI_clamp (show o < 2 ^ 31 by omega), nI_p1]
    exact u1
theorem em_h2 : ∀ (d p m : Nat) (s : St), p + d = 64 → d < m → (∀ j, j < p → s.1 28 j = 0) → ∃ u m', LX3_hits_2 m (nI p) s = LX3_hits_23 m' (nI 0) u ∧ m ≤ m' + (d + 1) ∧ (∀ j, j < 64 → u.1 28 j = 0) ∧ ∀ c, c ≠ 28 → u.1 c = s.1 c
  | 0, p, m, s, hd, hm, h => by
    obtain ⟨m, rfl⟩ : ∃ j, m = j + 1 := ⟨m - 1, by omega⟩
    have e : p = 64 := by omega
    subst e
    refine ⟨s, m, ?_, by omega, h, fun _ _ => rfl⟩
    simp only [LX3_hits_2]
    rw [if_pos (show (64 : Int32) ≤ nI 64 from nI_le (a := 64) (Nat.le_refl _) (by omega))]; rfl
  | d + 1, p, m, s, hd, hm, h => by
    obtain ⟨m, rfl⟩ : ∃ j, m = j + 1 := ⟨m - 1, by omega⟩
    obtain ⟨u, m', u1, u2, u3, u4⟩ := em_h2 d (p + 1) m (pt s 28 p 0) (by omega) (by omega) (fun j hj => by
      rw [pt_s]
      by_cases e : j = p
      · rw [if_pos e]
      · rw [if_neg e]; exact h j (by omega))
    refine ⟨u, m', ?_, by omega, u3, fun c hc => by rw [u4 c hc, pt_n _ _ _ _ hc]⟩
    simp only [LX3_hits_2, if_neg (show ¬ (64 : Int32) ≤ nI p from nI_ge (b := 64) (by omega) (by omega)), gd_n (show p < 64 by omega) (show 64 < 2 ^ 31 by omega), nI_clamp (show p < 2 ^ 31 by omega), nI_p1, nar0]
    exact u1
/-- a page behind a free one, or a page of small ones, is no further page -/
theorem Geo.k3 (g : Geo P W n K F A R D) {p : Nat} (h : K (p + 1) = 3) : K p = 2 ∨ K p = 3 := by
  obtain ⟨o, ho, hl, h1, h2⟩ := g.2.2.2.2.2.2.2.2.2 _ h
  obtain ⟨_, k2, k3, _⟩ := g.2.2.2.2.2.2.2.1 o ho hl
  by_cases e : A o / W = p
  · rw [e] at k2; exact Or.inl k2
  · refine Or.inr ?_
    have hlt : A o / W < p := by
      rcases Nat.lt_or_ge (A o / W) p with h | h
      · exact h
      · exact absurd (Nat.le_antisymm (Nat.le_of_lt_succ h1) h) e
    have := k3 (p - A o / W) (Nat.sub_pos_of_lt hlt) (by
      have := Nat.mul_le_mul_right W (show p - A o / W ≤ p + 1 - A o / W from Nat.sub_le_sub_right (Nat.le_succ p) _)
      omega)
    rw [Nat.add_sub_of_le (Nat.le_of_lt hlt)] at this
    exact this
theorem Geo.k0 (g : Geo P W n K F A R D) : K 0 ≠ 3 := fun h => by
  obtain ⟨o, ho, hl, h1, h2⟩ := g.2.2.2.2.2.2.2.2.2 _ h
  exact absurd h1 (Nat.not_lt_zero _)
theorem both_first (g : Geo P W n K F A R D) {sx sm : St} (vx : VX P W K F sx) (vm : VM P W K F sm) (x1 x2 : Int32) : ∀ (p m m2 : Nat), p < P → K p ≠ 0 → p < m → p < m2 → ∃ f, f ≤ p ∧ K f ≠ 3 ∧ K f ≠ 0 ∧ (∀ j, f < j → j ≤ p → K j = 3) ∧ LX1_firstPageWith_2 m x1 (nI p) sx = some (nI f, sx) ∧ LX3_firstOf_2 m2 x2 (nI p) sm = some (nI f, sm)
  | 0, m, m2, hp, hk, hm, hm2 => by
    obtain ⟨m, rfl⟩ : ∃ j, m = j + 1 := ⟨m - 1, by omega⟩
    obtain ⟨m2, rfl⟩ : ∃ j, m2 = j + 1 := ⟨m2 - 1, by omega⟩
    have hP := g.1.2.1
    have hK3 := g.1.2.2.2.2.1 0
    have k0 := g.k0
    refine ⟨0, Nat.le_refl _, k0, hk, fun j h1 h2 => by omega, ?_, ?_⟩
    · simp only [LX1_firstPageWith_2]
      rw [if_pos (show nI 0 ≤ 0 from (nI_le0 (by omega)).mpr rfl)]
    · simp only [LX3_firstOf_2, gd_n (show 0 < 64 by omega) (show 64 < 2 ^ 31 by omega), nI_clamp (show 0 < 2 ^ 31 by omega), vm.2.2.1 0 (by omega)]
      rw [if_neg (show ¬ nI (K 0) = (3 : Int32) from nI_ne (b := 3) (by omega) (by omega) k0)]
  | p + 1, m, m2, hp, hk, hm, hm2 => by
    obtain ⟨m, rfl⟩ : ∃ j, m = j + 1 := ⟨m - 1, by omega⟩
    obtain ⟨m2, rfl⟩ : ∃ j, m2 = j + 1 := ⟨m2 - 1, by omega⟩
    have hP := g.1.2.1
    have hK3 := g.1.2.2.2.2.1 (p + 1)
    have ez : ¬ nI (p + 1) ≤ 0 := fun e => by have := (nI_le0 (show p + 1 < 2 ^ 31 by omega)).mp e; omega
    by_cases h3 : K (p + 1) = 3
    · obtain ⟨f, f1, f2, f3, f4, f5, f6⟩ := both_first g vx vm x1 x2 p m m2 (by omega) (by rcases g.k3 h3 with e | e <;> omega) (by omega) (by omega)
      have e3 : nI (K (p + 1)) = (3 : Int32) := by rw [h3]; rfl
      refine ⟨f, by omega, f2, f3, fun j h1 h2 => ?_, ?_, ?_⟩
      · by_cases e : j = p + 1
        · rw [e]; exact h3
        · exact f4 j h1 (by omega)
      · simp only [LX1_firstPageWith_2, if_neg ez, gd_n (show p + 1 < 64 by omega) (show 64 < 2 ^ 31 by omega), nI_clamp (show p + 1 < 2 ^ 31 by omega), vx.2.2.1 (p + 1) (by omega), if_pos e3, nI_pm1 (show 1 ≤ p + 1 by omega)]
        exact f5
      · simp only [LX3_firstOf_2, gd_n (show p + 1 < 64 by omega) (show 64 < 2 ^ 31 by omega), nI_clamp (show p + 1 < 2 ^ 31 by omega), vm.2.2.1 (p + 1) (by omega), if_pos e3, nI_pm1 (show 1 ≤ p + 1 by omega)]
        exact f6
    · have e3 : ¬ nI (K (p + 1)) = (3 : Int32) := nI_ne (b := 3) (by omega) (by omega) h3
      refine ⟨p + 1, Nat.le_refl _, h3, hk, fun j h1 h2 => by omega, ?_, ?_⟩
      · simp only [LX1_firstPageWith_2, if_neg ez, gd_n (show p + 1 < 64 by omega) (show 64 < 2 ^ 31 by omega), nI_clamp (show p + 1 < 2 ^ 31 by omega), vx.2.2.1 (p + 1) (by omega), if_neg e3]
      · simp only [LX3_firstOf_2, gd_n (show p + 1 < 64 by omega) (show 64 < 2 ^ 31 by omega), nI_clamp (show p + 1 < 2 ^ 31 by omega), vm.2.2.1 (p + 1) (by omega), if_neg e3]
theorem ex_33 (x1 x2 : Int32) {b' : Nat} (hb : b' ≤ 64) : ∀ (d x m : Nat) (s : St), x + d = b' → d < m → ∃ u, LX0_markHit_33 m x1 x2 (nI b') (nI x) s = some (0, u) ∧ u.2 = s.2 ∧ (∀ c, c ≠ 11 → c ≠ 12 → u.1 c = s.1 c) ∧ (∀ p, u.1 11 p = if x ≤ p ∧ p < b' then 1 else s.1 11 p) ∧ ∀ p, u.1 12 p = if x ≤ p ∧ p < b' then 1 else s.1 12 p
  | 0, x, m, s, hd, hm => by
    obtain ⟨m, rfl⟩ : ∃ j, m = j + 1 := ⟨m - 1, by omega⟩
    refine ⟨s, ?_, rfl, fun _ _ _ => rfl, fun p => by rw [if_neg (by omega)], fun p => by rw [if_neg (by omega)]⟩
    simp only [LX0_markHit_33]
    rw [if_pos (nI_le (by omega) (by omega))]
  | d + 1, x, m, s, hd, hm => by
    obtain ⟨m, rfl⟩ : ∃ j, m = j + 1 := ⟨m - 1, by omega⟩
    obtain ⟨u, h1, h2, h3, h4, h5⟩ := ex_33 x1 x2 hb d (x + 1) m (pt (pt s 11 x 1) 12 x 1) (by omega) (by omega)
    refine ⟨u, ?_, h2, fun c c1 c2 => by rw [h3 c c1 c2, pt_n _ _ _ _ c2, pt_n _ _ _ _ c1], fun p => ?_, fun p => ?_⟩
    · simp only [LX0_markHit_33, if_neg (nI_ge (show x < b' by omega) (show b' < 2 ^ 31 by omega)), gd_n (show x < 64 by omega) (show 64 < 2 ^ 31 by omega), nI_clamp (show x < 2 ^ 31 by omega), nI_p1, nar1]
      exact h1
    · rw [h4 p, pt_n _ _ _ _ (by decide), pt_s]
      by_cases e : p = x
      · rw [if_neg (by omega), if_pos e, if_pos (by omega)]
      · rw [if_neg e]
        by_cases h : x + 1 ≤ p ∧ p < b'
        · rw [if_pos h, if_pos (by omega)]
        · rw [if_neg h, if_neg (by omega)]
    · rw [h5 p, pt_s]
      by_cases e : p = x
      · rw [if_neg (by omega), if_pos e, if_pos (by omega)]
      · rw [if_neg e, pt_n _ _ _ _ (by decide)]
        by_cases h : x + 1 ≤ p ∧ p < b'
        · rw [if_pos h, if_pos (by omega)]
        · rw [if_neg h, if_neg (by omega)]
/-- the model's marks behind the first page -/
theorem em_105 (hP : P ≤ 64) (hK3 : ∀ p, K p ≤ 3) {f b' : Nat} (hf : f < P) (hb : b' ≤ P) (h3 : ∀ j, f < j → j < b' → K j = 3) (h4 : b' = P ∨ K b' ≠ 3) (hk : K f = 2 ∨ b' = f + 1) (x1 : Int32) : ∀ (d x m : Nat) (s : St), x + d = b' → f < x → d < m → s.1 14 1 = nI P → (∀ p, p < 64 → s.1 15 p = nI (K p)) → ∃ u, LX3_hits_105 m x1 (nI f) (nI x) s = some (x1, nI f, nI b', u) ∧ (∀ c, c ≠ 28 → u.1 c = s.1 c) ∧ ∀ p, u.1 28 p = if x ≤ p ∧ p < b' then 1 else s.1 28 p
  | 0, x, m, s, hd, hx, hm, s1, s2 => by
    obtain ⟨m, rfl⟩ : ∃ j, m = j + 1 := ⟨m - 1, by omega⟩
    have e : x = b' := by omega
    subst e
    have hKf := hK3 f
    have hKx := hK3 x
    refine ⟨s, ?_, fun _ _ => rfl, fun p => by rw [if_neg (by omega)]⟩
    simp only [LX3_hits_105, s1]
    by_cases e : P ≤ x
    · rw [if_pos (nI_le e (by omega))]
    · rw [if_neg (nI_ge (by omega) (by omega)), gd_n (by omega) (by omega), nI_clamp (by omega), s2 f (by omega)]
      by_cases e2 : K f = 2
      · rw [if_pos (by rw [e2]; rfl), gd_n (by omega) (by omega), nI_clamp (by omega), s2 x (by omega), if_neg (show ¬ nI (K x) = (3 : Int32) from nI_ne (b := 3) (by omega) (by omega) (by omega))]
      · rw [if_neg (show ¬ nI (K f) = (2 : Int32) from nI_ne (b := 2) (by omega) (by omega) e2)]
  | d + 1, x, m, s, hd, hx, hm, s1, s2 => by
    obtain ⟨m, rfl⟩ : ∃ j, m = j + 1 := ⟨m - 1, by omega⟩
    have e2 : K f = 2 := by omega
    have e3 : K x = 3 := h3 x (by omega) (by omega)
    obtain ⟨u, u1, u2, u3⟩ := em_105 hP hK3 hf hb h3 h4 hk x1 d (x + 1) m (pt s 28 x 1) (by omega) (by omega) (by omega) (by rw [pt_n _ _ _ _ (by decide)]; exact s1) (by rw [pt_n _ _ _ _ (by decide)]; exact s2)
    refine ⟨u, ?_, fun c hc => by rw [u2 c hc, pt_n _ _ _ _ hc], fun p => ?_⟩
    · simp only [LX3_hits_105, s1, if_neg (nI_ge (show x < P by omega) (show P < 2 ^ 31 by omega)), gd_n (show f < 64 by omega) (show 64 < 2 ^ 31 by omega), gd_n (show x < 64 by omega) (show 64 < 2 ^ 31 by omega), nI_clamp (show x < 2 ^ 31 by omega), nI_clamp (show f < 2 ^ 31 by omega), s2 f (by omega), s2 x (by omega), if_pos (show nI (K f) = (2 : Int32) by rw [e2]; rfl), if_pos (show nI (K x) = (3 : Int32) by rw [e3]; rfl), nI_p1, nar1]
      exact u1
    · rw [u3 p, pt_s]
      by_cases e : p = x
      · rw [if_neg (by omega), if_pos e, if_pos (by omega)]
      · rw [if_neg e]
        by_cases h : x + 1 ≤ p ∧ p < b'
        · rw [if_pos h, if_pos (by omega)]
        · rw [if_neg h, if_neg (by omega)]
theorem GH.up (g : Geo P W n K F A R D) {H : Nat → Bool} (h : GH P W n K A R D H) {f b' : Nat} (hb : b' ≤ P) (f2 : K f ≠ 3) (f3 : K f ≠ 0) (h3 : ∀ j, f < j → j < b' → K j = 3) (h4 : b' = P ∨ K b' ≠ 3) : GH P W n K A R D (fun p => H p || decide (f ≤ p ∧ p < b')) := by
  refine ⟨fun p hp => ?_, fun o p ho hl => ?_⟩
  · simp only [Bool.or_eq_true, decide_eq_true_eq] at hp
    rcases hp with hp | ⟨p1, p2⟩
    · exact h.1 p hp
    · refine ⟨by omega, ?_⟩
      by_cases e : p = f
      · rw [e]; exact f3
      · rw [h3 p (by omega) p2]; decide
  · simp only [Bool.or_eq_true, decide_eq_true_eq]
    rw [h.2 o p ho hl]
    have hl' := hl
    unfold lp at hl
    obtain ⟨l1, l2, l3⟩ := hl
    obtain ⟨-, k2, k3, -⟩ := g.2.2.2.2.2.2.2.1 o ho l1
    have key : (f ≤ p ∧ p < b') ↔ (f ≤ A o / W ∧ A o / W < b') := by
      constructor
      · rintro ⟨p1, p2⟩
        refine ⟨?_, Nat.lt_of_le_of_lt l2 p2⟩
        apply Nat.le_of_not_lt
        intro hlt
        have := k3 (f - A o / W) (Nat.sub_pos_of_lt hlt) (by
          have := Nat.mul_le_mul_right W (show f - A o / W ≤ p - A o / W from Nat.sub_le_sub_right p1 _)
          omega)
        rw [Nat.add_sub_of_le (Nat.le_of_lt hlt)] at this
        exact f2 this
      · rintro ⟨q1, q2⟩
        have e : A o / W = f := by
          rcases Nat.lt_or_ge f (A o / W) with hlt | hge
          · have := h3 _ hlt q2; omega
          · exact Nat.le_antisymm hge q1
        have := (lp_iff g ho l1 q2 (by rw [e]; exact h3) h4 p).mpr hl'
        rw [e] at this
        exact this
    rw [key]
theorem both_hits : ∀ (d r m m2 : Nat) (sx sm : St) (H : Nat → Bool), RR P W n K F A R D C ex op sx sm → GH P W n K A R D H → PX n A 0 fN fN fB H H (-1) 0 0 0 sx → PM n 0 fN fN fB H fN (-1) 0 0 0 sm → r + d = 32 → d + 100 < m → d + 100 < m2 →
    ∃ sx' sm' H', KeepX sx sx' ∧ KeepM sm sm' ∧ LX0_markHits_2 m (nI r) sx = some (0, sx') ∧ LX3_hits_23 m2 (nI r) sm = some (0, sm') ∧ GH P W n K A R D H' ∧ PX n A 0 fN fN fB H' H' (-1) 0 0 0 sx' ∧ PM n 0 fN fN fB H' fN (-1) 0 0 0 sm'
  | 0, r, m, m2, sx, sm, H, h, gh, px, pm, hd, hm, hm2 => by
    obtain ⟨m, rfl⟩ : ∃ j, m = j + 1 := ⟨m - 1, by omega⟩
    obtain ⟨m2, rfl⟩ : ∃ j, m2 = j + 1 := ⟨m2 - 1, by omega⟩
    have e : (32 : Int32) ≤ nI r := nI_le (a := 32) (by omega) (by omega)
    refine ⟨sx, sm, H, KeepX.rfl' _, KeepM.rfl' _, ?_, ?_, gh, px, pm⟩
    · simp only [LX0_markHits_2]; rw [if_pos e]
    · simp only [LX3_hits_23]; rw [if_pos e]
  | d + 1, r, m, m2, sx, sm, H, h, gh, px, pm, hd, hm, hm2 => by
    obtain ⟨m, rfl⟩ : ∃ j, m = j + 1 := ⟨m - 1, by omega⟩
    obtain ⟨m2, rfl⟩ : ∃ j, m2 = j + 1 := ⟨m2 - 1, by omega⟩
    have e : ¬ (32 : Int32) ≤ nI r := nI_ge (b := 32) (by omega) (by omega)
    have g := h.1
    have vx := h.2.1
    have vm := h.2.2.1
    have hP := g.1.2.1
    have hW := g.1.2.2.2.1
    have hW8 := g.1.2.2.1
    have hPW := g.PWle
    have lo := h.2.2.2.2.2.2.2.2.2.1 r (by omega)
    have skip := both_hits d (r + 1) m m2 sx sm H h gh px pm (by omega) (by omega) (by omega)
    simp only [LX0_markHits_2, LX3_hits_23, if_neg e, gd_n (show r < 32 by omega) (show 32 < 2 ^ 31 by omega), nI_clamp (show r < 2 ^ 31 by omega), lo, ex_isAddr g.1 vx, bd_s, vm.1, vm.2.1, pk_mul, nI_p1]
    generalize sm.1 24 r = v
    by_cases h1 : v < 0
    · rw [if_pos (show v < 0 ∨ nI (P * W) ≤ v from Or.inl h1), if_pos rfl, if_pos h1]; exact skip
    · obtain ⟨a, ha, rfl⟩ := nI_of h1
      rw [if_neg h1]
      by_cases h2 : P * W ≤ a
      · have h2' : nI (P * W) ≤ nI a := nI_le h2 ha
        rw [if_pos (show nI a < 0 ∨ nI (P * W) ≤ nI a from Or.inr h2'), if_pos rfl, if_pos h2']; exact skip
      · have h2' : ¬ nI (P * W) ≤ nI a := nI_ge (by omega) (by omega)
        rw [if_neg (show ¬ (nI a < 0 ∨ nI (P * W) ≤ nI a) from fun q => q.elim h1 h2'), if_neg (show ¬ (1 : Int32) = 0 by decide), if_neg h2', ex_pg vx (by omega) hW ha, bd_s]
        have hp : a / W < P := Nat.div_lt_of_lt_mul (by rw [Nat.mul_comm]; omega)
        have hp64 : a / W < 64 := Nat.lt_of_lt_of_le hp hP
        have hp31 : a / W < 2 ^ 31 := Nat.lt_of_lt_of_le hp64 (by omega)
        simp only [dz_n (show 0 < W by omega) (show W < 2 ^ 31 by omega), nI_div a ha (show 0 < W by omega) (show W < 2 ^ 31 by omega)]
        generalize a / W = p at hp hp64 hp31 ⊢
        clear h1 h2 h2' ha
        have hK3 := g.1.2.2.2.2.1 p
        have eFree : FX1_isFree m (nI p) sx = some (if K p = 0 then 1 else 0, sx) := by
          unfold FX1_isFree
          rw [gd_n hp64 (by omega), nI_clamp hp31, vx.2.2.1 p hp64, be_s]
          by_cases hk : K p = 0
          · rw [if_pos ((nI_e0 (by omega)).mpr hk), gz_1, if_pos hk]
          · rw [if_neg (fun e => hk ((nI_e0 (by omega)).mp e)), gz_0, if_neg hk]
        unfold FX0_markHit
        rw [eFree, bd_s, gd_n hp64 (by omega), nI_clamp hp31, vm.2.2.1 p hp64]
        by_cases hk : K p = 0
        · rw [if_pos hk, if_neg (show ¬ (1 : Int32) = 0 by decide), bd_s, if_pos ((nI_e0 (by omega)).mpr hk)]; exact skip
        · rw [if_neg hk, if_pos rfl, if_neg (fun e => hk ((nI_e0 (by omega)).mp e))]
          obtain ⟨f, f1, f2, f3, f4, f5, f6⟩ := both_first g vx vm (nI p) (nI p) p m m2 hp hk (by omega) (by omega)
          obtain ⟨b', b1, b2, b3, b4, b5⟩ := ex_pb g.1 vx (m := m) (show f < P by omega) (by omega)
          have hk2 : K f = 2 ∨ b' = f + 1 := by
            by_cases e2 : b' = f + 1
            · exact Or.inr e2
            · rcases g.k3 (b3 (f + 1) (by omega) (by omega)) with e3 | e3
              · exact Or.inl e3
              · exact absurd e3 f2
          obtain ⟨u, u1, u2, u3, u4, u5⟩ := ex_33 (nI p) (nI f) (show b' ≤ 64 by omega) (b' - f) f m sx (by omega) (by omega)
          have q1 : (pt sm 28 f 1).1 14 1 = nI P := by rw [pt_n _ _ _ _ (by decide)]; exact vm.1
          have q2 : ∀ x, x < 64 → (pt sm 28 f 1).1 15 x = nI (K x) := by rw [pt_n _ _ _ _ (by decide)]; exact vm.2.2.1
          obtain ⟨w, w1, w2, w3⟩ := em_105 hP g.1.2.2.2.2.1 (show f < P by omega) b2 b3 b4 hk2 (nI r) (b' - (f + 1)) (f + 1) m2 (pt sm 28 f 1) (by omega) (by omega) (by omega) q1 q2
          unfold FX1_firstPageWith FX3_firstOf
          rw [f5, bd_s, b5, bd_s, u1, bd_s, f6, bd_s, gd_n (show f < 64 by omega) (by omega), nI_clamp (show f < 2 ^ 31 by omega), nI_p1, nar1, w1, be_s]
          simp only [nI_p1]
          have kx : KeepX sx u := ⟨u2, fun c c1 c2 c3 c4 c5 => u3 c c4 c5, fun j hj => by rw [u3 2 (by decide) (by decide)]⟩
          have km : KeepM sm w := ⟨fun c c1 c2 c3 c4 c5 => by rw [w2 c c4, pt_n _ _ _ _ c4], fun j hj => by rw [w2 14 (by decide), pt_n _ _ _ _ (by decide)]⟩
          obtain ⟨x1, x2, x3, x4, x5, x6, x7, x8, x9⟩ := px
          obtain ⟨y1, y2, y3, y4, y5, y6, y7, y8, y9⟩ := pm
          have cl : ∀ c, c ≠ 28 → w.1 c = sm.1 c := fun c hc => by rw [w2 c hc, pt_n _ _ _ _ hc]
          have bb : ∀ x, x < 64 → ∀ z : Int32, z = bI (H x) → (if f ≤ x ∧ x < b' then 1 else z) = bI (H x || decide (f ≤ x ∧ x < b')) := fun x _ z hz => by
            by_cases hc : f ≤ x ∧ x < b'
            · rw [if_pos hc, decide_eq_true hc, Bool.or_true, bI_t]
            · rw [if_neg hc, decide_eq_false hc, Bool.or_false]; exact hz
          obtain ⟨sx2, sm2, H2, kx2, km2, r1, r2, r3, r4, r5⟩ := both_hits d (r + 1) m m2 u w (fun p => H p || decide (f ≤ p ∧ p < b')) (h.keep kx km) (gh.up g b2 f2 f3 b3 b4)
            ⟨by rw [u3 2 (by decide) (by decide)]; exact x1, fun k hk => by omega, by rw [u3 10 (by decide) (by decide)]; exact x3, fun x hx => by rw [u4 x]; exact bb x hx _ (x4 x hx), fun x hx => by rw [u5 x]; exact bb x hx _ (x5 x hx), by rw [u3 2 (by decide) (by decide)]; exact x6, by rw [u3 2 (by decide) (by decide)]; exact x7, by rw [u3 2 (by decide) (by decide)]; exact x8, by rw [u3 2 (by decide) (by decide)]; exact x9⟩
            ⟨by rw [cl 14 (by decide)]; exact y1, fun k hk => by omega, by rw [cl 27 (by decide)]; exact y3, fun x hx => by
              rw [w3 x, pt_s]
              have := bb x hx _ (y4 x hx)
              rw [← this]
              by_cases e1 : x = f
              · rw [if_neg (by omega), if_pos e1, if_pos (by omega)]
              · rw [if_neg e1]
                by_cases e2 : f + 1 ≤ x ∧ x < b'
                · rw [if_pos e2, if_pos (by omega)]
                · rw [if_neg e2, if_neg (by omega)], by rw [cl 29 (by decide)]; exact y5, by rw [cl 14 (by decide)]; exact y6, by rw [cl 14 (by decide)]; exact y7, by rw [cl 14 (by decide)]; exact y8, by rw [cl 14 (by decide)]; exact y9⟩
            (by omega) (by omega) (by omega)
          exact ⟨sx2, sm2, H2, kx.tr kx2, km.tr km2, r1, r2, r3, r4, r5⟩
end
