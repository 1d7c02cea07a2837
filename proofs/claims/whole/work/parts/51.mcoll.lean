/-! the model's collection, behind the plan: pages -/
theorem c6 : (6 : Int32).toNatClampNeg = 6 := by decide
theorem c7 : (7 : Int32).toNatClampNeg = 7 := by decide
theorem c8 : (8 : Int32).toNatClampNeg = 8 := by decide
theorem c9 : (9 : Int32).toNatClampNeg = 9 := by decide
theorem c10 : (10 : Int32).toNatClampNeg = 10 := by decide
theorem c11 : (11 : Int32).toNatClampNeg = 11 := by decide
theorem c12 : (12 : Int32).toNatClampNeg = 12 := by decide
theorem g6 {α : Type} {x : Option α} : gd (6 : Int32) 13 x = x := gd_n (k := 6) (by omega) (by omega)
theorem g7 {α : Type} {x : Option α} : gd (7 : Int32) 13 x = x := gd_n (k := 7) (by omega) (by omega)
theorem g8 {α : Type} {x : Option α} : gd (8 : Int32) 13 x = x := gd_n (k := 8) (by omega) (by omega)
theorem g9 {α : Type} {x : Option α} : gd (9 : Int32) 13 x = x := gd_n (k := 9) (by omega) (by omega)
theorem g10 {α : Type} {x : Option α} : gd (10 : Int32) 13 x = x := gd_n (k := 10) (by omega) (by omega)
theorem g11 {α : Type} {x : Option α} : gd (11 : Int32) 13 x = x := gd_n (k := 11) (by omega) (by omega)
theorem g12 {α : Type} {x : Option α} : gd (12 : Int32) 13 x = x := gd_n (k := 12) (by omega) (by omega)
theorem bI_01 (b : Bool) : bI b = 0 ∨ bI b = 1 := by cases b <;> simp [bI]
section
variable {P W n ln : Nat} {K F A R D row B T sel : Nat → Nat} {sv H S : Nat → Bool} {tg : Int32} {tf tk mv : Nat} {C : Nat → Nat → Int32} {ex : Nat → Int32} {op : Int32} {sx sm s : St}
theorem em_74 (hP : P ≤ 64) : ∀ (d p m : Nat) (s : St), p + d = P → d < m → s.1 14 1 = nI P → (∀ j, j < 64 → s.1 28 j = bI (H j)) → s.1 25 8 = nI (cnt H p) → (∀ j, j < p → s.1 17 j = bI (H j)) →
    ∃ u m', LX3_collected_74 m (nI p) s = LX3_collected_126 m' (nI 0) u ∧ m ≤ m' + (d + 1) ∧ u.1 25 8 = nI (cnt H P) ∧ (∀ j, j < P → u.1 17 j = bI (H j)) ∧ (∀ j, j ≠ 8 → u.1 25 j = s.1 25 j) ∧ ∀ c, c ≠ 17 → c ≠ 25 → u.1 c = s.1 c
  | 0, p, m, s, hd, hm, h1, h2, h3, h4 => by
    obtain ⟨m, rfl⟩ : ∃ j, m = j + 1 := ⟨m - 1, by omega⟩
    have e : p = P := by omega
    subst e
    refine ⟨s, m, ?_, by omega, h3, h4, fun _ _ => rfl, fun _ _ _ => rfl⟩
    simp only [LX3_collected_74, h1]
    rw [if_pos (nI_le (Nat.le_refl _) (by omega))]; rfl
  | d + 1, p, m, s, hd, hm, h1, h2, h3, h4 => by
    obtain ⟨m, rfl⟩ : ∃ j, m = j + 1 := ⟨m - 1, by omega⟩
    have q1 : (pt (pt s 17 p (bI (H p))) 25 8 (nI (cnt H (p + 1)))).1 14 1 = nI P := by rw [pt_n _ _ _ _ (by decide), pt_n _ _ _ _ (by decide)]; exact h1
    have q2 : ∀ j, j < 64 → (pt (pt s 17 p (bI (H p))) 25 8 (nI (cnt H (p + 1)))).1 28 j = bI (H j) := fun j hj => by rw [pt_n _ _ _ _ (by decide), pt_n _ _ _ _ (by decide)]; exact h2 j hj
    have q3 : (pt (pt s 17 p (bI (H p))) 25 8 (nI (cnt H (p + 1)))).1 25 8 = nI (cnt H (p + 1)) := pt_k _ _ _ _
    have q4 : ∀ j, j < p + 1 → (pt (pt s 17 p (bI (H p))) 25 8 (nI (cnt H (p + 1)))).1 17 j = bI (H j) := fun j hj => by
      rw [pt_n _ _ _ _ (by decide), pt_s]
      by_cases e : j = p
      · rw [if_pos e, e]
      · rw [if_neg e]; exact h4 j (by omega)
    obtain ⟨u, m', u1, u2, u3, u4, u5, u6⟩ := em_74 hP d (p + 1) m _ (by omega) (by omega) q1 q2 q3 q4
    refine ⟨u, m', ?_, by omega, u3, u4, fun j hj => by rw [u5 j hj, pt_j _ _ _ _ hj, pt_n _ _ _ _ (by decide)], fun c a b => by rw [u6 c a b, pt_n _ _ _ _ b, pt_n _ _ _ _ a]⟩
    rw [← u1]
    have f1 : ∀ y, (pt s 17 p y).1 28 p = bI (H p) := fun y => by rw [pt_n _ _ _ _ (by decide)]; exact h2 p (by omega)
    have f2 : ∀ y, (pt s 17 p y).1 25 8 = nI (cnt H p) := fun y => by rw [pt_n _ _ _ _ (by decide)]; exact h3
    simp only [LX3_collected_74, h1, if_neg (nI_ge (show p < P by omega) (show P < 2 ^ 31 by omega)), gd_n (show p < 64 by omega) (show 64 < 2 ^ 31 by omega), nI_clamp (show p < 2 ^ 31 by omega), h2 p (by omega), bI_nar _ (bI_01 (H p)), g8, c8, f1, f2, nI_p1]
    cases hH : H p with
    | false => rw [if_pos bI_f, n0, nI_add]; simp only [cnt, hH]; rfl
    | true => rw [if_neg (by rw [bI_t]; decide)]; simp only [cnt, hH]; rfl
theorem beh (K : Nat → Nat) (P : Nat) : ∀ (d b : Nat), b + d = P → ∃ b', b ≤ b' ∧ b' ≤ P ∧ (∀ j, b ≤ j → j < b' → K j = 3) ∧ (b' = P ∨ K b' ≠ 3)
  | 0, b, hd => ⟨b, Nat.le_refl _, by omega, fun j h1 h2 => by omega, Or.inl (by omega)⟩
  | d + 1, b, hd => by
    by_cases hk : K b = 3
    · obtain ⟨b', h1, h2, h3, h4⟩ := beh K P d (b + 1) (by omega)
      refine ⟨b', by omega, h2, fun j j1 j2 => ?_, h4⟩
      by_cases e : j = b
      · rw [e]; exact hk
      · exact h3 j (by omega) j2
    · exact ⟨b, Nat.le_refl _, by omega, fun j h1 h2 => by omega, Or.inr hk⟩
theorem em_153 (g : Geo P W n K F A R D) {o k q b' : Nat} (ho : o < n) (hl : W < szo R D o) (hk : k < 4200) (hb : b' ≤ P) (h3 : ∀ j, q < j → j < b' → K j = 3) (h4 : b' = P ∨ K b' ≠ 3) : ∀ (d x m : Nat) (s : St), x + d = b' → q ≤ x → q < b' → d < m → VM P W K F s → OM n A R D C s → s.1 26 k = nI o →
    ∃ u, LX3_collected_153 m (nI k) (nI q) (nI x) s = some (nI k, nI q, nI b', u) ∧ (∀ c, c ≠ 28 → u.1 c = s.1 c) ∧ ∀ p, u.1 28 p = if x ≤ p ∧ p < b' then 1 else s.1 28 p
  | 0, x, m, s, hd, hx, hq, hm, vM, hO, h26 => by
    obtain ⟨m, rfl⟩ : ∃ j, m = j + 1 := ⟨m - 1, by omega⟩
    have e : x = b' := by omega
    subst e
    have hP := g.1.2.1
    have hKx := g.1.2.2.2.2.1 x
    refine ⟨s, ?_, fun _ _ => rfl, fun p => by rw [if_neg (by omega)]⟩
    simp only [LX3_collected_153, vM.1]
    by_cases e : P ≤ x
    · rw [if_pos (nI_le e (by omega))]
    · rw [if_neg (nI_ge (by omega) (by omega)), gd_n hk (by omega), nI_clamp (by omega), h26, em_long g vM hO ho, bd_s, if_neg (show ¬ szo R D o ≤ W by omega), if_neg (by decide), if_neg (nI_ne (by omega) (by omega) (by omega)), gd_n (by omega) (by omega), nI_clamp (by omega), vM.2.2.1 x (by omega), if_neg (show ¬ nI (K x) = (3 : Int32) from nI_ne (b := 3) (by omega) (by omega) (by omega))]
  | d + 1, x, m, s, hd, hx, hq, hm, vM, hO, h26 => by
    obtain ⟨m, rfl⟩ : ∃ j, m = j + 1 := ⟨m - 1, by omega⟩
    have hP := g.1.2.1
    have vm1 : VM P W K F (pt s 28 x 1) := by
      unfold VM at *
      rw [pt_n _ _ _ _ (by decide), pt_n _ _ _ _ (by decide), pt_n _ _ _ _ (by decide)]; exact vM
    have hO1 : OM n A R D C (pt s 28 x 1) := by
      unfold OM at *
      rw [pt_n _ _ _ _ (by decide), pt_n _ _ _ _ (by decide), pt_n _ _ _ _ (by decide), pt_n _ _ _ _ (by decide), pt_n _ _ _ _ (by decide), pt_n _ _ _ _ (by decide)]; exact hO
    obtain ⟨u, u1, u2, u3⟩ := em_153 g ho hl hk hb h3 h4 d (x + 1) m (pt s 28 x 1) (by omega) (by omega) hq (by omega) vm1 hO1 (by rw [pt_n _ _ _ _ (by decide)]; exact h26)
    refine ⟨u, ?_, fun c hc => by rw [u2 c hc, pt_n _ _ _ _ hc], fun p => ?_⟩
    · simp only [LX3_collected_153, vM.1, if_neg (nI_ge (show x < P by omega) (show P < 2 ^ 31 by omega)), gd_n hk (show 4200 < 2 ^ 31 by omega), nI_clamp (show k < 2 ^ 31 by omega), h26, em_long g vM hO ho, bd_s, if_neg (show ¬ szo R D o ≤ W by omega), if_neg (show ¬ (1 : Int32) = 0 by decide), gd_n (show x < 64 by omega) (show 64 < 2 ^ 31 by omega), nI_clamp (show x < 2 ^ 31 by omega), nar1, nI_p1]
      by_cases e : x = q
      · rw [if_pos (by rw [e])]; exact u1
      · rw [if_neg (nI_ne (by omega) (by omega) e), vM.2.2.1 x (by omega), h3 x (by omega) (by omega), if_pos (show nI 3 = (3 : Int32) from rfl)]; exact u1
    · rw [u3 p, pt_s]
      by_cases e : p = x
      · rw [if_neg (by omega), if_pos e, if_pos (by omega)]
      · rw [if_neg e]
        by_cases h : x + 1 ≤ p ∧ p < b'
        · rw [if_pos h, if_pos (by omega)]
        · rw [if_neg h, if_neg (by omega)]
theorem em_126 (g : Geo P W n K F A R D) (hr : ∀ k, k < ln → row k < n) (hln : ln ≤ n) : ∀ (d k m : Nat) (s : St) (Y : Nat → Bool), k + d = ln → d + 100 < m → VM P W K F s → OM n A R D C s → s.1 14 18 = nI ln → (∀ j, j < ln → s.1 26 j = nI (row j)) → (∀ p, p < 64 → s.1 28 p = bI (Y p)) → (∀ p, Y p = true ↔ (H p = true ∨ ∃ j, j < k ∧ lp W A R D (row j) p)) →
    ∃ (u : St) (m' : Nat) (Y' : Nat → Bool), LX3_collected_126 m (nI k) s = LX3_collected_218 m' (nI 0) (pt u 25 12 0) ∧ m ≤ m' + (d + 1) ∧ (∀ c, c ≠ 28 → u.1 c = s.1 c) ∧ (∀ p, p < 64 → u.1 28 p = bI (Y' p)) ∧ (∀ p, Y' p = true ↔ (H p = true ∨ ∃ j, j < ln ∧ lp W A R D (row j) p))
  | 0, k, m, s, Y, hd, hm, vM, hO, h18, h26, h28, hY => by
    obtain ⟨m, rfl⟩ : ∃ j, m = j + 1 := ⟨m - 1, by omega⟩
    have e : k = ln := by omega
    subst e
    have hn := g.nle
    refine ⟨s, m, Y, ?_, by omega, fun _ _ => rfl, h28, hY⟩
    simp only [LX3_collected_126, h18]
    rw [if_pos (nI_le (Nat.le_refl _) (by omega)), g12, c12]; rfl
  | d + 1, k, m, s, Y, hd, hm, vM, hO, h18, h26, h28, hY => by
    obtain ⟨m, rfl⟩ : ∃ j, m = j + 1 := ⟨m - 1, by omega⟩
    have hn := g.nle
    have hP := g.1.2.1
    have hW := g.1.2.2.2.1
    have hW8 := g.1.2.2.1
    have ho := hr k (by omega)
    have hA := g.Alt ho
    simp only [szo] at hA
    have hA0 := g.A0 ho
    have y1 := (hO.2.2 _ ho).1
    obtain ⟨b', b1, b2, b3, b4⟩ := beh K P (P - (A (row k) / W + 1)) (A (row k) / W + 1) (Nat.add_sub_of_le hA0)
    have b3' : ∀ j, A (row k) / W < j → j < b' → K j = 3 := fun j j1 j2 => b3 j j1 j2
    have main : ∃ (u : St) (Y' : Nat → Bool), LX3_collected_153 m (nI k) (nI (A (row k) / W)) (nI (A (row k) / W)) s = some (nI k, nI (A (row k) / W), nI (if szo R D (row k) ≤ W then A (row k) / W else b'), u) ∧ (∀ c, c ≠ 28 → u.1 c = s.1 c) ∧ (∀ p, p < 64 → u.1 28 p = bI (Y' p)) ∧ (∀ p, Y' p = true ↔ (H p = true ∨ ∃ j, j < k + 1 ∧ lp W A R D (row j) p)) := by
      by_cases hl : szo R D (row k) ≤ W
      · refine ⟨s, Y, ?_, fun _ _ => rfl, h28, fun p => ?_⟩
        · obtain ⟨m, rfl⟩ : ∃ j, m = j + 1 := ⟨m - 1, by omega⟩
          simp only [LX3_collected_153, vM.1]
          rw [if_neg (nI_ge hA0 (by omega)), gd_n (by omega) (by omega), nI_clamp (by omega), h26 k (by omega), em_long g vM hO ho, bd_s, if_pos hl, if_pos rfl, if_pos hl]
        · rw [hY p]
          constructor
          · rintro (e | ⟨j, hj, e⟩)
            · exact Or.inl e
            · exact Or.inr ⟨j, by omega, e⟩
          · rintro (e | ⟨j, hj, e⟩)
            · exact Or.inl e
            · by_cases ej : j = k
              · rw [ej] at e; exact absurd e.1 (by omega)
              · exact Or.inr ⟨j, by omega, e⟩
      · obtain ⟨u, u1, u2, u3⟩ := em_153 g ho (show W < szo R D (row k) by omega) (show k < 4200 by omega) b2 b3' b4 (b' - A (row k) / W) (A (row k) / W) m s (Nat.add_sub_of_le (Nat.le_of_lt b1)) (Nat.le_refl _) b1 (Nat.lt_of_le_of_lt (Nat.sub_le _ _) (by omega)) vM hO (h26 k (by omega))
        have hlp := lp_iff g ho (show W < szo R D (row k) by omega) b1 b3' b4
        refine ⟨u, fun p => Y p || decide (A (row k) / W ≤ p ∧ p < b'), by rw [u1, if_neg hl], u2, fun p hp => ?_, fun p => ?_⟩
        · rw [u3 p]
          show _ = bI (Y p || decide (A (row k) / W ≤ p ∧ p < b'))
          by_cases hc : A (row k) / W ≤ p ∧ p < b'
          · rw [if_pos hc, decide_eq_true hc, Bool.or_true, bI_t]
          · rw [if_neg hc, decide_eq_false hc, Bool.or_false]; exact h28 p hp
        · simp only [Bool.or_eq_true, decide_eq_true_eq]
          rw [hY p, hlp p]
          constructor
          · rintro ((e | ⟨j, hj, e⟩) | e)
            · exact Or.inl e
            · exact Or.inr ⟨j, by omega, e⟩
            · exact Or.inr ⟨k, by omega, e⟩
          · rintro (e | ⟨j, hj, e⟩)
            · exact Or.inl (Or.inl e)
            · by_cases ej : j = k
              · rw [ej] at e; exact Or.inr e
              · exact Or.inl (Or.inr ⟨j, by omega, e⟩)
    obtain ⟨u, Y', u1, u2, u3, u4⟩ := main
    have vm1 : VM P W K F u := by
      unfold VM at *
      rw [u2 14 (by decide), u2 15 (by decide), u2 16 (by decide)]; exact vM
    have hO1 : OM n A R D C u := by
      unfold OM at *
      rw [u2 14 (by decide), u2 18 (by decide), u2 19 (by decide), u2 20 (by decide), u2 21 (by decide), u2 22 (by decide)]; exact hO
    obtain ⟨w, m', Y2, w1, w2, w3, w4, w5⟩ := em_126 g hr hln d (k + 1) m u Y' (by omega) (by omega) vm1 hO1 (by rw [u2 14 (by decide)]; exact h18) (by rw [u2 26 (by decide)]; exact h26) u3 u4
    refine ⟨w, m', Y2, ?_, by omega, fun c hc => by rw [w3 c hc, u2 c hc], w4, w5⟩
    rw [← w1]
    simp only [LX3_collected_126, h18, if_neg (nI_ge (show k < ln by omega) (show ln < 2 ^ 31 by omega)), gd_n (show k < 4200 by omega) (show 4200 < 2 ^ 31 by omega), nI_clamp (show k < 2 ^ 31 by omega), h26 k (by omega), gd_n (show row k < 4200 by omega) (show 4200 < 2 ^ 31 by omega), nI_clamp (show row k < 2 ^ 31 by omega), vM.2.1, dz_n (show 0 < W by omega) (show W < 2 ^ 31 by omega), y1, nI_div (A (row k)) (show A (row k) < 2 ^ 31 by omega) (show 0 < W by omega) (show W < 2 ^ 31 by omega), u1, be_s, nI_p1]
def frd (K : Nat → Nat) (S : Nat → Bool) : Nat → Bool := fun p => decide (K p ≠ 0) && !S p
def mix (p : Nat) (f g : Nat → Nat) : Nat → Nat := fun j => if j < p then f j else g j
theorem mix_s {p : Nat} {f g : Nat → Nat} : mix (p + 1) f g = upN (mix p f g) p (f p) := by
  funext j
  unfold upN mix
  by_cases e : j = p
  · rw [if_pos e, if_pos (by omega), e]
  · rw [if_neg e]
    by_cases e2 : j < p
    · rw [if_pos (by omega), if_pos e2]
    · rw [if_neg (by omega), if_neg e2]
theorem mix_same {p : Nat} {f g : Nat → Nat} (h : f p = g p) : mix (p + 1) f g = mix p f g := by
  rw [mix_s]
  funext j
  unfold upN
  by_cases e : j = p
  · rw [if_pos e, e]; unfold mix; rw [if_neg (by omega)]; exact h
  · rw [if_neg e]
theorem em_218 (hP : P ≤ 64) (hK3 : ∀ p, K p ≤ 3) (hF : ∀ p, F p ≤ 64) (hT : ∀ p, T p ≤ 65) {Y : Nat → Bool} (hY : ∀ p, T p = 0 → (Y p = true ↔ S p = true)) (hTS : ∀ p, T p ≠ 0 → S p = true) (hKF : ∀ p, K p = 0 ↔ F p = 0) : ∀ (d p m : Nat) (s : St), p + d = P → d < m → VM P W (mix p (K2 K T S) K) (mix p (F2 F T S) F) s → (∀ j, j < 64 → s.1 28 j = bI (Y j)) → (∀ j, j < 64 → s.1 29 j = nI (T j)) → s.1 25 12 = nI (cnt (frd K S) p) →
    ∃ u m', LX3_collected_218 m (nI p) s = bd (FX3_goes m' (pt u 14 6 (u.1 14 22))) (fun r11 u12 => some ((1 : Int32), u12)) ∧ m ≤ m' + (d + 1) ∧ VM P W (mix P (K2 K T S) K) (mix P (F2 F T S) F) u ∧ u.1 25 12 = nI (cnt (frd K S) P) ∧ (∀ j, j ≠ 12 → u.1 25 j = s.1 25 j) ∧ ∀ c, c ≠ 15 → c ≠ 16 → c ≠ 25 → u.1 c = s.1 c
  | 0, p, m, s, hd, hm, vM, h28, h29, h25 => by
    obtain ⟨m, rfl⟩ : ∃ j, m = j + 1 := ⟨m - 1, by omega⟩
    have e : p = P := by omega
    subst e
    refine ⟨s, m, ?_, by omega, vM, h25, fun _ _ => rfl, fun _ _ _ _ => rfl⟩
    simp only [LX3_collected_218, vM.1]
    rw [if_pos (nI_le (Nat.le_refl _) (by omega))]
  | d + 1, p, m, s, hd, hm, vM, h28, h29, h25 => by
    obtain ⟨m, rfl⟩ : ∃ j, m = j + 1 := ⟨m - 1, by omega⟩
    have hKp := hK3 p
    have hFp := hF p
    have hTp := hT p
    have eK : mix p (K2 K T S) K p = K p := if_neg (by omega)
    have h15 : s.1 15 p = nI (K p) := by rw [vM.2.2.1 p (by omega), eK]
    -- the rest, from a state like this one
    have rest : ∀ (a b c : Nat) (s' : St), a = K2 K T S p → b = F2 F T S p → c = cnt (frd K S) (p + 1) → s' = pt (pt (pt s 15 p (nI a)) 16 p (nI b)) 25 12 (nI c) →
        ∃ u m', LX3_collected_218 m (nI (p + 1)) s' = bd (FX3_goes m' (pt u 14 6 (u.1 14 22))) (fun r11 u12 => some ((1 : Int32), u12)) ∧ m + 1 ≤ m' + (d + 1 + 1) ∧ VM P W (mix P (K2 K T S) K) (mix P (F2 F T S) F) u ∧ u.1 25 12 = nI (cnt (frd K S) P) ∧ (∀ j, j ≠ 12 → u.1 25 j = s.1 25 j) ∧ ∀ c, c ≠ 15 → c ≠ 16 → c ≠ 25 → u.1 c = s.1 c := by
      intro a b c s' ha hb hc hs
      have vu := vM.up p a b
      rw [ha, hb, ← mix_s, ← mix_s] at vu
      have vs : VM P W (mix (p + 1) (K2 K T S) K) (mix (p + 1) (F2 F T S) F) s' := by
        rw [hs, ha, hb]
        unfold VM at *
        rw [pt_n _ _ _ _ (by decide), pt_n _ _ _ _ (by decide), pt_n _ _ _ _ (by decide)]; exact vu
      obtain ⟨u, m', u1, u2, u3, u4, u5, u6⟩ := em_218 hP hK3 hF hT hY hTS hKF d (p + 1) m s' (by omega) (by omega) vs (fun j hj => by rw [hs, pt_n _ _ _ _ (by decide), pt_n _ _ _ _ (by decide), pt_n _ _ _ _ (by decide)]; exact h28 j hj) (fun j hj => by rw [hs, pt_n _ _ _ _ (by decide), pt_n _ _ _ _ (by decide), pt_n _ _ _ _ (by decide)]; exact h29 j hj) (by rw [hs, pt_k, hc])
      exact ⟨u, m', u1, by omega, u3, u4, fun j hj => by rw [u5 j hj, hs, pt_j _ _ _ _ hj, pt_n _ _ _ _ (by decide), pt_n _ _ _ _ (by decide)], fun c c1 c2 c3 => by rw [u6 c c1 c2 c3, hs, pt_n _ _ _ _ c3, pt_n _ _ _ _ c2, pt_n _ _ _ _ c1]⟩
    -- .. and from this one itself
    have rest0 : K2 K T S p = K p → F2 F T S p = F p → cnt (frd K S) (p + 1) = cnt (frd K S) p →
        ∃ u m', LX3_collected_218 m (nI (p + 1)) s = bd (FX3_goes m' (pt u 14 6 (u.1 14 22))) (fun r11 u12 => some ((1 : Int32), u12)) ∧ m + 1 ≤ m' + (d + 1 + 1) ∧ VM P W (mix P (K2 K T S) K) (mix P (F2 F T S) F) u ∧ u.1 25 12 = nI (cnt (frd K S) P) ∧ (∀ j, j ≠ 12 → u.1 25 j = s.1 25 j) ∧ ∀ c, c ≠ 15 → c ≠ 16 → c ≠ 25 → u.1 c = s.1 c := by
      intro ha hb hc
      obtain ⟨u, m', u1, u2, u3, u4, u5, u6⟩ := em_218 hP hK3 hF hT hY hTS hKF d (p + 1) m s (by omega) (by omega) (by rw [mix_same ha, mix_same hb]; exact vM) h28 h29 (by rw [h25, hc])
      exact ⟨u, m', u1, by omega, u3, u4, u5, u6⟩
    have cs : ∀ b, frd K S p = b → cnt (frd K S) (p + 1) = cnt (frd K S) p + (if b = true then 1 else 0) := fun b hb => by simp only [cnt, hb]
    simp only [LX3_collected_218, vM.1, if_neg (nI_ge (show p < P by omega) (show P < 2 ^ 31 by omega)), gd_n (show p < 64 by omega) (show 64 < 2 ^ 31 by omega), nI_clamp (show p < 2 ^ 31 by omega), h29 p (by omega), h28 p (by omega), h15, g12, c12, nI_p1]
    by_cases ht : T p = 0
    · rw [if_pos ((nI_le0 (by omega)).mpr ht)]
      by_cases hk : K p = 0
      · rw [if_pos ((nI_e0 (by omega)).mpr hk)]
        have hz : F p = 0 := (hKF p).mp hk
        apply rest0
        · unfold K2; rw [if_neg (by omega), hk]; split <;> rfl
        · unfold F2; rw [if_neg (by omega), hz]; split <;> rfl
        · rw [cs false (by unfold frd; rw [hk]; rfl)]; rfl
      · rw [if_neg (fun e => hk ((nI_e0 (by omega)).mp e))]
        cases hS : S p with
        | true =>
          have hYp : Y p = true := (hY p ht).mpr hS
          rw [hYp, bI_t, if_neg (by decide)]
          apply rest0
          · exact K2_s ht hS
          · exact F2_s ht hS
          · rw [cs false (by unfold frd; rw [hS]; simp)]; rfl
        | false =>
          have hYp : Y p = false := by
            cases hq : Y p with
            | false => rfl
            | true => have := (hY p ht).mp hq; rw [hS] at this; cases this
          rw [hYp, bI_f, if_pos rfl]
          have f1 : (pt (pt s 15 p (0 : Int32)) 16 p (0 : Int32)).1 25 12 = nI (cnt (frd K S) p) := by rw [pt_n _ _ _ _ (by decide), pt_n _ _ _ _ (by decide)]; exact h25
          rw [f1, nI_p1]
          refine rest 0 0 (cnt (frd K S) p + 1) _ (K2_0 ht hS).symm (F2_0 ht hS).symm ?_ rfl
          rw [cs true (by unfold frd; rw [hS]; simp [hk])]; rfl
    · rw [if_neg (fun e => ht ((nI_le0 (by omega)).mp e))]
      have f1 : (pt s 15 p (1 : Int32)).1 29 p = nI (T p) := by rw [pt_n _ _ _ _ (by decide)]; exact h29 p (by omega)
      rw [f1, nI_s1 (by omega)]
      have hc0 : cnt (frd K S) (p + 1) = cnt (frd K S) p := by
        rw [cs false (by unfold frd; rw [hTS p ht]; simp)]; rfl
      refine rest 1 (T p - 1) (cnt (frd K S) (p + 1)) _ (K2_t ht).symm (F2_t ht).symm rfl ?_
      rw [hc0, ← h25]
      apply Prod.ext
      · funext c j
        by_cases ec : c = 25
        · rw [ec, pt_s]
          by_cases ej : j = 12
          · rw [if_pos ej, ej, pt_n _ _ _ _ (by decide), pt_n _ _ _ _ (by decide)]
          · rw [if_neg ej]; rfl
        · rw [pt_n _ _ _ _ ec]; rfl
      · rfl
end
