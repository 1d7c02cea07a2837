/-! a new heap: format, and the start -/
/-- the class's state, new -/
def NX (P W : Nat) (s : St) : Prop := s.1 1 4 = nI P ∧ s.1 1 5 = nI W ∧ s.1 1 6 = -1 ∧ (∀ a, a < 4096 → s.1 5 a = 0) ∧ (∀ p, p < 64 → s.1 6 p = 0 ∧ s.1 7 p = 0 ∧ s.1 13 p = 0 ∧ s.2 p = 0) ∧ (∀ r, r < 32 → s.1 3 r = -1 ∧ s.1 4 r = -1) ∧ s.1 2 10 = 0 ∧ s.1 2 11 = 0 ∧ s.1 2 13 = 0 ∧ s.1 2 14 = 0 ∧ s.1 2 15 = 0 ∧ s.1 2 16 = 0 ∧ s.1 2 17 = 0
/-- the model's -/
def NM (P W : Nat) (s : St) : Prop := s.1 14 1 = nI P ∧ s.1 14 2 = nI W ∧ s.1 14 6 = -1 ∧ s.1 14 7 = 0 ∧ s.1 14 13 = 0 ∧ (∀ p, p < 64 → s.1 15 p = 0 ∧ s.1 16 p = 0 ∧ s.1 17 p = 0) ∧ (∀ r, r < 32 → s.1 23 r = -1 ∧ s.1 24 r = -1) ∧ (∀ j, j < 13 → s.1 25 j = 0)
theorem ex_new (n P W : Nat) (s : St) : ∃ u, FX2_startOver n (nI P) (nI W) s = some (0, u) ∧ NX P W u := by
  refine ⟨_, rfl, ?_⟩
  refine ⟨rfl, rfl, rfl, fun a ha => ?_, fun p hp => ⟨?_, ?_, ?_, ?_⟩, fun r hr => ⟨?_, ?_⟩, rfl, rfl, rfl, rfl, rfl, rfl, rfl⟩
  · exact if_pos ha
  · exact if_pos hp
  · exact if_pos hp
  · exact if_pos hp
  · exact if_pos hp
  · exact if_pos hr
  · exact if_pos hr
theorem em_new3 (x y : Int32) : ∀ (d k m : Nat) (s : St), k + d = 13 → d < m → (∀ j, j < k → s.1 25 j = 0) → ∃ u, LX3_anew_90 m x y (nI k) s = some (0, u) ∧ (∀ j, j < 13 → u.1 25 j = 0) ∧ ∀ c, c ≠ 25 → u.1 c = s.1 c
  | 0, k, m, s, hd, hm, h => by
    obtain ⟨m, rfl⟩ : ∃ q, m = q + 1 := ⟨m - 1, by omega⟩
    have e : k = 13 := by omega
    subst e
    refine ⟨s, ?_, h, fun _ _ => rfl⟩
    simp only [LX3_anew_90]
    rw [if_pos (show (13 : Int32) ≤ nI 13 by decide)]
  | d + 1, k, m, s, hd, hm, h => by
    obtain ⟨m, rfl⟩ : ∃ q, m = q + 1 := ⟨m - 1, by omega⟩
    obtain ⟨u, e1, e2, e3⟩ := em_new3 x y d (k + 1) m (pt s 25 k 0) (by omega) (by omega) (fun j hj => by
      rw [pt_s]
      by_cases e : j = k
      · rw [if_pos e]
      · rw [if_neg e]; exact h j (by omega))
    refine ⟨u, ?_, e2, fun c hc => (e3 c hc).trans (pt_n _ _ _ _ hc)⟩
    simp only [LX3_anew_90]
    rw [if_neg (show ¬ (13 : Int32) ≤ nI k from nI_ge (b := 13) (by omega) (by omega)), gd_n (by omega) (by omega), nI_clamp (by omega), nI_p1]
    exact e1
theorem em_new2 (x y : Int32) : ∀ (d k m : Nat) (s : St), k + d = 32 → d + 20 < m → (∀ j, j < k → s.1 23 j = -1 ∧ s.1 24 j = -1) → ∃ u, LX3_anew_62 m x y (nI k) s = some (0, u) ∧ (∀ j, j < 13 → u.1 25 j = 0) ∧ (∀ r, r < 32 → u.1 23 r = -1 ∧ u.1 24 r = -1) ∧ ∀ c, c ≠ 25 → c ≠ 23 → c ≠ 24 → u.1 c = s.1 c
  | 0, k, m, s, hd, hm, h => by
    obtain ⟨m, rfl⟩ : ∃ q, m = q + 1 := ⟨m - 1, by omega⟩
    have e : k = 32 := by omega
    subst e
    obtain ⟨u, e1, e2, e3⟩ := em_new3 x y 13 0 m s (by omega) (by omega) (fun j hj => by omega)
    refine ⟨u, ?_, e2, fun r hr => by rw [e3 23 (by decide), e3 24 (by decide)]; exact h r hr, fun c h1 _ _ => e3 c h1⟩
    simp only [LX3_anew_62]
    rw [if_pos (show (32 : Int32) ≤ nI 32 by decide)]
    exact e1
  | d + 1, k, m, s, hd, hm, h => by
    obtain ⟨m, rfl⟩ : ∃ q, m = q + 1 := ⟨m - 1, by omega⟩
    obtain ⟨u, e1, e2, e3, e4⟩ := em_new2 x y d (k + 1) m (pt (pt s 23 k (-1)) 24 k (-1)) (by omega) (by omega) (fun j hj => by
      rw [pt_n _ 24 _ _ (show 23 ≠ 24 by decide), pt_s, pt_s, pt_n _ 23 _ _ (show 24 ≠ 23 by decide)]
      by_cases e : j = k
      · rw [if_pos e, if_pos e]; exact ⟨rfl, rfl⟩
      · rw [if_neg e, if_neg e]; exact h j (by omega))
    refine ⟨u, ?_, e2, e3, fun c h1 h2 h3 => (e4 c h1 h2 h3).trans ((pt_n _ _ _ _ h3).trans (pt_n _ _ _ _ h2))⟩
    simp only [LX3_anew_62]
    rw [if_neg (show ¬ (32 : Int32) ≤ nI k from nI_ge (b := 32) (by omega) (by omega)), gd_n (by omega) (by omega), gd_n (by omega) (by omega), nI_clamp (by omega), nI_p1]
    exact e1
theorem em_new1 (x y : Int32) : ∀ (d k m : Nat) (s : St), k + d = 64 → d + 60 < m → (∀ j, j < k → s.1 15 j = 0 ∧ s.1 16 j = 0 ∧ s.1 17 j = 0) → ∃ u, LX3_anew_27 m x y (nI k) s = some (0, u) ∧ (∀ j, j < 13 → u.1 25 j = 0) ∧ (∀ r, r < 32 → u.1 23 r = -1 ∧ u.1 24 r = -1) ∧ (∀ p, p < 64 → u.1 15 p = 0 ∧ u.1 16 p = 0 ∧ u.1 17 p = 0) ∧ u.1 14 = s.1 14
  | 0, k, m, s, hd, hm, h => by
    obtain ⟨m, rfl⟩ : ∃ q, m = q + 1 := ⟨m - 1, by omega⟩
    have e : k = 64 := by omega
    subst e
    obtain ⟨u, e1, e2, e3, e4⟩ := em_new2 x y 32 0 m s (by omega) (by omega) (fun j hj => by omega)
    refine ⟨u, ?_, e2, e3, fun p hp => ?_, e4 14 (by decide) (by decide) (by decide)⟩
    · simp only [LX3_anew_27]
      rw [if_pos (show (64 : Int32) ≤ nI 64 by decide)]
      exact e1
    · rw [e4 15 (by decide) (by decide) (by decide), e4 16 (by decide) (by decide) (by decide), e4 17 (by decide) (by decide) (by decide)]; exact h p hp
  | d + 1, k, m, s, hd, hm, h => by
    obtain ⟨m, rfl⟩ : ∃ q, m = q + 1 := ⟨m - 1, by omega⟩
    obtain ⟨u, e1, e2, e3, e4, e5⟩ := em_new1 x y d (k + 1) m (pt (pt (pt s 15 k 0) 16 k 0) 17 k 0) (by omega) (by omega) (fun j hj => by
      simp only [pt_n _ 17 _ _ (show 15 ≠ 17 by decide), pt_n _ 16 _ _ (show 15 ≠ 16 by decide), pt_n _ 17 _ _ (show 16 ≠ 17 by decide), pt_n _ 15 _ _ (show 16 ≠ 15 by decide), pt_n _ 16 _ _ (show 17 ≠ 16 by decide), pt_n _ 15 _ _ (show 17 ≠ 15 by decide), pt_s]
      by_cases e : j = k
      · rw [if_pos e, if_pos e, if_pos e]; exact ⟨rfl, rfl, rfl⟩
      · rw [if_neg e, if_neg e, if_neg e]; exact h j (by omega))
    refine ⟨u, ?_, e2, e3, e4, e5⟩
    simp only [LX3_anew_27]
    rw [if_neg (show ¬ (64 : Int32) ≤ nI k from nI_ge (b := 64) (by omega) (by omega)), gd_n (by omega) (by omega), gd_n (by omega) (by omega), gd_n (by omega) (by omega), nI_clamp (by omega), nI_p1, nar0]
    exact e1
theorem em_new (P W : Nat) (s : St) {n : Nat} (hn : 4200 ≤ n) : ∃ u, FX3_anew n (nI P) (nI W) s = some (0, u) ∧ NM P W u ∧ u.1 14 0 = s.1 14 0 := by
  obtain ⟨u, e1, e2, e3, e4, e5⟩ := em_new1 (nI P) (nI W) 64 0 n (pt (pt (pt (pt (pt s 14 1 (nI P)) 14 2 (nI W)) 14 6 (-1)) 14 7 0) 14 13 0) (by omega) (by omega) (fun j hj => by omega)
  refine ⟨u, e1, ⟨?_, ?_, ?_, ?_, ?_, e4, e3, e2⟩, ?_⟩
  · rw [e5]; rfl
  · rw [e5]; rfl
  · rw [e5]; rfl
  · rw [e5]; rfl
  · rw [e5]; rfl
  · rw [e5]; rfl
theorem new_rel {P W : Nat} (h1 : 4 ≤ P) (h2 : P ≤ 64) (h3 : 8 ≤ W) (h4 : W ≤ 64) {sx sm : St} (hx : NX P W sx) (hm : NM P W sm) : Rel sx sm := by
  obtain ⟨x1, x2, x3, x4, x5, x6, x7, x8, x9, x10, x11, x12, x13⟩ := hx
  obtain ⟨m1, m2, m3, m4, m5, m6, m7, m8⟩ := hm
  refine ⟨P, W, 0, fun _ => 0, fun _ => 0, fun _ => 0, fun _ => 0, fun _ => 0, fun _ _ => 0, fun _ => -1, -1, ?_⟩
  refine ⟨?_, ⟨x1, x2, fun p hp => (x5 p hp).1, fun p hp => (x5 p hp).2.1⟩, ⟨m1, m2, fun p hp => (m6 p hp).1, fun p hp => (m6 p hp).2.1⟩, fun o ho => absurd ho (Nat.not_lt_zero _), fun a ha _ => x4 a ha, ?_, ⟨m4, m5, fun o ho => absurd ho (Nat.not_lt_zero _)⟩, fun o i ho => absurd ho (Nat.not_lt_zero _), fun r hr => ⟨Or.inl rfl, (m7 r hr).1, (x6 r hr).1⟩, fun r hr => (x6 r hr).2.trans (m7 r hr).2.symm, ⟨x3, m3, Or.inl rfl⟩, ?_⟩
  · refine ⟨⟨h1, h2, h3, h4, fun _ => Nat.zero_le _, fun _ => Nat.zero_le _⟩, fun _ _ => rfl, fun _ => Iff.rfl, fun o ho => absurd ho (Nat.not_lt_zero _), fun o _ ho => absurd ho (Nat.not_lt_zero _), fun a ha => ⟨fun ⟨o, ho, _⟩ => absurd ho (Nat.not_lt_zero _), fun q => absurd q (Nat.not_lt_zero _)⟩, fun o ho => absurd ho (Nat.not_lt_zero _), fun o ho => absurd ho (Nat.not_lt_zero _), fun p hp => (by cases hp), fun p hp => (by cases hp)⟩
  · intro p k hp hk
    rw [(x5 p hp).2.2.2]
    constructor
    · intro q
      have e : bit (0 : Int64) k = false := by
        unfold bit
        exact BitVec.getLsbD_zero
      rw [e] at q; cases q
    · rintro ⟨_, o, ho, _⟩
      exact absurd ho (Nat.not_lt_zero _)
  · refine ⟨(m8 6 (by omega)).trans x7.symm, (m8 7 (by omega)).trans x8.symm, (m8 8 (by omega)).trans x9.symm, (m8 9 (by omega)).trans x10.symm, (m8 10 (by omega)).trans x11.symm, (m8 11 (by omega)).trans x12.symm, (m8 12 (by omega)).trans x13.symm, fun p hp => ⟨Or.inl (m6 p (by omega)).2.2, (x5 p (by omega)).2.2.1.trans (m6 p (by omega)).2.2.symm⟩⟩
/-- in range -/
theorem rng {x lo hi : Int32} {l h : Nat} (hl : lo = nI l) (hh : hi = nI h) (h2 : h < 2 ^ 31) (h1 : l ≤ h) (a : ¬ x < lo) (b : x ≤ hi) : ∃ k, l ≤ k ∧ k ≤ h ∧ x = nI k := by
  subst hl; subst hh
  have h0 : ¬ x < 0 := fun q => a (by
    rw [Int32.lt_iff_toInt_lt] at q ⊢
    rw [nI_toInt (show l < 2 ^ 31 by omega)]
    rw [Int32.toInt_zero] at q
    omega)
  obtain ⟨k, hk, rfl⟩ := nI_of h0
  exact ⟨k, Nat.le_of_not_lt (fun q => a (nI_lt q (by omega))), (nI_leI hk h2).mp b, rfl⟩
theorem arm0 {sx sm : St} (h : Rel sx sm) {n : Nat} (hn : 4200 ≤ n) (i : Nat) (xs : Nat → Int32) (oc : Nat → Int64) : Arm (A_law_0 n i xs sx sm oc) := by
  obtain ⟨P, W, N, K, F, A, R, D, C, ex, op, h⟩ := h
  have h' := (h.thr 0).thr 1
  unfold A_law_0 FL_format FX2_format FX3_format
  generalize xs (i + 1) = x
  generalize xs (i + 2) = y
  by_cases c1 : x < 4
  · simp only [if_pos c1, btw_1, if_true, be_s, bd_s, thrown_e, pt_k]
    exact Arm.mk (rel h')
  · by_cases c2 : x ≤ 64
    · have c2' : ¬ (64 : Int32) < x := fun q => by
        rw [Int32.lt_iff_toInt_lt] at q
        rw [Int32.le_iff_toInt_le] at c2
        omega
      by_cases c3 : y < 8
      · simp only [if_neg c1, if_pos c2, if_neg c2', if_pos c3, btw_1, if_true, be_s, bd_s, thrown_e, pt_k]
        exact Arm.mk (rel h')
      · by_cases c4 : y ≤ 64
        · obtain ⟨p, p1, p2, rfl⟩ := rng (l := 4) (h := 64) rfl rfl (by omega) (by omega) c1 c2
          obtain ⟨w, w1, w2, rfl⟩ := rng (l := 8) (h := 64) rfl rfl (by omega) (by omega) c3 c4
          obtain ⟨ux, e1, hx⟩ := ex_new n p w sx
          obtain ⟨um, e2, hm, e3⟩ := em_new p w (pt sm 14 0 0) hn
          rw [pt_k] at e3
          simp only [if_neg c1, if_pos c2, if_neg c2', if_neg c3, if_pos c4, e1, e2, bd_s, btw_0, be_s, thrown_e, e3, if_true]
          exact Arm.mk (new_rel p1 p2 w1 w2 hx hm)
        · simp only [if_neg c1, if_pos c2, if_neg c2', if_neg c3, if_neg c4, btw_1, if_true, be_s, bd_s, thrown_e, pt_k]
          exact Arm.mk (rel h')
    · have c2' : (64 : Int32) < x := by
        rw [Int32.le_iff_toInt_le] at c2
        rw [Int32.lt_iff_toInt_lt]
        omega
      simp only [if_neg c1, if_neg c2, if_pos c2', btw_1, if_true, be_s, bd_s, thrown_e, pt_k]
      exact Arm.mk (rel h')
