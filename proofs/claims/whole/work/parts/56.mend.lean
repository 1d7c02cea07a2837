/-! the model's collection, all of it -/
section
variable {P W n ln : Nat} {K F A R D row B T sel : Nat → Nat} {sv H S : Nat → Bool} {tg : Int32} {tf tk mv : Nat} {C : Nat → Nat → Int32} {ex : Nat → Int32} {op : Int32} {sx sm s : St}
theorem mix_0 {f g : Nat → Nat} : mix 0 f g = g := by
  funext j
  unfold mix
  rw [if_neg (by omega)]
theorem mix_P {f g : Nat → Nat} (h : ∀ p, P ≤ p → f p = g p) : mix P f g = f := by
  funext j
  unfold mix
  by_cases e : j < P
  · rw [if_pos e]
  · rw [if_neg e, h j (by omega)]
/-- the model behind the collection -/
def ME (P W n ln : Nat) (K F R D T sel B : Nat → Nat) (C : Nat → Nat → Int32) (ex : Nat → Int32) (sv S H : Nat → Bool) (tg : Int32) (tk mv : Nat) (sm u : St) : Prop :=
  VM P W (K2 K T S) (F2 F T S) u ∧ OM (cnt sv n) (fun j => B (sel j)) (fun j => R (sel j)) (fun j => D (sel j)) (Cn sv sel R C) u ∧ (∀ r, r < 32 → u.1 23 r = rk sv (ex r)) ∧ u.1 24 = sm.1 24 ∧ u.1 14 6 = tg ∧ u.1 14 0 = sm.1 14 0 ∧ (∀ p, p < P → u.1 17 p = bI (H p)) ∧ u.1 25 6 = sm.1 25 6 + 1 ∧ u.1 25 7 = sm.1 25 7 ∧ u.1 25 8 = nI (cnt H P) ∧ u.1 25 9 = nI ln ∧ u.1 25 10 = nI mv ∧ u.1 25 11 = nI tk ∧ u.1 25 12 = nI (cnt (frd K S) P)
theorem m_end (h : RR P W n K F A R D C ex op sx sm) (pi : PI P W n K A R D ln row B sv H S T tg tf) (pm : PM n ln row B sv H T tg tf tk mv sm) (hsel : Sel n sv sel) (hcx : ∀ r, r < 32 → Cl sv (ex r)) (hcl : ∀ j, j < ln → ∀ i, i < R (row j) → Cl sv (C (row j) i)) {m : Nat} (hm : 20000 ≤ m) {s : St} (hrows : FX3_rows m s = some (1, sm)) :
    ∃ u, FX3_collected m s = some (1, u) ∧ ME P W n ln K F R D T sel B C ex sv S H tg tk mv sm u := by
  have g := h.1
  have vM := h.2.2.1
  have hO := h.2.2.2.2.2.2.1
  have hCR := h.2.2.2.2.2.2.2.1
  have hRT := h.2.2.2.2.2.2.2.2.1
  have hP := g.1.2.1
  have hW := g.1.2.2.2.1
  have hPW := g.PWle
  have hn := g.nle
  have hln := pi.lnle
  obtain ⟨p1, p2, p3, p4, p5, p6, p7, p8, p9⟩ := pm
  obtain ⟨s0, es0⟩ : ∃ s0, s0 = pt (pt (pt (pt (pt sm 25 6 (sm.1 25 6 + 1)) 25 9 (nI ln)) 25 10 (nI mv)) 25 11 (nI tk)) 25 8 (0 : Int32) := ⟨_, rfl⟩
  have k0 : ∀ c, c ≠ 25 → s0.1 c = sm.1 c := fun c hc => by rw [es0, pt_n _ _ _ _ hc, pt_n _ _ _ _ hc, pt_n _ _ _ _ hc, pt_n _ _ _ _ hc, pt_n _ _ _ _ hc]
  have e0 : FX3_collected m s = LX3_collected_74 m (0 : Int32) s0 := by
    unfold FX3_collected
    rw [hrows, bd_s, if_neg (by decide)]
    simp only [g6, g8, g9, g10, g11, c6, c8, c9, c10, c11, pt_n _ _ _ _ (show (14 : Nat) ≠ 25 by decide), p1, p8, p9, es0]
  -- the pages that were hit
  obtain ⟨s1, m1, a1, a2, a3, a4, a5, a6⟩ := em_74 (H := H) hP P 0 m s0 (by omega) (by omega) (by rw [k0 14 (by decide)]; exact vM.1) (fun j hj => by rw [k0 28 (by decide)]; exact p4 j hj) (by rw [es0, pt_k]; rfl) (fun j hj => by omega)
  have k1 : ∀ c, c ≠ 17 → c ≠ 25 → s1.1 c = sm.1 c := fun c x y => by rw [a6 c x y, k0 c y]
  -- the pages of the long ones
  obtain ⟨s2, m2, Y, b1, b2, b3, b4, b5⟩ := em_126 (H := H) g (fun k hk => pi.rn hk) hln ln 0 m1 s1 H (by omega) (by omega)
    (by unfold VM at *; rw [k1 14 (by decide) (by decide), k1 15 (by decide) (by decide), k1 16 (by decide) (by decide)]; exact vM)
    (by unfold OM at *; rw [k1 14 (by decide) (by decide), k1 18 (by decide) (by decide), k1 19 (by decide) (by decide), k1 20 (by decide) (by decide), k1 21 (by decide) (by decide), k1 22 (by decide) (by decide)]; exact hO)
    (by rw [k1 14 (by decide) (by decide)]; exact p1) (by rw [k1 26 (by decide) (by decide)]; exact p2) (by rw [k1 28 (by decide) (by decide)]; exact p4)
    (fun p => ⟨fun q => Or.inl q, fun q => by
      rcases q with q | ⟨j, hj, _⟩
      · exact q
      · omega⟩)
  have k2 : ∀ c, c ≠ 17 → c ≠ 25 → c ≠ 28 → (pt s2 25 12 0).1 c = sm.1 c := fun c x y z => by rw [pt_n _ _ _ _ y, b3 c z, k1 c x y]
  have hK0 : ∀ p, P ≤ p → K2 K T S p = K p := fun p hp => by
    have t0 : T p = 0 := by
      apply Classical.byContradiction
      intro q
      have := (pi.tp q).1
      omega
    cases hS : S p with
    | true => rw [K2_s t0 hS]
    | false => rw [K2_0 t0 hS, g.2.1 p hp]
  have hF0 : ∀ p, P ≤ p → F2 F T S p = F p := fun p hp => by
    have t0 : T p = 0 := by
      apply Classical.byContradiction
      intro q
      have := (pi.tp q).1
      omega
    cases hS : S p with
    | true => rw [F2_s t0 hS]
    | false => rw [F2_0 t0 hS, (g.2.2.1 p).mp (g.2.1 p hp)]
  -- the pages
  obtain ⟨s3, m3, d1, d2, d3, d4, d5, d6⟩ := em_218 (W := W) (K := K) (F := F) (T := T) (S := S) (Y := Y) hP g.1.2.2.2.2.1 (fun p => Nat.le_trans (g.1.2.2.2.2.2 p) hW) (fun p => by
      have := pi.Tle p
      omega)
    (fun p ht => by
      rw [b5 p, pi.Si p]
      constructor
      · rintro (q | q)
        · exact Or.inl q
        · exact Or.inr (Or.inr q)
      · rintro (q | q | q)
        · exact Or.inl q
        · exact absurd ht q
        · exact Or.inr q)
    (fun p ht => (pi.Si p).mpr (Or.inr (Or.inl ht))) g.2.2.1 P 0 m2 (pt s2 25 12 0) (by omega) (by omega)
    (by rw [mix_0, mix_0]; unfold VM at *; rw [k2 14 (by decide) (by decide) (by decide), k2 15 (by decide) (by decide) (by decide), k2 16 (by decide) (by decide) (by decide)]; exact vM)
    (fun j hj => by rw [pt_n _ _ _ _ (by decide)]; exact b4 j hj)
    (fun j hj => by rw [k2 29 (by decide) (by decide) (by decide)]; exact p5 j hj)
    (by rw [pt_k]; rfl)
  rw [mix_P hK0, mix_P hF0] at d3
  have k3 : ∀ c, c ≠ 15 → c ≠ 16 → c ≠ 17 → c ≠ 25 → c ≠ 28 → s3.1 c = sm.1 c := fun c x y z v w => by rw [d6 c x y v, k2 c z v w]
  have e22 : s3.1 14 22 = tg := by rw [k3 14 (by decide) (by decide) (by decide) (by decide) (by decide)]; exact p6
  -- the numbers
  obtain ⟨u, f1, f2, f3, f4, f5⟩ := em_goes (sv := sv) (B := B) (sel := sel) (ex := ex) g hsel (fun o ho hs => by
      have := pi.bnd g ho hs
      omega) (fun r hr => (hRT r hr).1) hcx hCR (fun o i ho hs hi => by
        obtain ⟨k, hk, ek⟩ := (pi.svi _).mp hs
        rw [← ek]
        exact hcl k hk i (by rw [ek]; exact hi)) (m := m3) (by omega) (s := pt s3 14 6 tg)
    (by
      unfold OM at *
      rw [pt_j _ _ _ _ (by decide), pt_j _ _ _ _ (by decide), pt_n _ _ _ _ (by decide), pt_n _ _ _ _ (by decide), pt_n _ _ _ _ (by decide), pt_n _ _ _ _ (by decide), pt_n _ _ _ _ (by decide), k3 14 (by decide) (by decide) (by decide) (by decide) (by decide), k3 18 (by decide) (by decide) (by decide) (by decide) (by decide), k3 19 (by decide) (by decide) (by decide) (by decide) (by decide), k3 20 (by decide) (by decide) (by decide) (by decide) (by decide), k3 21 (by decide) (by decide) (by decide) (by decide) (by decide), k3 22 (by decide) (by decide) (by decide) (by decide) (by decide)]
      exact hO)
    (fun j hj => by rw [pt_n _ _ _ _ (by decide), k3 27 (by decide) (by decide) (by decide) (by decide) (by decide)]; exact p3 j hj)
    (fun j hj => by rw [pt_n _ _ _ _ (by decide), k3 23 (by decide) (by decide) (by decide) (by decide) (by decide)]; exact (hRT j hj).2.1)
  have ku : ∀ c, c ≠ 14 → c ≠ 18 → c ≠ 19 → c ≠ 20 → c ≠ 21 → c ≠ 22 → c ≠ 23 → c ≠ 30 → u.1 c = s3.1 c := fun c c0 c1 c2 c3 c4 c5 c6 c7 => by rw [f5 c c0 c1 c2 c3 c4 c5 c6 c7, pt_n _ _ _ _ c0]
  have ku25 : u.1 25 = s3.1 25 := ku 25 (by decide) (by decide) (by decide) (by decide) (by decide) (by decide) (by decide) (by decide)
  have kt : ∀ j, j ≠ 8 → j ≠ 12 → u.1 25 j = s0.1 25 j := fun j j1 j2 => by rw [ku25, d5 j j2, pt_j _ _ _ _ j2, b3 25 (by decide), a5 j j1]
  have k14 : ∀ j, j ≠ 6 → j ≠ 7 → j ≠ 13 → u.1 14 j = sm.1 14 j := fun j j1 j2 j3 => by rw [f4 j j2 j3, pt_j _ _ _ _ j1, k3 14 (by decide) (by decide) (by decide) (by decide) (by decide)]
  refine ⟨u, ?_, ⟨?_, ?_, ?_, ?_⟩, f2, f3, ?_, ?_, ?_, ?_, ?_, ?_, ?_, ?_, ?_, ?_, ?_⟩
  · have a1' : LX3_collected_74 m (0 : Int32) s0 = LX3_collected_126 m1 (nI 0) s1 := a1
    rw [e0, a1', b1, d1, e22, f1, bd_s]
  · rw [k14 1 (by decide) (by decide) (by decide)]; exact vM.1
  · rw [k14 2 (by decide) (by decide) (by decide)]; exact vM.2.1
  · rw [ku 15 (by decide) (by decide) (by decide) (by decide) (by decide) (by decide) (by decide) (by decide)]; exact d3.2.2.1
  · rw [ku 16 (by decide) (by decide) (by decide) (by decide) (by decide) (by decide) (by decide) (by decide)]; exact d3.2.2.2
  · rw [ku 24 (by decide) (by decide) (by decide) (by decide) (by decide) (by decide) (by decide) (by decide), k3 24 (by decide) (by decide) (by decide) (by decide) (by decide)]
  · rw [f4 6 (by decide) (by decide), pt_k]
  · exact k14 0 (by decide) (by decide) (by decide)
  · intro p hp
    rw [ku 17 (by decide) (by decide) (by decide) (by decide) (by decide) (by decide) (by decide) (by decide), d6 17 (by decide) (by decide) (by decide), pt_n _ _ _ _ (by decide), b3 17 (by decide)]
    exact a4 p hp
  · rw [kt 6 (by decide) (by decide), es0, pt_j _ _ _ _ (by decide), pt_j _ _ _ _ (by decide), pt_j _ _ _ _ (by decide), pt_j _ _ _ _ (by decide), pt_k]
  · rw [kt 7 (by decide) (by decide), es0, pt_j _ _ _ _ (by decide), pt_j _ _ _ _ (by decide), pt_j _ _ _ _ (by decide), pt_j _ _ _ _ (by decide), pt_j _ _ _ _ (by decide)]
  · rw [ku25, d5 8 (by decide), pt_j _ _ _ _ (by decide), b3 25 (by decide)]; exact a3
  · rw [kt 9 (by decide) (by decide), es0, pt_j _ _ _ _ (by decide), pt_j _ _ _ _ (by decide), pt_j _ _ _ _ (by decide), pt_k]
  · rw [kt 10 (by decide) (by decide), es0, pt_j _ _ _ _ (by decide), pt_j _ _ _ _ (by decide), pt_k]
  · rw [kt 11 (by decide) (by decide), es0, pt_j _ _ _ _ (by decide), pt_k]
  · rw [ku25]; exact d4
end
