/-- one turn -/
theorem turn {q : SL} (h : Rel q.1 q.2.1) {n : Nat} (hn : 20000 ≤ n) (i : Nat) (xs : Nat → Int32) : Arm (LStp n i xs q) := by
  have h4 : 4200 ≤ n := by omega
  unfold LStp
  by_cases c0 : (xs i &&& 15) = (0 : Int32)
  · rw [if_pos c0]; exact arm0 h h4 i xs _
  rw [if_neg c0]
  by_cases c1 : (xs i &&& 15) = (1 : Int32)
  · rw [if_pos c1]; exact arm1 h hn i xs _
  rw [if_neg c1]
  by_cases c2 : (xs i &&& 15) = (2 : Int32)
  · rw [if_pos c2]; exact arm2 h n i xs _
  rw [if_neg c2]
  by_cases c3 : (xs i &&& 15) = (3 : Int32)
  · rw [if_pos c3]; exact arm3 h n i xs _
  rw [if_neg c3]
  by_cases c4 : (xs i &&& 15) = (4 : Int32)
  · rw [if_pos c4]; exact arm4 h n i xs _
  rw [if_neg c4]
  by_cases c5 : (xs i &&& 15) = (5 : Int32)
  · rw [if_pos c5]; exact arm5 h n i xs _
  rw [if_neg c5]
  by_cases c6 : (xs i &&& 15) = (6 : Int32)
  · rw [if_pos c6]; exact arm6 h n i xs _
  rw [if_neg c6]
  by_cases c7 : (xs i &&& 15) = (7 : Int32)
  · rw [if_pos c7]; exact arm7 h n i xs _
  rw [if_neg c7]
  by_cases c8 : (xs i &&& 15) = (8 : Int32)
  · rw [if_pos c8]; exact arm8 h h4 i xs _
  rw [if_neg c8]
  by_cases c9 : (xs i &&& 15) = (9 : Int32)
  · rw [if_pos c9]; exact arm9 h hn i xs _
  rw [if_neg c9]
  by_cases c10 : (xs i &&& 15) = (10 : Int32)
  · rw [if_pos c10]; exact arm10 h n i xs _
  rw [if_neg c10]
  by_cases c11 : (xs i &&& 15) = (11 : Int32)
  · rw [if_pos c11]; exact arm11 h h4 i xs _
  rw [if_neg c11]
  by_cases c12 : (xs i &&& 15) = (12 : Int32)
  · rw [if_pos c12]; exact arm12 h h4 i xs _
  rw [if_neg c12]
  by_cases c13 : (xs i &&& 15) = (13 : Int32)
  · rw [if_pos c13]; exact arm13 h h4 i xs _
  rw [if_neg c13]
  by_cases c14 : (xs i &&& 15) = (14 : Int32)
  · rw [if_pos c14]; exact arm14 h h4 i xs _
  rw [if_neg c14]
  exact ⟨q, rfl, h⟩
/-- all turns -/
theorem turns {n : Nat} (hn : 20000 ≤ n) (xs : Nat → Int32) : ∀ (k i : Nat) (q : SL), Rel q.1 q.2.1 → ∃ qf, LRun n xs k i q = some qf
  | 0, _, q, _ => ⟨q, rfl⟩
  | k + 1, i, q, h => by
    obtain ⟨q1, e, h1⟩ := turn h hn i xs
    obtain ⟨qf, e2⟩ := turns hn xs k (i + 4) q1 h1
    refine ⟨qf, ?_⟩
    simp only [LRun]
    rw [e, be_s]; exact e2
theorem pure_law (xs : Nat → Int32) (L : Nat) (hL : L ≤ 2048) : ∃ (n : Nat) (rx : Int32) (sx0 : St) (rm0 : Int32) (sm0 : St) (qf : SL), FX2_startOver n 16 32 (pt (pt (pt z0 1 4 4) 1 5 8) 1 6 (-1)) = some (rx, sx0) ∧ FX3_anew n 16 32 z0 = some (rm0, sm0) ∧ LRun n xs (L / 4) 0 (sx0, sm0, fun _ => 0) = some qf := by
  obtain ⟨N, hN⟩ : ∃ N, N = 20000 := ⟨_, rfl⟩
  obtain ⟨u, u1, u2⟩ := ex_new N 16 32 (pt (pt (pt z0 1 4 4) 1 5 8) 1 6 (-1))
  obtain ⟨w, w1, w2, _⟩ := em_new 16 32 z0 (n := N) (by omega)
  obtain ⟨qf, e⟩ := turns (n := N) (by omega) xs (L / 4) 0 (u, w, fun _ => 0) (new_rel (by omega) (by omega) (by omega) (by omega) u2 w2)
  exact ⟨N, 0, u, 0, w, qf, u1, w1, e⟩
