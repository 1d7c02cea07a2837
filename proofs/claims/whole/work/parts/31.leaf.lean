/-! the class's and the model's small loops, as numbers -/
/-- the pages as the class has them -/
def VX (P W : Nat) (K F : Nat → Nat) (s : St) : Prop := s.1 1 4 = nI P ∧ s.1 1 5 = nI W ∧ (∀ p, p < 64 → s.1 6 p = nI (K p)) ∧ (∀ p, p < 64 → s.1 7 p = nI (F p))
/-- .. and the model -/
def VM (P W : Nat) (K F : Nat → Nat) (s : St) : Prop := s.1 14 1 = nI P ∧ s.1 14 2 = nI W ∧ (∀ p, p < 64 → s.1 15 p = nI (K p)) ∧ (∀ p, p < 64 → s.1 16 p = nI (F p))
/-- the numbers that pages may have -/
def PW (P W : Nat) (K F : Nat → Nat) : Prop := 4 ≤ P ∧ P ≤ 64 ∧ 8 ≤ W ∧ W ≤ 64 ∧ (∀ p, K p ≤ 3) ∧ (∀ p, F p ≤ W)
def nUsed (K : Nat → Nat) (P : Nat) : Nat := cnt (fun p => decide (K p ≠ 0)) P
theorem nUsed_s (K : Nat → Nat) (p : Nat) : nUsed K (p + 1) = nUsed K p + (if K p = 0 then 0 else 1) := by
  simp only [nUsed, cnt]
  by_cases h : K p = 0 <;> simp [h]
section X
variable {P W : Nat} {K F : Nat → Nat} {s : St}
theorem ex_usedL (h : PW P W K F) (v : VX P W K F s) : ∀ (d p n : Nat), p + d = P → d < n → LX1_usedPages_4 n (nI (nUsed K p)) (nI p) s = some (nI (nUsed K P), s)
  | 0, p, n, hd, hn => by
    obtain ⟨n, rfl⟩ : ∃ k, n = k + 1 := ⟨n - 1, by omega⟩
    have hp : p = P := by omega
    subst hp
    simp only [LX1_usedPages_4, v.1]
    rw [if_pos (nI_le (Nat.le_refl _) (by have := h.2.1; omega))]
  | d + 1, p, n, hd, hn => by
    obtain ⟨n, rfl⟩ : ∃ k, n = k + 1 := ⟨n - 1, by omega⟩
    have hP := h.2.1
    have ih := ex_usedL h v d (p + 1) n (by omega) (by omega)
    have hK3 := h.2.2.2.2.1 p
    have hu := cnt_le (fun p => decide (K p ≠ 0)) p
    simp only [LX1_usedPages_4, v.1]
    rw [if_neg (nI_ge (by omega) (by omega)), gd_n (by omega) (by omega), nI_clamp (by omega), v.2.2.1 p (by omega)]
    rw [nUsed_s] at ih
    by_cases hk : K p = 0
    · rw [if_pos ((nI_e0 (by omega)).mpr hk), nI_p1]
      rw [if_pos hk, Nat.add_zero] at ih
      exact ih
    · rw [if_neg (fun e => hk ((nI_e0 (by omega)).mp e)), nI_p1, nI_p1]
      rw [if_neg hk] at ih
      exact ih
theorem ex_used (h : PW P W K F) (v : VX P W K F s) {n : Nat} (hn : 64 < n) : FX1_usedPages n s = some (nI (nUsed K P), s) := by
  have := ex_usedL h v P 0 n (by omega) (by have := h.2.1; omega)
  exact this
theorem ex_isAddr (h : PW P W K F) (v : VX P W K F s) {n : Nat} (x : Int32) : FX1_isAddress n x s = some (if x < 0 ∨ nI (P * W) ≤ x then 0 else 1, s) := by
  simp only [FX1_isAddress, v.1, v.2.1, pk_mul, be_s]
  by_cases h1 : x < 0
  · simp [h1, gz_0]
  · by_cases h2 : nI (P * W) ≤ x
    · simp [h1, h2, gz_0]
    · simp [h1, h2, gz_1]
theorem ex_isAddrN (h : PW P W K F) (v : VX P W K F s) {n a : Nat} (ha : a < P * W) : FX1_isAddress n (nI a) s = some (1, s) := by
  have hb : P * W ≤ 4096 := Nat.mul_le_mul h.2.1 h.2.2.2.1
  rw [ex_isAddr h v, if_neg]
  intro e
  rcases e with e | e
  · exact nI_pos (by omega) e
  · exact nI_ge ha (by omega) e
theorem ex_freeL (h : PW P W K F) (v : VX P W K F s) (x1 : Int32) : ∀ (d p n : Nat), p + d = P → d < n → (∃ q, p ≤ q ∧ q < P ∧ K q = 0 ∧ (∀ j, p ≤ j → j < q → K j ≠ 0) ∧ LX1_freePageFrom_2 n x1 (nI p) s = some (nI q, s)) ∨ ((∀ j, p ≤ j → j < P → K j ≠ 0) ∧ LX1_freePageFrom_2 n x1 (nI p) s = some (-1, s))
  | 0, p, n, hd, hn => by
    obtain ⟨n, rfl⟩ : ∃ k, n = k + 1 := ⟨n - 1, by omega⟩
    refine Or.inr ⟨fun j h1 h2 => by omega, ?_⟩
    have hp : p = P := by omega
    subst hp
    simp only [LX1_freePageFrom_2, v.1]
    rw [if_pos (nI_le (Nat.le_refl _) (by have := h.2.1; omega))]
  | d + 1, p, n, hd, hn => by
    obtain ⟨n, rfl⟩ : ∃ k, n = k + 1 := ⟨n - 1, by omega⟩
    have hP := h.2.1
    have hK3 := h.2.2.2.2.1 p
    have ih := ex_freeL h v x1 d (p + 1) n (by omega) (by omega)
    simp only [LX1_freePageFrom_2, v.1]
    rw [if_neg (nI_ge (by omega) (by omega)), gd_n (by omega) (by omega), nI_clamp (by omega), v.2.2.1 p (by omega), nI_p1]
    by_cases hk : K p = 0
    · exact Or.inl ⟨p, Nat.le_refl _, by omega, hk, fun j h1 h2 => by omega, by rw [if_pos ((nI_e0 (by omega)).mpr hk)]⟩
    · rw [if_neg (fun e => hk ((nI_e0 (by omega)).mp e))]
      rcases ih with ⟨q, h1, h2, h3, h4, h5⟩ | ⟨h1, h2⟩
      · exact Or.inl ⟨q, by omega, h2, h3, fun j j1 j2 => by
          by_cases e : j = p
          · rw [e]; exact hk
          · exact h4 j (by omega) j2, h5⟩
      · exact Or.inr ⟨fun j j1 j2 => by
          by_cases e : j = p
          · rw [e]; exact hk
          · exact h1 j (by omega) j2, h2⟩
end X
section M
variable {P W : Nat} {K F : Nat → Nat} {s : St}
theorem em_usedL (h : PW P W K F) (v : VM P W K F s) : ∀ (d p n : Nat), p + d = P → d < n → LX3_used_4 n (nI (nUsed K p)) (nI p) s = some (nI (nUsed K P), s)
  | 0, p, n, hd, hn => by
    obtain ⟨n, rfl⟩ : ∃ k, n = k + 1 := ⟨n - 1, by omega⟩
    have hp : p = P := by omega
    subst hp
    simp only [LX3_used_4, v.1]
    rw [if_pos (nI_le (Nat.le_refl _) (by have := h.2.1; omega))]
  | d + 1, p, n, hd, hn => by
    obtain ⟨n, rfl⟩ : ∃ k, n = k + 1 := ⟨n - 1, by omega⟩
    have hP := h.2.1
    have ih := em_usedL h v d (p + 1) n (by omega) (by omega)
    have hK3 := h.2.2.2.2.1 p
    simp only [LX3_used_4, v.1]
    rw [if_neg (nI_ge (by omega) (by omega)), gd_n (by omega) (by omega), nI_clamp (by omega), v.2.2.1 p (by omega)]
    rw [nUsed_s] at ih
    by_cases hk : K p = 0
    · rw [if_pos ((nI_e0 (by omega)).mpr hk), nI_p1, n0, nI_add]
      rw [if_pos hk] at ih
      exact ih
    · rw [if_neg (fun e => hk ((nI_e0 (by omega)).mp e)), nI_p1, nI_p1]
      rw [if_neg hk] at ih
      exact ih
theorem em_used (h : PW P W K F) (v : VM P W K F s) {n : Nat} (hn : 64 < n) : FX3_used n s = some (nI (nUsed K P), s) := by
  have := em_usedL h v P 0 n (by omega) (by have := h.2.1; omega)
  exact this
end M
