/-! arms of the law: word -/
/-- word k of an object -/
def wv (A R D : Nat → Nat) (C : Nat → Nat → Int32) (o k : Nat) : Int32 := if k = 0 then nI (256 * R o + D o) else if k ≤ R o then ad A (C o (k - 1)) else C o (k - 1)
section
variable {P W n : Nat} {K F A R D : Nat → Nat} {C : Nat → Nat → Int32} {ex : Nat → Int32} {op : Int32} {sx sm s : St}
theorem em_wordL (g : Geo P W n K F A R D) (hO : OM n A R D C s) (hC : CR n R C) {a : Nat} (ha : a < 2 ^ 31) : ∀ (d o m : Nat), o + d = n → d < m →
    (∃ q, o ≤ q ∧ q < n ∧ A q ≤ a ∧ a < A q + szo R D q ∧ LX3_word_7 m (nI a) (nI o) s = some (wv A R D C q (a - A q), s)) ∨ ((∀ j, o ≤ j → j < n → ¬ (A j ≤ a ∧ a < A j + szo R D j)) ∧ LX3_word_7 m (nI a) (nI o) s = some (0, s))
  | 0, o, m, hd, hm => by
    obtain ⟨m, rfl⟩ : ∃ k, m = k + 1 := ⟨m - 1, by omega⟩
    have := g.nle
    refine Or.inr ⟨fun j h1 h2 => by omega, ?_⟩
    simp only [LX3_word_7, hO.1]
    rw [if_pos (nI_le (by omega) (by omega))]
  | d + 1, o, m, hd, hm => by
    obtain ⟨m, rfl⟩ : ∃ k, m = k + 1 := ⟨m - 1, by omega⟩
    have hn := g.nle
    have ho : o < n := by omega
    have h1 := g.Alt ho
    have h2 := g.2.2.2.1 o ho
    have h3 := g.fr ho
    have ih := em_wordL g hO hC ha d (o + 1) m (by omega) (by omega)
    have step : LX3_word_7 m (nI a) (nI (o + 1)) s = LX3_word_7 (m + 1) (nI a) (nI o) s → ¬ (A o ≤ a ∧ a < A o + szo R D o) → (∃ q, o ≤ q ∧ q < n ∧ A q ≤ a ∧ a < A q + szo R D q ∧ LX3_word_7 (m + 1) (nI a) (nI o) s = some (wv A R D C q (a - A q), s)) ∨ ((∀ j, o ≤ j → j < n → ¬ (A j ≤ a ∧ a < A j + szo R D j)) ∧ LX3_word_7 (m + 1) (nI a) (nI o) s = some (0, s)) := by
      intro e hno
      rw [← e]
      rcases ih with ⟨q, q1, q2, q3, q4, q5⟩ | ⟨q1, q2⟩
      · exact Or.inl ⟨q, by omega, q2, q3, q4, q5⟩
      · refine Or.inr ⟨fun j j1 j2 => ?_, q2⟩
        by_cases ej : j = o
        · rw [ej]; exact hno
        · exact q1 j (by omega) j2
    obtain ⟨m1, m2, m3, m4, m5⟩ := hO.2.2 o ho
    by_cases hlt : a < A o
    · refine step ?_ (by omega)
      simp only [LX3_word_7, hO.1]
      rw [if_neg (nI_ge (by omega) (by omega)), gd_n (by omega) (by omega), if_neg (nI_pos ha), nI_clamp (by omega), m1, if_pos (pk_sneg (by omega) hlt), nI_p1]
    · have hge : A o ≤ a := by omega
      have e0 : nI a - nI (A o) = nI (a - A o) := pk_sub hge
      by_cases hin : a - A o < szo R D o
      · refine Or.inl ⟨o, Nat.le_refl _, ho, hge, by omega, ?_⟩
        simp only [szo] at hin
        simp only [LX3_word_7, hO.1]
        rw [if_neg (nI_ge (by omega) (by omega)), gd_n (by omega) (by omega), if_neg (nI_pos ha), nI_clamp (by omega), m1, e0, if_neg (nI_pos (by omega)), em_size g hO ho, bd_s, if_pos (nI_lt (by simp only [szo]; omega) (by simp only [szo]; omega))]
        unfold wv
        by_cases hk : a - A o = 0
        · rw [if_pos ((nI_e0 (by omega)).mpr hk), gd_n (by omega) (by omega), gd_n (by omega) (by omega), m2, m3, if_pos hk, show (256 : Int32) = nI 256 from rfl, pk_mul, nI_add]
        · rw [if_neg (fun q => hk ((nI_e0 (by omega)).mp q)), gd_n (by omega) (by omega), m4, nI_add, nI_s1 (by omega), gd_n (by omega) (by omega), gd_n (by omega) (by omega), nI_clamp (by omega), m2, if_neg hk]
          have e1 : Fr R D o + (a - A o) - 1 = Fr R D o + (a - A o - 1) := by omega
          rw [e1, m5 (a - A o - 1) (by omega)]
          by_cases hr : a - A o ≤ R o
          · rw [if_neg (nI_nlt hr (by omega)), em_addr (fun o' ho' => (hO.2.2 o' ho').1) hn (hC o _ ho (by omega)), bd_s, if_pos hr]
          · rw [if_pos (nI_lt (by omega) (by omega)), if_neg hr]
      · refine step ?_ (by omega)
        simp only [LX3_word_7, hO.1]
        rw [if_neg (nI_ge (by omega) (by omega)), gd_n (by omega) (by omega), if_neg (nI_pos ha), nI_clamp (by omega), m1, e0, if_neg (nI_pos (by omega)), em_size g hO ho, bd_s, if_neg (nI_nlt (by omega) (by omega)), nI_p1]
theorem em_wordN (g : Geo P W n K F A R D) (hO : OM n A R D C s) {x : Int32} (hx : x < 0) : ∀ (d o m : Nat), o + d = n → d < m → LX3_word_7 m x (nI o) s = some (0, s)
  | 0, o, m, hd, hm => by
    obtain ⟨m, rfl⟩ : ∃ k, m = k + 1 := ⟨m - 1, by omega⟩
    have := g.nle
    simp only [LX3_word_7, hO.1]
    rw [if_pos (nI_le (by omega) (by omega))]
  | d + 1, o, m, hd, hm => by
    obtain ⟨m, rfl⟩ : ∃ k, m = k + 1 := ⟨m - 1, by omega⟩
    have := g.nle
    have ih := em_wordN g hO hx d (o + 1) m (by omega) (by omega)
    simp only [LX3_word_7, hO.1]
    rw [if_neg (nI_ge (by omega) (by omega)), gd_n (by omega) (by omega), if_pos hx, nI_p1]
    exact ih
theorem ox_wv (hO : OX n A R D C (s.1 5)) {o k : Nat} (ho : o < n) (hk : k < szo R D o) : s.1 5 (A o + k) = wv A R D C o k := by
  obtain ⟨q1, q2, q3⟩ := hO o ho
  simp only [szo] at hk
  unfold wv
  by_cases h0 : k = 0
  · rw [if_pos h0, h0]; exact q1
  · rw [if_neg h0]
    have e : A o + k = A o + 1 + (k - 1) := by omega
    by_cases hr : k ≤ R o
    · rw [if_pos hr, e]; exact q2 _ (by omega)
    · rw [if_neg hr, e]; exact q3 _ (by omega) (by omega)
end
theorem arm11 {sx sm : St} (h : Rel sx sm) {n : Nat} (hn : 4200 ≤ n) (i : Nat) (xs : Nat → Int32) (oc : Nat → Int64) : Arm (A_law_11 n i xs sx sm oc) := by
  obtain ⟨P, W, N, K, F, A, R, D, C, ex, op, h⟩ := h
  have h' := h.thr 0
  have hle := h.1.nle
  have hPW := h.1.PWle
  unfold A_law_11 FX2_word FX3_word
  generalize xs (i + 1) = x
  rw [ex_isAddr h.1.1 h.2.1, bd_s]
  rcases nI_any x with hx | ⟨a, ha, rfl⟩
  · simp only [if_pos (Or.inl hx : x < 0 ∨ nI (P * W) ≤ x), if_true, bd_s]
    have e := em_wordN h'.1 h'.2.2.2.2.2.2.1 hx N 0 n (by omega) (by omega)
    rw [← n0] at e
    rw [e, bd_s, if_pos rfl]
    exact Arm.mk (rel h')
  · have e := em_wordL h'.1 h'.2.2.2.2.2.2.1 h'.2.2.2.2.2.2.2.1 ha N 0 n (by omega) (by omega)
    rw [← n0] at e
    by_cases hb : a < P * W
    · rw [if_neg (show ¬ (nI a < 0 ∨ nI (P * W) ≤ nI a) from fun q => q.elim (nI_pos ha) (nI_ge hb (by omega))), if_neg (show ¬ (1 : Int32) = 0 by decide)]
      unfold FX1_wordAt
      rw [gd_n (by omega) (by omega), bd_s, bd_s, nI_clamp ha]
      rcases e with ⟨q, q1, q2, q3, q4, q5⟩ | ⟨q1, q2⟩
      · have hw := ox_wv (s := sx) h.2.2.2.1 q2 (show a - A q < szo R D q by omega)
        rw [show A q + (a - A q) = a by omega] at hw
        rw [q5, bd_s, hw, if_pos rfl]
        exact Arm.mk (rel h')
      · have hz := h.2.2.2.2.1 a (by omega) (fun hq => by
          obtain ⟨o, ho, h1, h2⟩ := (h.1.2.2.2.2.2.1 a hb).mpr hq.2
          exact q1 o (Nat.zero_le _) ho ⟨h1, h2⟩)
        rw [q2, bd_s, hz, if_pos rfl]
        exact Arm.mk (rel h')
    · rw [if_pos (show nI a < 0 ∨ nI (P * W) ≤ nI a from Or.inr (nI_le (by omega) ha)), if_pos rfl, bd_s]
      rcases e with ⟨q, q1, q2, q3, q4, q5⟩ | ⟨q1, q2⟩
      · have := (h.1.2.2.2.1 q q2).2.2
        omega
      · rw [q2, bd_s, if_pos rfl]
        exact Arm.mk (rel h')
