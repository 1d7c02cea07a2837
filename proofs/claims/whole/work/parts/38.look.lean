/-! arms of the law: page, look -/
def nB (W n : Nat) (A : Nat → Nat) (p : Nat) : Nat := cnt (fun o => decide (A o / W = p)) n
theorem nB_le (W n : Nat) (A : Nat → Nat) (p : Nat) : nB W n A p ≤ n := cnt_le _ _
section
variable {P W n : Nat} {K F A R D : Nat → Nat} {C : Nat → Nat → Int32} {ex : Nat → Int32} {op : Int32} {sx sm s : St}
theorem bits_n (hW : 0 < W) (hW2 : W ≤ 64) (p : Nat) : ∀ n', (∀ o o', o < n' → o' < n' → A o = A o' → o = o') → cnt (fun k => decide (k < W ∧ ∃ o, o < n' ∧ A o = p * W + k)) 64 = cnt (fun o => decide (A o / W = p)) n'
  | 0, _ => cnt_false 64 (fun k _ => by simp)
  | m + 1, hi => by
    have ih := bits_n hW hW2 p m (fun o o' h1 h2 => hi o o' (by omega) (by omega))
    show _ = cnt (fun o => decide (A o / W = p)) m + (if decide (A m / W = p) then 1 else 0)
    rw [← ih]
    by_cases e : A m / W = p
    · have hk : A m % W < W := Nat.mod_lt _ hW
      have hm : A m = p * W + A m % W := by rw [← e, Nat.mul_comm]; exact (Nat.div_add_mod (A m) W).symm
      have e1 : cnt (fun k => decide (k < W ∧ ∃ o, o < m + 1 ∧ A o = p * W + k)) 64 = cnt (fun k => decide (k < W ∧ ∃ o, o < m ∧ A o = p * W + k) || decide (A m % W ≤ k ∧ k < A m % W + 1)) 64 := cnt_congr 64 (fun k hk64 => by
        rw [Bool.eq_iff_iff]
        simp only [Bool.or_eq_true, decide_eq_true_eq]
        constructor
        · rintro ⟨h1, o, ho, h2⟩
          by_cases eo : o = m
          · subst eo; exact Or.inr (by omega)
          · exact Or.inl ⟨h1, o, by omega, h2⟩
        · rintro (⟨h1, o, ho, h2⟩ | h)
          · exact ⟨h1, o, by omega, h2⟩
          · exact ⟨by omega, m, by omega, by omega⟩)
      rw [e1, cnt_or 64 (fun k _ hf => by
        simp only [decide_eq_true_eq] at hf
        obtain ⟨h1, o, ho, h2⟩ := hf
        simp only [decide_eq_false_iff_not]
        intro h
        have hk0 : k = A m % W := by omega
        subst hk0
        have := hi o m (by omega) (by omega) (by omega)
        omega), cnt_iv 64 (by omega)]
      simp [e]
    · have e1 : cnt (fun k => decide (k < W ∧ ∃ o, o < m + 1 ∧ A o = p * W + k)) 64 = cnt (fun k => decide (k < W ∧ ∃ o, o < m ∧ A o = p * W + k)) 64 := cnt_congr 64 (fun k hk64 => by
        rw [Bool.eq_iff_iff]
        simp only [decide_eq_true_eq]
        constructor
        · rintro ⟨h1, o, ho, h2⟩
          by_cases eo : o = m
          · subst eo
            exfalso
            apply e
            rw [h2, Nat.mul_comm, Nat.mul_add_div hW, Nat.div_eq_of_lt h1]
            omega
          · exact ⟨h1, o, by omega, h2⟩
        · rintro ⟨h1, o, ho, h2⟩
          exact ⟨h1, o, by omega, h2⟩)
      rw [e1]
      simp [e]
theorem bits_cnt (g : Geo P W n K F A R D) {b : Nat → Int64} (hb : BX W n A b) {p : Nat} (hp : p < 64) : cnt (fun k => bit (b p) k) 64 = nB W n A p := by
  unfold nB
  have hW1 := g.1.2.2.1
  rw [← bits_n (by omega) g.1.2.2.2.1 p n (fun o o' h1 h2 e => g.Ainj h1 h2 e)]
  apply cnt_congr
  intro k hk
  rw [Bool.eq_iff_iff, decide_eq_true_eq]
  exact hb p k hp hk
theorem ex_objs (g : Geo P W n K F A R D) (hb : BX W n A s.2) {p : Nat} (hp : p < 64) (m : Nat) : FX1_objectsOf m (nI p) s = some (nI (nB W n A p), s) := by
  unfold FX1_objectsOf
  rw [gd_n hp (by omega), nI_clamp (by omega), bct_cnt, bits_cnt g hb hp]
theorem em_begL (g : Geo P W n K F A R D) (v : VM P W K F s) (hO : OM n A R D C s) {p : Nat} (hp : p < 64) : ∀ (d o m : Nat), o + d = n → d < m → LX3_beginningIn_4 m (nI p) (nI (nB W o A p)) (nI o) s = some (nI (nB W n A p), s)
  | 0, o, m, hd, hm => by
    obtain ⟨m, rfl⟩ : ∃ k, m = k + 1 := ⟨m - 1, by omega⟩
    have := g.nle
    have e : o = n := by omega
    subst e
    simp only [LX3_beginningIn_4, hO.1]
    rw [if_pos (nI_le (Nat.le_refl _) (by omega))]
  | d + 1, o, m, hd, hm => by
    obtain ⟨m, rfl⟩ : ∃ k, m = k + 1 := ⟨m - 1, by omega⟩
    have := g.nle
    have hW1 := g.1.2.2.1
    have hW2 := g.1.2.2.2.1
    have ho : o < n := by omega
    have h1 := g.Alt ho
    have h2 : A o / W ≤ A o := Nat.div_le_self _ _
    have ih := em_begL g v hO hp d (o + 1) m (by omega) (by omega)
    simp only [LX3_beginningIn_4, hO.1]
    rw [if_neg (nI_ge (by omega) (by omega)), gd_n (by omega) (by omega), v.2.1, dz_n (by omega) (by omega), nI_clamp (by omega), (hO.2.2 o ho).1, nI_div _ (by omega) (by omega) (by omega), nI_p1]
    by_cases e : A o / W = p
    · rw [if_pos (by rw [e]), nI_p1]
      have e1 : nB W (o + 1) A p = nB W o A p + 1 := by simp [nB, cnt, e]
      rw [e1] at ih
      exact ih
    · rw [if_neg (nI_ne (by omega) (by omega) e), nI_p1, n0, nI_add]
      have e1 : nB W (o + 1) A p = nB W o A p + 0 := by simp [nB, cnt, e]
      rw [e1] at ih
      exact ih
theorem em_beg (g : Geo P W n K F A R D) (v : VM P W K F s) (hO : OM n A R D C s) {p m : Nat} (hp : p < 64) (hm : 4200 ≤ m) : FX3_beginningIn m (nI p) s = some (nI (nB W n A p), s) := by
  have := g.nle
  exact em_begL g v hO hp n 0 m (by omega) (by omega)
-- sums over the pages
theorem ex_allObjL (g : Geo P W n K F A R D) (v : VX P W K F s) (hb : BX W n A s.2) : ∀ (d p m : Nat), p + d = P → d < m → LX1_allObjects_4 m (nI (sumN (nB W n A) p)) (nI p) s = some (nI (sumN (nB W n A) P), s)
  | 0, p, m, hd, hm => by
    obtain ⟨m, rfl⟩ : ∃ k, m = k + 1 := ⟨m - 1, by omega⟩
    have hP := g.1.2.1
    have e : p = P := by omega
    subst e
    simp only [LX1_allObjects_4, v.1]
    rw [if_pos (nI_le (Nat.le_refl _) (by omega))]
  | d + 1, p, m, hd, hm => by
    obtain ⟨m, rfl⟩ : ∃ k, m = k + 1 := ⟨m - 1, by omega⟩
    have hP := g.1.2.1
    have ih := ex_allObjL g v hb d (p + 1) m (by omega) (by omega)
    simp only [LX1_allObjects_4, v.1]
    rw [if_neg (nI_ge (by omega) (by omega)), ex_objs g hb (by omega), bd_s, nI_add, nI_p1]
    exact ih
theorem ex_allFilL (g : Geo P W n K F A R D) (v : VX P W K F s) : ∀ (d p m : Nat), p + d = P → d < m → LX1_allFilled_4 m (nI (sumN F p)) (nI p) s = some (nI (sumN F P), s)
  | 0, p, m, hd, hm => by
    obtain ⟨m, rfl⟩ : ∃ k, m = k + 1 := ⟨m - 1, by omega⟩
    have hP := g.1.2.1
    have e : p = P := by omega
    subst e
    simp only [LX1_allFilled_4, v.1]
    rw [if_pos (nI_le (Nat.le_refl _) (by omega))]
  | d + 1, p, m, hd, hm => by
    obtain ⟨m, rfl⟩ : ∃ k, m = k + 1 := ⟨m - 1, by omega⟩
    have hP := g.1.2.1
    have ih := ex_allFilL g v d (p + 1) m (by omega) (by omega)
    simp only [LX1_allFilled_4, v.1]
    rw [if_neg (nI_ge (by omega) (by omega)), gd_n (by omega) (by omega), nI_clamp (by omega), v.2.2.2 p (by omega), nI_add, nI_p1]
    exact ih
theorem em_allWL (g : Geo P W n K F A R D) (hO : OM n A R D C s) : ∀ (d o m : Nat), o + d = n → d < m → LX3_allWords_4 m (nI (sumN (szo R D) o)) (nI o) s = some (nI (sumN (szo R D) n), s)
  | 0, o, m, hd, hm => by
    obtain ⟨m, rfl⟩ : ∃ k, m = k + 1 := ⟨m - 1, by omega⟩
    have := g.nle
    have e : o = n := by omega
    subst e
    simp only [LX3_allWords_4, hO.1]
    rw [if_pos (nI_le (Nat.le_refl _) (by omega))]
  | d + 1, o, m, hd, hm => by
    obtain ⟨m, rfl⟩ : ∃ k, m = k + 1 := ⟨m - 1, by omega⟩
    have := g.nle
    have ih := em_allWL g hO d (o + 1) m (by omega) (by omega)
    simp only [LX3_allWords_4, hO.1]
    rw [if_neg (nI_ge (by omega) (by omega)), em_size g hO (by omega), bd_s, nI_add, nI_p1]
    exact ih
theorem sum_nB (hA : ∀ o, o < n → A o / W < P) : sumN (nB W n A) P = n := by
  induction n with
  | zero =>
    have : ∀ p, nB W 0 A p = 0 := fun p => rfl
    have h := sumN_le (f := nB W 0 A) (B := 0) P (fun k _ => by rw [this]; exact Nat.le_refl _)
    omega
  | succ n ih =>
    have ih := ih (fun o ho => hA o (by omega))
    have key : ∀ Q, sumN (nB W (n + 1) A) Q = sumN (nB W n A) Q + (if A n / W < Q then 1 else 0) := by
      intro Q
      induction Q with
      | zero => rfl
      | succ Q iq =>
        have e : nB W (n + 1) A Q = nB W n A Q + (if A n / W = Q then 1 else 0) := by
          simp only [nB, cnt]
          by_cases h : A n / W = Q <;> simp [h]
        simp only [sumN]
        rw [iq, e]
        by_cases h1 : A n / W < Q
        · rw [if_pos h1, if_neg (by omega), if_pos (by omega)]; omega
        · by_cases h2 : A n / W = Q
          · rw [if_neg h1, if_pos h2, if_pos (by omega)]; omega
          · rw [if_neg h1, if_neg h2, if_neg (by omega)]; omega
    rw [key, if_pos (hA n (by omega)), ih]
theorem sum_F (hW : 0 < W) (hF : ∀ p, F p ≤ W) : ∀ Q, cnt (fun a => decide (a % W < F (a / W))) (Q * W) = sumN F Q
  | 0 => by rw [Nat.zero_mul]; rfl
  | Q + 1 => by
    rw [Nat.succ_mul, cnt_add, sum_F hW hF Q]
    simp only [sumN]
    congr 1
    have e : cnt (fun k => decide ((Q * W + k) % W < F ((Q * W + k) / W))) W = cnt (fun k => decide (0 ≤ k ∧ k < 0 + F Q)) W := cnt_congr W (fun k hk => by
      rw [Bool.eq_iff_iff, decide_eq_true_eq, decide_eq_true_eq, Nat.mul_comm Q W, Nat.mul_add_mod, Nat.mul_add_div hW, Nat.mod_eq_of_lt hk, Nat.div_eq_of_lt hk, Nat.add_zero]
      omega)
    rw [e, cnt_iv W (by have := hF Q; omega)]
theorem Geo.words (g : Geo P W n K F A R D) : sumN F P = sumN (szo R D) n := by
  have hW := g.1.2.2.1
  rw [← sum_F (by omega) g.1.2.2.2.2.2 P, ← cov_cnt (N := P * W) n (fun o ho => (g.2.2.2.1 o ho).2.2) g.2.2.2.2.1]
  apply cnt_congr
  intro a ha
  rw [Bool.eq_iff_iff, decide_eq_true_eq, decide_eq_true_eq]
  exact (g.2.2.2.2.2.1 a ha).symm
end
theorem ex_isPage (P : Nat) {s : St} (h : s.1 1 4 = nI P) (m : Nat) (x : Int32) : FX1_isPage m x s = some (if x < 0 ∨ nI P ≤ x then 0 else 1, s) := by
  unfold FX1_isPage
  rw [h, be_s]
  by_cases h1 : x < 0
  · simp [h1, gz_0]
  · by_cases h2 : nI P ≤ x
    · simp [h1, h2, gz_0]
    · simp [h1, h2, gz_1]
theorem arm13 {sx sm : St} (h : Rel sx sm) {n : Nat} (hn : 4200 ≤ n) (i : Nat) (xs : Nat → Int32) (oc : Nat → Int64) : Arm (A_law_13 n i xs sx sm oc) := by
  obtain ⟨P, W, N, K, F, A, R, D, C, ex, op, h⟩ := h
  have h' := h.thr 0
  have hP := h.1.1.2.1
  unfold A_law_13 FX2_page FX3_page
  generalize xs (i + 1) = x
  generalize xs (i + 2) = y
  rw [ex_isPage P h.2.1.1, bd_s, h'.2.2.1.1]
  rcases ix3 x (m := P) (by omega) with hx | hx | ⟨p, hp, rfl⟩
  · rw [if_pos (show x < 0 ∨ nI P ≤ x from Or.inl hx), if_pos rfl, if_pos hx, bd_s, bd_s, if_pos rfl]
    exact Arm.mk (rel h')
  · have hle : nI P ≤ x := by
      obtain ⟨k, hk, rfl⟩ := nI_of hx.1
      exact nI_le (Nat.le_of_not_lt (fun q => hx.2 (nI_lt q (by omega)))) hk
    rw [if_pos (show x < 0 ∨ nI P ≤ x from Or.inr hle), if_pos rfl, if_neg hx.1, if_neg hx.2, bd_s, bd_s, if_pos rfl]
    exact Arm.mk (rel h')
  · have hno : ¬ (nI p < 0 ∨ nI P ≤ nI p) := fun q => q.elim (nI_pos (by omega)) (nI_ge hp (by omega))
    have hT := h'.2.2.2.2.2.2.2.2.2.2.2.2.2.2.2.2.2.2 p (by omega)
    have hh : (if (pt sm 14 0 0).1 17 p = 0 then (0 : Int32) else 1) = sx.1 13 p := by
      rw [hT.2]
      rcases hT.1 with e | e
      · rw [e, if_pos rfl]
      · rw [e, if_neg (by decide)]
    simp only [if_neg hno, if_neg (show ¬ (1 : Int32) = 0 by decide), if_neg (nI_pos (show p < 2 ^ 31 by omega)), if_pos (nI_lt hp (show P < 2 ^ 31 by omega)), FX1_kindOf, FX1_filledOf, FX0_hitOf, ex_objs h.1 h.2.2.2.2.2.1 (show p < 64 by omega), em_beg h'.1 h'.2.2.1 h'.2.2.2.2.2.2.1 (show p < 64 by omega) hn, gd_n (show p < 64 by omega) (show 64 < 2 ^ 31 by omega), nI_clamp (show p < 2 ^ 31 by omega), h.2.1.2.2.1 p (by omega), h.2.1.2.2.2 p (by omega), h'.2.2.1.2.2.1 p (by omega), h'.2.2.1.2.2.2 p (by omega), hh, be_s, bd_s]
    by_cases y0 : y = 0
    · simp only [if_pos y0, bd_s, if_true]; exact Arm.mk (rel h')
    · by_cases y1 : y = 1
      · simp only [if_neg y0, if_pos y1, bd_s, if_true]; exact Arm.mk (rel h')
      · by_cases y2 : y = 2
        · simp only [if_neg y0, if_neg y1, if_pos y2, bd_s, if_true]; exact Arm.mk (rel h')
        · by_cases y3 : y = 3
          · simp only [if_neg y0, if_neg y1, if_neg y2, if_pos y3, bd_s, if_true]; exact Arm.mk (rel h')
          · simp only [if_neg y0, if_neg y1, if_neg y2, if_neg y3, bd_s, if_true]; exact Arm.mk (rel h')
theorem em_told {s : St} (x : Int32) (k : Nat) (hx : x = nI k) (h1 : 6 ≤ k) (h2 : k ≤ 12) : (if x < (6 : Int32) then some (-1 : Int32) else (if (12 : Int32) < x then some (-1 : Int32) else gd x 13 (some (s.1 25 x.toNatClampNeg)))) = some (s.1 25 k) := by
  subst hx
  rw [if_neg (show ¬ nI k < (6 : Int32) from nI_nlt (b := 6) h1 (by omega)), if_neg (show ¬ (12 : Int32) < nI k from nI_nlt (a := 12) h2 (by omega)), gd_n (by omega) (by omega), nI_clamp (by omega)]
theorem arm14 {sx sm : St} (h : Rel sx sm) {n : Nat} (hn : 4200 ≤ n) (i : Nat) (xs : Nat → Int32) (oc : Nat → Int64) : Arm (A_law_14 n i xs sx sm oc) := by
  obtain ⟨P, W, N, K, F, A, R, D, C, ex, op, h⟩ := h
  have h' := h.thr 0
  have hP := h.1.1.2.1
  have hW := h.1.1.2.2.1
  have hle := h.1.nle
  obtain ⟨t6, t7, t8, t9, t10, t11, t12, -⟩ := h'.2.2.2.2.2.2.2.2.2.2.2
  have a2 := ex_used h.1.1 h.2.1 (show 64 < n by omega)
  have b2 := em_used h'.1.1 h'.2.2.1 (show 64 < n by omega)
  have a4 : FX1_allObjects n sx = some (nI N, sx) := by
    have e := ex_allObjL h.1 h.2.1 h.2.2.2.2.2.1 P 0 n (by omega) (by omega)
    have hs : sumN (nB W N A) P = N := sum_nB (fun o ho => Nat.div_lt_of_lt_mul (show A o < W * P by
      have := (h.1.2.2.2.1 o ho).2.2
      rw [Nat.mul_comm W P]
      simp only [szo] at this
      omega))
    rw [hs] at e
    exact e
  have a5 : FX1_allFilled n sx = some (nI (sumN F P), sx) := ex_allFilL h.1 h.2.1 P 0 n (by omega) (by omega)
  have b5 : FX3_allWords n (pt sm 14 0 0) = some (nI (sumN (szo R D) N), pt sm 14 0 0) := em_allWL h'.1 h'.2.2.2.2.2.2.1 N 0 n (by omega) (by omega)
  rw [← h.1.words] at b5
  unfold A_law_14 FX2_look FX3_look
  generalize xs (i + 1) = x
  simp only [a2, b2, a4, a5, b5, FX1_pages, FX1_words, FX1_openPage, FX0_done, FX0_givenUp, FX0_hitPages, FX0_rowObjects, FX0_movedObjects, FX0_takenPages, FX0_freedPages, h.2.1.1, h.2.1.2.1, h'.2.2.1.1, h'.2.2.1.2.1, h.2.2.2.2.2.2.2.2.2.2.1.1, h'.2.2.2.2.2.2.2.2.2.2.1.2.1, h'.2.2.2.2.2.2.1.1, bd_s]
  by_cases x0 : x = 0
  · simp only [if_pos x0, bd_s, if_true]; exact Arm.mk (rel h')
  · by_cases x1 : x = 1
    · simp only [if_neg x0, if_pos x1, bd_s, if_true]; exact Arm.mk (rel h')
    · by_cases x2 : x = 2
      · simp only [if_neg x0, if_neg x1, if_pos x2, bd_s, if_true]; exact Arm.mk (rel h')
      · by_cases x3 : x = 3
        · simp only [if_neg x0, if_neg x1, if_neg x2, if_pos x3, bd_s, if_true]; exact Arm.mk (rel h')
        · by_cases x4 : x = 4
          · simp only [if_neg x0, if_neg x1, if_neg x2, if_neg x3, if_pos x4, bd_s, if_true]; exact Arm.mk (rel h')
          · by_cases x5 : x = 5
            · simp only [if_neg x0, if_neg x1, if_neg x2, if_neg x3, if_neg x4, if_pos x5, bd_s, if_true]; exact Arm.mk (rel h')
            · simp only [if_neg x0, if_neg x1, if_neg x2, if_neg x3, if_neg x4, if_neg x5]
              by_cases x6 : x = 6
              · simp only [if_pos x6, em_told (s := pt sm 14 0 0) x 6 x6 (by omega) (by omega), be_s, bd_s, t6, if_true]; exact Arm.mk (rel h')
              · by_cases x7 : x = 7
                · simp only [if_neg x6, if_pos x7, em_told (s := pt sm 14 0 0) x 7 x7 (by omega) (by omega), be_s, bd_s, t7, if_true]; exact Arm.mk (rel h')
                · by_cases x8 : x = 8
                  · simp only [if_neg x6, if_neg x7, if_pos x8, em_told (s := pt sm 14 0 0) x 8 x8 (by omega) (by omega), be_s, bd_s, t8, if_true]; exact Arm.mk (rel h')
                  · by_cases x9 : x = 9
                    · simp only [if_neg x6, if_neg x7, if_neg x8, if_pos x9, em_told (s := pt sm 14 0 0) x 9 x9 (by omega) (by omega), be_s, bd_s, t9, if_true]; exact Arm.mk (rel h')
                    · by_cases x10 : x = 10
                      · simp only [if_neg x6, if_neg x7, if_neg x8, if_neg x9, if_pos x10, em_told (s := pt sm 14 0 0) x 10 x10 (by omega) (by omega), be_s, bd_s, t10, if_true]; exact Arm.mk (rel h')
                      · by_cases x11 : x = 11
                        · simp only [if_neg x6, if_neg x7, if_neg x8, if_neg x9, if_neg x10, if_pos x11, em_told (s := pt sm 14 0 0) x 11 x11 (by omega) (by omega), be_s, bd_s, t11, if_true]; exact Arm.mk (rel h')
                        · by_cases x12 : x = 12
                          · simp only [if_neg x6, if_neg x7, if_neg x8, if_neg x9, if_neg x10, if_neg x11, if_pos x12, em_told (s := pt sm 14 0 0) x 12 x12 (by omega) (by omega), be_s, bd_s, t12, if_true]; exact Arm.mk (rel h')
                          · simp only [if_neg x6, if_neg x7, if_neg x8, if_neg x9, if_neg x10, if_neg x11, if_neg x12, bd_s]
                            have e : (if x < (6 : Int32) then some (-1 : Int32) else (if (12 : Int32) < x then some (-1 : Int32) else gd x 13 (some ((pt sm 14 0 0).1 25 x.toNatClampNeg)))) = some (-1) := by
                              by_cases q1 : x < 6
                              · rw [if_pos q1]
                              · by_cases q2 : (12 : Int32) < x
                                · rw [if_neg q1, if_pos q2]
                                · exfalso
                                  rcases sw_out12 x0 x1 x2 x3 x4 x5 x6 x7 x8 x9 x10 x11 x12 with q | q
                                  · apply q1; rw [Int32.lt_iff_toInt_lt, show (6 : Int32).toInt = 6 from rfl]; omega
                                  · apply q2; rw [Int32.lt_iff_toInt_lt, show (12 : Int32).toInt = 12 from rfl]; omega
                            rw [e, be_s, bd_s, if_pos rfl]
                            exact Arm.mk (rel h')
