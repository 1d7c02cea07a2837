/-! arms of the law: link, follow, set -/
section
variable {P W n : Nat} {K F A R D : Nat → Nat} {C : Nat → Nat → Int32} {ex : Nat → Int32} {op : Int32} {sx sm s : St}
theorem hd_div {r d : Nat} (hr : r ≤ 31) (hd : d ≤ 200) : nI (256 * r + d) / (256 : Int32) = nI r := by
  rw [show (256 : Int32) = nI 256 from rfl, pk_div (by omega) (by omega) (by omega)]
  congr 1; omega
theorem hd_mod {r d : Nat} (hr : r ≤ 31) (hd : d ≤ 200) : nI (256 * r + d) - nI (256 * r + d) / (256 : Int32) * (256 : Int32) = nI d := by
  rw [show (256 : Int32) = nI 256 from rfl, pk_rem (by omega) (by omega) (by omega)]
  congr 1; omega
theorem ex_refs (g : Geo P W n K F A R D) (hO : OX n A R D C (s.1 5)) {o : Nat} (ho : o < n) (k : Nat) : FX1_refsOf k (nI (A o)) s = some (nI (R o), s) := by
  have h1 := g.Alt ho
  have h2 := g.2.2.2.1 o ho
  simp only [szo] at h1
  unfold FX1_refsOf
  rw [gd_n (by omega) (by omega), dz_256, nI_clamp (by omega), (hO o ho).1, hd_div h2.1 h2.2.1]
theorem ex_data (g : Geo P W n K F A R D) (hO : OX n A R D C (s.1 5)) {o : Nat} (ho : o < n) (k : Nat) : FX1_dataOf k (nI (A o)) s = some (nI (D o), s) := by
  have h1 := g.Alt ho
  have h2 := g.2.2.2.1 o ho
  simp only [szo] at h1
  unfold FX1_dataOf
  rw [gd_n (by omega) (by omega), dz_256, nI_clamp (by omega), (hO o ho).1, hd_mod h2.1 h2.2.1]
theorem ex_size (g : Geo P W n K F A R D) (hO : OX n A R D C (s.1 5)) {o : Nat} (ho : o < n) (k : Nat) : FX1_sizeOf k (nI (A o)) s = some (nI (szo R D o), s) := by
  unfold FX1_sizeOf
  rw [ex_refs g hO ho, bd_s, ex_data g hO ho, bd_s, n1_p, nI_add]
theorem ex_long (g : Geo P W n K F A R D) (v : VX P W K F s) (hO : OX n A R D C (s.1 5)) {o : Nat} (ho : o < n) (k : Nat) : FX1_isLong k (nI (A o)) s = some (if szo R D o ≤ W then 0 else 1, s) := by
  have h1 := g.Alt ho
  have h2 := g.1.2.2.2.1
  unfold FX1_isLong
  rw [ex_size g hO ho, bd_s, v.2.1, be_s]
  by_cases h : szo R D o ≤ W
  · rw [if_pos (nI_le h (by omega)), gz_0, if_pos h]
  · rw [if_neg (nI_ge (by omega) (by omega)), gz_1, if_neg h]
theorem em_size (g : Geo P W n K F A R D) (hO : OM n A R D C s) {o : Nat} (ho : o < n) (k : Nat) : FX3_sizeOf k (nI o) s = some (nI (szo R D o), s) := by
  have := g.nle
  unfold FX3_sizeOf
  rw [gd_n (by omega) (by omega), gd_n (by omega) (by omega), nI_clamp (by omega), (hO.2.2 o ho).2.1, (hO.2.2 o ho).2.2.1, n1_p, nI_add]
theorem em_long (g : Geo P W n K F A R D) (v : VM P W K F s) (hO : OM n A R D C s) {o : Nat} (ho : o < n) (k : Nat) : FX3_isLong k (nI o) s = some (if szo R D o ≤ W then 0 else 1, s) := by
  have h1 := g.Alt ho
  have h2 := g.1.2.2.2.1
  unfold FX3_isLong
  rw [em_size g hO ho, bd_s, v.2.1, be_s]
  by_cases h : szo R D o ≤ W
  · rw [if_pos (nI_le h (by omega)), gz_0, if_pos h]
  · rw [if_neg (nI_ge (by omega) (by omega)), gz_1, if_neg h]
/-- below, or in range, or above -/
theorem ix3 (x : Int32) {m : Nat} (hm : m < 2 ^ 31) : x < 0 ∨ (¬ x < 0 ∧ ¬ x < nI m) ∨ ∃ j, j < m ∧ x = nI j := by
  by_cases h1 : x < 0
  · exact Or.inl h1
  · by_cases h2 : x < nI m
    · obtain ⟨j, hj, rfl⟩ := nI_of h1
      exact Or.inr (Or.inr ⟨j, (nI_ltI hj hm).mp h2, rfl⟩)
    · exact Or.inr (Or.inl ⟨h1, h2⟩)
/-- what link and follow find wrong -/
def wrg (n : Nat) (R : Nat → Nat) (ex : Nat → Int32) (x i z : Int32) (t : Nat) : Prop :=
  (t = 1 ∧ ((x < 0 ∨ 32 ≤ x) ∨ (z < 0 ∨ 32 ≤ z))) ∨ (∃ k l, k < 32 ∧ l < 32 ∧ x = nI k ∧ z = nI l ∧ ((t = 2 ∧ ex k = -1) ∨ (∃ o, o < n ∧ ex k = nI o ∧ ((t = 3 ∧ (i < 0 ∨ ¬ i < nI (R o))) ∨ (t = 0 ∧ ∃ j, j < R o ∧ i = nI j)))))
theorem wrg_ex (g : Geo P W n K F A R D) (hr : ∀ r, r < 32 → okv n (ex r)) (x i z : Int32) : ∃ t, t < 4 ∧ wrg n R ex x i z t := by
  by_cases hx : x < 0 ∨ 32 ≤ x
  · exact ⟨1, by omega, Or.inl ⟨rfl, Or.inl hx⟩⟩
  · by_cases hz : z < 0 ∨ 32 ≤ z
    · exact ⟨1, by omega, Or.inl ⟨rfl, Or.inr hz⟩⟩
    · obtain ⟨k, hk, rfl⟩ := isr hx
      obtain ⟨l, hl, rfl⟩ := isr hz
      rcases hr k hk with e | ⟨o, ho, e⟩
      · exact ⟨2, by omega, Or.inr ⟨k, l, hk, hl, rfl, rfl, Or.inl ⟨rfl, e⟩⟩⟩
      · have h2 := g.2.2.2.1 o ho
        rcases ix3 i (m := R o) (by omega) with h | h | h
        · exact ⟨3, by omega, Or.inr ⟨k, l, hk, hl, rfl, rfl, Or.inr ⟨o, ho, e, Or.inl ⟨rfl, Or.inl h⟩⟩⟩⟩
        · exact ⟨3, by omega, Or.inr ⟨k, l, hk, hl, rfl, rfl, Or.inr ⟨o, ho, e, Or.inl ⟨rfl, Or.inr h.2⟩⟩⟩⟩
        · exact ⟨0, by omega, Or.inr ⟨k, l, hk, hl, rfl, rfl, Or.inr ⟨o, ho, e, Or.inr ⟨rfl, h⟩⟩⟩⟩
/-- the class's four questions, one behind the other -/
theorem ex_wrong (h : RR P W n K F A R D C ex op sx sm) {x i z : Int32} {t : Nat} (hw : wrg n R ex x i z t) (m : Nat) (k : Int32 → St → Option (Nat × Int32 × St)) :
    bth (FX2_needRoot m x sx) (fun _ u2 => bth (FX2_needRoot m z u2) (fun _ u7 => bth (FX2_needObject m x u7) (fun _ u12 => bth (FX2_needRef m x i u12) (fun r u17 => k r u17)))) = if t = 0 then k 0 sx else some (t, 0, sx) := by
  rcases hw with ⟨rfl, hb⟩ | ⟨a, b, ha, hb, rfl, rfl, hw⟩
  · simp only [ex_needRoot]
    by_cases hx : x < 0 ∨ 32 ≤ x
    · simp only [if_pos hx, bth_1]; rfl
    · rcases hb with hb | hb
      · exact absurd hb hx
      · simp only [if_neg hx, if_pos hb, bth_0, bth_1]; rfl
  · have na : ¬ (nI a < 0 ∨ 32 ≤ nI a) := fun e => e.elim (nI_pos (by omega)) (fun e => nI_ge (b := 32) ha (by omega) e)
    have nb : ¬ (nI b < 0 ∨ 32 ≤ nI b) := fun e => e.elim (nI_pos (by omega)) (fun e => nI_ge (b := 32) hb (by omega) e)
    obtain ⟨q1, q2, q3⟩ := h.2.2.2.2.2.2.2.2.1 a ha
    simp only [ex_needRoot, if_neg na, if_neg nb, bth_0, FX2_needObject, FX2_needRef, gd_n ha (show 32 < 2 ^ 31 by omega), nI_clamp (show a < 2 ^ 31 by omega), q3]
    rcases hw with ⟨rfl, e⟩ | ⟨o, ho, e, hw⟩
    · rw [e, ad_m, if_pos rfl, bth_2]; rfl
    · have h1 := h.1.Alt ho
      have h0 := h.1.nle
      simp only [szo] at h1
      rw [e, ad_n (by omega), if_neg (nI_m1 (by omega)), bth_0, q3, e, ad_n (by omega), ex_refs h.1 h.2.2.2.1 ho, bd_s]
      rcases hw with ⟨rfl, hi⟩ | ⟨rfl, j, hj, rfl⟩
      · by_cases hi0 : i < 0
        · rw [if_pos hi0, bth_3]; rfl
        · rw [if_neg hi0, if_neg (hi.resolve_left hi0), bth_3]; rfl
      · have h2 := h.1.2.2.2.1 o ho
        rw [if_neg (nI_pos (by omega)), if_pos (nI_lt hj (by omega)), bth_0]; rfl
theorem em_wrong (h : RR P W n K F A R D C ex op sx sm) {x i z : Int32} {t : Nat} (hw : wrg n R ex x i z t) (m : Nat) : FX3_wrong m x i z sm = some (nI t, sm) := by
  unfold FX3_wrong
  rcases hw with ⟨rfl, hb⟩ | ⟨a, b, ha, hb, rfl, rfl, hw⟩
  · simp only [em_isRoot, bd_s]
    by_cases hx : x < 0 ∨ 32 ≤ x
    · simp only [if_pos hx, if_true]; rfl
    · rcases hb with hb | hb
      · exact absurd hb hx
      · simp only [if_neg hx, if_pos hb, i10, if_false, if_true]; rfl
  · have na : ¬ (nI a < 0 ∨ 32 ≤ nI a) := fun e => e.elim (nI_pos (by omega)) (fun e => nI_ge (b := 32) ha (by omega) e)
    have nb : ¬ (nI b < 0 ∨ 32 ≤ nI b) := fun e => e.elim (nI_pos (by omega)) (fun e => nI_ge (b := 32) hb (by omega) e)
    obtain ⟨q1, q2, q3⟩ := h.2.2.2.2.2.2.2.2.1 a ha
    simp only [em_isRoot, bd_s, if_neg na, if_neg nb, i10, if_false, gd_n ha (show 32 < 2 ^ 31 by omega), nI_clamp (show a < 2 ^ 31 by omega), q2]
    rcases hw with ⟨rfl, e⟩ | ⟨o, ho, e, hw⟩
    · rw [e, if_pos rfl]; rfl
    · have h0 := h.1.nle
      rw [e, if_neg (nI_m1 (by omega)), gd_n (by omega) (by omega), nI_clamp (by omega), (h.2.2.2.2.2.2.1.2.2 o ho).2.1]
      rcases hw with ⟨rfl, hi⟩ | ⟨rfl, j, hj, rfl⟩
      · by_cases hi0 : i < 0
        · rw [if_pos hi0, be_s]; rfl
        · rw [if_neg hi0, if_neg (hi.resolve_left hi0), be_s]; rfl
      · have h2 := h.1.2.2.2.1 o ho
        rw [if_neg (nI_pos (by omega)), if_pos (nI_lt hj (by omega)), be_s]; rfl
end
theorem nI_3 : ∀ t, t < 4 → t ≠ 0 → (nI t = 0) = False ∧ (nI t ≤ 0) = False := by
  intro t h h0
  exact ⟨eq_false (nI_ne0 (by omega) (by omega)), eq_false (nI_nle (by omega) (by omega))⟩
theorem tag3 {t : Nat} (h : t < 4) (h0 : t ≠ 0) {u : St} {oc : Nat → Int64} : (if t = 1 then some ((1 : Int32), u, oc) else if t = 2 then some (2, u, oc) else if t = 3 then some (3, u, oc) else none) = some (nI t, u, oc) := by
  rcases (show t = 1 ∨ t = 2 ∨ t = 3 by omega) with rfl | rfl | rfl <;> rfl
theorem arm4 {sx sm : St} (h : Rel sx sm) (n i : Nat) (xs : Nat → Int32) (oc : Nat → Int64) : Arm (A_law_4 n i xs sx sm oc) := by
  obtain ⟨P, W, N, K, F, A, R, D, C, ex, op, h⟩ := h
  unfold A_law_4 FL_link FX2_link FX3_link
  generalize xs (i + 1) = x
  generalize xs (i + 2) = y
  generalize xs (i + 3) = z
  obtain ⟨t, ht, hw⟩ := wrg_ex h.1 (fun r hr => (h.2.2.2.2.2.2.2.2.1 r hr).1) x y z
  rw [ex_wrong h hw, em_wrong h hw, bd_s, pt_k]
  by_cases h0 : t = 0
  · subst h0
    rw [if_pos rfl]
    rcases hw with ⟨e, _⟩ | ⟨a, b, ha, hb, rfl, rfl, hw⟩
    · cases e
    · rcases hw with ⟨e, _⟩ | ⟨o, ho, e, ⟨e1, _⟩ | ⟨_, j, hj, rfl⟩⟩
      · cases e
      · cases e1
      · obtain ⟨q1, q2, q3⟩ := h.2.2.2.2.2.2.2.2.1 a ha
        obtain ⟨p1, p2, p3⟩ := h.2.2.2.2.2.2.2.2.1 b hb
        have h1 := h.1.Alt ho
        have h2 := h.1.2.2.2.1 o ho
        have h3 := h.1.fr ho
        have h4 := h.1.nle
        simp only [szo] at h1
        have hC := (h.thr 0).cont (o := o) (i := j) (v := ex b) ho (by omega) (fun _ => p1)
        rw [if_pos hj] at hC
        have e1 : (nI (A o) + (1 : Int32)) + nI j = nI (A o + 1 + j) := by rw [nI_p1, nI_add]
        simp only [gd_n ha (show 32 < 2 ^ 31 by omega), gd_n hb (show 32 < 2 ^ 31 by omega), nI_clamp (show a < 2 ^ 31 by omega), nI_clamp (show b < 2 ^ 31 by omega), q3, p3, e, ad_n (A := A) (show o < 2 ^ 31 by omega), FX1_setRef, e1, gd_n (show A o + 1 + j < 4096 by omega) (show 4096 < 2 ^ 31 by omega), nI_clamp (show A o + 1 + j < 2 ^ 31 by omega), bd_s, btw_0, be_s]
        simp only [show nI 0 = 0 from rfl, if_true, pt_n _ 14 _ _ (show 23 ≠ 14 by decide), pt_n _ 14 _ _ (show 21 ≠ 14 by decide), q2, p2, e, gd_n (show o < 4200 by omega) (show 4200 < 2 ^ 31 by omega), nI_clamp (show o < 2 ^ 31 by omega), (h.2.2.2.2.2.2.1.2.2 o ho).2.2.2.1, nI_add, gd_n (show Fr R D o + j < 9000 by omega) (show 9000 < 2 ^ 31 by omega), nI_clamp (show Fr R D o + j < 2 ^ 31 by omega), bd_s, thrown_e, pt_n _ 22 _ _ (show 14 ≠ 22 by decide), pt_k]
        exact Arm.mk (rel hC)
  · have hz := nI_3 t ht h0
    rw [if_neg h0, btw_n h0, tag3 ht h0, be_s]
    simp only [hz.1, if_false, bd_s, thrown_e, pt_k, if_true]
    exact Arm.mk (rel (h.thr _))
theorem arm5 {sx sm : St} (h : Rel sx sm) (n i : Nat) (xs : Nat → Int32) (oc : Nat → Int64) : Arm (A_law_5 n i xs sx sm oc) := by
  obtain ⟨P, W, N, K, F, A, R, D, C, ex, op, h⟩ := h
  unfold A_law_5 FL_follow FX2_follow FX3_follow
  generalize xs (i + 1) = x
  generalize xs (i + 2) = y
  generalize xs (i + 3) = z
  obtain ⟨t, ht, hw⟩ := wrg_ex h.1 (fun r hr => (h.2.2.2.2.2.2.2.2.1 r hr).1) x y z
  rw [ex_wrong h hw, em_wrong h hw, bd_s, pt_k]
  by_cases h0 : t = 0
  · subst h0
    rw [if_pos rfl]
    rcases hw with ⟨e, _⟩ | ⟨a, b, ha, hb, rfl, rfl, hw⟩
    · cases e
    · rcases hw with ⟨e, _⟩ | ⟨o, ho, e, ⟨e1, _⟩ | ⟨_, j, hj, rfl⟩⟩
      · cases e
      · cases e1
      · obtain ⟨q1, q2, q3⟩ := h.2.2.2.2.2.2.2.2.1 a ha
        have h1 := h.1.Alt ho
        have h2 := h.1.2.2.2.1 o ho
        have h3 := h.1.fr ho
        have h4 := h.1.nle
        simp only [szo] at h1
        have hv := h.2.2.2.2.2.2.2.1 o j ho hj
        have hC := (h.thr 0).root (k := b) hv
        have e1 : (nI (A o) + (1 : Int32)) + nI j = nI (A o + 1 + j) := by rw [nI_p1, nI_add]
        have hm := (h.2.2.2.1 o ho).2.1 j hj
        have hp := (h.2.2.2.2.2.2.1.2.2 o ho).2.2.2.2 j (by omega)
        have hA : ∀ o', o' < N → (pt (pt sm 14 0 0) 23 b (C o j)).1 18 o' = nI (A o') := fun o' ho' => by
          rw [pt_n _ _ _ _ (by decide), pt_n _ _ _ _ (by decide)]; exact (h.2.2.2.2.2.2.1.2.2 o' ho').1
        simp only [gd_n ha (show 32 < 2 ^ 31 by omega), gd_n hb (show 32 < 2 ^ 31 by omega), nI_clamp (show a < 2 ^ 31 by omega), nI_clamp (show b < 2 ^ 31 by omega), q3, e, ad_n (A := A) (show o < 2 ^ 31 by omega), FX1_ref, e1, gd_n (show A o + 1 + j < 4096 by omega) (show 4096 < 2 ^ 31 by omega), nI_clamp (show A o + 1 + j < 2 ^ 31 by omega), hm, bd_s, btw_0, be_s, pt_k, out_s]
        simp only [show nI 0 = 0 from rfl, l00, if_true, pt_n _ 14 _ _ (show 23 ≠ 14 by decide), pt_n _ 14 _ _ (show 21 ≠ 14 by decide), pt_n _ 14 _ _ (show 22 ≠ 14 by decide), q2, e, gd_n (show o < 4200 by omega) (show 4200 < 2 ^ 31 by omega), nI_clamp (show o < 2 ^ 31 by omega), (h.2.2.2.2.2.2.1.2.2 o ho).2.2.2.1, nI_add, gd_n (show Fr R D o + j < 9000 by omega) (show 9000 < 2 ^ 31 by omega), nI_clamp (show Fr R D o + j < 2 ^ 31 by omega), hp, pt_k, em_addr hA h4 hv, bd_s, thrown_e, pt_n _ 23 _ _ (show 14 ≠ 23 by decide), lg_same]
        exact Arm.mk (rel hC)
  · have hz := nI_3 t ht h0
    rw [if_neg h0, btw_n h0, tag3 ht h0, be_s]
    simp only [hz.1, hz.2, if_false, bd_s, thrown_e, pt_k, if_true]
    exact Arm.mk (rel (h.thr _))
theorem arm6 {sx sm : St} (h : Rel sx sm) (n i : Nat) (xs : Nat → Int32) (oc : Nat → Int64) : Arm (A_law_6 n i xs sx sm oc) := by
  obtain ⟨P, W, N, K, F, A, R, D, C, ex, op, h⟩ := h
  have h' := h.thr 0
  unfold A_law_6 FL_set FX2_set FX3_set
  generalize xs (i + 1) = x
  generalize xs (i + 2) = y
  generalize xs (i + 3) = z
  simp only [ex_needRoot, em_isRoot, bd_s, FX3_throwing]
  by_cases hx : x < 0 ∨ 32 ≤ x
  · simp only [if_pos hx, bth_1, btw_1, if_true, be_s, bd_s, thrown_e, pt_k, i10, if_false]
    exact Arm.mk (rel (h'.thr 1))
  · obtain ⟨a, ha, rfl⟩ := isr hx
    obtain ⟨q1, q2, q3⟩ := h'.2.2.2.2.2.2.2.2.1 a ha
    simp only [if_neg hx, bth_0, i10, if_false, FX2_needObject, gd_n ha (show 32 < 2 ^ 31 by omega), nI_clamp (show a < 2 ^ 31 by omega), q2, q3]
    rcases q1 with e | ⟨o, ho, e⟩
    · simp only [e, ad_m, if_true, bth_2, btw_2, k21, if_false, be_s, bd_s, thrown_e, pt_k, i20]
      exact Arm.mk (rel (h'.thr 2))
    · have h1 := h.1.Alt ho
      have h2 := h.1.2.2.2.1 o ho
      have h3 := h.1.fr ho
      have h4 := h.1.nle
      simp only [szo] at h1
      have hM := h'.2.2.2.2.2.2.1.2.2 o ho
      simp only [e, ad_n (A := A) (show o < 2 ^ 31 by omega), if_neg (nI_m1 (show A o < 2 ^ 31 by omega)), if_neg (nI_m1 (show o < 2 ^ 31 by omega)), bth_0, q3, ex_data h.1 h.2.2.2.1 ho, bd_s, gd_n (show o < 4200 by omega) (show 4200 < 2 ^ 31 by omega), nI_clamp (show o < 2 ^ 31 by omega), hM.2.2.1]
      rcases ix3 y (m := D o) (by omega) with hy | hy | ⟨j, hj, rfl⟩
      · simp only [if_pos hy, btw_3, k31, k32, if_false, if_true, be_s, bd_s, thrown_e, pt_k, i30]
        exact Arm.mk (rel (h'.thr 3))
      · simp only [if_neg hy.1, if_neg hy.2, btw_3, k31, k32, if_false, if_true, be_s, bd_s, thrown_e, pt_k, i30]
        exact Arm.mk (rel (h'.thr 3))
      · have hC := h'.cont (o := o) (i := R o + j) (v := z) ho (by omega) (fun q => by omega)
        rw [if_neg (by omega)] at hC
        have e1 : ((nI (A o) + (1 : Int32)) + nI (R o)) + nI j = nI (A o + 1 + (R o + j)) := by rw [nI_p1, nI_add, nI_add]; congr 1; omega
        have e2 : (nI (Fr R D o) + nI (R o)) + nI j = nI (Fr R D o + (R o + j)) := by rw [nI_add, nI_add]; congr 1; omega
        have hm := (h.2.2.2.1 o ho).2.2 (R o + j) (by omega) (by omega)
        have hp := hM.2.2.2.2 (R o + j) (by omega)
        simp only [if_neg (nI_pos (show j < 2 ^ 31 by omega)), if_pos (nI_lt hj (show D o < 2 ^ 31 by omega)), FX1_swapData, ex_refs h.1 h.2.2.2.1 ho, bd_s, e1, gd_n (show A o + 1 + (R o + j) < 4096 by omega) (show 4096 < 2 ^ 31 by omega), nI_clamp (show A o + 1 + (R o + j) < 2 ^ 31 by omega), hm, btw_0, be_s, hM.2.2.2.1, hM.2.1, e2, gd_n (show Fr R D o + (R o + j) < 9000 by omega) (show 9000 < 2 ^ 31 by omega), nI_clamp (show Fr R D o + (R o + j) < 2 ^ 31 by omega), hp, out_s, thrown_e, pt_n _ 22 _ _ (show 14 ≠ 22 by decide), pt_k, if_true, lg_same]
        exact Arm.mk (rel hC)
