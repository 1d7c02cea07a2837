/-! arms of the law: roots, loose roots, contents -/
theorem lg_same (x : Int64) : lg_cmp x x = 0 := by
  unfold lg_cmp
  simp
def updC (C : Nat → Nat → Int32) (o i : Nat) (v : Int32) : Nat → Nat → Int32 := fun o' i' => if o' = o ∧ i' = i then v else C o' i'
section
variable {P W n : Nat} {K F A R D : Nat → Nat} {C : Nat → Nat → Int32} {ex : Nat → Int32} {op : Int32} {sx sm : St}
theorem RR.root (h : RR P W n K F A R D C ex op sx sm) {k : Nat} {v : Int32} (hv : okv n v) : RR P W n K F A R D C (upd ex k v) op (pt sx 3 k (ad A v)) (pt sm 23 k v) := by
  obtain ⟨h1, h2, h3, h4, h5, h6, h7, h8, h9, h10, h11, h12⟩ := h
  refine ⟨h1, ?_, ?_, ?_, ?_, h6, ?_, h8, ?_, ?_, ?_, ?_⟩
  · simpa [VX, pt_n] using h2
  · simpa [VM, pt_n] using h3
  · simpa [pt_n] using h4
  · simpa [pt_n] using h5
  · simpa [OM, pt_n] using h7
  · intro r hr
    have h := h9 r hr
    rw [pt_s, pt_s]
    unfold upd
    by_cases e : r = k
    · rw [if_pos e, if_pos e, if_pos e]; exact ⟨hv, rfl, rfl⟩
    · rw [if_neg e, if_neg e, if_neg e]; exact h
  · simpa [LO, pt_n] using h10
  · simpa [OP, pt_n] using h11
  · simpa [TL, pt_n] using h12
theorem RR.loo (h : RR P W n K F A R D C ex op sx sm) {k : Nat} {v : Int32} : RR P W n K F A R D C ex op (pt sx 4 k v) (pt sm 24 k v) := by
  obtain ⟨h1, h2, h3, h4, h5, h6, h7, h8, h9, h10, h11, h12⟩ := h
  refine ⟨h1, ?_, ?_, ?_, ?_, h6, ?_, h8, ?_, ?_, ?_, ?_⟩
  · simpa [VX, pt_n] using h2
  · simpa [VM, pt_n] using h3
  · simpa [pt_n] using h4
  · simpa [pt_n] using h5
  · simpa [OM, pt_n] using h7
  · simpa [RT, pt_n] using h9
  · intro r hr
    have h := h10 r hr
    rw [pt_s, pt_s]
    by_cases e : r = k
    · simp only [if_pos e]
    · simp only [if_neg e]; exact h
  · simpa [OP, pt_n] using h11
  · simpa [TL, pt_n] using h12
theorem Fr_apart {o o' i i' : Nat} (hi : i < R o + D o) (hi' : i' < R o' + D o') (h : Fr R D o + i = Fr R D o' + i') : o = o' ∧ i = i' := by
  rcases Nat.lt_trichotomy o o' with e | e | e
  · have := Fr_mono R D (show o + 1 ≤ o' by omega)
    rw [Fr_s] at this
    omega
  · subst e; exact ⟨rfl, by omega⟩
  · have := Fr_mono R D (show o' + 1 ≤ o by omega)
    rw [Fr_s] at this
    omega
theorem RR.cont (h : RR P W n K F A R D C ex op sx sm) {o i : Nat} {v : Int32} (ho : o < n) (hi : i < R o + D o) (hv : i < R o → okv n v) :
    RR P W n K F A R D (updC C o i v) ex op (pt sx 5 (A o + 1 + i) (if i < R o then ad A v else v)) (pt sm 22 (Fr R D o + i) v) := by
  obtain ⟨h1, h2, h3, h4, h5, h6, h7, h8, h9, h10, h11, h12⟩ := h
  have hlt := (h1.2.2.2.1 o ho).2.2
  have hap : ∀ o' i', o' < n → i' < szo R D o' → A o' + i' = A o + 1 + i → o' = o ∧ i' = 1 + i := by
    intro o' i' ho' hi' e
    by_cases e1 : o' = o
    · subst e1; exact ⟨rfl, by omega⟩
    · have := h1.2.2.2.2.1 o' o ho' ho e1
      simp only [szo] at this hi' hlt
      omega
  refine ⟨h1, ?_, ?_, ?_, ?_, h6, ?_, ?_, ?_, ?_, ?_, ?_⟩
  · simpa [VX, pt_n] using h2
  · simpa [VM, pt_n] using h3
  · intro o' ho'
    obtain ⟨q1, q2, q3⟩ := h4 o' ho'
    refine ⟨?_, ?_, ?_⟩
    · rw [pt_j _ _ _ _ (fun e => by have := (hap o' 0 ho' (by simp only [szo]; omega) (by omega)).2; omega)]; exact q1
    · intro i' hi'
      rw [pt_s]
      unfold updC
      by_cases e : A o' + 1 + i' = A o + 1 + i
      · obtain ⟨e1, e2⟩ := hap o' (1 + i') ho' (by simp only [szo]; omega) (by omega)
        subst e1
        have e3 : i' = i := by omega
        subst e3
        rw [if_pos rfl, if_pos hi', if_pos ⟨rfl, rfl⟩]
      · rw [if_neg e, if_neg (fun q => e (by rw [q.1, q.2]))]; exact q2 i' hi'
    · intro i' hi1 hi'
      rw [pt_s]
      unfold updC
      by_cases e : A o' + 1 + i' = A o + 1 + i
      · obtain ⟨e1, e2⟩ := hap o' (1 + i') ho' (by simp only [szo]; omega) (by omega)
        subst e1
        have e3 : i' = i := by omega
        subst e3
        rw [if_pos rfl, if_neg (by omega), if_pos ⟨rfl, rfl⟩]
      · rw [if_neg e, if_neg (fun q => e (by rw [q.1, q.2]))]; exact q3 i' hi1 hi'
  · intro a ha hna
    rw [pt_j _ _ _ _ (fun e => ?_)]
    · exact h5 a ha hna
    · apply hna
      have hb : a < P * W := by simp only [szo] at hlt; omega
      exact ⟨hb, (h1.2.2.2.2.2.1 a hb).mp ⟨o, ho, by omega, by simp only [szo]; omega⟩⟩
  · refine ⟨by rw [pt_n _ _ _ _ (by decide)]; exact h7.1, by rw [pt_n _ _ _ _ (by decide)]; exact h7.2.1, fun o' ho' => ?_⟩
    obtain ⟨q1, q2, q3, q4, q5⟩ := h7.2.2 o' ho'
    refine ⟨by rw [pt_n _ _ _ _ (by decide)]; exact q1, by rw [pt_n _ _ _ _ (by decide)]; exact q2, by rw [pt_n _ _ _ _ (by decide)]; exact q3, by rw [pt_n _ _ _ _ (by decide)]; exact q4, fun i' hi' => ?_⟩
    rw [pt_s]
    unfold updC
    by_cases e : Fr R D o' + i' = Fr R D o + i
    · obtain ⟨e1, e2⟩ := Fr_apart hi' hi e
      rw [if_pos e, if_pos ⟨e1, e2⟩]
    · rw [if_neg e, if_neg (fun q => e (by rw [q.1, q.2]))]; exact q5 i' hi'
  · intro o' i' ho' hi'
    unfold updC
    by_cases e : o' = o ∧ i' = i
    · rw [if_pos e]; obtain ⟨rfl, rfl⟩ := e; exact hv hi'
    · rw [if_neg e]; exact h8 o' i' ho' hi'
  · simpa [RT, pt_n] using h9
  · simpa [LO, pt_n] using h10
  · simpa [OP, pt_n] using h11
  · simpa [TL, pt_n] using h12
theorem em_addr {s : St} (hO : ∀ o, o < n → s.1 18 o = nI (A o)) (hn : n ≤ 4096) {v : Int32} (hv : okv n v) (k : Nat) : FX3_addressOf k v s = some (ad A v, s) := by
  unfold FX3_addressOf
  rcases hv with rfl | ⟨o, ho, rfl⟩
  · rw [if_pos rfl, be_s, ad_m]
  · rw [if_neg (nI_m1 (by omega)), gd_n (by omega) (by omega), be_s, nI_clamp (by omega), hO o ho, ad_n (by omega)]
end
theorem thrown_e (n : Nat) (s : St) : FX3_thrown n s = some (s.1 14 0, s) := rfl
theorem bth_1 {r : Int32} {u : St} {k : Int32 → St → Option (Nat × Int32 × St)} : bth (some (1, r, u)) k = some (1, 0, u) := rfl
theorem bth_2 {r : Int32} {u : St} {k : Int32 → St → Option (Nat × Int32 × St)} : bth (some (2, r, u)) k = some (2, 0, u) := rfl
theorem bth_3 {r : Int32} {u : St} {k : Int32 → St → Option (Nat × Int32 × St)} : bth (some (3, r, u)) k = some (3, 0, u) := rfl
theorem btw_1 {α : Type} {r : Int32} {u : St} {k : Int32 → St → Option α} {j : Nat → St → Option α} : btw (some (1, r, u)) k j = j 1 u := rfl
theorem btw_2 {α : Type} {r : Int32} {u : St} {k : Int32 → St → Option α} {j : Nat → St → Option α} : btw (some (2, r, u)) k j = j 2 u := rfl
theorem btw_3 {α : Type} {r : Int32} {u : St} {k : Int32 → St → Option α} {j : Nat → St → Option α} : btw (some (3, r, u)) k j = j 3 u := rfl
theorem i10 : ((1 : Int32) = 0) = False := eq_false (by decide)
theorem i20 : ((2 : Int32) = 0) = False := eq_false (by decide)
theorem i30 : ((3 : Int32) = 0) = False := eq_false (by decide)
theorem l10 : ((1 : Int32) ≤ 0) = False := eq_false (by decide)
theorem l20 : ((2 : Int32) ≤ 0) = False := eq_false (by decide)
theorem l30 : ((3 : Int32) ≤ 0) = False := eq_false (by decide)
theorem l00 : ((0 : Int32) ≤ 0) = True := eq_true (by decide)
theorem k21 : ((2 : Nat) = 1) = False := eq_false (by decide)
theorem k31 : ((3 : Nat) = 1) = False := eq_false (by decide)
theorem k32 : ((3 : Nat) = 2) = False := eq_false (by decide)
theorem rel {P W n : Nat} {K F A R D : Nat → Nat} {C : Nat → Nat → Int32} {ex : Nat → Int32} {op : Int32} {sx sm : St} (h : RR P W n K F A R D C ex op sx sm) : Rel sx sm := ⟨P, W, n, K, F, A, R, D, C, ex, op, h⟩
theorem out_s (oc : Nat → Int64) (x : Int64) : vp_updL oc (0 : Int32).toNatClampNeg x (0 : Int32).toNatClampNeg = x := pk_uLs
/-- what an arm owes -/
def Arm (f : Option SL) : Prop := ∃ q, f = some q ∧ Rel q.1 q.2.1
theorem Arm.mk {sx sm : St} {oc : Nat → Int64} (h : Rel sx sm) : Arm (some (sx, sm, oc)) := ⟨_, rfl, h⟩
theorem arm10 {sx sm : St} (h : Rel sx sm) (n i : Nat) (xs : Nat → Int32) (oc : Nat → Int64) : Arm (A_law_10 n i xs sx sm oc) := by
  obtain ⟨P, W, N, K, F, A, R, D, C, ex, op, h⟩ := h
  have h' := h.thr 0
  unfold A_law_10 FX2_root FX3_root
  generalize xs (i + 1) = x
  simp only [ex_isRoot, em_isRoot, bd_s]
  by_cases hx : x < 0 ∨ 32 ≤ x
  · simp only [if_pos hx, if_true, be_s, bd_s]
    exact Arm.mk (rel h')
  · obtain ⟨k, hk, rfl⟩ := isr hx
    obtain ⟨q1, q2, q3⟩ := h'.2.2.2.2.2.2.2.2.1 k hk
    simp only [if_neg hx, i10, if_false, gd_n hk (by omega : 32 < 2 ^ 31), be_s, bd_s, nI_clamp (show k < 2 ^ 31 by omega), q2, q3, em_addr (fun o ho => (h'.2.2.2.2.2.2.1.2.2 o ho).1) h'.1.nle q1, if_true]
    exact Arm.mk (rel h')
theorem arm2 {sx sm : St} (h : Rel sx sm) (n i : Nat) (xs : Nat → Int32) (oc : Nat → Int64) : Arm (A_law_2 n i xs sx sm oc) := by
  obtain ⟨P, W, N, K, F, A, R, D, C, ex, op, h⟩ := h
  have h' := h.thr 0
  unfold A_law_2 FL_copy FX2_copy FX3_copy
  generalize xs (i + 1) = x
  generalize xs (i + 2) = y
  simp only [ex_needRoot, em_isRoot, bd_s]
  by_cases hx : x < 0 ∨ 32 ≤ x
  · simp only [if_pos hx, bth_1, btw_1, if_true, be_s, bd_s, thrown_e, pt_k]
    exact Arm.mk (rel (h'.thr 1))
  · by_cases hy : y < 0 ∨ 32 ≤ y
    · simp only [if_neg hx, if_pos hy, bth_0, bth_1, btw_1, if_true, be_s, bd_s, thrown_e, pt_k, i10, if_false]
      exact Arm.mk (rel (h'.thr 1))
    · obtain ⟨k, hk, rfl⟩ := isr hx
      obtain ⟨j, hj, rfl⟩ := isr hy
      obtain ⟨q1, q2, q3⟩ := h'.2.2.2.2.2.2.2.2.1 k hk
      simp only [if_neg hx, if_neg hy, bth_0, btw_0, i10, if_false, gd_n hk (by omega : 32 < 2 ^ 31), gd_n hj (by omega : 32 < 2 ^ 31), be_s, bd_s, nI_clamp (show k < 2 ^ 31 by omega), nI_clamp (show j < 2 ^ 31 by omega), thrown_e, q2, q3, pt_n _ 23 _ _ (show 14 ≠ 23 by decide), pt_k, if_true]
      exact Arm.mk (rel (h'.root q1))
theorem arm3 {sx sm : St} (h : Rel sx sm) (n i : Nat) (xs : Nat → Int32) (oc : Nat → Int64) : Arm (A_law_3 n i xs sx sm oc) := by
  obtain ⟨P, W, N, K, F, A, R, D, C, ex, op, h⟩ := h
  have h' := h.thr 0
  unfold A_law_3 FL_drop FX2_drop FX3_drop
  generalize xs (i + 1) = x
  simp only [ex_needRoot, em_isRoot, bd_s]
  by_cases hx : x < 0 ∨ 32 ≤ x
  · simp only [if_pos hx, bth_1, btw_1, if_true, be_s, bd_s, thrown_e, pt_k]
    exact Arm.mk (rel (h'.thr 1))
  · obtain ⟨k, hk, rfl⟩ := isr hx
    simp only [if_neg hx, bth_0, btw_0, i10, if_false, gd_n hk (by omega : 32 < 2 ^ 31), be_s, bd_s, nI_clamp (show k < 2 ^ 31 by omega), thrown_e, pt_n _ 23 _ _ (show 14 ≠ 23 by decide), pt_k, if_true]
    have hz := h'.root (k := k) (v := -1) (Or.inl rfl)
    rw [ad_m] at hz
    exact Arm.mk (rel hz)
theorem arm7 {sx sm : St} (h : Rel sx sm) (n i : Nat) (xs : Nat → Int32) (oc : Nat → Int64) : Arm (A_law_7 n i xs sx sm oc) := by
  obtain ⟨P, W, N, K, F, A, R, D, C, ex, op, h⟩ := h
  have h' := h.thr 0
  unfold A_law_7 FL_loose FX2_loose FX3_loose
  generalize xs (i + 1) = x
  generalize xs (i + 2) = y
  simp only [ex_needRoot, em_isRoot, bd_s, FX3_throwing]
  by_cases hx : x < 0 ∨ 32 ≤ x
  · simp only [if_pos hx, bth_1, btw_1, if_true, be_s, bd_s, thrown_e, pt_k, i10, if_false]
    exact Arm.mk (rel (h'.thr 1))
  · obtain ⟨k, hk, rfl⟩ := isr hx
    have hq := h'.2.2.2.2.2.2.2.2.2.1 k hk
    simp only [if_neg hx, bth_0, btw_0, i10, if_false, gd_n hk (by omega : 32 < 2 ^ 31), be_s, bd_s, nI_clamp (show k < 2 ^ 31 by omega), thrown_e, pt_n _ 24 _ _ (show 14 ≠ 24 by decide), pt_k, if_true, out_s, hq, lg_same]
    exact Arm.mk (rel h'.loo)
