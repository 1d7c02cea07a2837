/-! arms of the law: take, object (ts_bit, wb_cu and u_tn are of the BITS texts) -/
theorem ts_bit {w : Int64} {s : UInt64} {j : Nat} (hj : j < 64) (hs : s.toNat = j) : ((w.toUInt64 >>> s).toInt64 &&& 1) = 0 ↔ w.toBitVec.getLsbD j = false := by
  have e : (w.toUInt64 >>> s).toInt64.toBitVec = w.toBitVec >>> j := by
    apply BitVec.eq_of_toNat_eq
    show (w.toUInt64 >>> s).toNat = _
    rw [UInt64.toNat_shiftRight, hs, Nat.mod_eq_of_lt hj, BitVec.toNat_ushiftRight]
    rfl
  rw [← Int64.toBitVec_inj, Int64.toBitVec_and, e]
  show w.toBitVec >>> j &&& 1#64 = 0#64 ↔ _
  constructor
  · intro h
    have t := congrArg (fun x => x.getLsbD 0) h
    simpa using t
  · intro h
    apply BitVec.eq_of_getLsbD_eq
    intro i hi
    cases i with
    | zero => simp [h]
    | succ i => simp
theorem wb_cu : ∀ k, k < 64 → ((nI k).toInt64.toUInt64 &&& Int64.toUInt64 63) = UInt64.ofNat k := by decide +kernel
theorem u_tn {n : Nat} (h : n < 2 ^ 64) : (UInt64.ofNat n).toNat = n := Nat.mod_eq_of_lt h
theorem lg_0 (x : Int64) : lg_cmp x 0 = 0 ↔ x = 0 := by
  constructor
  · intro h
    unfold lg_cmp at h
    by_cases h1 : x > 0
    · rw [if_pos h1] at h; exact absurd h (by decide)
    · rw [if_neg h1] at h
      by_cases h2 : x = 0
      · exact h2
      · rw [if_neg h2] at h; exact absurd h (by decide)
  · intro h; rw [h]; exact lg_same 0
theorem bit_t {w : Int64} {k : Nat} (hk : k < 64) : lg_cmp ((w.toUInt64 >>> ((nI k).toInt64.toUInt64 &&& Int64.toUInt64 63)).toInt64 &&& (1 : Int64)) 0 = 0 ↔ bit w k = false := by
  rw [lg_0]
  exact ts_bit hk (by rw [wb_cu k hk]; exact u_tn (by omega))
section
variable {P W n : Nat} {K F A R D : Nat → Nat} {C : Nat → Nat → Int32} {ex : Nat → Int32} {op : Int32} {sx sm s : St}
theorem ex_beginsA (g : Geo P W n K F A R D) (v : VX P W K F s) (b : BX W n A s.2) {a : Nat} (ha : a < P * W) (m : Nat) : (∃ o, o < n ∧ a = A o ∧ FX1_beginsAt m (nI a) s = some (1, s)) ∨ ((∀ o, o < n → a ≠ A o) ∧ FX1_beginsAt m (nI a) s = some (0, s)) := by
  have hPW := g.PWle
  have hW := g.1.2.2.1
  have hW2 := g.1.2.2.2.1
  have hP := g.1.2.1
  have hp : a / W < P := Nat.div_lt_of_lt_mul (by rw [Nat.mul_comm]; exact ha)
  have hk : a % W < W := Nat.mod_lt _ (by omega)
  have hak : a = a / W * W + a % W := by rw [Nat.mul_comm]; exact (Nat.div_add_mod a W).symm
  have hb := b (a / W) (a % W) (by omega) (by omega)
  have e : FX1_beginsAt m (nI a) s = some (if bit (s.2 (a / W)) (a % W) = true then 1 else 0, s) := by
    unfold FX1_beginsAt
    rw [ex_isAddrN g.1 v ha, bd_s, if_neg (by decide)]
    simp only [v.2.1, dz_n (show 0 < W by omega) (show W < 2 ^ 31 by omega), nI_div a (show a < 2 ^ 31 by omega) (show 0 < W by omega) (show W < 2 ^ 31 by omega)]
    rw [gd_n (by omega) (by omega), be_s, nI_clamp (by omega)]
    have e2 : nI a - nI (a / W) * nI W = nI (a % W) := by rw [← nI_div a (by omega) (by omega) (by omega)]; exact pk_rem (by omega) (by omega) (by omega)
    rw [e2]
    by_cases hq : bit (s.2 (a / W)) (a % W) = true
    · rw [if_neg (fun q => by rw [bit_t (by omega), hq] at q; cases q), gz_1, if_pos hq]
    · rw [if_pos ((bit_t (by omega)).mpr (by simpa using hq)), gz_0, if_neg hq]
  by_cases hq : bit (s.2 (a / W)) (a % W) = true
  · obtain ⟨-, o, ho, h2⟩ := hb.mp hq
    exact Or.inl ⟨o, ho, by omega, by rw [e, if_pos hq]⟩
  · refine Or.inr ⟨fun o ho h2 => hq (hb.mpr ⟨hk, o, ho, by omega⟩), by rw [e, if_neg hq]⟩
theorem ex_begins (g : Geo P W n K F A R D) (v : VX P W K F s) (b : BX W n A s.2) (x : Int32) (m : Nat) : (∃ o, o < n ∧ x = nI (A o) ∧ FX1_beginsAt m x s = some (1, s)) ∨ ((∀ o, o < n → x ≠ nI (A o)) ∧ FX1_beginsAt m x s = some (0, s)) := by
  have hPW := g.PWle
  by_cases hx : x < 0 ∨ nI (P * W) ≤ x
  · refine Or.inr ⟨fun o ho e => ?_, ?_⟩
    · have h1 := (g.2.2.2.1 o ho).2.2
      simp only [szo] at h1
      rw [e] at hx
      rcases hx with hx | hx
      · exact nI_pos (by omega) hx
      · exact nI_ge (by omega) (by omega) hx
    · unfold FX1_beginsAt
      rw [ex_isAddr g.1 v, if_pos hx, bd_s, if_pos rfl]
  · obtain ⟨a, ha, rfl⟩ := nI_of (fun e => hx (Or.inl e))
    have ha2 : a < P * W := Nat.lt_of_not_le (fun e => hx (Or.inr (nI_le e ha)))
    rcases ex_beginsA g v b ha2 m with ⟨o, ho, e, h⟩ | ⟨h1, h⟩
    · exact Or.inl ⟨o, ho, by rw [← e], h⟩
    · refine Or.inr ⟨fun o ho e => h1 o ho (nI_inj ha ?_ e), h⟩
      have := g.Alt ho
      omega
theorem em_atL2 (g : Geo P W n K F A R D) (hO : OM n A R D C s) (x : Int32) : ∀ (d o m : Nat), o + d = n → d < m → (∃ q, o ≤ q ∧ q < n ∧ x = nI (A q) ∧ LX3_at_2 m x (nI o) s = some (nI q, s)) ∨ ((∀ j, o ≤ j → j < n → x ≠ nI (A j)) ∧ LX3_at_2 m x (nI o) s = some (-1, s))
  | 0, o, m, hd, hm => by
    obtain ⟨m, rfl⟩ : ∃ k, m = k + 1 := ⟨m - 1, by omega⟩
    have := g.nle
    refine Or.inr ⟨fun j h1 h2 => by omega, ?_⟩
    simp only [LX3_at_2, hO.1]
    rw [if_pos (nI_le (by omega) (by omega))]
  | d + 1, o, m, hd, hm => by
    obtain ⟨m, rfl⟩ : ∃ k, m = k + 1 := ⟨m - 1, by omega⟩
    have := g.nle
    have ih := em_atL2 g hO x d (o + 1) m (by omega) (by omega)
    simp only [LX3_at_2, hO.1]
    rw [if_neg (nI_ge (by omega) (by omega)), gd_n (by omega) (by omega), nI_clamp (by omega), (hO.2.2 o (by omega)).1, nI_p1]
    by_cases e : nI (A o) = x
    · rw [if_pos e]
      exact Or.inl ⟨o, Nat.le_refl _, by omega, e.symm, rfl⟩
    · rw [if_neg e]
      rcases ih with ⟨q, h1, h2, h3, h4⟩ | ⟨h1, h2⟩
      · exact Or.inl ⟨q, by omega, h2, h3, h4⟩
      · refine Or.inr ⟨fun j j1 j2 => ?_, h2⟩
        by_cases ej : j = o
        · rw [ej]; exact fun q => e q.symm
        · exact h1 j (by omega) j2
theorem em_at (g : Geo P W n K F A R D) (hO : OM n A R D C s) (x : Int32) {m : Nat} (hm : 4200 ≤ m) : (∃ q, q < n ∧ x = nI (A q) ∧ FX3_at m x s = some (nI q, s)) ∨ ((∀ j, j < n → x ≠ nI (A j)) ∧ FX3_at m x s = some (-1, s)) := by
  have := g.nle
  rcases em_atL2 g hO x n 0 m (by omega) (by omega) with ⟨q, h1, h2, h3, h4⟩ | ⟨h1, h2⟩
  · exact Or.inl ⟨q, h2, h3, h4⟩
  · exact Or.inr ⟨fun j hj => h1 j (Nat.zero_le _) hj, h2⟩
end
theorem m1m1 : ((-1 : Int32) = -1) = True := eq_true rfl
theorem arm8 {sx sm : St} (h : Rel sx sm) {n : Nat} (hn : 4200 ≤ n) (i : Nat) (xs : Nat → Int32) (oc : Nat → Int64) : Arm (A_law_8 n i xs sx sm oc) := by
  obtain ⟨P, W, N, K, F, A, R, D, C, ex, op, h⟩ := h
  have h' := h.thr 0
  unfold A_law_8 FL_take FX2_take FX3_take
  generalize xs (i + 1) = x
  generalize xs (i + 2) = y
  simp only [ex_needRoot, em_isRoot, bd_s]
  by_cases hy : y < 0 ∨ 32 ≤ y
  · simp only [if_pos hy, bth_1, btw_1, if_true, be_s, bd_s, thrown_e, pt_k, i10, if_false]
    exact Arm.mk (rel (h'.thr 1))
  · obtain ⟨a, ha, rfl⟩ := isr hy
    simp only [if_neg hy, bth_0, i10, if_false]
    rcases ex_begins h'.1 h'.2.1 h'.2.2.2.2.2.1 x n with ⟨o, ho, e, hb⟩ | ⟨hno, hb⟩
    · have h1 := h.1.Alt ho
      have h4 := h.1.nle
      rcases em_at h'.1 h'.2.2.2.2.2.2.1 x hn with ⟨q, hq, e2, ha2⟩ | ⟨hno, _⟩
      · have h5 := h.1.Alt hq
        have eo : o = q := h.1.Ainj ho hq (nI_inj (by omega) (by omega) (e.symm.trans e2))
        subst eo
        have hC := h'.root (k := a) (v := nI o) (Or.inr ⟨o, ho, rfl⟩)
        rw [ad_n (by omega), ← e] at hC
        have hx0 : (0 : Int32) ≤ x := by rw [e]; exact nI_pos' (by omega)
        simp only [hb, bd_s, i10, if_false, gd_n ha (show 32 < 2 ^ 31 by omega), nI_clamp (show a < 2 ^ 31 by omega), btw_0, be_s, if_pos hx0, ha2, if_neg (nI_m1 (show o < 2 ^ 31 by omega)), gz_1, thrown_e, pt_n _ 23 _ _ (show 14 ≠ 23 by decide), pt_k, if_true, out_s, lg_same]
        exact Arm.mk (rel hC)
      · exact absurd e (hno o ho)
    · simp only [hb, bd_s, if_true, btw_0, be_s, out_s]
      by_cases hx0 : (0 : Int32) ≤ x
      · rcases em_at h'.1 h'.2.2.2.2.2.2.1 x hn with ⟨q, hq, e2, _⟩ | ⟨_, ha2⟩
        · exact absurd e2 (hno q hq)
        · simp only [if_pos hx0, ha2, bd_s, if_true, be_s, gz_0, thrown_e, pt_k, lg_same]
          exact Arm.mk (rel h')
      · simp only [if_neg hx0, if_true, be_s, gz_0, bd_s, thrown_e, pt_k, lg_same]
        exact Arm.mk (rel h')
theorem arm12 {sx sm : St} (h : Rel sx sm) {n : Nat} (hn : 4200 ≤ n) (i : Nat) (xs : Nat → Int32) (oc : Nat → Int64) : Arm (A_law_12 n i xs sx sm oc) := by
  obtain ⟨P, W, N, K, F, A, R, D, C, ex, op, h⟩ := h
  have h' := h.thr 0
  unfold A_law_12 FX2_object FX3_object
  generalize xs (i + 1) = x
  generalize xs (i + 2) = y
  rcases ex_begins h'.1 h'.2.1 h'.2.2.2.2.2.1 x n with ⟨o, ho, e, hb⟩ | ⟨hno, hb⟩
  · have h1 := h.1.Alt ho
    have h4 := h.1.nle
    subst e
    rcases em_at h'.1 h'.2.2.2.2.2.2.1 (nI (A o)) hn with ⟨q, hq, e2, ha2⟩ | ⟨hno, _⟩
    · have h5 := h.1.Alt hq
      have eo : o = q := h.1.Ainj ho hq (nI_inj (by omega) (by omega) e2)
      subst eo
      have hx0 : (0 : Int32) ≤ nI (A o) := nI_pos' (by omega)
      have hM := h'.2.2.2.2.2.2.1.2.2 o ho
      simp only [hb, bd_s, i10, if_false, if_pos hx0, ha2, if_neg (nI_m1 (show o < 2 ^ 31 by omega)), ex_refs h.1 h.2.2.2.1 ho, ex_data h.1 h.2.2.2.1 ho, ex_size h.1 h.2.2.2.1 ho, em_size h'.1 h'.2.2.2.2.2.2.1 ho, gd_n (show o < 4200 by omega) (show 4200 < 2 ^ 31 by omega), nI_clamp (show o < 2 ^ 31 by omega), hM.2.1, hM.2.2.1]
      by_cases y0 : y = 0
      · simp only [if_pos y0, bd_s, if_true]; exact Arm.mk (rel h')
      · by_cases y1 : y = 1
        · simp only [if_neg y0, if_pos y1, bd_s, if_true]; exact Arm.mk (rel h')
        · by_cases y2 : y = 2
          · simp only [if_neg y0, if_neg y1, if_pos y2, bd_s, if_true]; exact Arm.mk (rel h')
          · simp only [if_neg y0, if_neg y1, if_neg y2, bd_s, if_true]; exact Arm.mk (rel h')
    · exact absurd rfl (hno o ho)
  · simp only [hb, bd_s, if_true]
    by_cases hx0 : (0 : Int32) ≤ x
    · rcases em_at h'.1 h'.2.2.2.2.2.2.1 x hn with ⟨q, hq, e2, _⟩ | ⟨_, ha2⟩
      · exact absurd e2 (hno q hq)
      · simp only [if_pos hx0, ha2, bd_s, if_true]; exact Arm.mk (rel h')
    · simp only [if_neg hx0, if_true, bd_s]; exact Arm.mk (rel h')
