/-! the heap behind a collection: how the objects lie -/
theorem cnt_mono (f : Nat → Bool) {a : Nat} : ∀ b, a ≤ b → cnt f a ≤ cnt f b
  | 0, h => by rw [show a = 0 by omega]; exact Nat.le_refl _
  | b + 1, h => by
    by_cases e : a = b + 1
    · rw [e]; exact Nat.le_refl _
    · have := cnt_mono f b (show a ≤ b by omega)
      simp only [cnt]; omega
theorem cnt_lt {f : Nat → Bool} {a b : Nat} (h : a < b) (hf : f a = true) : cnt f a < cnt f b := by
  have h1 := cnt_mono f b (show a + 1 ≤ b by omega)
  simp only [cnt, hf, if_true] at h1
  omega
theorem cnt_inj {f : Nat → Bool} {a b : Nat} (ha : f a = true) (hb : f b = true) (h : cnt f a = cnt f b) : a = b := by
  rcases Nat.lt_trichotomy a b with e | e | e
  · have := cnt_lt e ha; omega
  · exact e
  · have := cnt_lt e hb; omega
/-- the j-th of those that are left -/
theorem sel_ex (sv : Nat → Bool) : ∀ n, ∃ sel : Nat → Nat, ∀ j, j < cnt sv n → sel j < n ∧ sv (sel j) = true ∧ cnt sv (sel j) = j
  | 0 => ⟨fun _ => 0, fun j hj => by simp only [cnt] at hj; omega⟩
  | n + 1 => by
    obtain ⟨sel, h⟩ := sel_ex sv n
    cases hs : sv n with
    | false =>
      refine ⟨sel, fun j hj => ?_⟩
      simp only [cnt, hs] at hj
      obtain ⟨h1, h2, h3⟩ := h j (by simpa using hj)
      exact ⟨by omega, h2, h3⟩
    | true =>
      refine ⟨upN sel (cnt sv n) n, fun j hj => ?_⟩
      simp only [cnt, hs, if_true] at hj
      unfold upN
      by_cases e : j = cnt sv n
      · rw [if_pos e]; exact ⟨by omega, hs, e.symm⟩
      · rw [if_neg e]
        obtain ⟨h1, h2, h3⟩ := h j (by omega)
        exact ⟨by omega, h2, h3⟩
def Sel (n : Nat) (sv : Nat → Bool) (sel : Nat → Nat) : Prop := ∀ j, j < cnt sv n → sel j < n ∧ sv (sel j) = true ∧ cnt sv (sel j) = j
theorem Sel.of {n : Nat} {sv : Nat → Bool} {sel : Nat → Nat} (h : Sel n sv sel) {o : Nat} (ho : o < n) (hs : sv o = true) : cnt sv o < cnt sv n ∧ sel (cnt sv o) = o := by
  have h1 := cnt_lt ho hs
  obtain ⟨h2, h3, h4⟩ := h _ h1
  exact ⟨h1, cnt_inj h3 hs h4⟩
def K2 (K T : Nat → Nat) (S : Nat → Bool) : Nat → Nat := fun p => if T p ≠ 0 then 1 else if S p = true then K p else 0
def F2 (F T : Nat → Nat) (S : Nat → Bool) : Nat → Nat := fun p => if T p ≠ 0 then T p - 1 else if S p = true then F p else 0
section
variable {P W n ln : Nat} {K F A R D row B T sel : Nat → Nat} {sv H S : Nat → Bool} {tg : Int32} {tf tk mv : Nat} {C : Nat → Nat → Int32} {ex : Nat → Int32} {op : Int32} {sx sm s : St}
theorem fl_mono {p k : Nat} : ∀ k', k ≤ k' → fl W A R D row B k p ≤ fl W A R D row B k' p
  | 0, h => by rw [show k = 0 by omega]; exact Nat.le_refl _
  | k' + 1, h => by
    by_cases e : k = k' + 1
    · rw [e]; exact Nat.le_refl _
    · have := fl_mono (p := p) (k := k) k' (by omega)
      simp only [fl]; omega
theorem fl_cov {p y : Nat} : ∀ k', y < fl W A R D row B k' p → ∃ k, k < k' ∧ B (row k) ≠ A (row k) ∧ B (row k) / W = p ∧ fl W A R D row B k p ≤ y ∧ y < fl W A R D row B k p + szo R D (row k)
  | 0, h => absurd h (Nat.not_lt_zero _)
  | k' + 1, h => by
    by_cases e : y < fl W A R D row B k' p
    · obtain ⟨k, h1, h2⟩ := fl_cov k' e
      exact ⟨k, by omega, h2⟩
    · simp only [fl] at h
      by_cases hc : B (row k') ≠ A (row k') ∧ B (row k') / W = p
      · rw [if_pos hc] at h
        exact ⟨k', by omega, hc.1, hc.2, by omega, h⟩
      · rw [if_neg hc] at h; omega
theorem fl_step {k : Nat} (h : B (row k) ≠ A (row k)) : fl W A R D row B (k + 1) (B (row k) / W) = fl W A R D row B k (B (row k) / W) + szo R D (row k) := by
  show fl W A R D row B k (B (row k) / W) + (if B (row k) ≠ A (row k) ∧ B (row k) / W = B (row k) / W then szo R D (row k) else 0) = _
  rw [if_pos ⟨h, rfl⟩]
/-- a word of an object: of its page, if it is small; of one of its pages, if it is long -/
theorem Geo.csm (g : Geo P W n K F A R D) {o w : Nat} (ho : o < n) (hs : szo R D o ≤ W) (h1 : A o ≤ w) (h2 : w < A o + szo R D o) : w / W = A o / W := by
  have hW := g.1.2.2.1
  have h3 := (g.2.2.2.2.2.2.1 o ho hs).2
  obtain ⟨x, y, hy, e0, e1, e2⟩ := dm_e (show 0 < W by omega) (A o)
  rw [e2] at h3
  rw [e1]
  have : w = x * W + (w - x * W) := by omega
  rw [this]
  exact dm_q (by omega)
theorem Geo.clg (g : Geo P W n K F A R D) {o w : Nat} (ho : o < n) (hs : W < szo R D o) (h1 : A o ≤ w) (h2 : w < A o + szo R D o) : lp W A R D o (w / W) := by
  have hW := g.1.2.2.1
  have h3 := (g.2.2.2.2.2.2.2.1 o ho hs).1
  obtain ⟨x, y, hy, e0, e1, e2⟩ := dm_e (show 0 < W by omega) (A o)
  obtain ⟨x', y', hy', e0', e1', e2'⟩ := dm_e (show 0 < W by omega) w
  rw [e2] at h3
  unfold lp
  rw [e1, e1']
  have hxx : x ≤ x' := by
    apply Nat.le_of_not_lt
    intro hlt
    have := mulLt W hlt
    omega
  refine ⟨hs, hxx, ?_⟩
  obtain ⟨j, rfl⟩ : ∃ j, x' = x + j := ⟨x' - x, by omega⟩
  rw [Nat.add_mul] at e0'
  rw [show x + j - x = j by omega]
  omega
theorem Geo.lpc (g : Geo P W n K F A R D) {o p : Nat} (ho : o < n) (hl : lp W A R D o p) : A o ≤ p * W ∧ p * W < A o + szo R D o := by
  have hW := g.1.2.2.1
  obtain ⟨l1, l2, l3⟩ := hl
  have h3 := (g.2.2.2.2.2.2.2.1 o ho l1).1
  obtain ⟨x, y, hy, e0, e1, e2⟩ := dm_e (show 0 < W by omega) (A o)
  rw [e2] at h3
  rw [e1] at l2 l3
  obtain ⟨j, rfl⟩ : ∃ j, p = x + j := ⟨p - x, by omega⟩
  rw [show x + j - x = j by omega] at l3
  rw [Nat.add_mul]
  omega
theorem Geo.lpk (g : Geo P W n K F A R D) {o p : Nat} (ho : o < n) (hl : lp W A R D o p) : K p = 2 ∨ K p = 3 := by
  obtain ⟨l1, l2, l3⟩ := hl
  obtain ⟨-, k2, k3, -⟩ := g.2.2.2.2.2.2.2.1 o ho l1
  rcases Nat.lt_or_ge (A o / W) p with h | h
  · have := k3 (p - A o / W) (Nat.sub_pos_of_lt h) l3
    rw [Nat.add_sub_of_le l2] at this
    exact Or.inr this
  · rw [Nat.le_antisymm l2 h] at k2; exact Or.inl k2
theorem Geo.fz (g : Geo P W n K F A R D) {o w : Nat} (ho : o < n) (h1 : A o ≤ w) (h2 : w < A o + szo R D o) : w < P * W ∧ w % W < F (w / W) ∧ K (w / W) ≠ 0 := by
  have h4 := (g.2.2.2.1 o ho).2.2
  have h5 := (g.2.2.2.2.2.1 w (by omega)).mp ⟨o, ho, h1, h2⟩
  refine ⟨by omega, h5, fun e => ?_⟩
  rw [(g.2.2.1 _).mp e] at h5
  omega
/-- where one that is left lies -/
theorem PI.loc (pi : PI P W n K A R D ln row B sv H S T tg tf) (g : Geo P W n K F A R D) {o : Nat} (ho : o < n) (hs : sv o = true) :
    (B o = A o ∧ (H (A o / W) = true ∨ W < szo R D o)) ∨ (∃ k, k < ln ∧ row k = o ∧ B o ≠ A o ∧ szo R D o ≤ W ∧ K (B o / W) = 0 ∧ B o / W < P ∧ B o % W = fl W A R D row B k (B o / W) ∧ fl W A R D row B k (B o / W) + szo R D o ≤ W ∧ H (A o / W) = false) := by
  obtain ⟨k, hk, rfl⟩ := (pi.svi o).mp hs
  rcases pi.lo hk with h | ⟨h1, h2, h3, h4, h5, h6⟩
  · exact Or.inl h
  · refine Or.inr ⟨k, hk, rfl, fun e => ?_, h1, h2, h3, h4, h5, h6⟩
    rw [e] at h2
    exact g.kA ho h2
/-- the pages of one that stays are pages that stay -/
theorem PI.stp (pi : PI P W n K A R D ln row B sv H S T tg tf) (g : Geo P W n K F A R D) {o w : Nat} (ho : o < n) (hs : sv o = true) (hB : B o = A o) (h1 : A o ≤ w) (h2 : w < A o + szo R D o) : S (w / W) = true ∧ T (w / W) = 0 := by
  have hz := g.fz ho h1 h2
  refine ⟨?_, ?_⟩
  · rw [pi.Si]
    rcases pi.loc g ho hs with ⟨_, h3⟩ | ⟨k, _, _, h3, _⟩
    · by_cases hsz : szo R D o ≤ W
      · rw [g.csm ho hsz h1 h2]
        rcases h3 with h3 | h3
        · exact Or.inl h3
        · omega
      · obtain ⟨k, hk, e⟩ := (pi.svi o).mp hs
        exact Or.inr (Or.inr ⟨k, hk, by rw [e]; exact g.clg ho (by omega) h1 h2⟩)
    · exact absurd hB h3
  · by_cases e : T (w / W) = 0
    · exact e
    · exact absurd (pi.tp e).2 hz.2.2
/-- .. and what lies on a page that stays, stays -/
theorem PI.pst (pi : PI P W n K A R D ln row B sv H S T tg tf) (g : Geo P W n K F A R D) (hK : KH n W A H sv) {o w : Nat} (ho : o < n) (h1 : A o ≤ w) (h2 : w < A o + szo R D o) (hS : S (w / W) = true) (hT : T (w / W) = 0) : sv o = true ∧ B o = A o := by
  have long : W < szo R D o → sv o = true → B o = A o := fun hl hs => by
    rcases pi.loc g ho hs with ⟨h3, _⟩ | ⟨k, _, _, _, h3, _⟩
    · exact h3
    · omega
  have hit : H (A o / W) = true → sv o = true ∧ B o = A o := fun hh => by
    have hs := hK o ho hh
    refine ⟨hs, ?_⟩
    rcases pi.loc g ho hs with ⟨h3, _⟩ | ⟨k, _, _, _, _, _, _, _, _, h3⟩
    · exact h3
    · rw [hh] at h3; cases h3
  rcases (pi.Si _).mp hS with h3 | h3 | ⟨k, hk, h3⟩
  · by_cases hsz : szo R D o ≤ W
    · rw [g.csm ho hsz h1 h2] at h3; exact hit h3
    · exact hit ((pi.cl ho (g.clg ho (by omega) h1 h2)).mp h3)
  · exact absurd hT h3
  · have ho2 := pi.rn hk
    have hk2 := g.lpk ho2 h3
    by_cases hsz : szo R D o ≤ W
    · have := (g.2.2.2.2.2.2.1 o ho hsz).1
      rw [← g.csm ho hsz h1 h2] at this
      omega
    · have c1 := g.lpc ho2 h3
      have c2 := g.lpc ho (g.clg ho (by omega) h1 h2)
      have e : row k = o := by
        rcases Nat.decEq (row k) o with hne | he
        · have := g.2.2.2.2.1 (row k) o ho2 ho hne
          omega
        · exact he
      have hs : sv o = true := (pi.svi o).mpr ⟨k, hk, e⟩
      exact ⟨hs, long (by omega) hs⟩
theorem K2_t {p : Nat} (h : T p ≠ 0) : K2 K T S p = 1 := if_pos h
theorem F2_t {p : Nat} (h : T p ≠ 0) : F2 F T S p = T p - 1 := if_pos h
theorem K2_s {p : Nat} (h : T p = 0) (hS : S p = true) : K2 K T S p = K p := by unfold K2; rw [if_neg (by omega), if_pos hS]
theorem F2_s {p : Nat} (h : T p = 0) (hS : S p = true) : F2 F T S p = F p := by unfold F2; rw [if_neg (by omega), if_pos hS]
theorem K2_0 {p : Nat} (h : T p = 0) (hS : S p = false) : K2 K T S p = 0 := by unfold K2; rw [if_neg (by omega), if_neg (by rw [hS]; decide)]
theorem F2_0 {p : Nat} (h : T p = 0) (hS : S p = false) : F2 F T S p = 0 := by unfold F2; rw [if_neg (by omega), if_neg (by rw [hS]; decide)]
theorem PI.Tf (pi : PI P W n K A R D ln row B sv H S T tg tf) {p : Nat} (h : T p ≠ 0) : T p = 1 + fl W A R D row B ln p ∧ 0 < fl W A R D row B ln p := by
  have := pi.Ti p
  split at this <;> omega
/-- the words of one that moved -/
theorem PI.mvw (pi : PI P W n K A R D ln row B sv H S T tg tf) (g : Geo P W n K F A R D) {k w : Nat} (hk : k < ln) (hB : B (row k) ≠ A (row k)) (h5 : B (row k) % W = fl W A R D row B k (B (row k) / W)) (h6 : fl W A R D row B k (B (row k) / W) + szo R D (row k) ≤ W) : (B (row k) ≤ w ∧ w < B (row k) + szo R D (row k)) ↔ (w / W = B (row k) / W ∧ fl W A R D row B k (B (row k) / W) ≤ w % W ∧ w % W < fl W A R D row B k (B (row k) / W) + szo R D (row k)) := by
  have hW := g.1.2.2.1
  obtain ⟨x, y, hy, e0, e1, e2⟩ := dm_e (show 0 < W by omega) w
  obtain ⟨x', y', hy', e0', e1', e2'⟩ := dm_e (show 0 < W by omega) (B (row k))
  rw [e1'] at h5 h6 ⊢
  rw [e2'] at h5
  rw [e1, e2]
  have := in_pg (q := x') (y0 := y') (y1 := y' + szo R D (row k)) (x := x) hy (by omega)
  rw [← e0, ← Nat.add_assoc, ← e0'] at this
  rw [this, ← h5]
theorem Geo.move (g : Geo P W n K F A R D) (pi : PI P W n K A R D ln row B sv H S T tg tf) (hK : KH n W A H sv) (hsel : Sel n sv sel) :
    Geo P W (cnt sv n) (K2 K T S) (F2 F T S) (fun j => B (sel j)) (fun j => R (sel j)) (fun j => D (sel j)) := by
  have hW := g.1.2.2.1
  have esz : ∀ j, szo (fun j => R (sel j)) (fun j => D (sel j)) j = szo R D (sel j) := fun j => rfl
  have bnd : ∀ o, o < n → sv o = true → B o + szo R D o ≤ P * W := fun o ho hs => by
    rcases pi.loc g ho hs with ⟨h1, _⟩ | ⟨k, _, _, _, h3, h4, h5, h6, h7, _⟩
    · rw [h1]; exact (g.2.2.2.1 o ho).2.2
    · obtain ⟨x', y', hy', e0', e1', e2'⟩ := dm_e (show 0 < W by omega) (B o)
      rw [e1'] at h5 h6 h7
      rw [e2'] at h6
      have := mulLt W h5
      omega
  have s1 : ∀ o, 1 ≤ szo R D o := fun o => by simp only [szo]; omega
  -- staying against moved
  have sm : ∀ o o', o < n → o' < n → sv o = true → sv o' = true → B o = A o → B o' ≠ A o' → ∀ w, A o ≤ w → w < A o + szo R D o → B o' ≤ w → w < B o' + szo R D o' → False := fun o o' ho ho' hs hs' h1 h2 w w1 w2 w3 w4 => by
    rcases pi.loc g ho' hs' with ⟨h3, _⟩ | ⟨k, hk, rfl, h3, h4, h5, h6, h7, h8, _⟩
    · exact h2 h3
    · have h9 := (pi.mvw g hk h3 h7 h8).mp ⟨w3, w4⟩
      have := g.fz ho w1 w2
      rw [h9.1] at this
      exact this.2.2 h5
  have dis : ∀ o o', o < n → o' < n → sv o = true → sv o' = true → o ≠ o' → ∀ w, B o ≤ w → w < B o + szo R D o → B o' ≤ w → w < B o' + szo R D o' → False := fun o o' ho ho' hs hs' hne w w1 w2 w3 w4 => by
    by_cases h1 : B o = A o
    · rw [h1] at w1 w2
      by_cases h2 : B o' = A o'
      · rw [h2] at w3 w4
        have := g.2.2.2.2.1 o o' ho ho' hne
        omega
      · exact sm o o' ho ho' hs hs' h1 h2 w w1 w2 w3 w4
    · by_cases h2 : B o' = A o'
      · rw [h2] at w3 w4
        exact sm o' o ho' ho hs' hs h2 h1 w w3 w4 w1 w2
      · rcases pi.loc g ho hs with ⟨h3, _⟩ | ⟨k, hk, rfl, h3, h4, h5, h6, h7, h8, _⟩
        · exact h1 h3
        · rcases pi.loc g ho' hs' with ⟨i3, _⟩ | ⟨k', hk', rfl, i3, i4, i5, i6, i7, i8, _⟩
          · exact h2 i3
          · have a1 := (pi.mvw g hk h3 h7 h8).mp ⟨w1, w2⟩
            have a2 := (pi.mvw g hk' i3 i7 i8).mp ⟨w3, w4⟩
            have f1 := fl_step (W := W) (R := R) (D := D) h3
            have f2 := fl_step (W := W) (R := R) (D := D) i3
            rw [← a1.1] at f1 a1
            rw [← a2.1] at f2 a2
            rcases Nat.lt_trichotomy k k' with e | e | e
            · have := fl_mono (W := W) (A := A) (R := R) (D := D) (row := row) (B := B) (p := w / W) k' (show k + 1 ≤ k' by omega)
              omega
            · exact hne (by rw [e])
            · have := fl_mono (W := W) (A := A) (R := R) (D := D) (row := row) (B := B) (p := w / W) k (show k' + 1 ≤ k by omega)
              omega
  refine ⟨⟨g.1.1, g.1.2.1, hW, g.1.2.2.2.1, fun p => ?_, fun p => ?_⟩, fun p hp => ?_, fun p => ?_, fun j hj => ?_, fun j j' hj hj' hne => ?_, fun w hw => ?_, fun j hj hsz => ?_, fun j hj hsz => ?_, fun p hp => ?_, fun p hp => ?_⟩
  · have := g.1.2.2.2.2.1 p
    unfold K2; split
    · omega
    · split <;> omega
  · have h1 := g.1.2.2.2.2.2 p
    have h2 := pi.Tle p
    unfold F2; split
    · omega
    · split <;> omega
  · by_cases ht : T p = 0
    · unfold K2
      rw [if_neg (by omega), g.2.1 p hp]
      split <;> rfl
    · have := (pi.tp ht).1; omega
  · by_cases ht : T p = 0
    · cases hS : S p with
      | true => rw [K2_s ht hS, F2_s ht hS]; exact g.2.2.1 p
      | false => rw [K2_0 ht hS, F2_0 ht hS]
    · rw [K2_t ht, F2_t ht]
      have := pi.Tf ht
      omega
  · obtain ⟨h1, h2, _⟩ := hsel j hj
    have h3 := g.2.2.2.1 _ h1
    exact ⟨h3.1, h3.2.1, bnd _ h1 h2⟩
  · obtain ⟨h1, h2, h3⟩ := hsel j hj
    obtain ⟨i1, i2, i3⟩ := hsel j' hj'
    have hno : sel j ≠ sel j' := fun e => by rw [e] at h3; omega
    rw [esz, esz]
    show B (sel j) + szo R D (sel j) ≤ B (sel j') ∨ B (sel j') + szo R D (sel j') ≤ B (sel j)
    by_cases c1 : B (sel j) + szo R D (sel j) ≤ B (sel j')
    · exact Or.inl c1
    · by_cases c2 : B (sel j') + szo R D (sel j') ≤ B (sel j)
      · exact Or.inr c2
      · exfalso
        have z1 := s1 (sel j)
        have z2 := s1 (sel j')
        by_cases c3 : B (sel j) ≤ B (sel j')
        · exact dis _ _ h1 i1 h2 i2 hno (B (sel j')) c3 (by omega) (by omega) (by omega)
        · exact dis _ _ h1 i1 h2 i2 hno (B (sel j)) (by omega) (by omega) (by omega) (by omega)
  · -- coverage
    constructor
    · rintro ⟨j, hj, w1, w2⟩
      obtain ⟨h1, h2, _⟩ := hsel j hj
      rw [esz] at w2
      have w1 : B (sel j) ≤ w := w1
      have w2 : w < B (sel j) + szo R D (sel j) := w2
      rcases pi.loc g h1 h2 with ⟨h3, _⟩ | ⟨k, hk, e, h3, h4, h5, h6, h7, h8, _⟩
      · rw [h3] at w1 w2
        have := pi.stp g h1 h2 h3 w1 w2
        rw [F2_s this.2 this.1]
        exact (g.fz h1 w1 w2).2.1
      · rw [← e] at w1 w2 h3 h7 h8
        have a1 := (pi.mvw g hk h3 h7 h8).mp ⟨w1, w2⟩
        have f1 := fl_step (W := W) (R := R) (D := D) h3
        have f2 := fl_mono (W := W) (A := A) (R := R) (D := D) (row := row) (B := B) (p := B (row k) / W) ln (show k + 1 ≤ ln by omega)
        have z1 := s1 (row k)
        have ht : T (w / W) ≠ 0 := by
          rw [a1.1, pi.Ti, if_neg (by omega)]; omega
        have ht2 := pi.Tf ht
        rw [F2_t ht]
        rw [← a1.1] at f1 f2 a1
        omega
    · intro hf
      by_cases ht : T (w / W) = 0
      · cases hS : S (w / W) with
        | true =>
          rw [F2_s ht hS] at hf
          obtain ⟨o, ho, w1, w2⟩ := (g.2.2.2.2.2.1 w hw).mpr hf
          obtain ⟨h1, h2⟩ := pi.pst g hK ho w1 w2 hS ht
          obtain ⟨i1, i2⟩ := hsel.of ho h1
          refine ⟨cnt sv o, i1, ?_, ?_⟩
          · show B (sel (cnt sv o)) ≤ w
            rw [i2, h2]; exact w1
          · rw [esz]
            show w < B (sel (cnt sv o)) + szo R D (sel (cnt sv o))
            rw [i2, h2]; exact w2
        | false => rw [F2_0 ht hS] at hf; omega
      · have ht2 := pi.Tf ht
        rw [F2_t ht] at hf
        obtain ⟨k, hk, h3, h4, h5, h6⟩ := fl_cov ln (show w % W < fl W A R D row B ln (w / W) by omega)
        have ho := pi.rn hk
        have hs : sv (row k) = true := (pi.svi _).mpr ⟨k, hk, rfl⟩
        obtain ⟨i1, i2⟩ := hsel.of ho hs
        rcases pi.lo hk with ⟨h7, _⟩ | ⟨h7, h8, h9, h10, h11, _⟩
        · exact absurd h7 h3
        · have := (pi.mvw g hk h3 h10 h11 (w := w)).mpr ⟨h4.symm, by rw [h4]; exact h5, by rw [h4]; exact h6⟩
          refine ⟨cnt sv (row k), i1, ?_, ?_⟩
          · show B (sel (cnt sv (row k))) ≤ w
            rw [i2]; exact this.1
          · rw [esz]
            show w < B (sel (cnt sv (row k))) + szo R D (sel (cnt sv (row k)))
            rw [i2]; exact this.2
  · obtain ⟨h1, h2, _⟩ := hsel j hj
    rw [esz] at hsz ⊢
    show K2 K T S (B (sel j) / W) = 1 ∧ B (sel j) % W + szo R D (sel j) ≤ W
    have z1 := s1 (sel j)
    rcases pi.loc g h1 h2 with ⟨h3, _⟩ | ⟨k, hk, e, h3, h4, h5, h6, h7, h8, _⟩
    · have a := pi.stp g h1 h2 h3 (Nat.le_refl _) (by omega)
      have b := g.2.2.2.2.2.2.1 _ h1 hsz
      rw [h3, K2_s a.2 a.1]; exact b
    · refine ⟨?_, by rw [h7]; exact h8⟩
      rw [← e] at h3 ⊢
      have f1 := fl_step (W := W) (R := R) (D := D) h3
      have f2 := fl_mono (W := W) (A := A) (R := R) (D := D) (row := row) (B := B) (p := B (row k) / W) ln (show k + 1 ≤ ln by omega)
      have z1 := s1 (row k)
      have ht : T (B (row k) / W) ≠ 0 := by
        rw [pi.Ti, if_neg (by omega)]; omega
      exact K2_t ht
  · obtain ⟨h1, h2, _⟩ := hsel j hj
    rw [esz] at hsz ⊢
    show B (sel j) % W = 0 ∧ K2 K T S (B (sel j) / W) = 2 ∧ (∀ i, 0 < i → i * W < szo R D (sel j) → K2 K T S (B (sel j) / W + i) = 3) ∧ (∀ i, szo R D (sel j) ≤ i * W → i * W < szo R D (sel j) + W → K2 K T S (B (sel j) / W + i) ≠ 3)
    rcases pi.loc g h1 h2 with ⟨h3, _⟩ | ⟨k, hk, e, h3, h4, _⟩
    · obtain ⟨b1, b2, b3, b4⟩ := g.2.2.2.2.2.2.2.1 _ h1 hsz
      have pg : ∀ i, i * W < szo R D (sel j) → K2 K T S (A (sel j) / W + i) = K (A (sel j) / W + i) := fun i hi => by
        have hl : lp W A R D (sel j) (A (sel j) / W + i) := ⟨hsz, Nat.le_add_right _ _, by rw [Nat.add_sub_cancel_left]; exact hi⟩
        have c := g.lpc h1 hl
        have a := pi.stp g h1 h2 h3 c.1 c.2
        rw [Nat.mul_div_cancel _ (show 0 < W by omega)] at a
        exact K2_s a.2 a.1
      rw [h3]
      refine ⟨b1, ?_, fun i i1 i2 => ?_, fun i i1 i2 e => ?_⟩
      · have := pg 0 (by omega)
        rw [Nat.add_zero] at this; rw [this]; exact b2
      · rw [pg i i2]; exact b3 i i1 i2
      · unfold K2 at e
        split at e
        · omega
        · split at e
          · exact b4 i i1 i2 e
          · omega
    · omega
  · have ht : T p = 0 := by
      apply Classical.byContradiction
      intro ht
      rw [K2_t ht] at hp; omega
    cases hS : S p with
    | true =>
      rw [K2_s ht hS] at hp
      obtain ⟨o, ho, h1, h2⟩ := g.2.2.2.2.2.2.2.2.1 p hp
      have ed : p * W / W = p := Nat.mul_div_cancel p (by omega)
      obtain ⟨h3, h4⟩ := pi.pst g hK ho (w := p * W) (by omega) (by omega) (by rw [ed]; exact hS) (by rw [ed]; exact ht)
      obtain ⟨i1, i2⟩ := hsel.of ho h3
      refine ⟨cnt sv o, i1, ?_, ?_⟩
      · rw [esz, i2]; exact h1
      · show B (sel (cnt sv o)) = p * W
        rw [i2, h4]; exact h2
    | false => rw [K2_0 ht hS] at hp; omega
  · have ht : T p = 0 := by
      apply Classical.byContradiction
      intro ht
      rw [K2_t ht] at hp; omega
    cases hS : S p with
    | true =>
      rw [K2_s ht hS] at hp
      obtain ⟨o, ho, h1, h2, h5⟩ := g.2.2.2.2.2.2.2.2.2 p hp
      have ed : p * W / W = p := Nat.mul_div_cancel p (by omega)
      have c := g.lpc ho (p := p) ⟨h1, Nat.le_of_lt h2, h5⟩
      obtain ⟨h3, h4⟩ := pi.pst g hK ho (w := p * W) c.1 c.2 (by rw [ed]; exact hS) (by rw [ed]; exact ht)
      obtain ⟨i1, i2⟩ := hsel.of ho h3
      refine ⟨cnt sv o, i1, ?_, ?_, ?_⟩
      · rw [esz, i2]; exact h1
      · show B (sel (cnt sv o)) / W < p
        rw [i2, h4]; exact h2
      · rw [esz]
        show (p - B (sel (cnt sv o)) / W) * W < szo R D (sel (cnt sv o))
        rw [i2, h4]; exact h5
    | false => rw [K2_0 ht hS] at hp; omega
end
