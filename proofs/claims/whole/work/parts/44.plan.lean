/-! THE PLAN of a collection, in numbers -/
def fl (W : Nat) (A R D row B : Nat → Nat) : Nat → Nat → Nat
  | 0, _ => 0
  | k + 1, p => fl W A R D row B k p + (if B (row k) ≠ A (row k) ∧ B (row k) / W = p then szo R D (row k) else 0)
/-- the pages of a long object -/
def lp (W : Nat) (A R D : Nat → Nat) (o p : Nat) : Prop := W < szo R D o ∧ A o / W ≤ p ∧ (p - A o / W) * W < szo R D o
def upB (f : Nat → Bool) (o : Nat) : Nat → Bool := fun x => f x || decide (x = o)
theorem upB_t (f : Nat → Bool) (o x : Nat) : upB f o x = true ↔ (f x = true ∨ x = o) := by
  unfold upB; simp
theorem upB_s (f : Nat → Bool) (o : Nat) : upB f o o = true := (upB_t f o o).mpr (Or.inr rfl)
theorem upB_n (f : Nat → Bool) {o x : Nat} (h : x ≠ o) : upB f o x = f x := by
  unfold upB; simp [h]
theorem cnt_upB {f : Nat → Bool} {o n : Nat} (ho : o < n) (hf : f o = false) : cnt (upB f o) n = cnt f n + 1 := by
  have h1 : cnt (upB f o) n = cnt (fun k => f k || decide (o ≤ k ∧ k < o + 1)) n := cnt_congr n (fun k _ => by
    unfold upB
    congr 1
    rw [Bool.eq_iff_iff]; simp only [decide_eq_true_eq]; omega)
  rw [h1, cnt_or n (fun k hk hh => by
    have hne : k ≠ o := fun e => by rw [e, hf] at hh; cases hh
    exact decide_eq_false (by omega)), cnt_iv n (by omega)]
/-- what the plan keeps -/
def PI (P W n : Nat) (K A R D : Nat → Nat) (ln : Nat) (row B : Nat → Nat) (sv H S : Nat → Bool) (T : Nat → Nat) (tg : Int32) (tf : Nat) : Prop :=
  (ln = cnt sv n ∧ ∀ k, k < ln → row k < n) ∧
  (∀ o, sv o = true ↔ ∃ k, k < ln ∧ row k = o) ∧
  (∀ k k', k < ln → k' < ln → row k = row k' → k = k') ∧
  (∀ k, k < ln → (B (row k) = A (row k) ∧ (H (A (row k) / W) = true ∨ W < szo R D (row k))) ∨ (szo R D (row k) ≤ W ∧ K (B (row k) / W) = 0 ∧ B (row k) / W < P ∧ B (row k) % W = fl W A R D row B k (B (row k) / W) ∧ fl W A R D row B k (B (row k) / W) + szo R D (row k) ≤ W ∧ H (A (row k) / W) = false)) ∧
  (∀ p, T p = if fl W A R D row B ln p = 0 then 0 else 1 + fl W A R D row B ln p) ∧
  (∀ p, T p ≠ 0 → p < P ∧ K p = 0) ∧
  ((tg = -1 ∧ ∀ p, T p = 0) ∨ ∃ q, q < P ∧ tg = nI q ∧ K q = 0 ∧ T q = 1 + tf ∧ tf ≤ W ∧ ∀ p, p < P → K p = 0 → (T p ≠ 0 ↔ p ≤ q)) ∧
  (∀ p, S p = true ↔ (H p = true ∨ T p ≠ 0 ∨ ∃ k, k < ln ∧ lp W A R D (row k) p)) ∧
  (∀ p, H p = true → p < P ∧ K p ≠ 0) ∧
  (∀ o p, o < n → lp W A R D o p → (H p = true ↔ H (A o / W) = true))
section
variable {P W n ln : Nat} {K F A R D row B T : Nat → Nat} {sv H S : Nat → Bool} {tg : Int32} {tf tk mv : Nat} {C : Nat → Nat → Int32} {ex : Nat → Int32} {op : Int32} {sx sm s : St}
theorem PI.cn (h : PI P W n K A R D ln row B sv H S T tg tf) : ln = cnt sv n := h.1.1
theorem PI.rn (h : PI P W n K A R D ln row B sv H S T tg tf) {k : Nat} (hk : k < ln) : row k < n := h.1.2 k hk
theorem PI.svi (h : PI P W n K A R D ln row B sv H S T tg tf) (o : Nat) : sv o = true ↔ ∃ k, k < ln ∧ row k = o := h.2.1 o
theorem PI.inj (h : PI P W n K A R D ln row B sv H S T tg tf) {k k' : Nat} (hk : k < ln) (hk' : k' < ln) (e : row k = row k') : k = k' := h.2.2.1 k k' hk hk' e
theorem PI.lo (h : PI P W n K A R D ln row B sv H S T tg tf) {k : Nat} (hk : k < ln) : (B (row k) = A (row k) ∧ (H (A (row k) / W) = true ∨ W < szo R D (row k))) ∨ (szo R D (row k) ≤ W ∧ K (B (row k) / W) = 0 ∧ B (row k) / W < P ∧ B (row k) % W = fl W A R D row B k (B (row k) / W) ∧ fl W A R D row B k (B (row k) / W) + szo R D (row k) ≤ W ∧ H (A (row k) / W) = false) := h.2.2.2.1 k hk
theorem PI.Ti (h : PI P W n K A R D ln row B sv H S T tg tf) (p : Nat) : T p = if fl W A R D row B ln p = 0 then 0 else 1 + fl W A R D row B ln p := h.2.2.2.2.1 p
theorem PI.tp (h : PI P W n K A R D ln row B sv H S T tg tf) {p : Nat} (hp : T p ≠ 0) : p < P ∧ K p = 0 := h.2.2.2.2.2.1 p hp
theorem PI.tgt (h : PI P W n K A R D ln row B sv H S T tg tf) : (tg = -1 ∧ ∀ p, T p = 0) ∨ ∃ q, q < P ∧ tg = nI q ∧ K q = 0 ∧ T q = 1 + tf ∧ tf ≤ W ∧ ∀ p, p < P → K p = 0 → (T p ≠ 0 ↔ p ≤ q) := h.2.2.2.2.2.2.1
theorem PI.Si (h : PI P W n K A R D ln row B sv H S T tg tf) (p : Nat) : S p = true ↔ (H p = true ∨ T p ≠ 0 ∨ ∃ k, k < ln ∧ lp W A R D (row k) p) := h.2.2.2.2.2.2.2.1 p
theorem PI.Hi (h : PI P W n K A R D ln row B sv H S T tg tf) {p : Nat} (hp : H p = true) : p < P ∧ K p ≠ 0 := h.2.2.2.2.2.2.2.2.1 p hp
theorem PI.cl (h : PI P W n K A R D ln row B sv H S T tg tf) {o p : Nat} (ho : o < n) (hl : lp W A R D o p) : H p = true ↔ H (A o / W) = true := h.2.2.2.2.2.2.2.2.2 o p ho hl
theorem PI.lnle (h : PI P W n K A R D ln row B sv H S T tg tf) : ln ≤ n := by rw [h.cn]; exact cnt_le _ _
theorem Geo.kA (g : Geo P W n K F A R D) {o : Nat} (ho : o < n) : K (A o / W) ≠ 0 := by
  by_cases h : szo R D o ≤ W
  · rw [(g.2.2.2.2.2.2.1 o ho h).1]; decide
  · rw [(g.2.2.2.2.2.2.2.1 o ho (by omega)).2.1]; decide
theorem fl_ext {o b : Nat} (h : ∀ k, k < ln → row k ≠ o) (p : Nat) : ∀ k, k ≤ ln → fl W A R D (upN row ln o) (upN B o b) k p = fl W A R D row B k p
  | 0, _ => rfl
  | k + 1, hk => by
    have e1 : upN row ln o k = row k := if_neg (by omega)
    have e2 : upN B o b (row k) = B (row k) := if_neg (h k (by omega))
    simp only [fl, e1, e2, fl_ext h p k (by omega)]
/-- one that stays comes to the row -/
theorem PI.stay (h : PI P W n K A R D ln row B sv H S T tg tf) {o : Nat} (ho : o < n) (hs : sv o = false) (hh : H (A o / W) = true ∨ W < szo R D o) {S' : Nat → Bool} (hS : ∀ p, S' p = true ↔ (S p = true ∨ lp W A R D o p)) :
    PI P W n K A R D (ln + 1) (upN row ln o) (upN B o (A o)) (upB sv o) H S' T tg tf := by
  have hno : ∀ k, k < ln → row k ≠ o := fun k hk e => by
    have := (h.svi o).mpr ⟨k, hk, e⟩
    rw [hs] at this; cases this
  have rl : upN row ln o ln = o := if_pos rfl
  have rk : ∀ k, k < ln → upN row ln o k = row k := fun k hk => if_neg (by omega)
  have bo : upN B o (A o) o = A o := if_pos rfl
  have bk : ∀ k, k < ln → upN B o (A o) (row k) = B (row k) := fun k hk => if_neg (hno k hk)
  have hfl : ∀ p, fl W A R D (upN row ln o) (upN B o (A o)) (ln + 1) p = fl W A R D row B ln p := fun p => by
    simp only [fl, rl, bo, fl_ext hno p ln (Nat.le_refl _)]
    rw [if_neg (fun e => e.1 rfl), Nat.add_zero]
  refine ⟨⟨by rw [cnt_upB ho hs, h.cn], fun k hk => ?_⟩, fun x => ?_, fun k k' hk hk' e => ?_, fun k hk => ?_, fun p => by rw [hfl]; exact h.Ti p, fun p => h.tp, h.tgt, fun p => ?_, fun p => h.Hi, fun o p => h.cl⟩
  · by_cases e : k = ln
    · rw [e, rl]; exact ho
    · rw [rk k (by omega)]; exact h.rn (by omega)
  · rw [upB_t, h.svi x]
    constructor
    · rintro (⟨k, hk, e⟩ | e)
      · exact ⟨k, by omega, by rw [rk k hk]; exact e⟩
      · exact ⟨ln, by omega, by rw [rl]; exact e.symm⟩
    · rintro ⟨k, hk, e⟩
      by_cases e2 : k = ln
      · rw [e2, rl] at e; exact Or.inr e.symm
      · rw [rk k (by omega)] at e; exact Or.inl ⟨k, by omega, e⟩
  · by_cases e1 : k = ln
    · by_cases e2 : k' = ln
      · omega
      · rw [e1, rl, rk k' (by omega)] at e; exact absurd e.symm (hno k' (by omega))
    · by_cases e2 : k' = ln
      · rw [e2, rl, rk k (by omega)] at e; exact absurd e (hno k (by omega))
      · rw [rk k (by omega), rk k' (by omega)] at e; exact h.inj (by omega) (by omega) e
  · by_cases e : k = ln
    · rw [e, rl, bo]; exact Or.inl ⟨rfl, hh⟩
    · have hk : k < ln := by omega
      rw [rk k hk, bk k hk, fl_ext hno _ k (by omega)]; exact h.lo hk
  · rw [hS p, h.Si p]
    constructor
    · rintro ((h1 | h1 | ⟨k, hk, h1⟩) | h1)
      · exact Or.inl h1
      · exact Or.inr (Or.inl h1)
      · exact Or.inr (Or.inr ⟨k, by omega, by rw [rk k hk]; exact h1⟩)
      · exact Or.inr (Or.inr ⟨ln, by omega, by rw [rl]; exact h1⟩)
    · rintro (h1 | h1 | ⟨k, hk, h1⟩)
      · exact Or.inl (Or.inl h1)
      · exact Or.inl (Or.inr (Or.inl h1))
      · by_cases e : k = ln
        · rw [e, rl] at h1; exact Or.inr h1
        · rw [rk k (by omega)] at h1; exact Or.inl (Or.inr (Or.inr ⟨k, by omega, h1⟩))
/-- one that moves comes to the row -/
theorem PI.move (h : PI P W n K A R D ln row B sv H S T tg tf) (g : Geo P W n K F A R D) {o q f : Nat} (ho : o < n) (hs : sv o = false) (hz : szo R D o ≤ W) (hq : q < P) (hk : K q = 0) (hf : f + szo R D o ≤ W) (hfl : fl W A R D row B ln q = f) (ht : ∀ p, p < P → K p = 0 → p ≠ q → (T p ≠ 0 ↔ p < q)) (hh : H (A o / W) = false) :
    PI P W n K A R D (ln + 1) (upN row ln o) (upN B o (q * W + f)) (upB sv o) H (upB S q) (upN T q (1 + (f + szo R D o))) (nI q) (f + szo R D o) := by
  have hs1 : 1 ≤ szo R D o := by simp only [szo]; omega
  have hno : ∀ k, k < ln → row k ≠ o := fun k hk e => by
    have := (h.svi o).mpr ⟨k, hk, e⟩
    rw [hs] at this; cases this
  have rl : upN row ln o ln = o := if_pos rfl
  have rk : ∀ k, k < ln → upN row ln o k = row k := fun k hk => if_neg (by omega)
  have bo : upN B o (q * W + f) o = q * W + f := if_pos rfl
  have bk : ∀ k, k < ln → upN B o (q * W + f) (row k) = B (row k) := fun k hk => if_neg (hno k hk)
  have ed : (q * W + f) / W = q := dm_q (by omega)
  have er : (q * W + f) % W = f := dm_r (by omega)
  have hne : q * W + f ≠ A o := fun e => by
    have := g.kA ho
    rw [← e, ed] at this
    exact this hk
  have hfe : ∀ k p, k ≤ ln → fl W A R D (upN row ln o) (upN B o (q * W + f)) k p = fl W A R D row B k p := fun k p hk => fl_ext hno p k hk
  have hfs : ∀ p, fl W A R D (upN row ln o) (upN B o (q * W + f)) (ln + 1) p = upN (fl W A R D row B ln) q (f + szo R D o) p := fun p => by
    simp only [fl, rl, bo, ed, hfe ln p (Nat.le_refl _)]
    unfold upN
    by_cases e : p = q
    · rw [if_pos e, if_pos ⟨hne, e.symm⟩, e, hfl]
    · rw [if_neg e, if_neg (fun e2 => e e2.2.symm), Nat.add_zero]
  refine ⟨⟨by rw [cnt_upB ho hs, h.cn], fun k hk => ?_⟩, fun x => ?_, fun k k' hk hk' e => ?_, fun k hk2 => ?_, fun p => ?_, fun p hp => ?_, Or.inr ⟨q, hq, rfl, hk, if_pos rfl, hf, fun p hp hkp => ?_⟩, fun p => ?_, fun p => h.Hi, fun o p => h.cl⟩
  · by_cases e : k = ln
    · rw [e, rl]; exact ho
    · rw [rk k (by omega)]; exact h.rn (by omega)
  · rw [upB_t, h.svi x]
    constructor
    · rintro (⟨k, hk, e⟩ | e)
      · exact ⟨k, by omega, by rw [rk k hk]; exact e⟩
      · exact ⟨ln, by omega, by rw [rl]; exact e.symm⟩
    · rintro ⟨k, hk, e⟩
      by_cases e2 : k = ln
      · rw [e2, rl] at e; exact Or.inr e.symm
      · rw [rk k (by omega)] at e; exact Or.inl ⟨k, by omega, e⟩
  · by_cases e1 : k = ln
    · by_cases e2 : k' = ln
      · omega
      · rw [e1, rl, rk k' (by omega)] at e; exact absurd e.symm (hno k' (by omega))
    · by_cases e2 : k' = ln
      · rw [e2, rl, rk k (by omega)] at e; exact absurd e (hno k (by omega))
      · rw [rk k (by omega), rk k' (by omega)] at e; exact h.inj (by omega) (by omega) e
  · by_cases e : k = ln
    · rw [e, rl, bo, ed, er, hfe ln q (Nat.le_refl _), hfl]; exact Or.inr ⟨hz, hk, hq, rfl, hf, hh⟩
    · have hk : k < ln := by omega
      rw [rk k hk, bk k hk, fl_ext hno _ k (by omega)]; exact h.lo hk
  · rw [hfs]
    unfold upN
    by_cases e : p = q
    · rw [if_pos e, if_pos e, if_neg (by omega)]
    · rw [if_neg e, if_neg e]; exact h.Ti p
  · by_cases e : p = q
    · rw [e]; exact ⟨hq, hk⟩
    · rw [show upN T q (1 + (f + szo R D o)) p = T p from if_neg e] at hp; exact h.tp hp
  · by_cases e : p = q
    · rw [e, show upN T q (1 + (f + szo R D o)) q = 1 + (f + szo R D o) from if_pos rfl]; omega
    · rw [show upN T q (1 + (f + szo R D o)) p = T p from if_neg e, ht p hp hkp e]; omega
  · rw [upB_t, h.Si p]
    constructor
    · rintro ((h1 | h1 | ⟨k, hk, h1⟩) | h1)
      · exact Or.inl h1
      · refine Or.inr (Or.inl ?_)
        unfold upN
        by_cases e : p = q
        · rw [if_pos e]; omega
        · rw [if_neg e]; exact h1
      · exact Or.inr (Or.inr ⟨k, by omega, by rw [rk k hk]; exact h1⟩)
      · exact Or.inr (Or.inl (by rw [h1, show upN T q (1 + (f + szo R D o)) q = 1 + (f + szo R D o) from if_pos rfl]; omega))
    · rintro (h1 | h1 | ⟨k, hk, h1⟩)
      · exact Or.inl (Or.inl h1)
      · by_cases e : p = q
        · exact Or.inr e
        · rw [show upN T q (1 + (f + szo R D o)) p = T p from if_neg e] at h1
          exact Or.inl (Or.inr (Or.inl h1))
      · by_cases e : k = ln
        · rw [e, rl] at h1; exact absurd h1.1 (by omega)
        · rw [rk k (by omega)] at h1; exact Or.inl (Or.inr (Or.inr ⟨k, by omega, h1⟩))
end
