/-! THE RELATION between the class's state and the model's -/
/-- what tells the object v has its address -/
def ad (A : Nat → Nat) (v : Int32) : Int32 := if v = -1 then -1 else nI (A v.toNatClampNeg)
/-- the number of an object, or none -/
def okv (n : Nat) (v : Int32) : Prop := v = -1 ∨ ∃ o, o < n ∧ v = nI o
abbrev szo (R D : Nat → Nat) (o : Nat) : Nat := 1 + R o + D o
/-- where an object's contents begin in the pool -/
def Fr (R D : Nat → Nat) (o : Nat) : Nat := sumN (fun k => R k + D k) o
def bit (x : Int64) (k : Nat) : Bool := x.toBitVec.getLsbD k
/-- how objects lie in pages -/
def Geo (P W n : Nat) (K F A R D : Nat → Nat) : Prop :=
  PW P W K F ∧ (∀ p, P ≤ p → K p = 0) ∧ (∀ p, K p = 0 ↔ F p = 0) ∧
  (∀ o, o < n → R o ≤ 31 ∧ D o ≤ 200 ∧ A o + szo R D o ≤ P * W) ∧
  (∀ o o', o < n → o' < n → o ≠ o' → A o + szo R D o ≤ A o' ∨ A o' + szo R D o' ≤ A o) ∧
  (∀ a, a < P * W → ((∃ o, o < n ∧ A o ≤ a ∧ a < A o + szo R D o) ↔ a % W < F (a / W))) ∧
  (∀ o, o < n → szo R D o ≤ W → K (A o / W) = 1 ∧ A o % W + szo R D o ≤ W) ∧
  (∀ o, o < n → W < szo R D o → A o % W = 0 ∧ K (A o / W) = 2 ∧ (∀ j, 0 < j → j * W < szo R D o → K (A o / W + j) = 3) ∧ (∀ j, szo R D o ≤ j * W → j * W < szo R D o + W → K (A o / W + j) ≠ 3)) ∧
  (∀ p, K p = 2 → ∃ o, o < n ∧ W < szo R D o ∧ A o = p * W) ∧
  (∀ p, K p = 3 → ∃ o, o < n ∧ W < szo R D o ∧ A o / W < p ∧ (p - A o / W) * W < szo R D o)
def OX (n : Nat) (A R D : Nat → Nat) (C : Nat → Nat → Int32) (mem : Nat → Int32) : Prop := ∀ o, o < n → mem (A o) = nI (256 * R o + D o) ∧ (∀ i, i < R o → mem (A o + 1 + i) = ad A (C o i)) ∧ (∀ i, R o ≤ i → i < R o + D o → mem (A o + 1 + i) = C o i)
def ZX (P W : Nat) (F : Nat → Nat) (mem : Nat → Int32) : Prop := ∀ a, a < 4096 → ¬ (a < P * W ∧ a % W < F (a / W)) → mem a = 0
def BX (W n : Nat) (A : Nat → Nat) (b : Nat → Int64) : Prop := ∀ p k, p < 64 → k < 64 → (bit (b p) k = true ↔ k < W ∧ ∃ o, o < n ∧ A o = p * W + k)
def OM (n : Nat) (A R D : Nat → Nat) (C : Nat → Nat → Int32) (s : St) : Prop := s.1 14 7 = nI n ∧ s.1 14 13 = nI (Fr R D n) ∧ ∀ o, o < n → s.1 18 o = nI (A o) ∧ s.1 19 o = nI (R o) ∧ s.1 20 o = nI (D o) ∧ s.1 21 o = nI (Fr R D o) ∧ ∀ i, i < R o + D o → s.1 22 (Fr R D o + i) = C o i
def CR (n : Nat) (R : Nat → Nat) (C : Nat → Nat → Int32) : Prop := ∀ o i, o < n → i < R o → okv n (C o i)
def RT (n : Nat) (A : Nat → Nat) (ex : Nat → Int32) (sx sm : St) : Prop := ∀ r, r < 32 → okv n (ex r) ∧ sm.1 23 r = ex r ∧ sx.1 3 r = ad A (ex r)
def LO (sx sm : St) : Prop := ∀ r, r < 32 → sx.1 4 r = sm.1 24 r
def OP (P : Nat) (K : Nat → Nat) (op : Int32) (sx sm : St) : Prop := sx.1 1 6 = op ∧ sm.1 14 6 = op ∧ (op = -1 ∨ ∃ q, q < P ∧ op = nI q ∧ K q = 1)
def TL (P : Nat) (sx sm : St) : Prop := sm.1 25 6 = sx.1 2 10 ∧ sm.1 25 7 = sx.1 2 11 ∧ sm.1 25 8 = sx.1 2 13 ∧ sm.1 25 9 = sx.1 2 14 ∧ sm.1 25 10 = sx.1 2 15 ∧ sm.1 25 11 = sx.1 2 16 ∧ sm.1 25 12 = sx.1 2 17 ∧ ∀ p, p < P → (sm.1 17 p = 0 ∨ sm.1 17 p = 1) ∧ sx.1 13 p = sm.1 17 p
def RR (P W n : Nat) (K F A R D : Nat → Nat) (C : Nat → Nat → Int32) (ex : Nat → Int32) (op : Int32) (sx sm : St) : Prop :=
  Geo P W n K F A R D ∧ VX P W K F sx ∧ VM P W K F sm ∧ OX n A R D C (sx.1 5) ∧ ZX P W F (sx.1 5) ∧ BX W n A sx.2 ∧ OM n A R D C sm ∧ CR n R C ∧ RT n A ex sx sm ∧ LO sx sm ∧ OP P K op sx sm ∧ TL P sx sm
def Rel (sx sm : St) : Prop := ∃ (P W n : Nat) (K F A R D : Nat → Nat) (C : Nat → Nat → Int32) (ex : Nat → Int32) (op : Int32), RR P W n K F A R D C ex op sx sm
-- how much there is of it
theorem cnt_or {f g : Nat → Bool} : ∀ N, (∀ k, k < N → f k = true → g k = false) → cnt (fun k => f k || g k) N = cnt f N + cnt g N
  | 0, _ => rfl
  | N + 1, h => by
    have ih := cnt_or N (fun k hk => h k (Nat.lt_succ_of_lt hk))
    have hN := h N (Nat.lt_succ_self N)
    simp only [cnt, ih]
    by_cases hf : f N = true
    · have hg := hN hf
      simp [hf, hg]
      omega
    · have hf1 : f N = false := by simpa using hf
      simp [hf1]
      omega
theorem cnt_false {f : Nat → Bool} : ∀ N, (∀ k, k < N → f k = false) → cnt f N = 0
  | 0, _ => rfl
  | N + 1, h => by simp [cnt, cnt_false N (fun k hk => h k (Nat.lt_succ_of_lt hk)), h N (Nat.lt_succ_self N)]
theorem cnt_iv {a s : Nat} : ∀ N, a + s ≤ N → cnt (fun k => decide (a ≤ k ∧ k < a + s)) N = s
  | 0, h => by
    have : s = 0 := by omega
    subst this; rfl
  | N + 1, h => by
    simp only [cnt]
    by_cases e : a + s ≤ N
    · rw [cnt_iv N e]
      have : ¬ (a ≤ N ∧ N < a + s) := by omega
      simp [this]
    · have hs : a + s = N + 1 := by omega
      by_cases h0 : s = 0
      · subst h0
        rw [cnt_false N (fun k hk => decide_eq_false (by omega)), if_neg (by simp only [decide_eq_true_eq]; omega)]
      · have ih := cnt_iv (a := a) (s := s - 1) N (by omega)
        have hc : cnt (fun k => decide (a ≤ k ∧ k < a + s)) N = cnt (fun k => decide (a ≤ k ∧ k < a + (s - 1))) N := cnt_congr N (fun k hk => by rw [Bool.eq_iff_iff]; simp only [decide_eq_true_eq]; omega)
        rw [hc, ih]
        have : a ≤ N ∧ N < a + s := by omega
        simp [this]
        omega
/-- disjoint stretches: what they cover, counted -/
theorem cov_cnt {A S : Nat → Nat} {N : Nat} : ∀ n, (∀ o, o < n → A o + S o ≤ N) → (∀ o o', o < n → o' < n → o ≠ o' → A o + S o ≤ A o' ∨ A o' + S o' ≤ A o) →
    cnt (fun a => decide (∃ o, o < n ∧ A o ≤ a ∧ a < A o + S o)) N = sumN S n
  | 0, _, _ => by
    rw [cnt_false N (fun k hk => by simp)]; rfl
  | n + 1, h1, h2 => by
    have ih := cov_cnt n (fun o ho => h1 o (by omega)) (fun o o' ho ho' hne => h2 o o' (by omega) (by omega) hne)
    have e : cnt (fun a => decide (∃ o, o < n + 1 ∧ A o ≤ a ∧ a < A o + S o)) N = cnt (fun a => decide (∃ o, o < n ∧ A o ≤ a ∧ a < A o + S o) || decide (A n ≤ a ∧ a < A n + S n)) N := cnt_congr N (fun k hk => by
      rw [Bool.eq_iff_iff]
      simp only [Bool.or_eq_true, decide_eq_true_eq]
      constructor
      · rintro ⟨o, ho, h⟩
        by_cases e : o = n
        · subst e; exact Or.inr h
        · exact Or.inl ⟨o, by omega, h⟩
      · rintro (⟨o, ho, h⟩ | h)
        · exact ⟨o, by omega, h⟩
        · exact ⟨n, by omega, h⟩)
    rw [e, cnt_or N (fun k hk hf => by
      simp only [decide_eq_true_eq] at hf
      obtain ⟨o, ho, h3, h4⟩ := hf
      have := h2 o n (by omega) (by omega) (by omega)
      simp
      omega), ih, cnt_iv N (h1 n (by omega))]
    rfl
theorem Fr_n (R D : Nat → Nat) : ∀ n, Fr R D n + n = sumN (szo R D) n
  | 0 => rfl
  | n + 1 => by
    have := Fr_n R D n
    simp only [Fr, sumN, szo] at this ⊢
    omega
theorem Fr_s (R D : Nat → Nat) (o : Nat) : Fr R D (o + 1) = Fr R D o + (R o + D o) := rfl
theorem Fr_mono (R D : Nat → Nat) {a b : Nat} (h : a ≤ b) : Fr R D a ≤ Fr R D b := sumN_mono b h
section
variable {P W n : Nat} {K F A R D : Nat → Nat}
theorem Geo.pw (g : Geo P W n K F A R D) : PW P W K F := g.1
theorem Geo.PWle (g : Geo P W n K F A R D) : P * W ≤ 4096 := Nat.mul_le_mul g.1.2.1 g.1.2.2.2.1
theorem Geo.tot (g : Geo P W n K F A R D) : Fr R D n + n ≤ P * W := by
  rw [Fr_n, ← cov_cnt (N := P * W) n (fun o ho => (g.2.2.2.1 o ho).2.2) g.2.2.2.2.1]
  exact cnt_le _ _
theorem Geo.nle (g : Geo P W n K F A R D) : n ≤ 4096 := by have := g.tot; have := g.PWle; omega
theorem Geo.fr (g : Geo P W n K F A R D) {o : Nat} (ho : o < n) : Fr R D o + (R o + D o) ≤ 4096 := by
  have h1 := g.tot
  have h2 := g.PWle
  have h3 := Fr_mono R D (show o + 1 ≤ n by omega)
  rw [Fr_s] at h3
  omega
theorem Geo.Alt (g : Geo P W n K F A R D) {o : Nat} (ho : o < n) : A o + szo R D o ≤ 4096 := Nat.le_trans (g.2.2.2.1 o ho).2.2 g.PWle
theorem Geo.Ainj (g : Geo P W n K F A R D) {o o' : Nat} (ho : o < n) (ho' : o' < n) (h : A o = A o') : o = o' := by
  rcases Nat.decEq o o' with e | e
  · have := g.2.2.2.2.1 o o' ho ho' e
    simp only [szo] at this
    omega
  · exact e
theorem ad_n {o : Nat} (h : o < 2 ^ 31) : ad A (nI o) = nI (A o) := by
  unfold ad
  rw [if_neg (nI_m1 h), nI_clamp h]
theorem ad_m : ad A (-1) = -1 := if_pos rfl
theorem ad_m1 (g : Geo P W n K F A R D) {v : Int32} (h : okv n v) : ad A v = -1 ↔ v = -1 := by
  rcases h with rfl | ⟨o, ho, rfl⟩
  · simp [ad_m]
  · have := g.nle
    have := g.Alt ho
    rw [ad_n (by omega)]
    constructor
    · intro e; exact absurd e (nI_m1 (by omega))
    · intro e; exact absurd e (nI_m1 (by omega))
end
theorem okv_cases {n : Nat} {v : Int32} (h : okv n v) : v = -1 ∨ ∃ o, o < n ∧ v = nI o := h
-- arms that only look
theorem ex_isRoot (n : Nat) (x : Int32) (s : St) : FX2_isRoot n x s = some (if x < 0 ∨ 32 ≤ x then 0 else 1, s) := by
  unfold FX2_isRoot
  rw [be_s]
  by_cases h1 : x < 0
  · simp [h1, gz_0]
  · by_cases h2 : (32 : Int32) ≤ x
    · simp [h1, h2, gz_0]
    · simp [h1, h2, gz_1]
theorem em_isRoot (n : Nat) (x : Int32) (s : St) : FX3_isRoot n x s = some (if x < 0 ∨ 32 ≤ x then 0 else 1, s) := ex_isRoot n x s
theorem ex_needRoot (n : Nat) (x : Int32) (s : St) : FX2_needRoot n x s = some (if x < 0 ∨ 32 ≤ x then 1 else 0, 0, s) := by
  unfold FX2_needRoot
  rw [ex_isRoot, bd_s]
  by_cases h : x < 0 ∨ 32 ≤ x
  · rw [if_pos h, if_pos rfl, if_pos h]
  · rw [if_neg h, if_neg (by decide), if_neg h]
/-- a root's number -/
theorem isr {x : Int32} (h : ¬ (x < 0 ∨ 32 ≤ x)) : ∃ k, k < 32 ∧ x = nI k := by
  have h1 : ¬ x < 0 := fun e => h (Or.inl e)
  obtain ⟨k, hk, rfl⟩ := nI_of h1
  refine ⟨k, ?_, rfl⟩
  apply Nat.lt_of_not_le
  intro e
  exact h (Or.inr (nI_le (a := 32) e hk))
/-- the model's 'thrown' is outside the relation -/
theorem RR.thr {P W n : Nat} {K F A R D : Nat → Nat} {C : Nat → Nat → Int32} {ex : Nat → Int32} {op : Int32} {sx sm : St} (h : RR P W n K F A R D C ex op sx sm) (v : Int32) : RR P W n K F A R D C ex op sx (pt sm 14 0 v) := by
  obtain ⟨h1, h2, h3, h4, h5, h6, h7, h8, h9, h10, h11, h12⟩ := h
  refine ⟨h1, h2, ?_, h4, h5, h6, ?_, h8, ?_, ?_, ?_, ?_⟩
  · simpa [VM, pt_s, pt_n] using h3
  · simpa [OM, pt_s, pt_n] using h7
  · simpa [RT, pt_s, pt_n] using h9
  · simpa [LO, pt_s, pt_n] using h10
  · simpa [OP, pt_s, pt_n] using h11
  · simpa [TL, pt_s, pt_n] using h12
