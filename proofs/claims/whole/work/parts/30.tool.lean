/-! LAYER 2, the tools: numbers as nI of naturals, the guards out of the way, reading a changed state -/
theorem gd_n {α : Type} {k N : Nat} {x : Option α} (h : k < N) (hN : N < 2 ^ 31) : gd (nI k) N x = x := if_neg (nI_in h hN)
theorem dz_n {α : Type} {k : Nat} {x : Option α} (h : 0 < k) (hk : k < 2 ^ 31) : dz (nI k) x = x := if_neg (nI_ne0 h hk)
theorem dz_2 {α : Type} {x : Option α} : dz (2 : Int32) x = x := dz_n (k := 2) (by omega) (by omega)
theorem dz_256 {α : Type} {x : Option α} : dz (256 : Int32) x = x := dz_n (k := 256) (by omega) (by omega)
theorem gz_0 {α : Type} {x : Option α} : gz (0 : Int32) x = x := if_pos (Or.inl rfl)
theorem gz_1 {α : Type} {x : Option α} : gz (1 : Int32) x = x := if_pos (Or.inr rfl)
theorem gz_if {α : Type} {c : Prop} [Decidable c] {x : Option α} : gz (if c then (1 : Int32) else 0) x = x := by
  by_cases h : c
  · rw [if_pos h]; exact gz_1
  · rw [if_neg h]; exact gz_0
theorem gz_fi {α : Type} {c : Prop} [Decidable c] {x : Option α} : gz (if c then (0 : Int32) else 1) x = x := by
  by_cases h : c
  · rw [if_pos h]; exact gz_0
  · rw [if_neg h]; exact gz_1
theorem be_s {α β : Type} {q : β} {k : β → Option α} : be (some q) k = k q := rfl
theorem bd_s {α : Type} {r : Int32} {u : St} {k : Int32 → St → Option α} : bd (some (r, u)) k = k r u := rfl
theorem btw_0 {α : Type} {r : Int32} {u : St} {k : Int32 → St → Option α} {j : Nat → St → Option α} : btw (some (0, r, u)) k j = k r u := rfl
theorem btw_n {α : Type} {t : Nat} {r : Int32} {u : St} {k : Int32 → St → Option α} {j : Nat → St → Option α} (h : t ≠ 0) : btw (some (t, r, u)) k j = j t u := if_neg h
theorem bth_0 {r : Int32} {u : St} {k : Int32 → St → Option (Nat × Int32 × St)} : bth (some (0, r, u)) k = k r u := rfl
theorem bth_n {t : Nat} {r : Int32} {u : St} {k : Int32 → St → Option (Nat × Int32 × St)} (h : t ≠ 0) : bth (some (t, r, u)) k = some (t, 0, u) := if_neg h
-- reading a changed state
theorem pt_s (s : St) (c k : Nat) (v : Int32) (j : Nat) : (pt s c k v).1 c j = if j = k then v else s.1 c j := by simp only [pt, if_true, upd]
theorem pt_k (s : St) (c k : Nat) (v : Int32) : (pt s c k v).1 c k = v := by rw [pt_s, if_pos rfl]
theorem pt_j (s : St) (c k : Nat) (v : Int32) {j : Nat} (h : j ≠ k) : (pt s c k v).1 c j = s.1 c j := by rw [pt_s, if_neg h]
theorem pt_n (s : St) (c k : Nat) (v : Int32) {d : Nat} (h : d ≠ c) : (pt s c k v).1 d = s.1 d := by simp only [pt, if_neg h]
theorem pt_2 (s : St) (c k : Nat) (v : Int32) : (pt s c k v).2 = s.2 := rfl
theorem pf_s (s : St) (c : Nat) (f : Nat → Int32) : (pf s c f).1 c = f := by simp only [pf, if_true]
theorem pf_n (s : St) (c : Nat) (f : Nat → Int32) {d : Nat} (h : d ≠ c) : (pf s c f).1 d = s.1 d := by simp only [pf, if_neg h]
theorem pf_2 (s : St) (c : Nat) (f : Nat → Int32) : (pf s c f).2 = s.2 := rfl
theorem pg_1 (s : St) (k : Nat) (v : Int64) : (pg s k v).1 = s.1 := rfl
theorem pg_s (s : St) (k : Nat) (v : Int64) (j : Nat) : (pg s k v).2 j = if j = k then v else s.2 j := rfl
theorem ph_1 (s : St) (f : Nat → Int64) : (ph s f).1 = s.1 := rfl
theorem ph_2 (s : St) (f : Nat → Int64) : (ph s f).2 = f := rfl
theorem nar0 : vp_nar .boolean (0 : Int32) = 0 := rfl
theorem nar1 : vp_nar .boolean (1 : Int32) = 1 := rfl
-- numbers
theorem n1 : (1 : Int32) = nI 1 := rfl
theorem n0 : (0 : Int32) = nI 0 := rfl
theorem nI_m1 {k : Nat} (h : k < 2 ^ 31) : ¬ nI k = (-1 : Int32) := by
  intro e
  have a := nI_toInt h
  rw [e] at a
  have b : (-1 : Int32).toInt = -1 := by decide
  omega
theorem m1_nI {k : Nat} (h : k < 2 ^ 31) : ¬ (-1 : Int32) = nI k := fun e => nI_m1 h e.symm
theorem m1_lt : (-1 : Int32) < 0 := by decide
theorem nI_l0 {k : Nat} (h : k < 2 ^ 31) : ¬ nI k < 0 := nI_pos h
theorem nI_e0 {k : Nat} (h : k < 2 ^ 31) : nI k = 0 ↔ k = 0 := by rw [n0, nI_eq h (by omega)]
theorem nI_le0 {k : Nat} (h : k < 2 ^ 31) : nI k ≤ 0 ↔ k = 0 := by rw [n0, nI_leI h (by omega)]; omega
theorem nI_p1 (k : Nat) : nI k + (1 : Int32) = nI (k + 1) := nI_1 k
theorem n1_p (k : Nat) : (1 : Int32) + nI k = nI (1 + k) := nI_add 1 k
theorem nI_s1 {k : Nat} (h : 1 ≤ k) : nI k - (1 : Int32) = nI (k - 1) := pk_sub (b := 1) h
theorem nI_pm1 {k : Nat} (h : 1 ≤ k) : nI k + (-1 : Int32) = nI (k - 1) := by
  obtain ⟨j, rfl⟩ : ∃ j, k = j + 1 := ⟨k - 1, by omega⟩
  exact pk_m1 j
theorem nI_div (a : Nat) {d : Nat} (ha : a < 2 ^ 31) (h0 : 0 < d) (hd : d < 2 ^ 31) : nI a / nI d = nI (a / d) := pk_div ha h0 hd
theorem x_cl {x : Int32} {k : Nat} (h : x = nI k) (hk : k < 2 ^ 31) : x.toNatClampNeg = k := by rw [h]; exact nI_clamp hk
theorem nI_inj {a b : Nat} (ha : a < 2 ^ 31) (hb : b < 2 ^ 31) (h : nI a = nI b) : a = b := (nI_eq ha hb).mp h
theorem nI_ne {a b : Nat} (ha : a < 2 ^ 31) (hb : b < 2 ^ 31) (h : a ≠ b) : ¬ nI a = nI b := fun e => h (nI_inj ha hb e)
/-- any int: below 0, or a natural -/
theorem nI_any (x : Int32) : x < 0 ∨ ∃ k, k < 2 ^ 31 ∧ x = nI k := by
  by_cases h : x < 0
  · exact Or.inl h
  · exact Or.inr (nI_of h)
/-- how many below N -/
def cnt (f : Nat → Bool) : Nat → Nat
  | 0 => 0
  | N + 1 => cnt f N + (if f N then 1 else 0)
/-- the sum below N -/
def sumN (f : Nat → Nat) : Nat → Nat
  | 0 => 0
  | N + 1 => sumN f N + f N
theorem cnt_le (f : Nat → Bool) : ∀ N, cnt f N ≤ N
  | 0 => Nat.le_refl 0
  | N + 1 => by
    have h := cnt_le f N
    simp only [cnt]
    split <;> omega
theorem cnt_congr {f g : Nat → Bool} : ∀ N, (∀ k, k < N → f k = g k) → cnt f N = cnt g N
  | 0, _ => rfl
  | N + 1, h => by
    simp only [cnt]
    rw [cnt_congr N (fun k hk => h k (Nat.lt_succ_of_lt hk)), h N (Nat.lt_succ_self N)]
theorem sumN_congr {f g : Nat → Nat} : ∀ N, (∀ k, k < N → f k = g k) → sumN f N = sumN g N
  | 0, _ => rfl
  | N + 1, h => by
    simp only [sumN]
    rw [sumN_congr N (fun k hk => h k (Nat.lt_succ_of_lt hk)), h N (Nat.lt_succ_self N)]
theorem sumN_le {f : Nat → Nat} {B : Nat} : ∀ N, (∀ k, k < N → f k ≤ B) → sumN f N ≤ N * B
  | 0, _ => Nat.zero_le _
  | N + 1, h => by
    have h1 := sumN_le (f := f) (B := B) N (fun k hk => h k (Nat.lt_succ_of_lt hk))
    have h2 := h N (Nat.lt_succ_self N)
    simp only [sumN]
    rw [Nat.succ_mul]
    omega
theorem sumN_mono {f : Nat → Nat} {N : Nat} : ∀ M, N ≤ M → sumN f N ≤ sumN f M
  | 0, h => by
    have : N = 0 := by omega
    subst this
    exact Nat.le_refl _
  | M + 1, h => by
    by_cases e : N = M + 1
    · subst e; exact Nat.le_refl _
    · have := sumN_mono (f := f) (N := N) M (by omega)
      simp only [sumN]; omega
