/-! a new object is put: the geometry of it -/
theorem dm_q {W q k : Nat} (hk : k < W) : (q * W + k) / W = q := by
  rw [Nat.mul_comm, Nat.mul_add_div (by omega), Nat.div_eq_of_lt hk, Nat.add_zero]
theorem dm_r {W q k : Nat} (hk : k < W) : (q * W + k) % W = k := by
  rw [Nat.mul_comm, Nat.mul_add_mod, Nat.mod_eq_of_lt hk]
theorem dm_e {W : Nat} (hW : 0 < W) (w : Nat) : ∃ x y, y < W ∧ w = x * W + y ∧ w / W = x ∧ w % W = y := ⟨w / W, w % W, Nat.mod_lt _ hW, by rw [Nat.mul_comm]; exact (Nat.div_add_mod w W).symm, rfl, rfl⟩
theorem mulS (a W : Nat) : (a + 1) * W = a * W + W := Nat.succ_mul a W
theorem mulLt {a b : Nat} (W : Nat) (h : a < b) : a * W + W ≤ b * W := by rw [← mulS]; exact Nat.mul_le_mul_right W h
/-- within one page -/
theorem in_pg {W q y0 y1 x y : Nat} (hy : y < W) (h1 : y1 ≤ W) : (q * W + y0 ≤ x * W + y ∧ x * W + y < q * W + y1) ↔ (x = q ∧ y0 ≤ y ∧ y < y1) := by
  rcases Nat.lt_trichotomy x q with h | h | h
  · have := mulLt W h
    constructor
    · intro e; omega
    · intro e; omega
  · subst h
    constructor
    · intro e; exact ⟨rfl, by omega, by omega⟩
    · intro e; omega
  · have := mulLt W h
    constructor
    · intro e; omega
    · intro e; omega
section
variable {P W n : Nat} {K F A R D K' F' : Nat → Nat} {C : Nat → Nat → Int32} {ex : Nat → Int32} {op op' : Int32} {sx sm : St}
def PF (P W s a : Nat) (K F K' F' : Nat → Nat) : Prop :=
  (a + s ≤ P * W) ∧
  (∀ w, w % W < F' (w / W) ↔ (w % W < F (w / W) ∨ (a ≤ w ∧ w < a + s))) ∧
  (∀ w, a ≤ w → w < a + s → ¬ w % W < F (w / W)) ∧
  (PW P W K' F') ∧
  (∀ p, P ≤ p → K' p = 0) ∧
  (∀ p, K' p = 0 ↔ F' p = 0) ∧
  (∀ p, K p = 1 → K' p = 1) ∧
  (∀ p, K p = 2 → K' p = 2) ∧
  (∀ p, K p = 3 → K' p = 3) ∧
  (s ≤ W → K' (a / W) = 1 ∧ a % W + s ≤ W) ∧
  (W < s → a % W = 0 ∧ K' (a / W) = 2 ∧ (∀ j, 0 < j → j * W < s → K' (a / W + j) = 3) ∧ (∀ j, s ≤ j * W → j * W < s + W → K' (a / W + j) ≠ 3)) ∧
  (∀ p, K' p = 2 → K p = 2 ∨ (W < s ∧ a = p * W)) ∧
  (∀ p, K' p = 3 → K p = 3 ∨ (W < s ∧ a / W < p ∧ (p - a / W) * W < s ∧ K (p - 1) = 0))
theorem PF.b {P W s a : Nat} {K F K' F' : Nat → Nat} (h : PF P W s a K F K' F') : a + s ≤ P * W := h.1
theorem PF.w {P W s a : Nat} {K F K' F' : Nat → Nat} (h : PF P W s a K F K' F') : ∀ w, w % W < F' (w / W) ↔ (w % W < F (w / W) ∨ (a ≤ w ∧ w < a + s)) := h.2.1
theorem PF.u {P W s a : Nat} {K F K' F' : Nat → Nat} (h : PF P W s a K F K' F') : ∀ w, a ≤ w → w < a + s → ¬ w % W < F (w / W) := h.2.2.1
theorem PF.pw {P W s a : Nat} {K F K' F' : Nat → Nat} (h : PF P W s a K F K' F') : PW P W K' F' := h.2.2.2.1
theorem PF.z {P W s a : Nat} {K F K' F' : Nat → Nat} (h : PF P W s a K F K' F') : ∀ p, P ≤ p → K' p = 0 := h.2.2.2.2.1
theorem PF.kf {P W s a : Nat} {K F K' F' : Nat → Nat} (h : PF P W s a K F K' F') : ∀ p, K' p = 0 ↔ F' p = 0 := h.2.2.2.2.2.1
theorem PF.k1 {P W s a : Nat} {K F K' F' : Nat → Nat} (h : PF P W s a K F K' F') : ∀ p, K p = 1 → K' p = 1 := h.2.2.2.2.2.2.1
theorem PF.k2 {P W s a : Nat} {K F K' F' : Nat → Nat} (h : PF P W s a K F K' F') : ∀ p, K p = 2 → K' p = 2 := h.2.2.2.2.2.2.2.1
theorem PF.k3 {P W s a : Nat} {K F K' F' : Nat → Nat} (h : PF P W s a K F K' F') : ∀ p, K p = 3 → K' p = 3 := h.2.2.2.2.2.2.2.2.1
theorem PF.s1 {P W s a : Nat} {K F K' F' : Nat → Nat} (h : PF P W s a K F K' F') : s ≤ W → K' (a / W) = 1 ∧ a % W + s ≤ W := h.2.2.2.2.2.2.2.2.2.1
theorem PF.l1 {P W s a : Nat} {K F K' F' : Nat → Nat} (h : PF P W s a K F K' F') : W < s → a % W = 0 ∧ K' (a / W) = 2 ∧ (∀ j, 0 < j → j * W < s → K' (a / W + j) = 3) ∧ (∀ j, s ≤ j * W → j * W < s + W → K' (a / W + j) ≠ 3) := h.2.2.2.2.2.2.2.2.2.2.1
theorem PF.e2 {P W s a : Nat} {K F K' F' : Nat → Nat} (h : PF P W s a K F K' F') : ∀ p, K' p = 2 → K p = 2 ∨ (W < s ∧ a = p * W) := h.2.2.2.2.2.2.2.2.2.2.2.1
theorem PF.e3 {P W s a : Nat} {K F K' F' : Nat → Nat} (h : PF P W s a K F K' F') : ∀ p, K' p = 3 → K p = 3 ∨ (W < s ∧ a / W < p ∧ (p - a / W) * W < s ∧ K (p - 1) = 0) := h.2.2.2.2.2.2.2.2.2.2.2.2
theorem put_s (g : Geo P W n K F A R D) {s q : Nat} (hs : 1 ≤ s) (hq : q < P) (hF : F q + s ≤ W) (hk : K q = 1 ∨ K q = 0) : PF P W s (q * W + F q) K F (upN K q 1) (upN F q (F q + s)) := by
  have hW := g.1.2.2.1
  have hm := mulLt W hq
  have ed : (q * W + F q) / W = q := dm_q (by omega)
  have er : (q * W + F q) % W = F q := dm_r (by omega)
  have up1 : upN K q 1 q = 1 := if_pos rfl
  have upk : ∀ p, p ≠ q → upN K q 1 p = K p := fun p h => if_neg h
  have upf : ∀ p, p ≠ q → upN F q (F q + s) p = F p := fun p h => if_neg h
  have upq : upN F q (F q + s) q = F q + s := if_pos rfl
  refine ⟨by omega, fun w => ?_, fun w w1 w2 => ?_, ⟨g.1.1, g.1.2.1, hW, g.1.2.2.2.1, fun p => ?_, fun p => ?_⟩, fun p hp => ?_, fun p => ?_, fun p hp => ?_, fun p hp => ?_, fun p hp => ?_, fun _ => ?_, fun h => by omega, fun p hp => ?_, fun p hp => ?_⟩
  · obtain ⟨x, y, hy, e0, e1, e2⟩ := dm_e (show 0 < W by omega) w
    rw [e1, e2]
    have := in_pg (q := q) (y0 := F q) (y1 := F q + s) (x := x) hy hF
    rw [← e0, ← Nat.add_assoc] at this
    rw [this]
    by_cases e : x = q
    · subst e
      rw [upq]
      constructor
      · intro h; by_cases h2 : y < F x
        · exact Or.inl h2
        · exact Or.inr ⟨rfl, by omega, h⟩
      · rintro (h | ⟨_, _, h⟩) <;> omega
    · rw [upf x e]
      constructor
      · exact Or.inl
      · rintro (h | ⟨h, _⟩)
        · exact h
        · exact absurd h e
  · obtain ⟨x, y, hy, e0, e1, e2⟩ := dm_e (show 0 < W by omega) w
    have := in_pg (q := q) (y0 := F q) (y1 := F q + s) (x := x) hy hF
    rw [← e0, ← Nat.add_assoc] at this
    obtain ⟨h1, h2, h3⟩ := this.mp ⟨w1, w2⟩
    rw [e1, e2, h1]; omega
  · by_cases e : p = q
    · rw [e, up1]; omega
    · rw [upk p e]; exact g.1.2.2.2.2.1 p
  · by_cases e : p = q
    · rw [e, upq]; exact hF
    · rw [upf p e]; exact g.1.2.2.2.2.2 p
  · rw [upk p (by omega)]; exact g.2.1 p hp
  · by_cases e : p = q
    · rw [e, up1, upq]; omega
    · rw [upk p e, upf p e]; exact g.2.2.1 p
  · by_cases e : p = q
    · rw [e, up1]
    · rw [upk p e]; exact hp
  · rw [upk p (fun e => by rw [e] at hp; omega)]; exact hp
  · rw [upk p (fun e => by rw [e] at hp; omega)]; exact hp
  · rw [ed, er]; exact ⟨up1, hF⟩
  · by_cases e : p = q
    · rw [e, up1] at hp; omega
    · rw [upk p e] at hp; exact Or.inl hp
  · by_cases e : p = q
    · rw [e, up1] at hp; omega
    · rw [upk p e] at hp; exact Or.inl hp
/-- a page of a long one is not free -/
theorem Geo.lpg (g : Geo P W n K F A R D) {o j : Nat} (ho : o < n) (hl : W < szo R D o) (hj : j * W < szo R D o) : K (A o / W + j) ≠ 0 := by
  obtain ⟨_, h2, h3, _⟩ := g.2.2.2.2.2.2.2.1 o ho hl
  by_cases e : j = 0
  · rw [e, Nat.add_zero]; omega
  · have := h3 j (by omega) hj; omega
theorem put_l (g : Geo P W n K F A R D) {s f need : Nat} (hs : W < s) (hne : need = (s + W - 1) / W) (hf : f + need ≤ P) (hk : ∀ j, j < need → K (f + j) = 0) : PF P W s (f * W) K F (KLo K f need) (FLo F W s f need) := by
  have hW := g.1.2.2.1
  obtain ⟨c1, c2, c3⟩ := ceil_l (by omega) hne hs
  have hm : f * W + need * W ≤ P * W := by rw [← Nat.add_mul]; exact Nat.mul_le_mul_right W hf
  have ed : (f * W) / W = f := Nat.mul_div_cancel f (by omega)
  have er : (f * W) % W = 0 := Nat.mul_mod_left f W
  have hin : ∀ p, f ≤ p → p < f + need → K p = 0 := fun p h1 h2 => by
    have := hk (p - f) (by omega)
    rw [show f + (p - f) = p by omega] at this; exact this
  have ki : ∀ p, f ≤ p → p < f + need → KLo K f need p = if p = f then 2 else 3 := fun p h1 h2 => if_pos ⟨h1, h2⟩
  have kout : ∀ p, ¬ (f ≤ p ∧ p < f + need) → KLo K f need p = K p := fun p h => if_neg h
  have fi : ∀ p, f ≤ p → p < f + need → FLo F W s f need p = min W (s - (p - f) * W) := fun p h1 h2 => if_pos ⟨h1, h2⟩
  have fout : ∀ p, ¬ (f ≤ p ∧ p < f + need) → FLo F W s f need p = F p := fun p h => if_neg h
  have knz : ∀ p, K p ≠ 0 → ¬ (f ≤ p ∧ p < f + need) := fun p h e => h (hin p e.1 e.2)
  have own : ∀ w, (f * W ≤ w ∧ w < f * W + s) ↔ (f ≤ w / W ∧ w / W < f + need ∧ (w / W - f) * W + w % W < s) := fun w => by
    obtain ⟨x, y, hy, e0, e1, e2⟩ := dm_e (show 0 < W by omega) w
    rw [e1, e2]
    by_cases h : f ≤ x
    · obtain ⟨j, rfl⟩ : ∃ j, x = f + j := ⟨x - f, by omega⟩
      rw [Nat.add_mul] at e0
      rw [show f + j - f = j by omega]
      constructor
      · intro e
        refine ⟨h, ?_, by omega⟩
        by_cases hj : j < need
        · omega
        · have := Nat.mul_le_mul_right W (show need ≤ j by omega)
          omega
      · intro e; omega
    · have := mulLt W (show x < f by omega)
      constructor
      · intro e; omega
      · intro e; omega
  refine ⟨by omega, fun w => ?_, fun w w1 w2 => ?_, ⟨g.1.1, g.1.2.1, hW, g.1.2.2.2.1, fun p => ?_, fun p => ?_⟩, fun p hp => ?_, fun p => ?_, fun p hp => ?_, fun p hp => ?_, fun p hp => ?_, fun _ => by omega, fun h => ⟨er, ?_, fun j h1 h2 => ?_, fun j h1 h2 e => ?_⟩, fun p hp => ?_, fun p hp => ?_⟩
  · rw [own w]
    have hy : w % W < W := Nat.mod_lt _ (by omega)
    by_cases h : f ≤ w / W ∧ w / W < f + need
    · have hz : F (w / W) = 0 := (g.2.2.1 _).mp (hin _ h.1 h.2)
      have hc := c2 (w / W - f) (by omega)
      rw [fi _ h.1 h.2, hz]
      constructor
      · intro e; exact Or.inr ⟨h.1, h.2, by omega⟩
      · rintro (e | ⟨_, _, e⟩) <;> omega
    · rw [fout _ h]
      constructor
      · exact Or.inl
      · rintro (e | ⟨e1, e2, _⟩)
        · exact e
        · exact absurd ⟨e1, e2⟩ h
  · obtain ⟨h1, h2, _⟩ := (own w).mp ⟨w1, w2⟩
    rw [(g.2.2.1 _).mp (hin _ h1 h2)]; omega
  · by_cases h : f ≤ p ∧ p < f + need
    · rw [ki p h.1 h.2]; split <;> omega
    · rw [kout p h]; exact g.1.2.2.2.2.1 p
  · by_cases h : f ≤ p ∧ p < f + need
    · rw [fi p h.1 h.2]; omega
    · rw [fout p h]; exact g.1.2.2.2.2.2 p
  · rw [kout p (by omega)]; exact g.2.1 p hp
  · by_cases h : f ≤ p ∧ p < f + need
    · have hc := c2 (p - f) (by omega)
      rw [ki p h.1 h.2, fi p h.1 h.2]
      constructor
      · intro e; split at e <;> omega
      · intro e; omega
    · rw [kout p h, fout p h]; exact g.2.2.1 p
  · rw [kout p (knz p (by omega))]; exact hp
  · rw [kout p (knz p (by omega))]; exact hp
  · rw [kout p (knz p (by omega))]; exact hp
  · rw [ed, ki f (by omega) (by omega), if_pos rfl]
  · rw [ed]
    have hj : j < need := by
      apply Nat.lt_of_not_le
      intro hh
      have := Nat.mul_le_mul_right W hh
      omega
    rw [ki _ (by omega) (by omega), if_neg (by omega)]
  · rw [ed] at e
    have hj : j = need := by
      rcases Nat.lt_trichotomy j need with hh | hh | hh
      · have := c2 j hh; omega
      · exact hh
      · have := mulLt W hh; omega
    subst hj
    rw [kout _ (by omega)] at e
    obtain ⟨o, ho, hl, h3, h4⟩ := g.2.2.2.2.2.2.2.2.2 _ e
    have h5 := hin (f + j - 1) (by omega) (by omega)
    have h6 := g.lpg (j := f + j - 1 - A o / W) ho hl (by
      have := Nat.mul_le_mul_right W (show f + j - 1 - A o / W ≤ f + j - A o / W by omega)
      omega)
    rw [show A o / W + (f + j - 1 - A o / W) = f + j - 1 by omega] at h6
    exact h6 h5
  · by_cases h : f ≤ p ∧ p < f + need
    · rw [ki p h.1 h.2] at hp
      by_cases e : p = f
      · exact Or.inr ⟨hs, by rw [e]⟩
      · rw [if_neg e] at hp; omega
    · rw [kout p h] at hp; exact Or.inl hp
  · by_cases h : f ≤ p ∧ p < f + need
    · rw [ki p h.1 h.2] at hp
      by_cases e : p = f
      · rw [if_pos e] at hp; omega
      · rw [ed]; exact Or.inr ⟨hs, by omega, c2 _ (by omega), hin _ (by omega) (by omega)⟩
    · rw [kout p h] at hp; exact Or.inl hp
theorem put_fact (g : Geo P W n K F A R D) {s a : Nat} (hs : 1 ≤ s) (h : Put P W K F op s a K' F' op') : PF P W s a K F K' F' := by
  rcases h with ⟨h1, q, hq, rfl, hF, hk, rfl, rfl, _⟩ | ⟨h1, f, need, hne, hf, rfl, hk, rfl, rfl, _⟩
  · exact put_s g hs hq hF (by rcases hk with ⟨h, _⟩ | h <;> omega)
  · exact put_l g h1 hne hf hk
/-- the geometry with the new one -/
theorem Geo.put (g : Geo P W n K F A R D) {r d a : Nat} (hr : r ≤ 31) (hd : d ≤ 200) (p : PF P W (1 + r + d) a K F K' F') : Geo P W (n + 1) K' F' (upN A n a) (upN R n r) (upN D n d) := by
  have hW := g.1.2.2.1
  have nA : upN A n a n = a := if_pos rfl
  have nR : upN R n r n = r := if_pos rfl
  have nD : upN D n d n = d := if_pos rfl
  have oA : ∀ o, o < n → upN A n a o = A o := fun o h => if_neg (by omega)
  have oR : ∀ o, o < n → upN R n r o = R o := fun o h => if_neg (by omega)
  have oD : ∀ o, o < n → upN D n d o = D o := fun o h => if_neg (by omega)
  have nS : szo (upN R n r) (upN D n d) n = 1 + r + d := by simp only [szo, nR, nD]
  have oS : ∀ o, o < n → szo (upN R n r) (upN D n d) o = szo R D o := fun o h => by simp only [szo, oR o h, oD o h]
  have hb := p.b
  have dis : ∀ o, o < n → A o + szo R D o ≤ a ∨ a + (1 + r + d) ≤ A o := fun o ho => by
    have h4 := (g.2.2.2.1 o ho).2.2
    by_cases c1 : A o + szo R D o ≤ a
    · exact Or.inl c1
    · by_cases c2 : a + (1 + r + d) ≤ A o
      · exact Or.inr c2
      · exfalso
        have c3 : 1 ≤ szo R D o := by simp only [szo]; omega
        by_cases c4 : A o ≤ a
        · exact p.u a (by omega) (by omega) ((g.2.2.2.2.2.1 a (by omega)).mp ⟨o, ho, c4, by omega⟩)
        · exact p.u (A o) (by omega) (by omega) ((g.2.2.2.2.2.1 (A o) (by omega)).mp ⟨o, ho, by omega, by omega⟩)
  refine ⟨p.pw, p.z, p.kf, fun o ho => ?_, fun o o' ho ho' hne => ?_, fun w hw => ?_, fun o ho => ?_, fun o ho => ?_, fun q hq => ?_, fun q hq => ?_⟩
  · by_cases e : o = n
    · subst e; rw [nA, nR, nD, nS]; exact ⟨hr, hd, hb⟩
    · have ho : o < n := by omega
      rw [oA o ho, oR o ho, oD o ho, oS o ho]; exact g.2.2.2.1 o ho
  · by_cases e : o = n
    · have ho' : o' < n := by omega
      rw [e, nA, nS, oA o' ho', oS o' ho']; exact (dis o' ho').symm
    · have ho : o < n := by omega
      by_cases e' : o' = n
      · rw [e', nA, nS, oA o ho, oS o ho]; exact dis o ho
      · have ho' : o' < n := by omega
        rw [oA o ho, oS o ho, oA o' ho', oS o' ho']; exact g.2.2.2.2.1 o o' ho ho' hne
  · rw [p.w w, ← g.2.2.2.2.2.1 w hw]
    constructor
    · rintro ⟨o, ho, h1, h2⟩
      by_cases e : o = n
      · rw [e, nA] at h1; rw [e, nA, nS] at h2; exact Or.inr ⟨h1, h2⟩
      · have ho : o < n := by omega
        rw [oA o ho] at h1; rw [oA o ho, oS o ho] at h2; exact Or.inl ⟨o, ho, h1, h2⟩
    · rintro (⟨o, ho, h1, h2⟩ | ⟨h1, h2⟩)
      · exact ⟨o, by omega, by rw [oA o ho]; exact h1, by rw [oA o ho, oS o ho]; exact h2⟩
      · exact ⟨n, by omega, by rw [nA]; exact h1, by rw [nA, nS]; exact h2⟩
  · by_cases e : o = n
    · subst e; rw [nA, nS]; exact p.s1
    · have ho : o < n := by omega
      rw [oA o ho, oS o ho]
      intro h
      obtain ⟨h1, h2⟩ := g.2.2.2.2.2.2.1 o ho h
      exact ⟨p.k1 _ h1, h2⟩
  · by_cases e : o = n
    · subst e; rw [nA, nS]; exact p.l1
    · have ho : o < n := by omega
      rw [oA o ho, oS o ho]
      intro h
      obtain ⟨h1, h2, h3, h4⟩ := g.2.2.2.2.2.2.2.1 o ho h
      refine ⟨h1, p.k2 _ h2, fun j j1 j2 => p.k3 _ (h3 j j1 j2), fun j j1 j2 hk => ?_⟩
      rcases p.e3 _ hk with h5 | ⟨_, _, _, h5⟩
      · exact h4 j j1 j2 h5
      · have hj : 1 ≤ j := by
          apply Nat.lt_of_not_le; intro hh
          have : j = 0 := by omega
          subst this
          simp only [szo] at j1; omega
        have hm : (j - 1) * W + W = j * W := by rw [← mulS, show j - 1 + 1 = j by omega]
        have := g.lpg (j := j - 1) ho h (by omega)
        rw [← Nat.add_sub_assoc hj] at this
        exact this h5
  · rcases p.e2 q hq with h | ⟨h, e⟩
    · obtain ⟨o, ho, h1, h2⟩ := g.2.2.2.2.2.2.2.2.1 q h
      exact ⟨o, by omega, by rw [oS o ho]; exact h1, by rw [oA o ho]; exact h2⟩
    · exact ⟨n, by omega, by rw [nS]; exact h, by rw [nA]; exact e⟩
  · rcases p.e3 q hq with h | ⟨h, h1, h2, _⟩
    · obtain ⟨o, ho, h1, h2, h3⟩ := g.2.2.2.2.2.2.2.2.2 q h
      exact ⟨o, by omega, by rw [oS o ho]; exact h1, by rw [oA o ho]; exact h2, by rw [oA o ho, oS o ho]; exact h3⟩
    · exact ⟨n, by omega, by rw [nS]; exact h, by rw [nA]; exact h1, by rw [nA, nS]; exact h2⟩
end
