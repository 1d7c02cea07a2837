/-! the class's collection, behind the plan: roots, pages, what is told -/
section
variable {P W n ln : Nat} {K F A R D row B T sel : Nat → Nat} {sv H S : Nat → Bool} {tg : Int32} {tf tk mv : Nat} {C : Nat → Nat → Int32} {ex : Nat → Int32} {op : Int32} {sx sm s : St}
theorem ex_tna (g : Geo P W n K F A R D) (hex : ∀ r, r < 32 → okv n (ex r)) (hcx : ∀ r, r < 32 → Cl sv (ex r)) : ∀ (d r m : Nat) (s : St), r + d = 32 → d < m → s.1 1 4 = nI P → s.1 1 5 = nI W → (∀ j, j < n → sv j = true → s.1 10 (A j) = nI (B j)) → (∀ j, j < 32 → s.1 3 j = if j < r then nb B (ex j) else ad A (ex j)) →
    ∃ u, LX0_tellNewAddresses_2 m (nI r) s = some (0, u) ∧ u.2 = s.2 ∧ (∀ c, c ≠ 3 → u.1 c = s.1 c) ∧ ∀ j, j < 32 → u.1 3 j = nb B (ex j)
  | 0, r, m, s, hd, hm, h14, h15, h10, h3 => by
    obtain ⟨m, rfl⟩ : ∃ j, m = j + 1 := ⟨m - 1, by omega⟩
    refine ⟨s, ?_, rfl, fun _ _ => rfl, fun j hj => by rw [h3 j hj, if_pos (by omega)]⟩
    simp only [LX0_tellNewAddresses_2]
    rw [if_pos (show (32 : Int32) ≤ nI r from nI_le (a := 32) (by omega) (by omega))]
  | d + 1, r, m, s, hd, hm, h14, h15, h10, h3 => by
    obtain ⟨m, rfl⟩ : ∃ j, m = j + 1 := ⟨m - 1, by omega⟩
    have hn := g.nle
    have e3 := h3 r (by omega)
    rw [if_neg (by omega)] at e3
    have eN := ex_nao (B := B) g (hex r (by omega)) (hcx r (by omega)) h14 h15 h10 m
    simp only [LX0_tellNewAddresses_2, if_neg (show ¬ (32 : Int32) ≤ nI r from nI_ge (b := 32) (by omega) (by omega)), gd_n (show r < 32 by omega) (show 32 < 2 ^ 31 by omega), nI_clamp (show r < 2 ^ 31 by omega), e3, nI_p1, eN, bd_s]
    obtain ⟨u, u1, u2, u3, u4⟩ := ex_tna g hex hcx d (r + 1) m (pt s 3 r (nb B (ex r))) (by omega) (by omega) (by rw [pt_n _ _ _ _ (by decide)]; exact h14) (by rw [pt_n _ _ _ _ (by decide)]; exact h15) (by rw [pt_n _ _ _ _ (by decide)]; exact h10) (fun j hj => by
      rw [pt_s]
      by_cases ej : j = r
      · rw [if_pos ej, if_pos (by omega), ej]
      · rw [if_neg ej, h3 j hj]
        by_cases e2 : j < r
        · rw [if_pos e2, if_pos (by omega)]
        · rw [if_neg e2, if_neg (by omega)])
    exact ⟨u, u1, u2, fun c hc => by rw [u3 c hc, pt_n _ _ _ _ hc], u4⟩
theorem ex_fp (hPW : P * W ≤ 4096) (hP : P ≤ 64) (hW : W ≤ 64) {p : Nat} (hp : p < P) : ∀ (d k m : Nat) (s : St), k + d = W → d < m → s.1 1 5 = nI W → ∃ u, LX1_freePage_2 m (nI p) (nI k) s = some (0, u) ∧ (∀ c, c ≠ 5 → c ≠ 6 → c ≠ 7 → u.1 c = s.1 c) ∧ (∀ j, u.1 6 j = if j = p then 0 else s.1 6 j) ∧ (∀ j, u.1 7 j = if j = p then 0 else s.1 7 j) ∧ (∀ j, u.2 j = if j = p then 0 else s.2 j) ∧ ∀ x, u.1 5 x = if p * W + k ≤ x ∧ x < p * W + W then 0 else s.1 5 x
  | 0, k, m, s, hd, hm, h15 => by
    obtain ⟨m, rfl⟩ : ∃ j, m = j + 1 := ⟨m - 1, by omega⟩
    refine ⟨pg (pt (pt s 6 p 0) 7 p 0) p 0, ?_, fun c c5 c6 c7 => by rw [pg_1, pt_n _ _ _ _ c7, pt_n _ _ _ _ c6], fun j => by rw [pg_1, pt_n _ _ _ _ (by decide), pt_s], fun j => by rw [pg_1, pt_s, pt_n _ _ _ _ (by decide)], fun j => by rw [pg_s, pt_2, pt_2], fun x => by rw [pg_1, pt_n _ _ _ _ (by decide), pt_n _ _ _ _ (by decide), if_neg (by omega)]⟩
    simp only [LX1_freePage_2, h15, if_pos (nI_le (show W ≤ k by omega) (show k < 2 ^ 31 by omega)), gd_n (show p < 64 by omega) (show 64 < 2 ^ 31 by omega), nI_clamp (show p < 2 ^ 31 by omega)]
  | d + 1, k, m, s, hd, hm, h15 => by
    obtain ⟨m, rfl⟩ : ∃ j, m = j + 1 := ⟨m - 1, by omega⟩
    have hmul := mulLt W hp
    obtain ⟨u, u1, u2, u3, u4, u5, u6⟩ := ex_fp hPW hP hW hp d (k + 1) m (pt s 5 (p * W + k) 0) (by omega) (by omega) (by rw [pt_n _ _ _ _ (by decide)]; exact h15)
    refine ⟨u, ?_, fun c c5 c6 c7 => by rw [u2 c c5 c6 c7, pt_n _ _ _ _ c5], fun j => by rw [u3 j, pt_n _ _ _ _ (by decide)], fun j => by rw [u4 j, pt_n _ _ _ _ (by decide)], fun j => by rw [u5 j, pt_2], fun x => ?_⟩
    · simp only [LX1_freePage_2, FX1_addressOf, bd_s, h15, if_neg (nI_ge (show k < W by omega) (show W < 2 ^ 31 by omega)), pk_mul, nI_add, gd_n (show p * W + k < 4096 by omega) (show 4096 < 2 ^ 31 by omega), nI_clamp (show p * W + k < 2 ^ 31 by omega), nI_p1]
      exact u1
    · rw [u6 x, pt_s]
      by_cases e : x = p * W + k
      · rw [if_neg (by omega), if_pos e, if_pos (by omega)]
      · rw [if_neg e]
        by_cases h : p * W + (k + 1) ≤ x ∧ x < p * W + W
        · rw [if_pos h, if_pos (by omega)]
        · rw [if_neg h, if_neg (by omega)]
/-- pages that are freed: what is left of the rest -/
def frw (W p : Nat) (K : Nat → Nat) (S : Nat → Bool) (x : Nat) : Prop := x / W < p ∧ frd K S (x / W) = true
theorem ex_fb (hPW : P * W ≤ 4096) (hP : P ≤ 64) (hW : W ≤ 64) (hW8 : 8 ≤ W) {Kk : Nat → Nat} (hK3 : ∀ p, Kk p ≤ 3) (hfr : ∀ p, (Kk p ≠ 0 ∧ S p = false) ↔ frd K S p = true) : ∀ (d p m : Nat) (s : St), p + d = P → d + 100 < m → s.1 1 4 = nI P → s.1 1 5 = nI W → (∀ j, p ≤ j → j < 64 → s.1 6 j = nI (Kk j)) → (∀ j, j < 64 → s.1 12 j = bI (S j)) →
    ∃ u, LX1_freePagesBut_4 m (nI (cnt (frd K S) p)) (nI p) s = some (nI (cnt (frd K S) P), u) ∧ (∀ c, c ≠ 5 → c ≠ 6 → c ≠ 7 → u.1 c = s.1 c) ∧ (∀ j, u.1 6 j = if p ≤ j ∧ j < P ∧ frd K S j = true then 0 else s.1 6 j) ∧ (∀ j, u.1 7 j = if p ≤ j ∧ j < P ∧ frd K S j = true then 0 else s.1 7 j) ∧ (∀ j, u.2 j = if p ≤ j ∧ j < P ∧ frd K S j = true then 0 else s.2 j) ∧ ∀ x, u.1 5 x = if p ≤ x / W ∧ x / W < P ∧ frd K S (x / W) = true then 0 else s.1 5 x
  | 0, p, m, s, hd, hm, h14, h15, h6, h12 => by
    obtain ⟨m, rfl⟩ : ∃ j, m = j + 1 := ⟨m - 1, by omega⟩
    have e : p = P := by omega
    subst e
    refine ⟨s, ?_, fun _ _ _ _ => rfl, fun j => by rw [if_neg (by omega)], fun j => by rw [if_neg (by omega)], fun j => by rw [if_neg (by omega)], fun x => by rw [if_neg (fun h => Nat.lt_irrefl _ (Nat.lt_of_lt_of_le h.2.1 h.1))]⟩
    simp only [LX1_freePagesBut_4, h14]
    rw [if_pos (nI_le (Nat.le_refl _) (by omega))]
  | d + 1, p, m, s, hd, hm, h14, h15, h6, h12 => by
    obtain ⟨m, rfl⟩ : ∃ j, m = j + 1 := ⟨m - 1, by omega⟩
    have hKp := hK3 p
    have e6 := h6 p (Nat.le_refl _) (by omega)
    have e12 := h12 p (by omega)
    have cs : ∀ b, frd K S p = b → cnt (frd K S) (p + 1) = cnt (frd K S) p + (if b = true then 1 else 0) := fun b hb => by simp only [cnt, hb]
    simp only [LX1_freePagesBut_4, h14, if_neg (nI_ge (show p < P by omega) (show P < 2 ^ 31 by omega)), gd_n (show p < 64 by omega) (show 64 < 2 ^ 31 by omega), nI_clamp (show p < 2 ^ 31 by omega), e6, e12, nI_p1]
    cases hf : frd K S p with
    | true =>
      obtain ⟨k1, k2⟩ := (hfr p).mpr hf
      rw [if_neg (fun e => k1 ((nI_e0 (by omega)).mp e)), k2, bI_f, if_pos rfl]
      obtain ⟨v, v1, v2, v3, v4, v5, v6⟩ := ex_fp hPW hP hW (show p < P by omega) W 0 m s (by omega) (by omega) h15
      obtain ⟨u, u1, u2, u3, u4, u5, u6⟩ := ex_fb hPW hP hW hW8 hK3 hfr d (p + 1) m v (by omega) (by omega) (by rw [v2 1 (by decide) (by decide) (by decide)]; exact h14) (by rw [v2 1 (by decide) (by decide) (by decide)]; exact h15) (fun j j1 j2 => by rw [v3, if_neg (by omega)]; exact h6 j (by omega) j2) (by rw [v2 12 (by decide) (by decide) (by decide)]; exact h12)
      have mrg : ∀ {α : Type} (a b : α) (j : Nat), (if p + 1 ≤ j ∧ j < P ∧ frd K S j = true then a else if j = p then a else b) = if p ≤ j ∧ j < P ∧ frd K S j = true then a else b := fun a b j => by
        by_cases e1 : j = p
        · rw [if_neg (by omega), if_pos e1, if_pos ⟨by omega, by omega, by rw [e1]; exact hf⟩]
        · rw [if_neg e1]
          by_cases e2 : p + 1 ≤ j ∧ j < P ∧ frd K S j = true
          · rw [if_pos e2, if_pos ⟨by omega, e2.2⟩]
          · rw [if_neg e2, if_neg (fun h => e2 ⟨by omega, h.2⟩)]
      refine ⟨u, ?_, fun c c5 c6 c7 => by rw [u2 c c5 c6 c7, v2 c c5 c6 c7], fun j => by rw [u3 j, v3 j]; exact mrg _ _ j, fun j => by rw [u4 j, v4 j]; exact mrg _ _ j, fun j => by rw [u5 j, v5 j]; exact mrg _ _ j, fun x => ?_⟩
      · unfold FX1_freePage
        rw [n0, v1, bd_s]
        rw [cs true hf] at u1
        exact u1
      · rw [u6 x, v6 x]
        have hx : (p * W + 0 ≤ x ∧ x < p * W + W) ↔ x / W = p := by
          obtain ⟨a, b, hb, e0, e1, e2⟩ := dm_e (show 0 < W by omega) x
          rw [e1, e0]
          have := in_pg (q := p) (y0 := 0) (y1 := W) (x := a) hb (Nat.le_refl _)
          rw [this]
          omega
        have hx2 : (if p * W + 0 ≤ x ∧ x < p * W + W then (0 : Int32) else s.1 5 x) = if x / W = p then 0 else s.1 5 x := by
          by_cases e : x / W = p
          · rw [if_pos (hx.mpr e), if_pos e]
          · rw [if_neg (fun h => e (hx.mp h)), if_neg e]
        rw [hx2]
        exact mrg _ _ (x / W)
    | false =>
      have hskip : cnt (frd K S) (p + 1) = cnt (frd K S) p := by rw [cs false hf]; rfl
      obtain ⟨u, u1, u2, u3, u4, u5, u6⟩ := ex_fb hPW hP hW hW8 hK3 hfr d (p + 1) m s (by omega) (by omega) h14 h15 (fun j j1 j2 => h6 j (by omega) j2) h12
      rw [hskip] at u1
      have mrg : ∀ {α : Type} (a b : α) (j : Nat), (if p + 1 ≤ j ∧ j < P ∧ frd K S j = true then a else b) = if p ≤ j ∧ j < P ∧ frd K S j = true then a else b := fun a b j => by
        by_cases e2 : p + 1 ≤ j ∧ j < P ∧ frd K S j = true
        · rw [if_pos e2, if_pos ⟨by omega, e2.2⟩]
        · rw [if_neg e2, if_neg (fun h => by
            by_cases e1 : j = p
            · rw [e1, hf] at h; exact absurd h.2.2 (by decide)
            · exact e2 ⟨by omega, h.2⟩)]
      have res : ∃ u, LX1_freePagesBut_4 m (nI (cnt (frd K S) p)) (nI (p + 1)) s = some (nI (cnt (frd K S) P), u) ∧ (∀ c, c ≠ 5 → c ≠ 6 → c ≠ 7 → u.1 c = s.1 c) ∧ (∀ j, u.1 6 j = if p ≤ j ∧ j < P ∧ frd K S j = true then 0 else s.1 6 j) ∧ (∀ j, u.1 7 j = if p ≤ j ∧ j < P ∧ frd K S j = true then 0 else s.1 7 j) ∧ (∀ j, u.2 j = if p ≤ j ∧ j < P ∧ frd K S j = true then 0 else s.2 j) ∧ ∀ x, u.1 5 x = if p ≤ x / W ∧ x / W < P ∧ frd K S (x / W) = true then 0 else s.1 5 x :=
        ⟨u, u1, u2, fun j => by rw [u3 j]; exact mrg _ _ j, fun j => by rw [u4 j]; exact mrg _ _ j, fun j => by rw [u5 j]; exact mrg _ _ j, fun x => by rw [u6 x]; exact mrg _ _ (x / W)⟩
      by_cases hk : Kk p = 0
      · rw [if_pos ((nI_e0 (by omega)).mpr hk)]; exact res
      · rw [if_neg (fun e => hk ((nI_e0 (by omega)).mp e))]
        cases hS : S p with
        | true => rw [bI_t, if_neg (by decide)]; exact res
        | false =>
          have := (hfr p).mp ⟨hk, hS⟩
          rw [hf] at this; cases this
theorem ex_f33 : ∀ (d p m : Nat) (s : St), p + d = 64 → d < m → (∀ j, j < 64 → s.1 11 j = bI (H j)) → s.1 2 13 = nI (cnt H p) → (∀ j, j < p → s.1 13 j = bI (H j)) →
    ∃ u, LX0_finish_33 m (nI p) s = some (0, u) ∧ u.2 = s.2 ∧ (∀ c, c ≠ 2 → c ≠ 13 → u.1 c = s.1 c) ∧ (∀ j, j < 64 → u.1 13 j = bI (H j)) ∧ u.1 2 13 = nI (cnt H 64) ∧ u.1 2 14 = s.1 2 2 ∧ u.1 2 15 = s.1 2 8 ∧ u.1 2 16 = s.1 2 9 ∧ u.1 2 10 = s.1 2 10 + 1 ∧ u.1 2 11 = s.1 2 11 ∧ u.1 2 17 = s.1 2 17
  | 0, p, m, s, hd, hm, h11, h213, h13 => by
    obtain ⟨m, rfl⟩ : ∃ j, m = j + 1 := ⟨m - 1, by omega⟩
    have e : p = 64 := by omega
    subst e
    refine ⟨pt (pt (pt (pt s 2 14 (s.1 2 2)) 2 15 (s.1 2 8)) 2 16 (s.1 2 9)) 2 10 (s.1 2 10 + 1), ?_, rfl, fun c c2 _ => by rw [pt_n _ _ _ _ c2, pt_n _ _ _ _ c2, pt_n _ _ _ _ c2, pt_n _ _ _ _ c2], fun j hj => ?_, ?_, ?_, ?_, ?_, ?_, ?_, ?_⟩
    · simp only [LX0_finish_33]
      rw [if_pos (show (64 : Int32) ≤ nI 64 from nI_le (a := 64) (Nat.le_refl _) (by omega))]
      have f1 : (pt s 2 14 (s.1 2 2)).1 2 8 = s.1 2 8 := pt_j _ _ _ _ (by decide)
      have f2 : (pt (pt s 2 14 (s.1 2 2)) 2 15 (s.1 2 8)).1 2 9 = s.1 2 9 := by rw [pt_j _ _ _ _ (by decide), pt_j _ _ _ _ (by decide)]
      have f3 : (pt (pt (pt s 2 14 (s.1 2 2)) 2 15 (s.1 2 8)) 2 16 (s.1 2 9)).1 2 10 = s.1 2 10 := by rw [pt_j _ _ _ _ (by decide), pt_j _ _ _ _ (by decide), pt_j _ _ _ _ (by decide)]
      rw [f1, f2, f3]
    · rw [pt_n _ _ _ _ (by decide), pt_n _ _ _ _ (by decide), pt_n _ _ _ _ (by decide), pt_n _ _ _ _ (by decide)]; exact h13 j hj
    · rw [pt_j _ _ _ _ (by decide), pt_j _ _ _ _ (by decide), pt_j _ _ _ _ (by decide), pt_j _ _ _ _ (by decide)]; exact h213
    · rw [pt_j _ _ _ _ (by decide), pt_j _ _ _ _ (by decide), pt_j _ _ _ _ (by decide), pt_k]
    · rw [pt_j _ _ _ _ (by decide), pt_j _ _ _ _ (by decide), pt_k]
    · rw [pt_j _ _ _ _ (by decide), pt_k]
    · rw [pt_k]
    · rw [pt_j _ _ _ _ (by decide), pt_j _ _ _ _ (by decide), pt_j _ _ _ _ (by decide), pt_j _ _ _ _ (by decide)]
    · rw [pt_j _ _ _ _ (by decide), pt_j _ _ _ _ (by decide), pt_j _ _ _ _ (by decide), pt_j _ _ _ _ (by decide)]
  | d + 1, p, m, s, hd, hm, h11, h213, h13 => by
    obtain ⟨m, rfl⟩ : ∃ j, m = j + 1 := ⟨m - 1, by omega⟩
    obtain ⟨s1, es1⟩ : ∃ s1, s1 = pt (pt s 13 p (bI (H p))) 2 13 (nI (cnt H (p + 1))) := ⟨_, rfl⟩
    have z : ∀ j, j ≠ 13 → s1.1 2 j = s.1 2 j := fun j hj => by rw [es1, pt_j _ _ _ _ hj, pt_n _ _ _ _ (by decide)]
    obtain ⟨u, u1, u2, u3, u4, u5, u6, u7, u8, u9, u10, u11⟩ := ex_f33 d (p + 1) m s1 (by omega) (by omega) (fun j hj => by rw [es1, pt_n _ _ _ _ (by decide), pt_n _ _ _ _ (by decide)]; exact h11 j hj) (by rw [es1, pt_k]) (fun j hj => by
      rw [es1, pt_n _ _ _ _ (by decide), pt_s]
      by_cases e : j = p
      · rw [if_pos e, e]
      · rw [if_neg e]; exact h13 j (by omega))
    refine ⟨u, ?_, by rw [u2, es1]; rfl, fun c c2 c13 => by rw [u3 c c2 c13, es1, pt_n _ _ _ _ c2, pt_n _ _ _ _ c13], u4, u5, by rw [u6, z 2 (by decide)], by rw [u7, z 8 (by decide)], by rw [u8, z 9 (by decide)], by rw [u9, z 10 (by decide)], by rw [u10, z 11 (by decide)], by rw [u11, z 17 (by decide)]⟩
    rw [← u1, es1]
    have f1 : ∀ y, (pt s 13 p y).1 2 13 = nI (cnt H p) := fun y => by rw [pt_n _ _ _ _ (by decide)]; exact h213
    have f2 : ∀ y, (pt s 13 p y).1 13 p = y := fun y => pt_k _ _ _ _
    simp only [LX0_finish_33, if_neg (show ¬ (64 : Int32) ≤ nI p from nI_ge (b := 64) (by omega) (by omega)), gd_n (show p < 64 by omega) (show 64 < 2 ^ 31 by omega), nI_clamp (show p < 2 ^ 31 by omega), h11 p (by omega), f1, f2, nI_p1]
    cases hH : H p with
    | false => rw [if_pos bI_f, n0, nI_add]; simp only [cnt, hH]; rfl
    | true => rw [if_neg (by rw [bI_t]; decide)]; simp only [cnt, hH]; rfl
end
