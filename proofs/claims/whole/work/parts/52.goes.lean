/-! the model's goes: those that are left get new numbers -/
def rk (sv : Nat → Bool) (v : Int32) : Int32 := if v = -1 then -1 else nI (cnt sv v.toNatClampNeg)
def Cn (sv : Nat → Bool) (sel R : Nat → Nat) (C : Nat → Nat → Int32) : Nat → Nat → Int32 := fun j i => if i < R (sel j) then rk sv (C (sel j) i) else C (sel j) i
section
variable {P W n ln : Nat} {K F A R D row B T sel : Nat → Nat} {sv H S : Nat → Bool} {tg : Int32} {tf tk mv : Nat} {C : Nat → Nat → Int32} {ex : Nat → Int32} {op : Int32} {sx sm s : St}
theorem em_g4 (hn : n ≤ 4096) (hB : ∀ o, o < n → sv o = true → B o < 2 ^ 31) : ∀ (d o m : Nat) (s : St), o + d = n → d < m → s.1 14 7 = nI n → (∀ j, j < n → s.1 27 j = if sv j = true then nI (B j) else -1) → (∀ j, j < o → s.1 30 j = if sv j = true then nI (cnt sv j) else -1) →
    ∃ u m', LX3_goes_4 m (nI (cnt sv o)) (nI o) s = LX3_goes_59 m' (nI (cnt sv n)) (nI 0) u ∧ m ≤ m' + (d + 1) ∧ (∀ j, j < n → u.1 30 j = if sv j = true then nI (cnt sv j) else -1) ∧ ∀ c, c ≠ 30 → u.1 c = s.1 c
  | 0, o, m, s, hd, hm, h7, h27, h30 => by
    obtain ⟨m, rfl⟩ : ∃ j, m = j + 1 := ⟨m - 1, by omega⟩
    have e : o = n := by omega
    subst e
    refine ⟨s, m, ?_, by omega, h30, fun _ _ => rfl⟩
    simp only [LX3_goes_4, h7]
    rw [if_pos (nI_le (Nat.le_refl _) (by omega))]; rfl
  | d + 1, o, m, s, hd, hm, h7, h27, h30 => by
    obtain ⟨m, rfl⟩ : ∃ j, m = j + 1 := ⟨m - 1, by omega⟩
    obtain ⟨v, hv⟩ : ∃ v : Int32, v = if sv o = true then nI (cnt sv o) else -1 := ⟨_, rfl⟩
    obtain ⟨u, m', u1, u2, u3, u4⟩ := em_g4 hn hB d (o + 1) m (pt s 30 o v) (by omega) (by omega) (by rw [pt_n _ _ _ _ (by decide)]; exact h7) (fun j hj => by rw [pt_n _ _ _ _ (by decide)]; exact h27 j hj) (fun j hj => by
      rw [pt_s]
      by_cases e : j = o
      · rw [if_pos e, e, hv]
      · rw [if_neg e]; exact h30 j (by omega))
    refine ⟨u, m', ?_, by omega, u3, fun c hc => by rw [u4 c hc, pt_n _ _ _ _ hc]⟩
    rw [← u1]
    have f1 : ∀ y, (pt s 30 o y).1 27 o = if sv o = true then nI (B o) else -1 := fun y => by rw [pt_n _ _ _ _ (by decide)]; exact h27 o (by omega)
    simp only [LX3_goes_4, h7, if_neg (nI_ge (show o < n by omega) (show n < 2 ^ 31 by omega)), gd_n (show o < 4200 by omega) (show 4200 < 2 ^ 31 by omega), nI_clamp (show o < 2 ^ 31 by omega), h27 o (by omega), f1, nI_p1]
    cases hs : sv o with
    | true =>
      have e : ¬ (if true = true then nI (B o) else -1) = (-1 : Int32) := by rw [if_pos rfl]; exact nI_m1 (hB o (by omega) hs)
      rw [if_neg e, if_neg e, hv, hs, if_pos rfl]
      simp only [cnt, hs, if_true]
    | false =>
      have e : (if false = true then nI (B o) else -1) = (-1 : Int32) := if_neg (by decide)
      rw [if_pos e, if_pos e, hv, hs, if_neg (by decide), n0, nI_add]
      simp only [cnt, hs]
      rfl
theorem em_g59 (hn : n ≤ 4096) (hex : ∀ r, r < 32 → okv n (ex r)) (hcl : ∀ r, r < 32 → Cl sv (ex r)) : ∀ (d r m : Nat) (s : St), r + d = 32 → d < m → (∀ j, j < n → s.1 30 j = if sv j = true then nI (cnt sv j) else -1) → (∀ j, j < 32 → s.1 23 j = if j < r then rk sv (ex j) else ex j) →
    ∃ u m', LX3_goes_59 m (nI (cnt sv n)) (nI r) s = LX3_goes_106 m' (nI (cnt sv n)) (nI 0) (nI 0) u ∧ m ≤ m' + (d + 1) ∧ (∀ j, j < 32 → u.1 23 j = rk sv (ex j)) ∧ ∀ c, c ≠ 23 → u.1 c = s.1 c
  | 0, r, m, s, hd, hm, h30, h23 => by
    obtain ⟨m, rfl⟩ : ∃ j, m = j + 1 := ⟨m - 1, by omega⟩
    refine ⟨s, m, ?_, by omega, fun j hj => by rw [h23 j hj, if_pos (by omega)], fun _ _ => rfl⟩
    simp only [LX3_goes_59]
    rw [if_pos (show (32 : Int32) ≤ nI r from nI_le (a := 32) (by omega) (by omega))]; rfl
  | d + 1, r, m, s, hd, hm, h30, h23 => by
    obtain ⟨m, rfl⟩ : ∃ j, m = j + 1 := ⟨m - 1, by omega⟩
    obtain ⟨u, m', u1, u2, u3, u4⟩ := em_g59 hn hex hcl d (r + 1) m (pt s 23 r (rk sv (ex r))) (by omega) (by omega) (fun j hj => by rw [pt_n _ _ _ _ (by decide)]; exact h30 j hj) (fun j hj => by
      rw [pt_s]
      by_cases e : j = r
      · rw [if_pos e, if_pos (by omega), e]
      · rw [if_neg e, h23 j hj]
        by_cases e2 : j < r
        · rw [if_pos e2, if_pos (by omega)]
        · rw [if_neg e2, if_neg (by omega)])
    refine ⟨u, m', ?_, by omega, u3, fun c hc => by rw [u4 c hc, pt_n _ _ _ _ hc]⟩
    rw [← u1]
    have e23 := h23 r (by omega)
    rw [if_neg (by omega)] at e23
    simp only [LX3_goes_59, if_neg (show ¬ (32 : Int32) ≤ nI r from nI_ge (b := 32) (by omega) (by omega)), gd_n (show r < 32 by omega) (show 32 < 2 ^ 31 by omega), nI_clamp (show r < 2 ^ 31 by omega), e23, nI_p1]
    rcases hex r (by omega) with e | ⟨o, ho, e⟩
    · rw [e, if_pos rfl]; rfl
    · have hs : sv o = true := by
        rcases hcl r (by omega) with h | h
        · rw [e] at h; exact absurd h (nI_m1 (by omega))
        · rw [e, nI_clamp (by omega)] at h; exact h
      rw [e, if_neg (nI_m1 (by omega)), gd_n (show o < 4200 by omega) (by omega), nI_clamp (by omega), h30 o ho, if_pos hs]
      unfold rk
      rw [if_neg (nI_m1 (by omega)), nI_clamp (by omega)]
/-- contents go down in the pool -/
theorem em_g207 (hn : n ≤ 4096) {o j f f' : Nat} (hf : f' ≤ f) (hb : f + (R o + D o) ≤ 4096) (hok : ∀ i, i < R o → okv n (C o i)) (hcl : ∀ i, i < R o → Cl sv (C o i)) (hsel : sel j = o) (x1 x3 x4 : Int32) : ∀ (d i m : Nat) (s : St), i + d = R o + D o → d < m → (∀ k, k < n → s.1 30 k = if sv k = true then nI (cnt sv k) else -1) → (∀ k, i ≤ k → k < R o + D o → s.1 22 (f + k) = C o k) →
    ∃ u, LX3_goes_207 m x1 (nI (f' + i)) x3 x4 (nI f) (nI (R o + D o)) (nI (R o)) (nI i) s = some (x1, nI (f' + (R o + D o)), x3, x4, nI f, nI (R o + D o), nI (R o), nI (R o + D o), u) ∧ (∀ c, c ≠ 22 → u.1 c = s.1 c) ∧ ∀ x, u.1 22 x = if f' + i ≤ x ∧ x < f' + (R o + D o) then Cn sv sel R C j (x - f') else s.1 22 x
  | 0, i, m, s, hd, hm, h30, h22 => by
    obtain ⟨m, rfl⟩ : ∃ j, m = j + 1 := ⟨m - 1, by omega⟩
    have e : i = R o + D o := by omega
    subst e
    refine ⟨s, ?_, fun _ _ => rfl, fun x => by rw [if_neg (by omega)]⟩
    simp only [LX3_goes_207]
    rw [if_pos (nI_le (Nat.le_refl _) (by omega))]
  | d + 1, i, m, s, hd, hm, h30, h22 => by
    obtain ⟨m, rfl⟩ : ∃ j, m = j + 1 := ⟨m - 1, by omega⟩
    obtain ⟨v, hv⟩ : ∃ v : Int32, v = Cn sv sel R C j i := ⟨_, rfl⟩
    obtain ⟨u, u1, u2, u3⟩ := em_g207 hn hf hb hok hcl hsel x1 x3 x4 d (i + 1) m (pt s 22 (f' + i) v) (by omega) (by omega) (fun k hk => by rw [pt_n _ _ _ _ (by decide)]; exact h30 k hk) (fun k k1 k2 => by rw [pt_j _ _ _ _ (by omega)]; exact h22 k (by omega) k2)
    refine ⟨u, ?_, fun c hc => by rw [u2 c hc, pt_n _ _ _ _ hc], fun x => ?_⟩
    · rw [← u1]
      have e22 := h22 i (Nat.le_refl _) (by omega)
      simp only [LX3_goes_207, if_neg (nI_ge (show i < R o + D o by omega) (show R o + D o < 2 ^ 31 by omega)), nI_add, gd_n (show f + i < 9000 by omega) (show 9000 < 2 ^ 31 by omega), nI_clamp (show f + i < 2 ^ 31 by omega), e22, gd_n (show f' + i < 9000 by omega) (show 9000 < 2 ^ 31 by omega), nI_clamp (show f' + i < 2 ^ 31 by omega), nI_p1, Nat.add_assoc]
      by_cases hc : i < R o
      · rw [if_neg (nI_ge hc (by omega))]
        rcases hok i hc with e | ⟨o2, ho2, e⟩
        · have ev : v = -1 := by rw [hv]; unfold Cn rk; rw [hsel, if_pos hc, if_pos e]
          rw [if_pos e, e, ev]
        · have hs : sv o2 = true := by
            rcases hcl i hc with h | h
            · rw [e] at h; exact absurd h (nI_m1 (by omega))
            · rw [e, nI_clamp (by omega)] at h; exact h
          have ev : v = nI (cnt sv o2) := by rw [hv]; unfold Cn rk; rw [hsel, if_pos hc, e, if_neg (nI_m1 (by omega)), nI_clamp (by omega)]
          rw [e, if_neg (nI_m1 (by omega)), gd_n (show o2 < 4200 by omega) (by omega), nI_clamp (by omega), h30 o2 ho2, if_pos hs, ev]
      · have ev : v = C o i := by rw [hv]; unfold Cn; rw [hsel, if_neg hc]
        rw [if_pos (nI_le (by omega) (by omega)), ev]
    · rw [u3 x, pt_s]
      by_cases e : x = f' + i
      · rw [if_neg (by omega), if_pos e, if_pos (by omega), hv, e, show f' + i - f' = i by omega]
      · rw [if_neg e]
        by_cases h : f' + (i + 1) ≤ x ∧ x < f' + (R o + D o)
        · rw [if_pos h, if_pos (show f' + i ≤ x ∧ x < f' + (R o + D o) by omega)]
        · rw [if_neg h, if_neg (show ¬ (f' + i ≤ x ∧ x < f' + (R o + D o)) by omega)]
/-- where contents begin in the pool, of those that are left -/
def Fn (sel R D : Nat → Nat) (j : Nat) : Nat := Fr (fun j => R (sel j)) (fun j => D (sel j)) j
theorem Fn_s (sel R D : Nat → Nat) (j : Nat) : Fn sel R D (j + 1) = Fn sel R D j + (R (sel j) + D (sel j)) := rfl
theorem Fn_le (hsel : Sel n sv sel) : ∀ o, o ≤ n → Fn sel R D (cnt sv o) ≤ Fr R D o
  | 0, _ => Nat.le_refl _
  | o + 1, h => by
    have ih := Fn_le hsel o (by omega)
    rw [Fr_s]
    cases hs : sv o with
    | false => simp only [cnt, hs]; exact Nat.le_trans ih (Nat.le_add_right _ _)
    | true =>
      simp only [cnt, hs, if_true]
      rw [Fn_s, (hsel.of (show o < n by omega) hs).2]
      omega
theorem Fn_mono (sel R D : Nat → Nat) {a b : Nat} (h : a ≤ b) : Fn sel R D a ≤ Fn sel R D b := Fr_mono _ _ h
/-- those below o have gone -/
def GJ (n : Nat) (sv : Nat → Bool) (sel B R D : Nat → Nat) (C : Nat → Nat → Int32) (o : Nat) (s : St) : Prop :=
  (∀ j, j < cnt sv o → s.1 18 j = nI (B (sel j)) ∧ s.1 19 j = nI (R (sel j)) ∧ s.1 20 j = nI (D (sel j)) ∧ s.1 21 j = nI (Fn sel R D j) ∧ ∀ i, i < R (sel j) + D (sel j) → s.1 22 (Fn sel R D j + i) = Cn sv sel R C j i) ∧
  (∀ k, o ≤ k → k < n → s.1 19 k = nI (R k) ∧ s.1 20 k = nI (D k) ∧ s.1 21 k = nI (Fr R D k) ∧ ∀ i, i < R k + D k → s.1 22 (Fr R D k + i) = C k i)
theorem em_g106 (g : Geo P W n K F A R D) (hsel : Sel n sv sel) (hok : ∀ o i, o < n → i < R o → okv n (C o i)) (hcl : ∀ o i, o < n → sv o = true → i < R o → Cl sv (C o i)) : ∀ (d o m : Nat) (s : St), o + d = n → d + 300 < m → s.1 14 7 = nI n → (∀ k, k < n → s.1 30 k = if sv k = true then nI (cnt sv k) else -1) → (∀ k, k < n → sv k = true → s.1 27 k = nI (B k)) → GJ n sv sel B R D C o s →
    ∃ u, LX3_goes_106 m (nI (cnt sv n)) (nI (Fn sel R D (cnt sv o))) (nI o) s = some (0, pt (pt u 14 7 (nI (cnt sv n))) 14 13 (nI (Fn sel R D (cnt sv n)))) ∧ GJ n sv sel B R D C n u ∧ ∀ c, c ≠ 18 → c ≠ 19 → c ≠ 20 → c ≠ 21 → c ≠ 22 → u.1 c = s.1 c
  | 0, o, m, s, hd, hm, h7, h30, h27, hj => by
    obtain ⟨m, rfl⟩ : ∃ j, m = j + 1 := ⟨m - 1, by omega⟩
    have hn := g.nle
    have e : o = n := by omega
    subst e
    refine ⟨s, ?_, hj, fun _ _ _ _ _ _ => rfl⟩
    simp only [LX3_goes_106, h7]
    rw [if_pos (nI_le (Nat.le_refl _) (by omega))]
  | d + 1, o, m, s, hd, hm, h7, h30, h27, hj => by
    obtain ⟨m, rfl⟩ : ∃ j, m = j + 1 := ⟨m - 1, by omega⟩
    have hn := g.nle
    have ho : o < n := by omega
    have hd4 := g.2.2.2.1 o ho
    cases hs : sv o with
    | false =>
      have ec : cnt sv (o + 1) = cnt sv o := by simp [cnt, hs]
      obtain ⟨u, u1, u2, u3⟩ := em_g106 g hsel hok hcl d (o + 1) m s (by omega) (by omega) h7 h30 h27 (by
        refine ⟨?_, fun k k1 k2 => hj.2 k (by omega) k2⟩
        rw [ec]; exact hj.1)
      refine ⟨u, ?_, u2, u3⟩
      rw [← u1, ec]
      have e30 := h30 o ho
      rw [hs, if_neg (by decide)] at e30
      simp only [LX3_goes_106, h7, if_neg (nI_ge ho (show n < 2 ^ 31 by omega)), gd_n (show o < 4200 by omega) (show 4200 < 2 ^ 31 by omega), nI_clamp (show o < 2 ^ 31 by omega), e30, nI_p1]
      exact if_pos trivial
    | true =>
      have ec : cnt sv (o + 1) = cnt sv o + 1 := by simp [cnt, hs]
      obtain ⟨hc1, hc2⟩ := hsel.of ho hs
      obtain ⟨c, hc⟩ : ∃ c, c = cnt sv o := ⟨_, rfl⟩
      have hle := Fn_le (R := R) (D := D) hsel o (by omega)
      have hfr := g.fr ho
      have hco : c ≤ o := by rw [hc]; exact cnt_le _ _
      have e30 := h30 o ho
      rw [hs, if_pos rfl, ← hc] at e30
      rw [← hc] at hc1 hc2 hle ec
      obtain ⟨j1, j2⟩ := hj
      rw [← hc] at j1
      obtain ⟨y1, y2, y3, y4⟩ := j2 o (Nat.le_refl _) ho
      have y27 := h27 o ho hs
      obtain ⟨s1, es1⟩ : ∃ s1, s1 = pt (pt (pt (pt s 18 c (nI (B o))) 19 c (nI (R o))) 20 c (nI (D o))) 21 c (nI (Fn sel R D c)) := ⟨_, rfl⟩
      have k1 : ∀ x, x ≠ 18 → x ≠ 19 → x ≠ 20 → x ≠ 21 → s1.1 x = s.1 x := fun x h1 h2 h3 h4 => by rw [es1, pt_n _ _ _ _ h4, pt_n _ _ _ _ h3, pt_n _ _ _ _ h2, pt_n _ _ _ _ h1]
      have r18 : ∀ x, s1.1 18 x = if x = c then nI (B o) else s.1 18 x := fun x => by rw [es1, pt_n _ _ _ _ (by decide), pt_n _ _ _ _ (by decide), pt_n _ _ _ _ (by decide), pt_s]
      have r19 : ∀ x, s1.1 19 x = if x = c then nI (R o) else s.1 19 x := fun x => by rw [es1, pt_n _ _ _ _ (by decide), pt_n _ _ _ _ (by decide), pt_s, pt_n _ _ _ _ (by decide)]
      have r20 : ∀ x, s1.1 20 x = if x = c then nI (D o) else s.1 20 x := fun x => by rw [es1, pt_n _ _ _ _ (by decide), pt_s, pt_n _ _ _ _ (by decide), pt_n _ _ _ _ (by decide)]
      have r21 : ∀ x, s1.1 21 x = if x = c then nI (Fn sel R D c) else s.1 21 x := fun x => by rw [es1, pt_s, pt_n _ _ _ _ (by decide), pt_n _ _ _ _ (by decide), pt_n _ _ _ _ (by decide)]
      obtain ⟨w, w1, w2, w3⟩ := em_g207 (sv := sv) (sel := sel) (n := n) hn hle hfr (fun i hi => hok o i ho hi) (fun i hi => hcl o i ho hs hi) hc2 (nI (cnt sv n)) (nI o) (nI c) (R o + D o) 0 m s1 (by omega) (by omega) (fun k hk => by rw [k1 30 (by decide) (by decide) (by decide) (by decide)]; exact h30 k hk) (fun k _ hk => by rw [k1 22 (by decide) (by decide) (by decide) (by decide)]; exact y4 k hk)
      have eF : Fn sel R D (c + 1) = Fn sel R D c + (R o + D o) := by rw [Fn_s, hc2]
      have gj : GJ n sv sel B R D C (o + 1) w := by
        refine ⟨fun j hj => ?_, fun k k1' k2' => ?_⟩
        · rw [ec] at hj
          rw [w2 18 (by decide), w2 19 (by decide), w2 20 (by decide), w2 21 (by decide), r18, r19, r20, r21]
          by_cases e : j = c
          · rw [if_pos e, if_pos e, if_pos e, if_pos e, e, hc2]
            refine ⟨rfl, rfl, rfl, rfl, fun i hi => ?_⟩
            rw [w3, if_pos (by omega), show Fn sel R D c + i - Fn sel R D c = i by omega]
          · rw [if_neg e, if_neg e, if_neg e, if_neg e]
            obtain ⟨z1, z2, z3, z4, z5⟩ := j1 j (by omega)
            refine ⟨z1, z2, z3, z4, fun i hi => ?_⟩
            have hmo := Fn_mono sel R D (show j + 1 ≤ c by omega)
            rw [Fn_s] at hmo
            rw [w3, if_neg (by omega), k1 22 (by decide) (by decide) (by decide) (by decide)]
            exact z5 i hi
        · rw [w2 19 (by decide), w2 20 (by decide), w2 21 (by decide), r19, r20, r21, if_neg (by omega), if_neg (by omega), if_neg (by omega)]
          obtain ⟨z1, z2, z3, z4⟩ := j2 k (by omega) k2'
          refine ⟨z1, z2, z3, fun i hi => ?_⟩
          have hmo := Fr_mono R D (show o + 1 ≤ k by omega)
          rw [Fr_s] at hmo
          rw [w3, if_neg (by omega), k1 22 (by decide) (by decide) (by decide) (by decide)]
          exact z4 i hi
      obtain ⟨u, u1, u2, u3⟩ := em_g106 g hsel hok hcl d (o + 1) m w (by omega) (by omega) (by rw [w2 14 (by decide), k1 14 (by decide) (by decide) (by decide) (by decide)]; exact h7) (fun k hk => by rw [w2 30 (by decide), k1 30 (by decide) (by decide) (by decide) (by decide)]; exact h30 k hk) (fun k hk hsk => by rw [w2 27 (by decide), k1 27 (by decide) (by decide) (by decide) (by decide)]; exact h27 k hk hsk) gj
      refine ⟨u, ?_, u2, fun x h1 h2 h3 h4 h5 => by rw [u3 x h1 h2 h3 h4 h5, w2 x h5, k1 x h1 h2 h3 h4]⟩
      rw [← u1, ec, eF, ← hc]
      simp only [LX3_goes_106, h7, if_neg (nI_ge ho (show n < 2 ^ 31 by omega)), gd_n (show o < 4200 by omega) (show 4200 < 2 ^ 31 by omega), nI_clamp (show o < 2 ^ 31 by omega), e30, if_neg (nI_m1 (show c < 2 ^ 31 by omega)), gd_n (show c < 4200 by omega) (show 4200 < 2 ^ 31 by omega), nI_clamp (show c < 2 ^ 31 by omega), y1, y2, y3, y27, nI_add, pk_sub (show R o ≤ R o + D o by omega), Nat.add_sub_cancel_left, ← es1]
      have w1' : LX3_goes_207 m (nI (cnt sv n)) (nI (Fn sel R D c)) (nI o) (nI c) (nI (Fr R D o)) (nI (R o + D o)) (nI (R o)) (0 : Int32) s1 = some (nI (cnt sv n), nI (Fn sel R D c + (R o + D o)), nI o, nI c, nI (Fr R D o), nI (R o + D o), nI (R o), nI (R o + D o), w) := w1
      rw [w1', be_s]
      simp only [nI_p1]
theorem em_goes (g : Geo P W n K F A R D) (hsel : Sel n sv sel) (hB : ∀ o, o < n → sv o = true → B o < 2 ^ 31) (hex : ∀ r, r < 32 → okv n (ex r)) (hcx : ∀ r, r < 32 → Cl sv (ex r)) (hok : ∀ o i, o < n → i < R o → okv n (C o i)) (hcl : ∀ o i, o < n → sv o = true → i < R o → Cl sv (C o i)) {m : Nat} (hm : 9000 ≤ m) {s : St} (hO : OM n A R D C s) (h27 : ∀ j, j < n → s.1 27 j = if sv j = true then nI (B j) else -1) (h23 : ∀ j, j < 32 → s.1 23 j = ex j) :
    ∃ u, FX3_goes m s = some (0, u) ∧ OM (cnt sv n) (fun j => B (sel j)) (fun j => R (sel j)) (fun j => D (sel j)) (Cn sv sel R C) u ∧ (∀ j, j < 32 → u.1 23 j = rk sv (ex j)) ∧ (∀ j, j ≠ 7 → j ≠ 13 → u.1 14 j = s.1 14 j) ∧ ∀ c, c ≠ 14 → c ≠ 18 → c ≠ 19 → c ≠ 20 → c ≠ 21 → c ≠ 22 → c ≠ 23 → c ≠ 30 → u.1 c = s.1 c := by
  have hn := g.nle
  obtain ⟨s1, m1, a1, a2, a3, a4⟩ := em_g4 (sv := sv) (B := B) hn hB n 0 m s (by omega) (by omega) hO.1 h27 (fun j hj => by omega)
  obtain ⟨s2, m2, b1, b2, b3, b4⟩ := em_g59 (sv := sv) hn hex hcx 32 0 m1 s1 (by omega) (by omega) a3 (fun j hj => by rw [a4 23 (by decide), if_neg (by omega)]; exact h23 j hj)
  have cc : ∀ c, c ≠ 23 → c ≠ 30 → s2.1 c = s.1 c := fun c h1 h2 => by rw [b4 c h1, a4 c h2]
  obtain ⟨u, u1, u2, u3⟩ := em_g106 (B := B) g hsel hok hcl n 0 m2 s2 (by omega) (by omega) (by rw [cc 14 (by decide) (by decide)]; exact hO.1) (fun k hk => by rw [b4 30 (by decide)]; exact a3 k hk) (fun k hk hs => by rw [cc 27 (by decide) (by decide), h27 k hk, if_pos hs]) (by
    refine ⟨fun j hj => absurd hj (Nat.not_lt_zero _), fun k _ hk => ?_⟩
    obtain ⟨_, y2, y3, y4, y5⟩ := hO.2.2 k hk
    rw [cc 19 (by decide) (by decide), cc 20 (by decide) (by decide), cc 21 (by decide) (by decide), cc 22 (by decide) (by decide)]
    exact ⟨y2, y3, y4, y5⟩)
  refine ⟨pt (pt u 14 7 (nI (cnt sv n))) 14 13 (nI (Fn sel R D (cnt sv n))), ?_, ⟨?_, ?_, fun j hj => ?_⟩, fun j hj => ?_, fun j j1 j2 => ?_, fun c c0 c1 c2 c3 c4 c5 c6 c7 => ?_⟩
  · unfold FX3_goes
    have : LX3_goes_4 m (0 : Int32) (0 : Int32) s = LX3_goes_4 m (nI (cnt sv 0)) (nI 0) s := rfl
    rw [this, a1, b1]; exact u1
  · rw [pt_j _ _ _ _ (by decide), pt_k]
  · rw [pt_k]; rfl
  · obtain ⟨z1, z2, z3, z4, z5⟩ := u2.1 j hj
    rw [pt_n _ _ _ _ (by decide), pt_n _ _ _ _ (by decide), pt_n _ _ _ _ (by decide), pt_n _ _ _ _ (by decide), pt_n _ _ _ _ (by decide), pt_n _ _ _ _ (by decide), pt_n _ _ _ _ (by decide), pt_n _ _ _ _ (by decide), pt_n _ _ _ _ (by decide), pt_n _ _ _ _ (by decide)]
    exact ⟨z1, z2, z3, z4, z5⟩
  · rw [pt_n _ _ _ _ (by decide), pt_n _ _ _ _ (by decide), u3 23 (by decide) (by decide) (by decide) (by decide) (by decide)]; exact b3 j hj
  · rw [pt_j _ _ _ _ j2, pt_j _ _ _ _ j1, u3 14 (by decide) (by decide) (by decide) (by decide) (by decide), cc 14 (by decide) (by decide)]
  · rw [pt_n _ _ _ _ c0, pt_n _ _ _ _ c0, u3 c c1 c2 c3 c4 c5, cc c c6 c7]
end
