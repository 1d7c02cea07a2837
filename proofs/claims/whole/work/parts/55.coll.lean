/-! a collection, in both -/
section
variable {P W n ln : Nat} {K F A R D row B T sel : Nat → Nat} {sv H S : Nat → Bool} {tg : Int32} {tf tk mv : Nat} {C : Nat → Nat → Int32} {ex : Nat → Int32} {op : Int32} {sx sm s : St}
theorem ad_rk (hn : n ≤ 4096) (hsel : Sel n sv sel) {v : Int32} (hv : okv n v) (hc : Cl sv v) : ad (fun j => B (sel j)) (rk sv v) = nb B v := by
  rcases hv with rfl | ⟨o, ho, rfl⟩
  · rfl
  · have hs : sv o = true := by
      rcases hc with h | h
      · exact absurd h (nI_m1 (by omega))
      · rw [nI_clamp (by omega)] at h; exact h
    have hcn := cnt_le sv o
    unfold rk nb
    rw [if_neg (nI_m1 (by omega)), if_neg (nI_m1 (by omega)), nI_clamp (by omega), ad_n (by omega), (hsel.of ho hs).2]
theorem rk_ok (hn : n ≤ 4096) {v : Int32} (hv : okv n v) (hc : Cl sv v) : okv (cnt sv n) (rk sv v) := by
  rcases hv with rfl | ⟨o, ho, rfl⟩
  · exact Or.inl rfl
  · have hs : sv o = true := by
      rcases hc with h | h
      · exact absurd h (nI_m1 (by omega))
      · rw [nI_clamp (by omega)] at h; exact h
    refine Or.inr ⟨cnt sv o, cnt_lt ho hs, ?_⟩
    unfold rk
    rw [if_neg (nI_m1 (by omega)), nI_clamp (by omega)]
/-- the pages of those that are left stay -/
theorem PI.swp (pi : PI P W n K A R D ln row B sv H S T tg tf) (g : Geo P W n K F A R D) {o w : Nat} (ho : o < n) (hs : sv o = true) (h1 : B o ≤ w) (h2 : w < B o + szo R D o) : S (w / W) = true := by
  rcases pi.loc g ho hs with ⟨h3, _⟩ | ⟨k, hk, rfl, h3, h4, h5, h6, h7, h8, _⟩
  · rw [h3] at h1 h2
    exact (pi.stp g ho hs h3 h1 h2).1
  · have a1 := (pi.mvw g hk h3 h7 h8).mp ⟨h1, h2⟩
    have f1 := fl_step (W := W) (R := R) (D := D) h3
    have f2 := fl_mono (W := W) (A := A) (R := R) (D := D) (row := row) (B := B) (p := B (row k) / W) ln (show k + 1 ≤ ln by omega)
    have z1 : 1 ≤ szo R D (row k) := by simp only [szo]; omega
    rw [a1.1]
    refine (pi.Si _).mpr (Or.inr (Or.inl ?_))
    rw [pi.Ti, if_neg (by omega)]; omega
theorem frd_S {p : Nat} (h : S p = true) : frd K S p = false := by unfold frd; rw [h]; simp
theorem frd_t {p : Nat} : frd K S p = true ↔ (K p ≠ 0 ∧ S p = false) := by
  unfold frd
  simp
/-- the class behind the collection -/
def XE (P W n ln : Nat) (K F A R D T sel B : Nat → Nat) (C : Nat → Nat → Int32) (ex : Nat → Int32) (sv S H : Nat → Bool) (tg : Int32) (tk mv : Nat) (sx u : St) : Prop :=
  VX P W (K2 K T S) (F2 F T S) u ∧ OX (cnt sv n) (fun j => B (sel j)) (fun j => R (sel j)) (fun j => D (sel j)) (Cn sv sel R C) (u.1 5) ∧ ZX P W (F2 F T S) (u.1 5) ∧ BX W (cnt sv n) (fun j => B (sel j)) u.2 ∧ (∀ r, r < 32 → u.1 3 r = nb B (ex r)) ∧ u.1 4 = sx.1 4 ∧ u.1 1 6 = tg ∧ u.1 2 10 = sx.1 2 10 + 1 ∧ u.1 2 11 = sx.1 2 11 ∧ u.1 2 13 = nI (cnt H P) ∧ u.1 2 14 = nI ln ∧ u.1 2 15 = nI mv ∧ u.1 2 16 = nI tk ∧ u.1 2 17 = nI (cnt (frd K S) P) ∧ ∀ p, p < 64 → u.1 13 p = bI (H p)
theorem cnt_H {H : Nat → Bool} {P : Nat} (h : ∀ p, H p = true → p < P) : ∀ d, cnt H (P + d) = cnt H P
  | 0 => rfl
  | d + 1 => by
    have e : H (P + d) = false := by
      cases hq : H (P + d) with
      | false => rfl
      | true => have := h _ hq; omega
    rw [← Nat.add_assoc]
    simp only [cnt, e]
    exact cnt_H h d
theorem x_end (h : RR P W n K F A R D C ex op sx sm) (pi : PI P W n K A R D ln row B sv H S T tg tf) (px : PX n A ln row B sv H S tg tf tk mv sx) (hK : KH n W A H sv) (hsel : Sel n sv sel) (hcx : ∀ r, r < 32 → Cl sv (ex r)) (hcl : ∀ j, j < ln → ∀ i, i < R (row j) → Cl sv (C (row j) i)) {m : Nat} (hm : 20000 ≤ m) :
    ∃ u, bd (FX0_moveRow m sx) (fun r16 u17 => bd (FX0_tellNewAddresses m u17) (fun r19 u20 => bd (FX0_finish m u20) (fun r22 u23 => some ((1 : Int32), u23)))) = some (1, u) ∧ XE P W n ln K F A R D T sel B C ex sv S H tg tk mv sx u := by
  have g := h.1
  have vx := h.2.1
  have hP := g.1.2.1
  have hW := g.1.2.2.2.1
  have hW8 := g.1.2.2.1
  have hPW := g.PWle
  have hn := g.nle
  have hln := pi.lnle
  have hRT := h.2.2.2.2.2.2.2.2.1
  have hCR := h.2.2.2.2.2.2.2.1
  -- the row
  obtain ⟨s2, a1, mi⟩ := MI.all h pi px hK hsel hcl ln 0 m sx (by omega) (by omega) (MI.start h)
  obtain ⟨i1, i2, i3, i4, i5, i6, i7⟩ := mi
  -- the roots
  obtain ⟨s3, b1, b2, b3, b4⟩ := ex_tna (sv := sv) (B := B) (ex := ex) g (fun r hr => (hRT r hr).1) hcx 32 0 m s2 (by omega) (by omega) (by rw [i1 1 (by decide) (by decide) (by decide)]; exact vx.1) (by rw [i1 1 (by decide) (by decide) (by decide)]; exact vx.2.1) (fun j hj hsj => by rw [i1 10 (by decide) (by decide) (by decide), px.2.2.1 j hj, if_pos hsj]) (fun j hj => by rw [i1 3 (by decide) (by decide) (by decide), if_neg (by omega)]; exact (hRT j hj).2.2)
  -- the pages
  obtain ⟨Kk, hKk⟩ : ∃ Kk : Nat → Nat, Kk = fun p => if fl W A R D row B ln p ≠ 0 then 1 else K p := ⟨_, rfl⟩
  have flT : ∀ p, fl W A R D row B ln p ≠ 0 ↔ T p ≠ 0 := fun p => by
    rw [pi.Ti p]
    by_cases e : fl W A R D row B ln p = 0
    · rw [if_pos e]; omega
    · rw [if_neg e]; omega
  have hTS : ∀ p, T p ≠ 0 → S p = true := fun p hp => (pi.Si p).mpr (Or.inr (Or.inl hp))
  have hKk3 : ∀ p, Kk p ≤ 3 := fun p => by
    have := g.1.2.2.2.2.1 p
    rw [hKk]; show (if fl W A R D row B ln p ≠ 0 then 1 else K p) ≤ 3
    split <;> omega
  have hfr : ∀ p, (Kk p ≠ 0 ∧ S p = false) ↔ frd K S p = true := fun p => by
    rw [frd_t]
    by_cases e : fl W A R D row B ln p ≠ 0
    · have := hTS p ((flT p).mp e)
      rw [this]
      constructor
      · rintro ⟨_, q⟩; cases q
      · rintro ⟨_, q⟩; cases q
    · have : Kk p = K p := by rw [hKk]; exact if_neg e
      rw [this]
  have k3 : ∀ c, c ≠ 3 → c ≠ 5 → c ≠ 6 → c ≠ 7 → s3.1 c = sx.1 c := fun c c3 c5 c6 c7 => by rw [b3 c c3, i1 c c5 c6 c7]
  obtain ⟨s4, d1, d2, d3, d4, d5, d6⟩ := ex_fb hPW hP hW hW8 (K := K) (S := S) hKk3 hfr P 0 m s3 (by omega) (by omega) (by rw [k3 1 (by decide) (by decide) (by decide) (by decide)]; exact vx.1) (by rw [k3 1 (by decide) (by decide) (by decide) (by decide)]; exact vx.2.1) (fun j _ hj => by rw [b3 6 (by decide), hKk]; exact i2 j hj) (by rw [k3 12 (by decide) (by decide) (by decide) (by decide)]; exact px.2.2.2.2.1)
  have k4 : ∀ c, c ≠ 3 → c ≠ 5 → c ≠ 6 → c ≠ 7 → s4.1 c = sx.1 c := fun c c3 c5 c6 c7 => by rw [d2 c c5 c6 c7, k3 c c3 c5 c6 c7]
  -- what is told
  obtain ⟨s5, es5⟩ : ∃ s5, s5 = pt (pt (pt s4 2 17 (nI (cnt (frd K S) P))) 1 6 tg) 2 13 (0 : Int32) := ⟨_, rfl⟩
  have k5 : ∀ c, c ≠ 1 → c ≠ 2 → s5.1 c = s4.1 c := fun c c1 c2 => by rw [es5, pt_n _ _ _ _ c2, pt_n _ _ _ _ c1, pt_n _ _ _ _ c2]
  have k52 : ∀ j, j ≠ 13 → j ≠ 17 → s5.1 2 j = sx.1 2 j := fun j j1 j2 => by rw [es5, pt_j _ _ _ _ j1, pt_n _ _ _ _ (by decide), pt_j _ _ _ _ j2, k4 2 (by decide) (by decide) (by decide) (by decide)]
  obtain ⟨u, e1, e2, e3, e4, e5, e6, e7, e8, e9, e10, e11⟩ := ex_f33 (H := H) 64 0 m s5 (by omega) (by omega) (by rw [k5 11 (by decide) (by decide), k4 11 (by decide) (by decide) (by decide) (by decide)]; exact px.2.2.2.1) (by rw [es5, pt_k]; rfl) (fun j hj => by omega)
  have ku : ∀ c, c ≠ 1 → c ≠ 2 → c ≠ 13 → u.1 c = s4.1 c := fun c c1 c2 c13 => by rw [e3 c c2 c13, k5 c c1 c2]
  have u5 : ∀ x, u.1 5 x = if x / W < P ∧ frd K S (x / W) = true then 0 else s2.1 5 x := fun x => by
    rw [ku 5 (by decide) (by decide) (by decide), d6 x, b3 5 (by decide)]
    by_cases hc : x / W < P ∧ frd K S (x / W) = true
    · rw [if_pos hc, if_pos ⟨Nat.zero_le _, hc⟩]
    · rw [if_neg hc, if_neg (fun q => hc q.2)]
  have u2 : ∀ j, u.2 j = if j < P ∧ frd K S j = true then 0 else s2.2 j := fun j => by
    rw [e2, es5, pt_2, pt_2, pt_2, d5 j, b2]
    by_cases hc : j < P ∧ frd K S j = true
    · rw [if_pos hc, if_pos ⟨Nat.zero_le _, hc⟩]
    · rw [if_neg hc, if_neg (fun q => hc q.2)]
  refine ⟨u, ?_, ⟨?_, ?_, fun p hp => ?_, fun p hp => ?_⟩, fun j hj => ?_, fun x hx hno => ?_, fun p x hp hx => ?_, fun r hr => ?_, ?_, ?_, ?_, ?_, ?_, ?_, ?_, ?_, ?_, e4⟩
  · unfold FX0_moveRow FX0_tellNewAddresses FX0_finish FX1_freePagesBut FX1_setOpenPage
    have a1' : LX0_moveRow_2 m (0 : Int32) sx = some (0, s2) := a1
    have b1' : LX0_tellNewAddresses_2 m (0 : Int32) s2 = some (0, s3) := b1
    have d1' : LX1_freePagesBut_4 m (0 : Int32) (0 : Int32) s3 = some (nI (cnt (frd K S) P), s4) := d1
    have e1' : LX0_finish_33 m (0 : Int32) s5 = some (0, u) := e1
    have f6 : (pt s4 2 17 (nI (cnt (frd K S) P))).1 2 6 = tg := by rw [pt_j _ _ _ _ (by decide), k4 2 (by decide) (by decide) (by decide) (by decide)]; exact px.2.2.2.2.2.1
    rw [a1', bd_s, b1', bd_s, d1', bd_s, f6, bd_s, ← es5, e1', bd_s]
  · rw [e3 1 (by decide) (by decide), es5, pt_n _ _ _ _ (by decide), pt_j _ _ _ _ (by decide), pt_n _ _ _ _ (by decide), k4 1 (by decide) (by decide) (by decide) (by decide)]; exact vx.1
  · rw [e3 1 (by decide) (by decide), es5, pt_n _ _ _ _ (by decide), pt_j _ _ _ _ (by decide), pt_n _ _ _ _ (by decide), k4 1 (by decide) (by decide) (by decide) (by decide)]; exact vx.2.1
  · rw [ku 6 (by decide) (by decide) (by decide), d3 p, b3 6 (by decide), i2 p hp]
    by_cases hc : 0 ≤ p ∧ p < P ∧ frd K S p = true
    · rw [if_pos hc]
      have hq := frd_t.mp hc.2.2
      have ht : T p = 0 := by
        apply Classical.byContradiction
        intro ht
        rw [hTS p ht] at hq; cases hq.2
      rw [K2_0 ht hq.2]; rfl
    · rw [if_neg hc]
      by_cases ht : T p = 0
      · rw [if_neg (fun e => (flT p).mp e ht)]
        cases hS : S p with
        | true => rw [K2_s ht hS]
        | false =>
          rw [K2_0 ht hS]
          have hz : K p = 0 := by
            apply Classical.byContradiction
            intro hz
            by_cases hpP : p < P
            · exact hc ⟨Nat.zero_le _, hpP, frd_t.mpr ⟨hz, hS⟩⟩
            · exact hz (g.2.1 p (by omega))
          rw [hz]
      · rw [if_pos ((flT p).mpr ht), K2_t ht]
  · rw [ku 7 (by decide) (by decide) (by decide), d4 p, b3 7 (by decide), i3 p hp]
    by_cases hc : 0 ≤ p ∧ p < P ∧ frd K S p = true
    · rw [if_pos hc]
      have hq := frd_t.mp hc.2.2
      have ht : T p = 0 := by
        apply Classical.byContradiction
        intro ht
        rw [hTS p ht] at hq; cases hq.2
      rw [F2_0 ht hq.2]; rfl
    · rw [if_neg hc]
      by_cases ht : T p = 0
      · have hfl0 : fl W A R D row B ln p = 0 := by
          apply Classical.byContradiction
          intro e
          exact (flT p).mp e ht
        rw [hfl0, Nat.add_zero]
        cases hS : S p with
        | true => rw [F2_s ht hS]
        | false =>
          rw [F2_0 ht hS]
          have hz : K p = 0 := by
            apply Classical.byContradiction
            intro hz
            by_cases hpP : p < P
            · exact hc ⟨Nat.zero_le _, hpP, frd_t.mpr ⟨hz, hS⟩⟩
            · exact hz (g.2.1 p (by omega))
          rw [(g.2.2.1 p).mp hz]
      · have := pi.Tf ht
        rw [F2_t ht, (g.2.2.1 p).mp (pi.tp ht).2, Nat.zero_add]
        congr 1
        omega
  · -- objects
    obtain ⟨h1, h2, _⟩ := hsel j hj
    obtain ⟨k, hk, ek⟩ := (pi.svi _).mp h2
    have wd : ∀ i, i < szo R D (sel j) → u.1 5 (B (sel j) + i) = nw B R D C (sel j) i := fun i hi => by
      have hSp := pi.swp g h1 h2 (w := B (sel j) + i) (by omega) (by omega)
      rw [u5, if_neg (fun q => by rw [frd_S hSp] at q; cases q.2)]
      have := i5 k hk i (by rw [ek]; exact hi)
      rw [ek] at this; exact this
    refine ⟨?_, fun i hi => ?_, fun i hi1 hi2 => ?_⟩
    · have := wd 0 (by simp only [szo]; omega)
      rw [Nat.add_zero] at this
      exact this
    · have hi : i < R (sel j) := hi
      have := wd (1 + i) (by simp only [szo]; omega)
      rw [← Nat.add_assoc] at this
      rw [this]
      show nw B R D C (sel j) (1 + i) = ad (fun j => B (sel j)) (Cn sv sel R C j i)
      unfold nw Cn
      rw [if_neg (by omega), if_pos (by omega), if_pos hi, show 1 + i - 1 = i by omega, ad_rk hn hsel (hCR _ i h1 hi) (by have := hcl k hk i (by rw [ek]; exact hi); rw [ek] at this; exact this)]
    · have hi1 : R (sel j) ≤ i := hi1
      have hi2 : i < R (sel j) + D (sel j) := hi2
      have := wd (1 + i) (by simp only [szo]; omega)
      rw [← Nat.add_assoc] at this
      rw [this]
      show nw B R D C (sel j) (1 + i) = Cn sv sel R C j i
      unfold nw Cn
      rw [if_neg (by omega), if_neg (by omega), if_neg (by omega), show 1 + i - 1 = i by omega]
  · -- words without an object
    rw [u5]
    by_cases hc : x / W < P ∧ frd K S (x / W) = true
    · rw [if_pos hc]
    · rw [if_neg hc]
      have g' := g.move pi hK hsel
      have hnc : ∀ o, o < n → sv o = true → ¬ (B o ≤ x ∧ x < B o + szo R D o) := fun o ho hs hh => by
        obtain ⟨c1, c2⟩ := hsel.of ho hs
        have hb := pi.bnd g ho hs
        have hx2 : x < P * W := by omega
        refine hno ⟨hx2, (g'.2.2.2.2.2.1 x hx2).mp ⟨cnt sv o, c1, ?_, ?_⟩⟩
        · show B (sel (cnt sv o)) ≤ x
          rw [c2]; exact hh.1
        · show x < B (sel (cnt sv o)) + szo R D (sel (cnt sv o))
          rw [c2]; exact hh.2
      refine i7 x hx (fun o ho hh => ?_) (fun j hj hh => hnc _ (pi.rn hj) ((pi.svi _).mpr ⟨j, hj, rfl⟩) hh)
      obtain ⟨z1, z2, z3⟩ := g.fz ho hh.1 hh.2
      have hpP : x / W < P := Nat.div_lt_of_lt_mul (by rw [Nat.mul_comm]; exact z1)
      have hS : S (x / W) = true := by
        cases hq : S (x / W) with
        | true => rfl
        | false => exact absurd ⟨hpP, frd_t.mpr ⟨z3, hq⟩⟩ hc
      have hT : T (x / W) = 0 := by
        apply Classical.byContradiction
        intro ht
        exact z3 (pi.tp ht).2
      obtain ⟨y1, y2⟩ := pi.pst g hK ho hh.1 hh.2 hS hT
      exact hnc o ho y1 (by rw [y2]; exact hh)
  · -- beginnings
    rw [u2]
    have old : ∀ o, o < n → A o = p * W + x → x < W → K p ≠ 0 ∧ (S p = true → sv o = true ∧ B o = A o) := fun o ho e hxW => by
      have z1 : 1 ≤ szo R D o := by simp only [szo]; omega
      have ed : A o / W = p := by rw [e]; exact dm_q hxW
      have hk := g.kA ho
      rw [ed] at hk
      refine ⟨hk, fun hS => pi.pst g hK ho (Nat.le_refl _) (by omega) (by rw [ed]; exact hS) ?_⟩
      rw [ed]
      apply Classical.byContradiction
      intro ht
      exact hk (pi.tp ht).2
    have spg : ∀ j, j < cnt sv n → B (sel j) = p * W + x → x < W → S p = true := fun j hj e hxW => by
      obtain ⟨h1, h2, _⟩ := hsel j hj
      have := pi.swp g h1 h2 (Nat.le_refl _) (by simp only [szo]; omega)
      rw [e, dm_q hxW] at this; exact this
    by_cases hc : p < P ∧ frd K S p = true
    · rw [if_pos hc, bit_0 x hx]
      constructor
      · intro q; cases q
      · rintro ⟨a, j, hj, e⟩
        have := spg j hj e a
        rw [frd_S this] at hc; cases hc.2
    · rw [if_neg hc, i4 p x hp hx]
      constructor
      · rintro ⟨a, ⟨o, ho, e⟩ | ⟨j, hj, b, e⟩⟩
        · obtain ⟨z1, z2⟩ := old o ho e a
          have hpP : p < P := by
            apply Nat.lt_of_not_le
            intro hle
            exact z1 (g.2.1 p hle)
          have hS : S p = true := by
            cases hq : S p with
            | true => rfl
            | false => exact absurd ⟨hpP, frd_t.mpr ⟨z1, hq⟩⟩ hc
          obtain ⟨y1, y2⟩ := z2 hS
          obtain ⟨c1, c2⟩ := hsel.of ho y1
          exact ⟨a, cnt sv o, c1, by show B (sel (cnt sv o)) = p * W + x; rw [c2, y2]; exact e⟩
        · obtain ⟨c1, c2⟩ := hsel.of (pi.rn hj) ((pi.svi _).mpr ⟨j, hj, rfl⟩)
          exact ⟨a, cnt sv (row j), c1, by show B (sel (cnt sv (row j))) = p * W + x; rw [c2]; exact e⟩
      · rintro ⟨a, j, hj, e⟩
        have e : B (sel j) = p * W + x := e
        obtain ⟨h1, h2, _⟩ := hsel j hj
        refine ⟨a, ?_⟩
        by_cases hB : B (sel j) = A (sel j)
        · exact Or.inl ⟨sel j, h1, by rw [← hB]; exact e⟩
        · obtain ⟨k, hk, ek⟩ := (pi.svi _).mp h2
          exact Or.inr ⟨k, hk, by rw [ek]; exact hB, by rw [ek]; exact e⟩
  · rw [ku 3 (by decide) (by decide) (by decide), d2 3 (by decide) (by decide) (by decide)]; exact b4 r hr
  · rw [ku 4 (by decide) (by decide) (by decide), k4 4 (by decide) (by decide) (by decide) (by decide)]
  · rw [e3 1 (by decide) (by decide), es5, pt_n _ _ _ _ (by decide), pt_k]
  · rw [e9, k52 10 (by decide) (by decide)]
  · rw [e10, k52 11 (by decide) (by decide)]
  · rw [e5]
    have := cnt_H (fun p hp => (pi.Hi hp).1) (64 - P)
    rw [show P + (64 - P) = 64 by omega] at this
    rw [this]
  · rw [e6, k52 2 (by decide) (by decide)]; exact px.1
  · rw [e7, k52 8 (by decide) (by decide)]; exact px.2.2.2.2.2.2.2.1
  · rw [e8, k52 9 (by decide) (by decide)]; exact px.2.2.2.2.2.2.2.2
  · rw [e11, es5, pt_j _ _ _ _ (by decide), pt_n _ _ _ _ (by decide), pt_k]
end
