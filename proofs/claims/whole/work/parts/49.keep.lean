/-! objects on pages that are hit; the whole plan -/
def KI (n a W : Nat) (A : Nat → Nat) (H sv : Nat → Bool) : Prop := ∀ o, o < n → (sv o = true → A o < a) ∧ (A o < a → H (A o / W) = true → sv o = true)
section
variable {P W n : Nat} {K F A R D : Nat → Nat} {H : Nat → Bool} {C : Nat → Nat → Int32} {ex : Nat → Int32} {op : Int32}
theorem QQ.Hm {ln : Nat} {row : Nat → Nat} {sv : Nat → Bool} {sx sm : St} (q : QQ P W n K A R D H ln row sv sx sm) : (∀ p, p < 64 → sx.1 11 p = bI (H p)) ∧ ∀ p, p < 64 → sm.1 28 p = bI (H p) := by
  obtain ⟨B, S, T, tg, tf, tk, mv, pi, px, pm⟩ := q
  exact ⟨px.2.2.2.1, pm.2.2.2.1⟩
/-- one more that stays, on a page that is hit -/
theorem both_stay {ln : Nat} {row : Nat → Nat} {sv : Nat → Bool} {sx sm : St} (h : RR P W n K F A R D C ex op sx sm) (q : QQ P W n K A R D H ln row sv sx sm) {o : Nat} (ho : o < n) (hs : sv o = false) (hh : H (A o / W) = true) (m m2 : Nat) :
    ∃ sx' sm', KeepX sx sx' ∧ KeepM sm sm' ∧ FX0_addToRow m (nI (A o)) (nI (A o)) sx = some (0, sx') ∧ FX3_stays m2 (nI o) sm = some (0, sm') ∧ QQ P W n K A R D H (ln + 1) (upN row ln o) (upB sv o) sx' sm' := by
  obtain ⟨B, S, T, tg, tf, tk, mv, pi, px, pm⟩ := q
  have hn := h.1.nle
  have hno : ∀ k, k < ln → row k ≠ o := fun k hk e => by
    have := (pi.svi o).mpr ⟨k, hk, e⟩
    rw [hs] at this; cases this
  have hln : ln < 4096 := by
    have h1 := cnt_upB ho hs
    have h2 := cnt_le (upB sv o) n
    have h3 := pi.cn
    omega
  obtain ⟨u, u1, u2, u3⟩ := ex_add h.1 px ho hln hno (b := A o) m
  obtain ⟨w, w1, w2, w3⟩ := em_stays h.2.2.2.2.2.2.1 hn pm ho hln m2
  have pi' := pi.stay ho hs (Or.inl hh) (S' := S) (fun p => by
    constructor
    · exact Or.inl
    · rintro (e | e)
      · exact e
      · exact (pi.Si p).mpr (Or.inl ((pi.cl ho e).mpr hh)))
  exact ⟨u, w, u3, w3, u1, w1, _, _, _, _, _, _, _, pi', u2, w2⟩
theorem both_pg1 {p : Nat} (hp : p < P) (hH : H p = true) : ∀ (d k m m2 : Nat) (sx sm : St) (ln : Nat) (row : Nat → Nat) (sv : Nat → Bool), RR P W n K F A R D C ex op sx sm → QQ P W n K A R D H ln row sv sx sm → k + d = W → d < m → d + 4300 < m2 → KI n (p * W + k) W A H sv →
    ∃ sx' sm' ln' row' sv', KeepX sx sx' ∧ KeepM sm sm' ∧ LX0_keepObjectsOf_2 m (nI p) (nI k) sx = some (0, sx') ∧ LX3_rows_75 m2 (nI (p * W + k)) sm = LX3_rows_75 (m2 - d) (nI (p * W + W)) sm' ∧ QQ P W n K A R D H ln' row' sv' sx' sm' ∧ KI n (p * W + W) W A H sv'
  | 0, k, m, m2, sx, sm, ln, row, sv, h, q, hd, hm, hm2, hi => by
    obtain ⟨m, rfl⟩ : ∃ j, m = j + 1 := ⟨m - 1, by omega⟩
    have hW := h.1.1.2.2.2.1
    have e : k = W := by omega
    subst e
    refine ⟨sx, sm, ln, row, sv, KeepX.rfl' _, KeepM.rfl' _, ?_, rfl, q, hi⟩
    simp only [LX0_keepObjectsOf_2, FX1_words, bd_s, h.2.1.2.1]
    rw [if_pos (nI_le (Nat.le_refl _) (by omega))]
  | d + 1, k, m, m2, sx, sm, ln, row, sv, h, q, hd, hm, hm2, hi => by
    obtain ⟨m, rfl⟩ : ∃ j, m = j + 1 := ⟨m - 1, by omega⟩
    obtain ⟨m2, rfl⟩ : ∃ j, m2 = j + 1 := ⟨m2 - 1, by omega⟩
    have hW := h.1.1.2.2.2.1
    have hW8 := h.1.1.2.2.1
    have hP := h.1.1.2.1
    have hPW := h.1.PWle
    have hnn := h.1.nle
    have hmul := mulLt W hp
    have ha : p * W + k < P * W := by omega
    have ed : (p * W + k) / W = p := dm_q (by omega)
    have hm28 := q.Hm.2 p (by omega)
    rw [hH, bI_t] at hm28
    have eX : LX0_keepObjectsOf_2 (m + 1) (nI p) (nI k) sx = bd (FX1_beginsAt m (nI (p * W + k)) sx) (fun r7 u8 => (if r7 = 0 then LX0_keepObjectsOf_2 m (nI p) (nI (k + 1)) u8 else bd (FX0_addToRow m (nI (p * W + k)) (nI (p * W + k)) u8) (fun r10 u11 => LX0_keepObjectsOf_2 m (nI p) (nI (k + 1)) u11))) := by
      simp only [LX0_keepObjectsOf_2, FX1_words, FX1_addressOf, bd_s, h.2.1.2.1, if_neg (nI_ge (show k < W by omega) (show W < 2 ^ 31 by omega)), pk_mul, nI_add, nI_p1]
    have eM : LX3_rows_75 (m2 + 1) (nI (p * W + k)) sm = bd (FX3_at m2 (nI (p * W + k)) sm) (fun r23 u24 => (if r23 = (-1 : Int32) then LX3_rows_75 m2 (nI (p * W + (k + 1))) u24 else bd (FX3_stays m2 r23 u24) (fun r26 u27 => LX3_rows_75 m2 (nI (p * W + (k + 1))) u27))) := by
      simp only [LX3_rows_75, h.2.2.1.1, h.2.2.1.2.1, pk_mul, if_neg (nI_ge ha (show P * W < 2 ^ 31 by omega)), dz_n (show 0 < W by omega) (show W < 2 ^ 31 by omega), nI_div (p * W + k) (show p * W + k < 2 ^ 31 by omega) (show 0 < W by omega) (show W < 2 ^ 31 by omega), ed, gd_n (show p < 64 by omega) (show 64 < 2 ^ 31 by omega), nI_clamp (show p < 2 ^ 31 by omega), hm28, if_neg (show ¬ (1 : Int32) = 0 by decide), nI_p1, Nat.add_assoc]
    have hx := ex_beginsA h.1 h.2.1 h.2.2.2.2.2.1 ha m
    have hat := em_at h.1 h.2.2.2.2.2.2.1 (nI (p * W + k)) (show 4200 ≤ m2 by omega)
    rw [show m2 + 1 - (d + 1) = m2 - d by omega]
    rcases hx with ⟨o, ho, ea, hb⟩ | ⟨hno, hb⟩
    · rcases hat with ⟨o2, ho2, ea2, hb2⟩ | ⟨hno2, _⟩
      · have hA2 := h.1.Alt ho2
        simp only [szo] at hA2
        have e2 : o2 = o := h.1.Ainj ho2 ho (by rw [← nI_inj (by omega) (by omega) ea2]; exact ea)
        subst e2
        have hs : sv o2 = false := by
          cases hsv : sv o2 with
          | false => rfl
          | true => have := (hi o2 ho2).1 hsv; omega
        obtain ⟨sx1, sm1, kx, km, s1, s2, q1⟩ := both_stay h q ho2 hs (by rw [← ea, ed]; exact hH) m m2
        obtain ⟨sx2, sm2, ln2, row2, sv2, kx2, km2, r1, r2, r3, r4⟩ := both_pg1 hp hH d (k + 1) m m2 sx1 sm1 _ _ _ (h.keep kx km) q1 (by omega) (by omega) (by omega) (fun x hx => by
          obtain ⟨i1, i2⟩ := hi x hx
          constructor
          · intro hsx
            rcases (upB_t sv o2 x).mp hsx with e | e
            · have := i1 e; omega
            · rw [e]; omega
          · intro hlt hhx
            by_cases e : x = o2
            · rw [e]; exact upB_s sv o2
            · rw [upB_n sv e]
              refine i2 ?_ hhx
              have : A x ≠ A o2 := fun e3 => e (h.1.Ainj hx ho2 e3)
              omega)
        rw [← ea] at s1
        refine ⟨sx2, sm2, ln2, row2, sv2, kx.tr kx2, km.tr km2, ?_, ?_, r3, r4⟩
        · rw [eX, hb, bd_s, if_neg (by decide), s1, bd_s]; exact r1
        · rw [eM, hb2, bd_s, if_neg (nI_m1 (by omega)), s2, bd_s]; exact r2
      · exact absurd (by rw [ea]) (hno2 o ho)
    · rcases hat with ⟨o2, ho2, ea2, hb2⟩ | ⟨hno2, hb2⟩
      · have hA2 := h.1.Alt ho2
        simp only [szo] at hA2
        exact absurd (nI_inj (by omega) (by omega) ea2) (hno o2 ho2)
      · obtain ⟨sx2, sm2, ln2, row2, sv2, kx2, km2, r1, r2, r3, r4⟩ := both_pg1 hp hH d (k + 1) m m2 sx sm _ _ _ h q (by omega) (by omega) (by omega) (fun x hx => by
          obtain ⟨i1, i2⟩ := hi x hx
          constructor
          · intro hsx; have := i1 hsx; omega
          · intro hlt hhx
            refine i2 ?_ hhx
            have := hno x hx
            omega)
        refine ⟨sx2, sm2, ln2, row2, sv2, kx2, km2, ?_, ?_, r3, r4⟩
        · rw [eX, hb, bd_s, if_pos rfl]; exact r1
        · rw [eM, hb2, bd_s, if_pos rfl]; exact r2
theorem em_pg0 {p : Nat} (hp : p < P) {sm : St} (g : Geo P W n K F A R D) (vm : VM P W K F sm) (hH : sm.1 28 p = 0) : ∀ (d k m2 : Nat), k + d = W → d < m2 → LX3_rows_75 m2 (nI (p * W + k)) sm = LX3_rows_75 (m2 - d) (nI (p * W + W)) sm
  | 0, k, m2, hd, hm => by
    rw [show k = W by omega]; rfl
  | d + 1, k, m2, hd, hm => by
    obtain ⟨m2, rfl⟩ : ∃ j, m2 = j + 1 := ⟨m2 - 1, by omega⟩
    have hW := g.1.2.2.2.1
    have hP := g.1.2.1
    have hPW := g.PWle
    have hmul := mulLt W hp
    have ed : (p * W + k) / W = p := dm_q (by omega)
    have ih := em_pg0 hp g vm hH d (k + 1) m2 (by omega) (by omega)
    rw [show m2 + 1 - (d + 1) = m2 - d by omega, ← ih]
    simp only [LX3_rows_75, vm.1, vm.2.1, pk_mul, if_neg (nI_ge (show p * W + k < P * W by omega) (show P * W < 2 ^ 31 by omega)), dz_n (show 0 < W by omega) (show W < 2 ^ 31 by omega), nI_div (p * W + k) (show p * W + k < 2 ^ 31 by omega) (show 0 < W by omega) (show W < 2 ^ 31 by omega), ed, gd_n (show p < 64 by omega) (show 64 < 2 ^ 31 by omega), nI_clamp (show p < 2 ^ 31 by omega), hH, if_true, nI_p1, Nat.add_assoc]
theorem both_keep : ∀ (d p m m2 : Nat) (sx sm : St) (ln : Nat) (row : Nat → Nat) (sv : Nat → Bool), RR P W n K F A R D C ex op sx sm → QQ P W n K A R D H ln row sv sx sm → p + d = P → d + 70 < m → d * W + 4400 < m2 → KI n (p * W) W A H sv →
    ∃ sx' sm' ln' row' sv' m3, KeepX sx sx' ∧ KeepM sm sm' ∧ LX0_keepHitObjects_2 m (nI p) sx = some (0, sx') ∧ LX3_rows_75 m2 (nI (p * W)) sm = LX3_rows_126 m3 (nI 0) sm' ∧ m2 ≤ m3 + (d * W + 1) ∧ QQ P W n K A R D H ln' row' sv' sx' sm' ∧ KI n (P * W) W A H sv'
  | 0, p, m, m2, sx, sm, ln, row, sv, h, q, hd, hm, hm2, hi => by
    obtain ⟨m, rfl⟩ : ∃ j, m = j + 1 := ⟨m - 1, by omega⟩
    obtain ⟨m2, rfl⟩ : ∃ j, m2 = j + 1 := ⟨m2 - 1, by omega⟩
    have hP := h.1.1.2.1
    have hPW := h.1.PWle
    have e : p = P := by omega
    subst e
    refine ⟨sx, sm, ln, row, sv, m2, KeepX.rfl' _, KeepM.rfl' _, ?_, ?_, by omega, q, hi⟩
    · simp only [LX0_keepHitObjects_2, FX1_pages, bd_s, h.2.1.1]
      rw [if_pos (nI_le (Nat.le_refl _) (by omega))]
    · simp only [LX3_rows_75, h.2.2.1.1, h.2.2.1.2.1, pk_mul]
      rw [if_pos (nI_le (Nat.le_refl _) (by omega))]; rfl
  | d + 1, p, m, m2, sx, sm, ln, row, sv, h, q, hd, hm, hm2, hi => by
    obtain ⟨m, rfl⟩ : ∃ j, m = j + 1 := ⟨m - 1, by omega⟩
    have hP := h.1.1.2.1
    have hW := h.1.1.2.2.2.1
    have hHx := q.Hm.1 p (by omega)
    have hHm := q.Hm.2 p (by omega)
    have em := mulS d W
    have ep := mulS p W
    rw [em] at hm2
    have eX : LX0_keepHitObjects_2 (m + 1) (nI p) sx = if bI (H p) = 0 then LX0_keepHitObjects_2 m (nI (p + 1)) sx else bd (FX0_keepObjectsOf m (nI p) sx) (fun r5 u6 => LX0_keepHitObjects_2 m (nI (p + 1)) u6) := by
      simp only [LX0_keepHitObjects_2, FX1_pages, bd_s, h.2.1.1, if_neg (nI_ge (show p < P by omega) (show P < 2 ^ 31 by omega)), gd_n (show p < 64 by omega) (show 64 < 2 ^ 31 by omega), nI_clamp (show p < 2 ^ 31 by omega), hHx, nI_p1]
    cases hH : H p with
    | false =>
      rw [hH, bI_f] at hHm eX
      have e0 := em_pg0 (show p < P by omega) h.1 h.2.2.1 hHm W 0 m2 (by omega) (by omega)
      rw [Nat.add_zero, ← ep] at e0
      obtain ⟨sx2, sm2, ln2, row2, sv2, m3, kx2, km2, r1, r2, r3, r4, r5⟩ := both_keep d (p + 1) m (m2 - W) sx sm ln row sv h q (by omega) (by omega) (by omega) (fun o ho => by
        obtain ⟨i1, i2⟩ := hi o ho
        rw [ep]
        constructor
        · intro e; have := i1 e; omega
        · intro hlt hh
          refine i2 ?_ hh
          apply Nat.lt_of_not_le
          intro hle
          have e1 : A o / W = p := by
            obtain ⟨j, hj⟩ : ∃ j, A o = p * W + j := ⟨A o - p * W, by omega⟩
            rw [hj]; exact dm_q (by omega)
          rw [e1, hH] at hh; cases hh)
      exact ⟨sx2, sm2, ln2, row2, sv2, m3, kx2, km2, by rw [eX, if_pos rfl]; exact r1, by rw [e0]; exact r2, by omega, r4, r5⟩
    | true =>
      rw [hH, bI_t] at eX
      obtain ⟨sx1, sm1, ln1, row1, sv1, kx, km, s1, s2, q1, i1⟩ := both_pg1 (show p < P by omega) hH W 0 m m2 sx sm ln row sv h q (by omega) (by omega) (by omega) hi
      rw [Nat.add_zero, ← ep] at s2
      rw [← ep] at i1
      obtain ⟨sx2, sm2, ln2, row2, sv2, m3, kx2, km2, r1, r2, r3, r4, r5⟩ := both_keep d (p + 1) m (m2 - W) sx1 sm1 ln1 row1 sv1 (h.keep kx km) q1 (by omega) (by omega) (by omega) i1
      refine ⟨sx2, sm2, ln2, row2, sv2, m3, kx.tr kx2, km.tr km2, ?_, by rw [s2]; exact r2, by omega, r4, r5⟩
      rw [eX, if_neg (by decide)]
      unfold FX0_keepObjectsOf
      rw [n0, s1, bd_s]; exact r1
/-- what stands when the plan stands -/
def Plan (P W n : Nat) (K A R D : Nat → Nat) (C : Nat → Nat → Int32) (ex : Nat → Int32) (sx sm : St) : Prop :=
  ∃ H ln row sv, QQ P W n K A R D H ln row sv sx sm ∧ (∀ r, r < 32 → Cl sv (ex r)) ∧ (∀ j, j < ln → ∀ i, i < R (row j) → Cl sv (C (row j) i)) ∧ ∀ o, o < n → H (A o / W) = true → sv o = true
theorem plan {sx sm : St} (h : RR P W n K F A R D C ex op sx sm) {m : Nat} (hm : 20000 ≤ m) :
    ∃ sx' sm', KeepX sx sx' ∧ KeepM sm sm' ∧ ((FX0_run m sx = some (0, pt sx' 2 11 (sx'.1 2 11 + 1)) ∧ FX3_rows m sm = some (0, sm')) ∨
      (FX0_run m sx = bd (FX0_moveRow m sx') (fun r16 u17 => bd (FX0_tellNewAddresses m u17) (fun r19 u20 => bd (FX0_finish m u20) (fun r22 u23 => some ((1 : Int32), u23)))) ∧ FX3_rows m sm = some (1, sm') ∧ Plan P W n K A R D C ex sx' sm')) := by
  have g := h.1
  have hn := g.nle
  have hP := g.1.2.1
  have hW := g.1.2.2.2.1
  have hPW := g.PWle
  -- the class is cleared
  obtain ⟨x0, c1, c2, c3⟩ := ex_clear g sx (show 64 < m by omega)
  -- the model is cleared
  obtain ⟨s0, es0⟩ : ∃ s0, s0 = (pt (pt (pt (pt (pt sm 14 18 (0 : Int32)) 14 24 (0 : Int32)) 14 25 (0 : Int32)) 14 22 (-1 : Int32)) 14 23 (0 : Int32)) := ⟨_, rfl⟩
  obtain ⟨s1, m1, d1, d2, d3, d4⟩ := em_27 64 0 m s0 (by omega) (by omega) (fun j hj => by omega)
  have s07 : s1.1 14 7 = nI n := by
    rw [d4 14 (by decide), es0, pt_j _ _ _ _ (by decide), pt_j _ _ _ _ (by decide), pt_j _ _ _ _ (by decide), pt_j _ _ _ _ (by decide), pt_j _ _ _ _ (by decide)]; exact h.2.2.2.2.2.2.1.1
  obtain ⟨s2, m2, e1, e2, e3, e4⟩ := em_48 hn n 0 m1 s1 (by omega) (by omega) s07 (fun j hj => by omega)
  obtain ⟨s3, m3, f1, f2, f3, f4⟩ := em_h2 64 0 m2 s2 (by omega) (by omega) (fun j hj => by omega)
  have cc : ∀ c, c ≠ 27 → c ≠ 28 → c ≠ 29 → s3.1 c = s0.1 c := fun c h1 h2 h3 => by rw [f4 c h2, e4 c h1, d4 c h3]
  have km0 : KeepM sm s3 := by
    refine ⟨fun c a1 a2 a3 a4 a5 => ?_, fun j hj => ?_⟩
    · rw [cc c a3 a4 a5, es0, pt_n _ _ _ _ a1, pt_n _ _ _ _ a1, pt_n _ _ _ _ a1, pt_n _ _ _ _ a1, pt_n _ _ _ _ a1]
    · rw [cc 14 (by decide) (by decide) (by decide), es0, pt_j _ _ _ _ (by omega), pt_j _ _ _ _ (by omega), pt_j _ _ _ _ (by omega), pt_j _ _ _ _ (by omega), pt_j _ _ _ _ (by omega)]
  have pm0 : PM n 0 fN fN fB fB fN (-1) 0 0 0 s3 := by
    refine ⟨?_, fun k hk => by omega, fun o ho => ?_, fun p hp => f3 p hp, fun p hp => ?_, ?_, ?_, ?_, ?_⟩
    · rw [cc 14 (by decide) (by decide) (by decide), es0, pt_j _ _ _ _ (by decide), pt_j _ _ _ _ (by decide), pt_j _ _ _ _ (by decide), pt_j _ _ _ _ (by decide), pt_k]; rfl
    · rw [f4 27 (by decide), e3 o ho, if_neg (fun q => by cases q)]
    · rw [f4 29 (by decide), e4 29 (by decide), d3 p hp]; rfl
    · rw [cc 14 (by decide) (by decide) (by decide), es0, pt_j _ _ _ _ (by decide), pt_k]
    · rw [cc 14 (by decide) (by decide) (by decide), es0, pt_k]; rfl
    · rw [cc 14 (by decide) (by decide) (by decide), es0, pt_j _ _ _ _ (by decide), pt_j _ _ _ _ (by decide), pt_j _ _ _ _ (by decide), pt_k]; rfl
    · rw [cc 14 (by decide) (by decide) (by decide), es0, pt_j _ _ _ _ (by decide), pt_j _ _ _ _ (by decide), pt_k]; rfl
  have gh0 : GH P W n K A R D fB := ⟨fun p hp => (by cases hp), fun o p _ _ => Iff.rfl⟩
  have h0 := h.keep c2 km0
  obtain ⟨sx1, sm1, H, kx1, km1, r1, r2, r3, r4, r5⟩ := both_hits 32 0 m m3 x0 s3 fB h0 gh0 c3 pm0 (by omega) (by omega) (by omega)
  have h1 := h0.keep kx1 km1
  have hpw : P * W + 4400 < m2 := by omega
  obtain ⟨sx2, sm2, ln2, row2, sv2, m4, kx2, km2, t1, t2, t3, q2, i2⟩ := both_keep P 0 m m2 sx1 sm1 0 fN fB h1 ⟨_, _, _, _, _, _, _, r3.pi, r4, r5⟩ (by omega) (by omega) hpw (fun o ho => ⟨fun e => (by cases e), fun e => (by omega)⟩)
  have h2 := h1.keep kx2 km2
  rw [Nat.zero_mul] at t2
  have eX0 : FX0_run m sx = bd (FX0_reachFromRoots m sx2) (fun r10 u11 => (if r10 = 0 then some ((0 : Int32), (pt u11 2 11 ((u11.1 2 11) + (1 : Int32)))) else bd (FX0_reachFromRow m u11) (fun r13 u14 => (if r13 = 0 then some ((0 : Int32), (pt u14 2 11 ((u14.1 2 11) + (1 : Int32)))) else bd (FX0_moveRow m u14) (fun r16 u17 => bd (FX0_tellNewAddresses m u17) (fun r19 u20 => bd (FX0_finish m u20) (fun r22 u23 => some ((1 : Int32), u23)))))))) := by
    unfold FX0_run FX0_markHits FX0_keepHitObjects
    rw [c1, bd_s, n0, r1, bd_s, t1, bd_s]
  have eM0 : FX3_rows m sm = LX3_rows_126 m4 (nI 0) sm2 := by
    have : FX3_rows m sm = LX3_rows_27 m (nI 0) s0 := by unfold FX3_rows; rw [← es0]; rfl
    rw [this, d1, e1]
    unfold FX3_hits
    rw [show (0 : Int32) = nI 0 from rfl, f1, r2, bd_s, t2]
  have hKH : KH n W A H sv2 := fun o ho hh => by
    have hA := (g.2.2.2.1 o ho).2.2
    simp only [szo] at hA
    exact (i2 o ho).2 (by omega) hh
  obtain ⟨sx3, sm3, kx3, km3, hc⟩ := both_roots 32 0 m m4 sx2 sm2 ln2 row2 sv2 h2 q2 hKH (by omega) (by omega) (by omega)
  have kxa := c2.tr (kx1.tr (kx2.tr kx3))
  have kma := km0.tr (km1.tr (km2.tr km3))
  rcases hc with ⟨u1, u2⟩ | ⟨u1, m5, u2, u3, ln3, row3, sv3, q3, gr3, hcl⟩
  · refine ⟨sx3, sm3, kxa, kma, Or.inl ⟨?_, by rw [eM0, u2]⟩⟩
    rw [eX0]
    unfold FX0_reachFromRoots
    rw [← n0] at u1
    rw [u1, bd_s, if_pos rfl]
  · have h3 := h2.keep kx3 km3
    obtain ⟨sx4, sm4, kx4, km4, hc4⟩ := both_row n 0 m m5 sx3 sm3 ln3 row3 sv3 h3 q3 (hKH.gr gr3) (by omega) (by omega) (by omega) (fun j hj => by omega)
    have eX1 : FX0_run m sx = bd (LX0_reachFromRow_2 m (nI 0) sx3) (fun r13 u14 => (if r13 = 0 then some ((0 : Int32), (pt u14 2 11 ((u14.1 2 11) + (1 : Int32)))) else bd (FX0_moveRow m u14) (fun r16 u17 => bd (FX0_tellNewAddresses m u17) (fun r19 u20 => bd (FX0_finish m u20) (fun r22 u23 => some ((1 : Int32), u23)))))) := by
      rw [eX0]
      unfold FX0_reachFromRoots FX0_reachFromRow
      rw [← n0] at u1
      rw [u1, bd_s, if_neg (by decide)]; rfl
    refine ⟨sx4, sm4, kxa.tr kx4, kma.tr km4, ?_⟩
    rcases hc4 with ⟨w1, w2⟩ | ⟨w1, w2, ln4, row4, sv4, q4, gr4, hcl4⟩
    · exact Or.inl ⟨by rw [eX1, w1, bd_s, if_pos rfl], by rw [eM0, u3, w2]⟩
    · refine Or.inr ⟨by rw [eX1, w1, bd_s, if_neg (by decide)], by rw [eM0, u3, w2], H, ln4, row4, sv4, q4, fun r hr => Cl.gr gr4 (hcl r (Nat.zero_le _) hr), hcl4, fun o ho hh => ?_⟩
      have hA := (g.2.2.2.1 o ho).2.2
      simp only [szo] at hA
      exact gr4.2.2 o (gr3.2.2 o ((i2 o ho).2 (by omega) hh))
end
