/-! the row is made: from the roots, from the row -/
def KH (n W : Nat) (A : Nat → Nat) (H sv : Nat → Bool) : Prop := ∀ o, o < n → H (A o / W) = true → sv o = true
theorem KH.gr {n W ln ln' : Nat} {A row row' : Nat → Nat} {H sv sv' : Nat → Bool} (g : Grow ln row sv ln' row' sv') (h : KH n W A H sv) : KH n W A H sv' := fun o ho hh => g.2.2 o (h o ho hh)
def Cl (sv : Nat → Bool) (v : Int32) : Prop := v = -1 ∨ sv v.toNatClampNeg = true
theorem Cl.gr {ln ln' : Nat} {row row' : Nat → Nat} {sv sv' : Nat → Bool} (g : Grow ln row sv ln' row' sv') {v : Int32} (h : Cl sv v) : Cl sv' v := by
  rcases h with h | h
  · exact Or.inl h
  · exact Or.inr (g.2.2 _ h)
theorem QQ.kx {P W n : Nat} {K A R D : Nat → Nat} {H : Nat → Bool} {ln : Nat} {row : Nat → Nat} {sv : Nat → Bool} {sx sm : St} (q : QQ P W n K A R D H ln row sv sx sm) : sx.1 2 2 = nI ln ∧ (∀ k, k < ln → sx.1 9 k = nI (A (row k))) ∧ sm.1 14 18 = nI ln ∧ (∀ k, k < ln → sm.1 26 k = nI (row k)) ∧ ln ≤ n ∧ ∀ k, k < ln → row k < n := by
  obtain ⟨B, S, T, tg, tf, tk, mv, pi, px, pm⟩ := q
  exact ⟨px.1, px.2.1, pm.1, pm.2.1, pi.lnle, fun k hk => pi.rn hk⟩
section
variable {P W n : Nat} {K F A R D : Nat → Nat} {H : Nat → Bool} {C : Nat → Nat → Int32} {ex : Nat → Int32} {op : Int32}
theorem both_roots : ∀ (d r m m2 : Nat) (sx sm : St) (ln : Nat) (row : Nat → Nat) (sv : Nat → Bool), RR P W n K F A R D C ex op sx sm → QQ P W n K A R D H ln row sv sx sm → KH n W A H sv → r + d = 32 → d + 100 < m → d + 100 < m2 →
    ∃ sx' sm', KeepX sx sx' ∧ KeepM sm sm' ∧ ((LX0_reachFromRoots_2 m (nI r) sx = some (0, sx') ∧ LX3_rows_126 m2 (nI r) sm = some (0, sm')) ∨
      (LX0_reachFromRoots_2 m (nI r) sx = some (1, sx') ∧ ∃ m3, m2 ≤ m3 + (d + 1) ∧ LX3_rows_126 m2 (nI r) sm = LX3_rows_155 m3 (nI 0) sm' ∧ ∃ ln' row' sv', QQ P W n K A R D H ln' row' sv' sx' sm' ∧ Grow ln row sv ln' row' sv' ∧ ∀ j, r ≤ j → j < 32 → Cl sv' (ex j)))
  | 0, r, m, m2, sx, sm, ln, row, sv, h, q, hK, hd, hm, hm2 => by
    obtain ⟨m, rfl⟩ : ∃ j, m = j + 1 := ⟨m - 1, by omega⟩
    obtain ⟨m2, rfl⟩ : ∃ j, m2 = j + 1 := ⟨m2 - 1, by omega⟩
    have e : (32 : Int32) ≤ nI r := nI_le (a := 32) (by omega) (by omega)
    refine ⟨sx, sm, KeepX.rfl' _, KeepM.rfl' _, Or.inr ⟨?_, m2, by omega, ?_, ln, row, sv, q, Grow.rfl' _ _ _, fun j h1 h2 => by omega⟩⟩
    · simp only [LX0_reachFromRoots_2]; rw [if_pos e]
    · simp only [LX3_rows_126]; rw [if_pos e]; rfl
  | d + 1, r, m, m2, sx, sm, ln, row, sv, h, q, hK, hd, hm, hm2 => by
    obtain ⟨m, rfl⟩ : ∃ j, m = j + 1 := ⟨m - 1, by omega⟩
    obtain ⟨m2, rfl⟩ : ∃ j, m2 = j + 1 := ⟨m2 - 1, by omega⟩
    have e : ¬ (32 : Int32) ≤ nI r := nI_ge (b := 32) (by omega) (by omega)
    obtain ⟨t1, t2, t3⟩ := h.2.2.2.2.2.2.2.2.1 r (by omega)
    obtain ⟨sx', sm', kx, km, hc⟩ := both_reach h q hK t1 (show 64 < m by omega) (show 64 < m2 by omega)
    have eX : LX0_reachFromRoots_2 (m + 1) (nI r) sx = bd (FX0_reach m (ad A (ex r)) sx) (fun r2 u3 => (if r2 = 0 then some ((0 : Int32), u3) else LX0_reachFromRoots_2 m (nI (r + 1)) u3)) := by
      simp only [LX0_reachFromRoots_2, if_neg e, gd_n (show r < 32 by omega) (show 32 < 2 ^ 31 by omega), nI_clamp (show r < 2 ^ 31 by omega), t3, nI_p1]
    have eM : LX3_rows_126 (m2 + 1) (nI r) sm = bd (FX3_comes m2 (ex r) sm) (fun r18 u19 => (if r18 = 0 then some ((0 : Int32), u19) else LX3_rows_126 m2 (nI (r + 1)) u19)) := by
      simp only [LX3_rows_126, if_neg e, gd_n (show r < 32 by omega) (show 32 < 2 ^ 31 by omega), nI_clamp (show r < 2 ^ 31 by omega), t2, nI_p1]
    rcases hc with ⟨h1, h2⟩ | ⟨h1, h2, ln1, row1, sv1, q1, gr1, hcl⟩
    · exact ⟨sx', sm', kx, km, Or.inl ⟨by rw [eX, h1, bd_s, if_pos rfl], by rw [eM, h2, bd_s, if_pos rfl]⟩⟩
    · rw [eX, eM, h1, h2, bd_s, bd_s, if_neg (by decide), if_neg (by decide)]
      obtain ⟨sx2, sm2, kx2, km2, hc2⟩ := both_roots d (r + 1) m m2 sx' sm' ln1 row1 sv1 (h.keep kx km) q1 (hK.gr gr1) (by omega) (by omega) (by omega)
      refine ⟨sx2, sm2, kx.tr kx2, km.tr km2, ?_⟩
      rcases hc2 with hf | ⟨i1, m3, i2, i3, ln2, row2, sv2, q2, gr2, hcl2⟩
      · exact Or.inl hf
      · refine Or.inr ⟨i1, m3, by omega, i3, ln2, row2, sv2, q2, gr1.tr gr2, fun j j1 j2 => ?_⟩
        by_cases ej : j = r
        · rw [ej]; exact Cl.gr gr2 hcl
        · exact hcl2 j (by omega) j2
theorem both_refs {k : Nat} : ∀ (d i m m2 : Nat) (sx sm : St) (ln : Nat) (row : Nat → Nat) (sv : Nat → Bool), RR P W n K F A R D C ex op sx sm → QQ P W n K A R D H ln row sv sx sm → KH n W A H sv → k < ln → i + d = R (row k) → d + 100 < m → d + 100 < m2 →
    ∃ sx' sm', KeepX sx sx' ∧ KeepM sm sm' ∧ ((LX0_reachFromRow_35 m (nI k) (nI (R (row k))) (nI i) sx = some (.inr (0, sx')) ∧ LX3_rows_165 m2 (nI k) (nI i) sm = some (.inr (0, sm'))) ∨
      (LX0_reachFromRow_35 m (nI k) (nI (R (row k))) (nI i) sx = some (.inl (nI k, nI (R (row k)), nI (R (row k)), sx')) ∧ LX3_rows_165 m2 (nI k) (nI i) sm = some (.inl (nI k, nI (R (row k)), sm')) ∧ ∃ ln' row' sv', QQ P W n K A R D H ln' row' sv' sx' sm' ∧ Grow ln row sv ln' row' sv' ∧ ∀ j, i ≤ j → j < R (row k) → Cl sv' (C (row k) j)))
  | 0, i, m, m2, sx, sm, ln, row, sv, h, q, hK, hk, hd, hm, hm2 => by
    obtain ⟨m, rfl⟩ : ∃ j, m = j + 1 := ⟨m - 1, by omega⟩
    obtain ⟨m2, rfl⟩ : ∃ j, m2 = j + 1 := ⟨m2 - 1, by omega⟩
    obtain ⟨a1, a2, a3, a4, a5, a6⟩ := q.kx
    have hn := h.1.nle
    have ho := a6 k hk
    have hR := (h.1.2.2.2.1 _ ho).1
    obtain ⟨-, y2, -, y4, y5⟩ := h.2.2.2.2.2.2.1.2.2 _ ho
    have e : nI (R (row k)) ≤ nI i := nI_le (by omega) (by omega)
    refine ⟨sx, sm, KeepX.rfl' _, KeepM.rfl' _, Or.inr ⟨?_, ?_, ln, row, sv, q, Grow.rfl' _ _ _, fun j h1 h2 => by omega⟩⟩
    · simp only [LX0_reachFromRow_35]; rw [if_pos e, show i = R (row k) by omega]
    · simp only [LX3_rows_165, gd_n (show k < 4200 by omega) (show 4200 < 2 ^ 31 by omega), nI_clamp (show k < 2 ^ 31 by omega), a4 k hk, gd_n (show row k < 4200 by omega) (show 4200 < 2 ^ 31 by omega), nI_clamp (show row k < 2 ^ 31 by omega), y2]
      rw [if_pos e, show i = R (row k) by omega]
  | d + 1, i, m, m2, sx, sm, ln, row, sv, h, q, hK, hk, hd, hm, hm2 => by
    obtain ⟨m, rfl⟩ : ∃ j, m = j + 1 := ⟨m - 1, by omega⟩
    obtain ⟨m2, rfl⟩ : ∃ j, m2 = j + 1 := ⟨m2 - 1, by omega⟩
    obtain ⟨a1, a2, a3, a4, a5, a6⟩ := q.kx
    have hn := h.1.nle
    have ho := a6 k hk
    have hR := (h.1.2.2.2.1 _ ho)
    have hA := h.1.Alt ho
    have hFr := h.1.fr ho
    simp only [szo] at hA
    obtain ⟨-, y2, -, y4, y5⟩ := h.2.2.2.2.2.2.1.2.2 _ ho
    have x2 := (h.2.2.2.1 _ ho).2.1 i (by omega)
    have y6 := y5 i (by omega)
    have t1 := h.2.2.2.2.2.2.2.1 (row k) i ho (by omega)
    have e : ¬ nI (R (row k)) ≤ nI i := nI_ge (by omega) (by omega)
    obtain ⟨sx', sm', kx, km, hc⟩ := both_reach h q hK t1 (show 64 < m by omega) (show 64 < m2 by omega)
    have eX : LX0_reachFromRow_35 (m + 1) (nI k) (nI (R (row k))) (nI i) sx = bd (FX0_reach m (ad A (C (row k) i)) sx) (fun r9 u10 => (if r9 = 0 then some (.inr ((0 : Int32), u10)) else LX0_reachFromRow_35 m (nI k) (nI (R (row k))) (nI (i + 1)) u10)) := by
      simp only [LX0_reachFromRow_35, FX1_ref, if_neg e, gd_n (show k < 4096 by omega) (show 4096 < 2 ^ 31 by omega), nI_clamp (show k < 2 ^ 31 by omega), a2 k hk, nI_p1, nI_add, gd_n (show A (row k) + 1 + i < 4096 by omega) (show 4096 < 2 ^ 31 by omega), nI_clamp (show A (row k) + 1 + i < 2 ^ 31 by omega), bd_s, x2]
    have eM : LX3_rows_165 (m2 + 1) (nI k) (nI i) sm = bd (FX3_comes m2 (C (row k) i) sm) (fun r9 u10 => (if r9 = 0 then some (.inr ((0 : Int32), u10)) else LX3_rows_165 m2 (nI k) (nI (i + 1)) u10)) := by
      simp only [LX3_rows_165, gd_n (show k < 4200 by omega) (show 4200 < 2 ^ 31 by omega), nI_clamp (show k < 2 ^ 31 by omega), a4 k hk, gd_n (show row k < 4200 by omega) (show 4200 < 2 ^ 31 by omega), nI_clamp (show row k < 2 ^ 31 by omega), y2, if_neg e, y4, nI_add, gd_n (show Fr R D (row k) + i < 9000 by omega) (show 9000 < 2 ^ 31 by omega), nI_clamp (show Fr R D (row k) + i < 2 ^ 31 by omega), y6, nI_p1]
    rcases hc with ⟨h1, h2⟩ | ⟨h1, h2, ln1, row1, sv1, q1, gr1, hcl⟩
    · exact ⟨sx', sm', kx, km, Or.inl ⟨by rw [eX, h1, bd_s, if_pos rfl], by rw [eM, h2, bd_s, if_pos rfl]⟩⟩
    · rw [eX, eM, h1, h2, bd_s, bd_s, if_neg (by decide), if_neg (by decide)]
      have er : row1 k = row k := gr1.2.1 k hk
      obtain ⟨sx2, sm2, kx2, km2, hc2⟩ := both_refs (k := k) d (i + 1) m m2 sx' sm' ln1 row1 sv1 (h.keep kx km) q1 (hK.gr gr1) (Nat.lt_of_lt_of_le hk gr1.1) (by rw [er]; omega) (by omega) (by omega)
      rw [er] at hc2
      refine ⟨sx2, sm2, kx.tr kx2, km.tr km2, ?_⟩
      rcases hc2 with hf | ⟨i1, i2, ln2, row2, sv2, q2, gr2, hcl2⟩
      · exact Or.inl hf
      · refine Or.inr ⟨i1, i2, ln2, row2, sv2, q2, gr1.tr gr2, fun j j1 j2 => ?_⟩
        by_cases ej : j = i
        · rw [ej]; exact Cl.gr gr2 hcl
        · exact hcl2 j (by omega) j2
theorem both_row : ∀ (d k m m2 : Nat) (sx sm : St) (ln : Nat) (row : Nat → Nat) (sv : Nat → Bool), RR P W n K F A R D C ex op sx sm → QQ P W n K A R D H ln row sv sx sm → KH n W A H sv → k + d = n → d + 200 < m → d + 200 < m2 → (∀ j, j < k → j < ln ∧ ∀ i, i < R (row j) → Cl sv (C (row j) i)) →
    ∃ sx' sm', KeepX sx sx' ∧ KeepM sm sm' ∧ ((LX0_reachFromRow_2 m (nI k) sx = some (0, sx') ∧ LX3_rows_155 m2 (nI k) sm = some (0, sm')) ∨
      (LX0_reachFromRow_2 m (nI k) sx = some (1, sx') ∧ LX3_rows_155 m2 (nI k) sm = some (1, sm') ∧ ∃ ln' row' sv', QQ P W n K A R D H ln' row' sv' sx' sm' ∧ Grow ln row sv ln' row' sv' ∧ ∀ j, j < ln' → ∀ i, i < R (row' j) → Cl sv' (C (row' j) i)))
  | d, k, m, m2, sx, sm, ln, row, sv, h, q, hK, hd, hm, hm2, hj => by
    obtain ⟨m, rfl⟩ : ∃ j, m = j + 1 := ⟨m - 1, by omega⟩
    obtain ⟨m2, rfl⟩ : ∃ j, m2 = j + 1 := ⟨m2 - 1, by omega⟩
    obtain ⟨a1, a2, a3, a4, a5, a6⟩ := q.kx
    have hn := h.1.nle
    by_cases hkl : ln ≤ k
    · have e : nI ln ≤ nI k := nI_le hkl (by omega)
      refine ⟨sx, sm, KeepX.rfl' _, KeepM.rfl' _, Or.inr ⟨?_, ?_, ln, row, sv, q, Grow.rfl' _ _ _, fun j h1 => (hj j (by omega)).2⟩⟩
      · simp only [LX0_reachFromRow_2, a1]
        rw [if_pos e]
        split <;> rfl
      · simp only [LX3_rows_155, a3]; rw [if_pos e]
    · match d, hd with
      | 0, hd => omega
      | d + 1, hd =>
        have e : ¬ nI ln ≤ nI k := nI_ge (by omega) (by omega)
        have e4 : ¬ (4096 : Int32) ≤ nI k := nI_ge (b := 4096) (by omega) (by omega)
        have ho := a6 k (by omega)
        have hR := (h.1.2.2.2.1 _ ho)
        have xr := ex_refs h.1 h.2.2.2.1 ho m
        obtain ⟨sx', sm', kx, km, hc⟩ := both_refs (k := k) (R (row k)) 0 m m2 sx sm ln row sv h q hK (by omega) (by omega) (by omega) (by omega)
        have eX : LX0_reachFromRow_2 (m + 1) (nI k) sx = be (LX0_reachFromRow_35 m (nI k) (nI (R (row k))) (nI 0) sx) (fun q => match q with | .inl (y14, y15, y16, u17) => LX0_reachFromRow_2 m (y14 + (1 : Int32)) u17 | .inr o => some o) := by
          simp only [LX0_reachFromRow_2, if_neg e4, a1, if_neg e, gd_n (show k < 4096 by omega) (show 4096 < 2 ^ 31 by omega), nI_clamp (show k < 2 ^ 31 by omega), a2 k (by omega), xr, bd_s]
          rfl
        have eM : LX3_rows_155 (m2 + 1) (nI k) sm = be (LX3_rows_165 m2 (nI k) (nI 0) sm) (fun q => match q with | .inl (y14, y15, u16) => LX3_rows_155 m2 (y14 + (1 : Int32)) u16 | .inr o => some o) := by
          simp only [LX3_rows_155, a3, if_neg e]
          rfl
        rcases hc with ⟨h1, h2⟩ | ⟨h1, h2, ln1, row1, sv1, q1, gr1, hcl⟩
        · exact ⟨sx', sm', kx, km, Or.inl ⟨by rw [eX, h1, be_s], by rw [eM, h2, be_s]⟩⟩
        · rw [eX, eM, h1, h2, be_s, be_s]
          simp only [nI_p1]
          obtain ⟨sx2, sm2, kx2, km2, hc2⟩ := both_row d (k + 1) m m2 sx' sm' ln1 row1 sv1 (h.keep kx km) q1 (hK.gr gr1) (by omega) (by omega) (by omega) (fun j hj2 => by
            have hjl : j < ln := by omega
            refine ⟨Nat.lt_of_lt_of_le hjl gr1.1, fun i hi => ?_⟩
            rw [gr1.2.1 j hjl] at hi ⊢
            by_cases ej : j = k
            · rw [ej] at hi ⊢; exact hcl i (Nat.zero_le _) hi
            · exact Cl.gr gr1 ((hj j (by omega)).2 i hi))
          refine ⟨sx2, sm2, kx.tr kx2, km.tr km2, ?_⟩
          rcases hc2 with hf | ⟨i1, i2, ln2, row2, sv2, q2, gr2, hcl2⟩
          · exact Or.inl hf
          · exact Or.inr ⟨i1, i2, ln2, row2, sv2, q2, gr1.tr gr2, hcl2⟩
end
