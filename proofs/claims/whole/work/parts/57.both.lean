/-! a collection in both, joined -/
section
variable {P W n ln : Nat} {K F A R D row B T sel : Nat → Nat} {sv H S : Nat → Bool} {tg : Int32} {tf tk mv : Nat} {C : Nat → Nat → Int32} {ex : Nat → Int32} {op : Int32} {sx sm s : St}
theorem RR.give (h : RR P W n K F A R D C ex op sx sm) : RR P W n K F A R D C ex op (pt sx 2 11 (sx.1 2 11 + 1)) (pt sm 25 7 (sm.1 25 7 + 1)) := by
  obtain ⟨g, vx, vM, hOX, hZX, hBX, hOM, hCR, hRT, hLO, hOP, t1, t2, t3, t4, t5, t6, t7, t8⟩ := h
  refine ⟨g, ?_, ?_, ?_, ?_, hBX, ?_, hCR, ?_, ?_, ?_, ?_, ?_, ?_, ?_, ?_, ?_, ?_, ?_⟩
  · unfold VX at *; rw [pt_n _ _ _ _ (by decide), pt_n _ _ _ _ (by decide), pt_n _ _ _ _ (by decide)]; exact vx
  · unfold VM at *; rw [pt_n _ _ _ _ (by decide), pt_n _ _ _ _ (by decide), pt_n _ _ _ _ (by decide)]; exact vM
  · rw [pt_n _ _ _ _ (by decide)]; exact hOX
  · rw [pt_n _ _ _ _ (by decide)]; exact hZX
  · unfold OM at *; rw [pt_n _ _ _ _ (by decide), pt_n _ _ _ _ (by decide), pt_n _ _ _ _ (by decide), pt_n _ _ _ _ (by decide), pt_n _ _ _ _ (by decide), pt_n _ _ _ _ (by decide)]; exact hOM
  · unfold RT at *; rw [pt_n _ _ _ _ (by decide), pt_n _ _ _ _ (by decide)]; exact hRT
  · unfold LO at *; rw [pt_n _ _ _ _ (by decide), pt_n _ _ _ _ (by decide)]; exact hLO
  · unfold OP at *; rw [pt_n _ _ _ _ (by decide), pt_n _ _ _ _ (by decide)]; exact hOP
  · rw [pt_j _ _ _ _ (by decide), pt_j _ _ _ _ (by decide)]; exact t1
  · rw [pt_k, pt_k, t2]
  · rw [pt_j _ _ _ _ (by decide), pt_j _ _ _ _ (by decide)]; exact t3
  · rw [pt_j _ _ _ _ (by decide), pt_j _ _ _ _ (by decide)]; exact t4
  · rw [pt_j _ _ _ _ (by decide), pt_j _ _ _ _ (by decide)]; exact t5
  · rw [pt_j _ _ _ _ (by decide), pt_j _ _ _ _ (by decide)]; exact t6
  · rw [pt_j _ _ _ _ (by decide), pt_j _ _ _ _ (by decide)]; exact t7
  · rw [pt_n _ _ _ _ (by decide), pt_n _ _ _ _ (by decide)]; exact t8
theorem coll (h : RR P W n K F A R D C ex op sx sm) {m : Nat} (hm : 20000 ≤ m) :
    (∃ sx' sm', FX0_run m sx = some (0, sx') ∧ FX3_collected m sm = some (0, sm') ∧ sm'.1 14 0 = sm.1 14 0 ∧ RR P W n K F A R D C ex op sx' sm') ∨
    (∃ sx' sm', FX0_run m sx = some (1, sx') ∧ FX3_collected m sm = some (1, sm') ∧ sm'.1 14 0 = sm.1 14 0 ∧ Rel sx' sm') := by
  obtain ⟨sx1, sm1, kx, km, ⟨e1, e2⟩ | ⟨e1, e2, H, ln, row, sv, ⟨B, S, T, tg, tf, tk, mv, pi, px, pm⟩, hcx, hcl, hK⟩⟩ := plan h hm
  · refine Or.inl ⟨_, _, e1, ?_, ?_, (h.keep kx km).give⟩
    · unfold FX3_collected
      rw [e2, bd_s, if_pos rfl, g7, g7, c7]
    · rw [pt_n _ _ _ _ (by decide)]; exact km.2 0 (by omega)
  · have h1 := h.keep kx km
    have g := h1.1
    have hn := g.nle
    have hP := g.1.2.1
    have hCR := h1.2.2.2.2.2.2.2.1
    have hRT := h1.2.2.2.2.2.2.2.2.1
    have hLO := h1.2.2.2.2.2.2.2.2.2.1
    have hTL := h1.2.2.2.2.2.2.2.2.2.2.2
    obtain ⟨sel, hsel⟩ := sel_ex sv n
    have hsel : Sel n sv sel := hsel
    have hK : KH n W A H sv := hK
    have g' := g.move pi hK hsel
    obtain ⟨u, u1, x1, x2, x3, x4, x5, x6, x7, x8, x9, x10, x11, x12, x13, x14, x15⟩ := x_end h1 pi px hK hsel hcx hcl hm
    obtain ⟨w, w1, y1, y2, y3, y4, y5, y6, y7, y8, y9, y10, y11, y12, y13, y14⟩ := m_end h1 pi pm hsel hcx hcl hm e2
    refine Or.inr ⟨u, w, e1.trans u1, w1, by rw [y6]; exact km.2 0 (by omega), P, W, cnt sv n, _, _, _, _, _, _, fun r => rk sv (ex r), tg, g', x1, y1, x2, x3, x4, y2, fun o i ho hi => ?_, fun r hr => ⟨?_, y3 r hr, ?_⟩, fun r hr => ?_, ⟨x7, y5, ?_⟩, ?_, ?_, ?_, ?_, ?_, ?_, ?_, fun p hp => ⟨?_, ?_⟩⟩
    · obtain ⟨z1, z2, _⟩ := hsel o ho
      have hi : i < R (sel o) := hi
      obtain ⟨k, hk, ek⟩ := (pi.svi _).mp z2
      unfold Cn
      rw [if_pos hi]
      exact rk_ok hn (hCR _ i z1 hi) (by rw [← ek]; exact hcl k hk i (by rw [ek]; exact hi))
    · exact rk_ok hn (hRT r hr).1 (hcx r hr)
    · rw [ad_rk hn hsel (hRT r hr).1 (hcx r hr)]; exact x5 r hr
    · rw [x6, y4]; exact hLO r hr
    · rcases pi.tgt with ⟨q, _⟩ | ⟨q, q1, q2, q3, q4, _⟩
      · exact Or.inl q
      · exact Or.inr ⟨q, q1, q2, K2_t (by omega)⟩
    · rw [y8, x8, hTL.1]
    · rw [y9, x9, hTL.2.1]
    · rw [y10, x10]
    · rw [y11, x11]
    · rw [y12, x12]
    · rw [y13, x13]
    · rw [y14, x14]
    · rw [y7 p hp]; exact bI_01 _
    · rw [y7 p hp]; exact x15 p (by omega)
theorem arm9 {sx sm : St} (h : Rel sx sm) {n : Nat} (hn : 20000 ≤ n) (i : Nat) (xs : Nat → Int32) (oc : Nat → Int64) : Arm (A_law_9 n i xs sx sm oc) := by
  obtain ⟨P, W, N, K, F, A, R, D, C, ex, op, h⟩ := h
  have h' := h.thr 0
  unfold A_law_9 FX2_collect FX3_collect
  rcases coll h' hn with ⟨u, w, e1, e2, _, e3⟩ | ⟨u, w, e1, e2, _, P', W', N', K', F', A', R', D', C', ex', op', e3⟩
  · rw [e1, bd_s, if_pos rfl, bd_s, e2, bd_s, if_pos rfl, bd_s, if_pos rfl]
    exact Arm.mk (rel e3)
  · rw [e1, bd_s, if_neg (by decide), ex_used e3.1.1 e3.2.1 (by omega), bd_s, bd_s, e2, bd_s, if_neg (by decide), em_used e3.1.1 e3.2.2.1 (by omega), bd_s, bd_s, if_pos rfl]
    exact Arm.mk (rel e3)
theorem make_ok (h : RR P W n K F A R D C ex op sx sm) {k r d m : Nat} (hk : k < 32) (hr : r ≤ 31) (hd : d ≤ 200) (hm : 20000 ≤ m) :
    ∃ b u w, FX2_make m (nI k) (nI r) (nI d) sx = some (0, b, u) ∧ FX3_make m (nI k) (nI r) (nI d) sm = some (b, w) ∧ w.1 14 0 = 0 ∧ (b = 0 ∨ b = 1) ∧ Rel u w := by
  have h' := h.thr 0
  have hroot : ¬ (nI k < 0 ∨ (32 : Int32) ≤ nI k) := fun q => by
    rcases q with q | q
    · exact nI_l0 (by omega) q
    · exact nI_ge (b := 32) hk (by omega) q
  have es : ((1 : Int32) + nI r) + nI d = nI (1 + r + d) := by rw [n1_p, nI_add]
  have r0 := nI_l0 (show r < 2 ^ 31 by omega)
  have d0 := nI_l0 (show d < 2 ^ 31 by omega)
  have r1 : nI r ≤ (31 : Int32) := nI_le (b := 31) hr (by omega)
  have r2 : ¬ (31 : Int32) < nI r := fun q => by
    have := (nI_ltI (a := 31) (b := r) (by omega) (by omega)).mp q
    omega
  have d1 : nI d ≤ (200 : Int32) := nI_le (b := 200) hd (by omega)
  have gk : ∀ {α : Type} {x : Option α}, gd (nI k) 32 x = x := gd_n hk (by omega)
  have ck := nI_clamp (show k < 2 ^ 31 by omega)
  have t0 : (pt sm 14 0 (0 : Int32)).1 14 0 = 0 := pt_k _ _ _ _
  rcases room h'.1 h'.2.1 h'.2.2.1 h'.2.2.2.2.2.2.2.2.2.2.1 (s := 1 + r + d) (m := m) (by omega) (by omega) (by omega) with ⟨q1, q2⟩ | ⟨a, K', F', op', sm1, q1, q2, q3, q4⟩
  · rcases coll h' hm with ⟨u, w, e1, e2, e3, e4⟩ | ⟨u, w, e1, e2, e3, P', W', N', K', F', A', R', D', C', ex', op', e4⟩
    · -- given up: there is no room behind it
      have f1 : FX1_roomFor m (nI (1 + r + d)) u = some (-1, u) := by
        rcases room e4.1 e4.2.1 h'.2.2.1 ⟨e4.2.2.2.2.2.2.2.2.2.2.1.1, h'.2.2.2.2.2.2.2.2.2.2.1.2.1, h'.2.2.2.2.2.2.2.2.2.2.1.2.2⟩ (s := 1 + r + d) (m := m) (by omega) (by omega) (by omega) with ⟨z1, _⟩ | ⟨a, K', F', op', sm1, z1, z2, z3, z4⟩
        · exact z1
        · have hb := (put_fact e4.1 (by omega) z3).b
          have hPW := e4.1.PWle
          rw [q2] at z2
          have z5 : (-1 : Int32) = nI a := congrArg (fun q => (q.getD (0, sm)).1) z2
          exact absurd z5 (m1_nI (by omega))
      refine ⟨0, u, w, ?_, ?_, e3.trans t0, Or.inl rfl, rel e4⟩
      · simp only [FX2_make, ex_needRoot, if_neg hroot, bth_0, if_neg r0, if_pos r1, if_neg d0, if_pos d1, es, q1, bd_s, m1m1, if_true, e1, f1]
      · simp only [FX3_make, em_isRoot, if_neg hroot, bd_s, i10, if_false, if_neg r0, if_neg r2, if_neg d0, if_pos d1, es, q2, m1m1, if_true, e2]
    · rcases room e4.1 e4.2.1 e4.2.2.1 e4.2.2.2.2.2.2.2.2.2.2.1 (s := 1 + r + d) (m := m) (by omega) (by omega) (by omega) with ⟨z1, z2⟩ | ⟨a, K', F', op', sm1, z1, z2, z3, z4⟩
      · refine ⟨0, u, w, ?_, ?_, e3.trans t0, Or.inl rfl, rel e4⟩
        · simp only [FX2_make, ex_needRoot, if_neg hroot, bth_0, if_neg r0, if_pos r1, if_neg d0, if_pos d1, es, q1, bd_s, m1m1, if_true, e1, z1]
        · simp only [FX3_make, em_isRoot, if_neg hroot, bd_s, i10, if_false, if_neg r0, if_neg r2, if_neg d0, if_pos d1, es, q2, m1m1, if_true, e2, z2, JX3_make_77]
      · have hb := (put_fact e4.1 (by omega) z3).b
        have hPW := e4.1.PWle
        obtain ⟨u2, w2, p1, p2, p3, p4⟩ := both_put e4 hk hr hd (show 4200 ≤ m by omega) z3 z4
        refine ⟨1, _, w2, ?_, ?_, by rw [p3, z4.2.2.2 0 (by decide)]; exact e3.trans t0, Or.inr rfl, p4⟩
        · simp only [FX2_make, ex_needRoot, if_neg hroot, bth_0, if_neg r0, if_pos r1, if_neg d0, if_pos d1, es, q1, bd_s, m1m1, if_true, e1, z1, if_neg (nI_m1 (show a < 2 ^ 31 by omega)), p1, gk, ck]
        · simp only [FX3_make, em_isRoot, if_neg hroot, bd_s, i10, if_false, if_neg r0, if_neg r2, if_neg d0, if_pos d1, es, q2, m1m1, if_true, e2, z2, p2]
  · have hb := (put_fact h.1 (by omega) q3).b
    have hPW := h.1.PWle
    obtain ⟨u2, w2, p1, p2, p3, p4⟩ := both_put h' hk hr hd (show 4200 ≤ m by omega) q3 q4
    refine ⟨1, _, w2, ?_, ?_, by rw [p3, q4.2.2.2 0 (by decide)]; exact t0, Or.inr rfl, p4⟩
    · simp only [FX2_make, ex_needRoot, if_neg hroot, bth_0, if_neg r0, if_pos r1, if_neg d0, if_pos d1, es, q1, bd_s, if_neg (nI_m1 (show a < 2 ^ 31 by omega)), p1, gk, ck]
    · simp only [FX3_make, em_isRoot, if_neg hroot, bd_s, i10, if_false, if_neg r0, if_neg r2, if_neg d0, if_pos d1, es, q2, if_neg (nI_m1 (show a < 2 ^ 31 by omega)), p2]
theorem arm1 {sx sm : St} (h : Rel sx sm) {n : Nat} (hn : 20000 ≤ n) (i : Nat) (xs : Nat → Int32) (oc : Nat → Int64) : Arm (A_law_1 n i xs sx sm oc) := by
  obtain ⟨P, W, N, K, F, A, R, D, C, ex, op, h⟩ := h
  have h' := h.thr 0
  unfold A_law_1 FL_make
  generalize xs (i + 1) = x
  generalize xs (i + 2) = y
  generalize xs (i + 3) = z
  have bad : ∀ (fx : FX2_make n x y z sx = some (1, 0, sx)) (fm : FX3_make n x y z sm = some (0, pt (pt sm 14 0 0) 14 0 1)), Arm (be (btw (FX2_make n x y z sx) (fun r u => some (0, u, (vp_updL oc (0 : Int32).toNatClampNeg (if r = 0 then (0 : Int64) else 1)))) (fun t u => if t = 1 then some (1, u, oc) else none)) (fun (r1, u2, o4) => bd (FX3_make n x y z sm) (fun r5 u6 => bd (FX3_thrown n u6) (fun r8 u9 => (if r8 = r1 then (if r1 = 0 then (if r5 = 0 then (if (lg_cmp (o4 (0 : Int32).toNatClampNeg) (0 : Int64)) = 0 then some (u2, u9, o4) else none) else (if (lg_cmp (o4 (0 : Int32).toNatClampNeg) (1 : Int64)) = 0 then some (u2, u9, o4) else none)) else some (u2, u9, o4)) else none))))) := fun fx fm => by
    rw [fx, fm]
    simp only [btw_1, if_true, be_s, bd_s, thrown_e, pt_k, i10, if_false]
    exact Arm.mk (rel (h'.thr 1))
  by_cases hx : x < 0 ∨ 32 ≤ x
  · exact bad (by simp only [FX2_make, ex_needRoot, if_pos hx, bth_1]) (by simp only [FX3_make, em_isRoot, if_pos hx, bd_s, if_true])
  · by_cases hy : y < 0
    · exact bad (by simp only [FX2_make, ex_needRoot, if_neg hx, bth_0, if_pos hy]) (by simp only [FX3_make, em_isRoot, if_neg hx, bd_s, i10, if_false, if_pos hy])
    · by_cases hy2 : y ≤ 31
      · obtain ⟨r, _, hr, rfl⟩ := rng (lo := 0) (hi := 31) (l := 0) (h := 31) rfl rfl (by omega) (by omega) hy hy2
        have r2 : ¬ (31 : Int32) < nI r := fun q => by
          have := (nI_ltI (a := 31) (b := r) (by omega) (by omega)).mp q
          omega
        by_cases hz : z < 0
        · exact bad (by simp only [FX2_make, ex_needRoot, if_neg hx, bth_0, if_neg hy, if_pos hy2, if_pos hz]) (by simp only [FX3_make, em_isRoot, if_neg hx, bd_s, i10, if_false, if_neg hy, if_neg r2, if_pos hz])
        · by_cases hz2 : z ≤ 200
          · obtain ⟨d, _, hd, rfl⟩ := rng (lo := 0) (hi := 200) (l := 0) (h := 200) rfl rfl (by omega) (by omega) hz hz2
            obtain ⟨k, hk, rfl⟩ := isr hx
            obtain ⟨b, u, w, e1, e2, e3, e4, e5⟩ := make_ok h hk hr hd hn
            rw [e1, e2]
            rcases e4 with rfl | rfl
            · simp only [btw_0, be_s, bd_s, thrown_e, e3, if_true, out_s, lg_same]
              exact Arm.mk e5
            · simp only [btw_0, be_s, bd_s, thrown_e, e3, if_true, i10, if_false, out_s, lg_same]
              exact Arm.mk e5
          · exact bad (by simp only [FX2_make, ex_needRoot, if_neg hx, bth_0, if_neg hy, if_pos hy2, if_neg hz, if_neg hz2]) (by simp only [FX3_make, em_isRoot, if_neg hx, bd_s, i10, if_false, if_neg hy, if_neg r2, if_neg hz, if_neg hz2])
      · have hy3 : (31 : Int32) < y := by
          rw [Int32.le_iff_toInt_le] at hy2
          rw [Int32.lt_iff_toInt_lt]
          omega
        exact bad (by simp only [FX2_make, ex_needRoot, if_neg hx, bth_0, if_neg hy, if_neg hy2]) (by simp only [FX3_make, em_isRoot, if_neg hx, bd_s, i10, if_false, if_neg hy, if_pos hy3])
end
