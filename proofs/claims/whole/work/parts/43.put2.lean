/-! a new object is put: the class's side and the model's -/
theorem bit_or {w : Int64} {j k : Nat} (hj : j < 64) (hk : k < 64) : bit (w ||| ((1 : Int64) <<< ((nI j).toInt64 &&& 63))) k = (bit w k || decide (k = j)) := by
  have e : ((1 : Int64) <<< ((nI j).toInt64 &&& 63)).toBitVec.getLsbD k = decide (k = j) := by
    have h : ∀ j, j < 64 → ∀ k, k < 64 → ((1 : Int64) <<< ((nI j).toInt64 &&& 63)).toBitVec.getLsbD k = decide (k = j) := by decide +kernel
    exact h j hj k hk
  unfold bit
  rw [Int64.toBitVec_or, BitVec.getLsbD_or, e]
theorem bit_1 : ∀ k, k < 64 → bit (1 : Int64) k = decide (k = 0) := by decide +kernel
theorem bit_0 : ∀ k, k < 64 → bit (0 : Int64) k = false := by decide +kernel
section
variable {P W n : Nat} {K F A R D K' F' : Nat → Nat} {C : Nat → Nat → Int32} {ex : Nat → Int32} {op op' : Int32} {sx sm : St}
theorem ex_pg (v : VX P W K F sx) (hW : 0 < W) (hW2 : W ≤ 64) {a : Nat} (ha : a < 2 ^ 31) (m : Nat) : FX1_pageOf m (nI a) sx = some (nI (a / W), sx) := by
  unfold FX1_pageOf
  rw [v.2.1, dz_n hW (by omega), nI_div a ha hW (by omega)]
theorem ex_62 {a r : Nat} (x3 : Int32) (hb : a + 1 + r ≤ 4096) : ∀ (d i m : Nat) (st : St), i + d = r → d < m → ∃ u, LX1_putNew_62 m (nI a) (nI r) x3 (nI i) st = some (0, u) ∧ (∀ c, c ≠ 5 → u.1 c = st.1 c) ∧ u.2 = st.2 ∧ ∀ x, u.1 5 x = if a + 1 + i ≤ x ∧ x < a + 1 + r then -1 else st.1 5 x
  | 0, i, m, st, hd, hm => by
    obtain ⟨m, rfl⟩ : ∃ j, m = j + 1 := ⟨m - 1, by omega⟩
    have e : i = r := by omega
    subst e
    refine ⟨st, ?_, fun c _ => rfl, rfl, fun x => by rw [if_neg (by omega)]⟩
    simp only [LX1_putNew_62]
    rw [if_pos (nI_le (Nat.le_refl _) (by omega))]
  | d + 1, i, m, st, hd, hm => by
    obtain ⟨m, rfl⟩ : ∃ j, m = j + 1 := ⟨m - 1, by omega⟩
    obtain ⟨u, u1, u2, u3, u4⟩ := ex_62 x3 hb d (i + 1) m (pt st 5 (a + 1 + i) (-1)) (by omega) (by omega)
    refine ⟨u, ?_, fun c hc => by rw [u2 c hc, pt_n _ _ _ _ hc], u3, fun x => ?_⟩
    · simp only [LX1_putNew_62, FX1_setRef, if_neg (nI_ge (show i < r by omega) (show r < 2 ^ 31 by omega)), nI_p1, nI_add, gd_n (show a + 1 + i < 4096 by omega) (show 4096 < 2 ^ 31 by omega), nI_clamp (show a + 1 + i < 2 ^ 31 by omega), bd_s]
      exact u1
    · rw [u4 x, pt_s]
      by_cases e : x = a + 1 + i
      · rw [if_neg (by omega), if_pos e, if_pos (by omega)]
      · rw [if_neg e]
        by_cases h : a + 1 + (i + 1) ≤ x ∧ x < a + 1 + r
        · rw [if_pos h, if_pos (by omega)]
        · rw [if_neg h, if_neg (by omega)]
theorem ex_46 {a r d m : Nat} (hb : a + 1 + r ≤ 4096) (hm : r < m) (st : St) : ∃ u, JX1_putNew_46 m (nI a) (nI r) (nI d) st = some (0, u) ∧ (∀ c, c ≠ 5 → u.1 c = st.1 c) ∧ u.2 = st.2 ∧ ∀ x, u.1 5 x = if x = a then nI (256 * r + d) else if a + 1 ≤ x ∧ x < a + 1 + r then -1 else st.1 5 x := by
  obtain ⟨u, u1, u2, u3, u4⟩ := ex_62 (nI d) hb r 0 m (pt st 5 a (nI (256 * r + d))) (by omega) hm
  refine ⟨u, ?_, fun c hc => by rw [u2 c hc, pt_n _ _ _ _ hc], u3, fun x => ?_⟩
  · unfold JX1_putNew_46
    rw [gd_n (by omega) (by omega), nI_clamp (by omega), show (256 : Int32) = nI 256 from rfl, pk_mul, nI_add]
    exact u1
  · rw [u4 x, pt_s]
    by_cases e : x = a
    · rw [if_neg (by omega), if_pos e, if_pos e]
    · rw [if_neg e, if_neg e]
theorem BX.free (g : Geo P W n K F A R D) {p k o : Nat} (hp : K p = 0) (hk : k < W) (ho : o < n) : A o ≠ p * W + k := fun e => by
  have h4 := (g.2.2.2.1 o ho).2.2
  have h := (g.2.2.2.2.2.1 (A o) (by simp only [szo] at h4; omega)).mp ⟨o, ho, Nat.le_refl _, by simp only [szo]; omega⟩
  rw [e, dm_q hk, dm_r hk, (g.2.2.1 p).mp hp] at h
  omega
/-- the class's putNew -/
theorem ex_put (g : Geo P W n K F A R D) (vx : VX P W K F sx) (hB : BX W n A sx.2) (o1 : sx.1 1 6 = op) {r d a m : Nat} (hr : r ≤ 31) (hd : d ≤ 200) (hm : 4200 ≤ m) (h : Put P W K F op (1 + r + d) a K' F' op') :
    ∃ u, FX1_putNew m (nI a) (nI r) (nI d) sx = some (0, u) ∧ VX P W K' F' u ∧ u.1 1 6 = op' ∧ (∀ c, c ≠ 1 → c ≠ 5 → c ≠ 6 → c ≠ 7 → u.1 c = sx.1 c) ∧ BX W (n + 1) (upN A n a) u.2 ∧ ∀ x, u.1 5 x = if x = a then nI (256 * r + d) else if a + 1 ≤ x ∧ x < a + 1 + r then -1 else sx.1 5 x := by
  have hW := g.1.2.2.1
  have hW2 := g.1.2.2.2.1
  have hP := g.1.2.1
  have hPW := g.PWle
  have pf := put_fact g (by omega) h
  have hb := pf.b
  have es : (1 : Int32) + nI r + nI d = nI (1 + r + d) := by rw [n1_p, nI_add]
  have nA : upN A n a n = a := if_pos rfl
  have oA : ∀ o, o < n → upN A n a o = A o := fun o h => if_neg (by omega)
  rcases h with ⟨h1, q, hq, ea, hF, hk, rfl, rfl, rfl⟩ | ⟨h1, f, need, hne, hf, ea, hk, rfl, rfl, rfl⟩
  · have ed : a / W = q := by rw [ea]; exact dm_q (by omega)
    have er : a % W = F q := by rw [ea]; exact dm_r (by omega)
    have e2 : nI a - nI a / nI W * nI W = nI (F q) := by
      rw [← er]; exact pk_rem (by omega) (by omega) (by omega)
    have v1 := vx.up q 1 (F q + (1 + r + d))
    obtain ⟨u, u1, u2, u3, u4⟩ := ex_46 (a := a) (r := r) (d := d) (m := m) (by omega) (by omega) (pt (pg (pt (pt sx 6 q (1 : Int32)) 7 q (nI (F q + (1 + r + d)))) q (sx.2 q ||| ((1 : Int64) <<< ((nI (F q)).toInt64 &&& 63)))) 1 6 (nI q))
    refine ⟨u, ?_, ?_, ?_, ?_, ?_, ?_⟩
    · unfold FX1_putNew
      rw [vx.2.1, es, if_neg (nI_nlt h1 (by omega))]
      have eS : FX1_enterSmall m (nI a) (nI (1 + r + d)) sx = some (0, pg (pt (pt sx 6 q (1 : Int32)) 7 q (nI (F q + (1 + r + d)))) q (sx.2 q ||| ((1 : Int64) <<< ((nI (F q)).toInt64 &&& 63)))) := by
        unfold FX1_enterSmall
        rw [ex_pg vx (by omega) hW2 (by omega), bd_s, ed]
        have f1 : (pt sx 6 q (1 : Int32)).1 7 q = nI (F q) := by rw [pt_n _ _ _ _ (by decide)]; exact vx.2.2.2 q (by omega)
        have f2 : ∀ y, (pt (pt sx 6 q (1 : Int32)) 7 q y).1 1 5 = nI W := fun y => by rw [pt_n _ _ _ _ (by decide), pt_n _ _ _ _ (by decide)]; exact vx.2.1
        simp only [gd_n (show q < 64 by omega) (show 64 < 2 ^ 31 by omega), nI_clamp (show q < 2 ^ 31 by omega), f1, f2, dz_n (show 0 < W by omega) (show W < 2 ^ 31 by omega), nI_add, e2, pt_2]
      rw [eS, bd_s]
      have v1' : VX P W (upN K q 1) (upN F q (F q + (1 + r + d))) (pg (pt (pt sx 6 q (1 : Int32)) 7 q (nI (F q + (1 + r + d)))) q (sx.2 q ||| ((1 : Int64) <<< ((nI (F q)).toInt64 &&& 63)))) := v1
      rw [ex_pg v1' (by omega) hW2 (by omega), bd_s, ed]
      exact u1
    · refine ⟨?_, ?_, fun p hp => ?_, fun p hp => ?_⟩
      · rw [u2 1 (by decide), pt_j _ _ _ _ (by decide)]; exact v1.1
      · rw [u2 1 (by decide), pt_j _ _ _ _ (by decide)]; exact v1.2.1
      · rw [u2 6 (by decide), pt_n _ _ _ _ (by decide)]; exact v1.2.2.1 p hp
      · rw [u2 7 (by decide), pt_n _ _ _ _ (by decide)]; exact v1.2.2.2 p hp
    · rw [u2 1 (by decide), pt_k]
    · intro c c1 c5 c6 c7
      rw [u2 c c5, pt_n _ _ _ _ c1, pg_1, pt_n _ _ _ _ c7, pt_n _ _ _ _ c6]
    · intro p k hp hk2
      rw [u3, pt_2, pg_s]
      by_cases e : p = q
      · subst e
        rw [if_pos rfl, bit_or (by omega) hk2]
        simp only [Bool.or_eq_true, decide_eq_true_eq]
        rw [hB p k hp hk2]
        constructor
        · rintro (⟨h1, o, ho, h2⟩ | h1)
          · exact ⟨h1, o, by omega, by rw [oA o ho]; exact h2⟩
          · exact ⟨by omega, n, by omega, by rw [nA, ea, h1]⟩
        · rintro ⟨h1, o, ho, h2⟩
          by_cases e : o = n
          · rw [e, nA, ea] at h2; exact Or.inr (by omega)
          · rw [oA o (by omega)] at h2; exact Or.inl ⟨h1, o, by omega, h2⟩
      · rw [if_neg e, pt_2, pt_2, hB p k hp hk2]
        constructor
        · rintro ⟨h1, o, ho, h2⟩
          exact ⟨h1, o, by omega, by rw [oA o ho]; exact h2⟩
        · rintro ⟨h1, o, ho, h2⟩
          by_cases e3 : o = n
          · rw [e3, nA] at h2
            have := dm_q (W := W) (q := p) (k := k) h1
            rw [← h2, ed] at this
            exact absurd this.symm e
          · rw [oA o (by omega)] at h2; exact ⟨h1, o, by omega, h2⟩
    · intro x
      rw [u4 x, pt_n _ _ _ _ (by decide), pg_1, pt_n _ _ _ _ (by decide), pt_n _ _ _ _ (by decide)]
  · obtain ⟨c1, c2, c3⟩ := ceil_l (by omega) hne h1
    have ed : a / W = f := by rw [ea]; exact Nat.mul_div_cancel f (by omega)
    have v0 : VX P W (KLo K f 0) (FLo F W (1 + r + d) f 0) sx := by rw [KLo_0, FLo_0]; exact vx
    obtain ⟨w, w1, w2, w3, w4⟩ := ex_entL hP hW2 hf (by omega) c2 c3 (need - 1) 0 m sx (by omega) (by omega) v0
    obtain ⟨u, u1, u2, u3, u4⟩ := ex_46 (a := a) (r := r) (d := d) (m := m) (by omega) (by omega) w
    refine ⟨u, ?_, ?_, ?_, ?_, ?_, ?_⟩
    · unfold FX1_putNew FX1_enterLong
      rw [vx.2.1, es, if_pos (nI_lt h1 (by omega)), ex_pg vx (by omega) hW2 (by omega), bd_s, ed]
      rw [Nat.zero_mul, Nat.sub_zero, Nat.add_zero] at w1
      rw [w1, bd_s]
      exact u1
    · refine ⟨?_, ?_, fun p hp => ?_, fun p hp => ?_⟩
      · rw [u2 1 (by decide)]; exact w2.1
      · rw [u2 1 (by decide)]; exact w2.2.1
      · rw [u2 6 (by decide)]; exact w2.2.2.1 p hp
      · rw [u2 7 (by decide)]; exact w2.2.2.2 p hp
    · rw [u2 1 (by decide), w3 1 (by decide) (by decide)]; exact o1
    · intro c c1 c5 c6 c7
      rw [u2 c c5, w3 c c6 c7]
    · intro p k hp hk2
      rw [u3, w4]
      by_cases e : p = f
      · subst e
        simp only [if_true]
        rw [bit_1 k hk2]
        simp only [decide_eq_true_eq]
        constructor
        · rintro rfl
          exact ⟨by omega, n, by omega, by rw [nA, ea]; rfl⟩
        · rintro ⟨h1, o, ho, h2⟩
          by_cases e : o = n
          · rw [e, nA, ea] at h2; omega
          · rw [oA o (by omega)] at h2
            exact absurd h2 (BX.free g (hk 0 (by omega)) h1 (by omega))
      · simp only [if_neg e]
        rw [hB p k hp hk2]
        constructor
        · rintro ⟨h1, o, ho, h2⟩
          exact ⟨h1, o, by omega, by rw [oA o ho]; exact h2⟩
        · rintro ⟨h1, o, ho, h2⟩
          by_cases e3 : o = n
          · rw [e3, nA] at h2
            have := dm_q (W := W) (q := p) (k := k) h1
            rw [← h2, ed] at this
            exact absurd this.symm e
          · rw [oA o (by omega)] at h2; exact ⟨h1, o, by omega, h2⟩
    · intro x
      rw [u4 x, w3 5 (by decide) (by decide)]
/-- the model's last steps of make -/
theorem em_140 {b k r d : Nat} (hk : k < 32) (hb : b + (r + d) ≤ 9000) (x4 x5 : Int32) : ∀ (dd i m : Nat) (st : St), i + dd = r + d → dd < m → st.1 14 13 = nI (b + i) →
    ∃ u, LX3_make_140 m (nI k) (nI r) (nI d) x4 x5 (nI i) st = some (1, u) ∧ (∀ j, u.1 23 j = if j = k then x5 else st.1 23 j) ∧ u.1 14 13 = nI (b + (r + d)) ∧ (∀ j, j ≠ 13 → u.1 14 j = st.1 14 j) ∧ (∀ x, u.1 22 x = if b + i ≤ x ∧ x < b + (r + d) then (if x < b + r then -1 else 0) else st.1 22 x) ∧ ∀ c, c ≠ 14 → c ≠ 22 → c ≠ 23 → u.1 c = st.1 c
  | 0, i, m, st, hd, hm, h13 => by
    obtain ⟨m, rfl⟩ : ∃ j, m = j + 1 := ⟨m - 1, by omega⟩
    have e : i = r + d := by omega
    subst e
    refine ⟨pt st 23 k x5, ?_, fun j => by rw [pt_s], by rw [pt_n _ _ _ _ (by decide)]; exact h13, fun j _ => by rw [pt_n _ _ _ _ (by decide)], fun x => by rw [pt_n _ _ _ _ (by decide), if_neg (by omega)], fun c _ _ h => pt_n _ _ _ _ h⟩
    simp only [LX3_make_140, nI_add]
    rw [if_pos (nI_le (Nat.le_refl _) (by omega)), gd_n (by omega) (by omega), nI_clamp (by omega)]
  | dd + 1, i, m, st, hd, hm, h13 => by
    obtain ⟨m, rfl⟩ : ∃ j, m = j + 1 := ⟨m - 1, by omega⟩
    obtain ⟨v, hv⟩ : ∃ v : Int32, v = if i < r then -1 else 0 := ⟨_, rfl⟩
    obtain ⟨u, u1, u2, u3, u4, u5, u6⟩ := em_140 hk hb x4 x5 dd (i + 1) m (pt (pt st 22 (b + i) v) 14 13 (nI (b + (i + 1)))) (by omega) (by omega) (pt_k _ _ _ _)
    refine ⟨u, ?_, fun j => by rw [u2 j, pt_n _ _ _ _ (by decide), pt_n _ _ _ _ (by decide)], u3, fun j hj => by rw [u4 j hj, pt_j _ _ _ _ hj, pt_n _ _ _ _ (by decide)], fun x => ?_, fun c c1 c2 c3 => by rw [u6 c c1 c2 c3, pt_n _ _ _ _ c1, pt_n _ _ _ _ c2]⟩
    · rw [← u1]
      have f1 : ∀ y, (pt st 22 (b + i) y).1 14 13 = nI (b + i) := fun y => by rw [pt_n _ _ _ _ (by decide)]; exact h13
      simp only [LX3_make_140, nI_add, h13, if_neg (nI_ge (show i < r + d by omega) (show r + d < 2 ^ 31 by omega)), gd_n (show b + i < 9000 by omega) (show 9000 < 2 ^ 31 by omega), nI_clamp (show b + i < 2 ^ 31 by omega), f1, nI_p1, Nat.add_assoc]
      by_cases hc : i < r
      · rw [if_neg (nI_ge hc (by omega)), hv, if_pos hc]
      · rw [if_pos (nI_le (by omega) (by omega)), hv, if_neg hc]
    · rw [u5 x, pt_n _ _ _ _ (by decide), pt_s]
      by_cases e : x = b + i
      · rw [if_neg (by omega), if_pos e, if_pos (by omega), hv]
        by_cases hc : i < r
        · rw [if_pos hc, if_pos (by omega)]
        · rw [if_neg hc, if_neg (by omega)]
      · rw [if_neg e]
        by_cases h : b + (i + 1) ≤ x ∧ x < b + (r + d)
        · rw [if_pos h, if_pos (show b + i ≤ x ∧ x < b + (r + d) by omega)]
        · rw [if_neg h, if_neg (show ¬ (b + i ≤ x ∧ x < b + (r + d)) by omega)]
/-- the contents with the new one -/
def newC (C : Nat → Nat → Int32) (n r : Nat) : Nat → Nat → Int32 := fun o i => if o = n then (if i < r then -1 else 0) else C o i
theorem okv_s {v : Int32} (h : okv n v) : okv (n + 1) v := by
  rcases h with h | ⟨o, ho, h⟩
  · exact Or.inl h
  · exact Or.inr ⟨o, by omega, h⟩
theorem ad_up {a : Nat} (hn : n ≤ 4096) {v : Int32} (h : okv n v) : ad (upN A n a) v = ad A v := by
  rcases h with rfl | ⟨o, ho, rfl⟩
  · rw [ad_m, ad_m]
  · rw [ad_n (by omega), ad_n (by omega)]; unfold upN; rw [if_neg (by omega)]
theorem sumN_up (f g : Nat → Nat) (n : Nat) (h : ∀ k, k < n → f k = g k) : sumN f n = sumN g n := sumN_congr n h
theorem Fr_up {r d o : Nat} (h : o ≤ n) : Fr (upN R n r) (upN D n d) o = Fr R D o := by
  unfold Fr
  exact sumN_congr o (fun k hk => by unfold upN; rw [if_neg (by omega), if_neg (by omega)])
/-- both put the new object: the relation holds with it -/
theorem both_put (h : RR P W n K F A R D C ex op sx sm) {sm1 : St} {k r d a m : Nat} (hk : k < 32) (hr : r ≤ 31) (hd : d ≤ 200) (hm : 4200 ≤ m) (hp : Put P W K F op (1 + r + d) a K' F' op') (hl : Laid P W K' F' op' sm sm1) :
    ∃ u w, FX1_putNew m (nI a) (nI r) (nI d) sx = some (0, u) ∧ JX3_make_77 m (nI k) (nI r) (nI d) (nI a) sm1 = some (1, w) ∧ w.1 14 0 = sm1.1 14 0 ∧ Rel (pt u 3 k (nI a)) w := by
  obtain ⟨g, vx, vm, hOX, hZX, hBX, hOM, hCR, hRT, hLO, ⟨o1, o2, o3⟩, hTL⟩ := h
  obtain ⟨l1, l2, l3, l4⟩ := hl
  have pf := put_fact g (by omega) hp
  have hW := g.1.2.2.1
  have hnle := g.nle
  have hPW := g.PWle
  have hb := pf.b
  have g' := g.put hr hd pf
  have htot := g.tot
  have htot' := g'.tot
  have eFr : Fr (upN R n r) (upN D n d) n = Fr R D n := Fr_up (Nat.le_refl n)
  have eFr1 : Fr (upN R n r) (upN D n d) (n + 1) = Fr R D n + (r + d) := by
    rw [Fr_s, eFr]; unfold upN; rw [if_pos rfl, if_pos rfl]
  rw [eFr1] at htot'
  obtain ⟨u, u1, u2, u3, u4, u5, u6⟩ := ex_put g vx hBX o1 hr hd hm hp
  have e7 : sm1.1 14 7 = nI n := by rw [l4 7 (by decide)]; exact hOM.1
  have e13 : sm1.1 14 13 = nI (Fr R D n) := by rw [l4 13 (by decide)]; exact hOM.2.1
  obtain ⟨sm2, hsm2⟩ : ∃ sm2, sm2 = pt (pt (pt (pt (pt sm1 14 7 (nI (n + 1))) 18 n (nI a)) 19 n (nI r)) 20 n (nI d)) 21 n (nI (Fr R D n)) := ⟨_, rfl⟩
  have q13 : sm2.1 14 13 = nI (Fr R D n + 0) := by
    rw [hsm2, pt_n _ _ _ _ (by decide), pt_n _ _ _ _ (by decide), pt_n _ _ _ _ (by decide), pt_n _ _ _ _ (by decide), pt_j _ _ _ _ (by decide)]; exact e13
  obtain ⟨w, w1, w2, w3, w4, w5, w6⟩ := em_140 (b := Fr R D n) (k := k) (r := r) (d := d) hk (by omega) (nI a) (nI n) (r + d) 0 m sm2 (by omega) (by omega) q13
  have c18 : ∀ o, w.1 18 o = if o = n then nI a else sm.1 18 o := fun o => by
    rw [w6 18 (by decide) (by decide) (by decide), hsm2, pt_n _ _ _ _ (by decide), pt_n _ _ _ _ (by decide), pt_n _ _ _ _ (by decide), pt_s, pt_n _ _ _ _ (by decide), l3 18 (by decide) (by decide) (by decide)]
  have c19 : ∀ o, w.1 19 o = if o = n then nI r else sm.1 19 o := fun o => by
    rw [w6 19 (by decide) (by decide) (by decide), hsm2, pt_n _ _ _ _ (by decide), pt_n _ _ _ _ (by decide), pt_s, pt_n _ _ _ _ (by decide), pt_n _ _ _ _ (by decide), l3 19 (by decide) (by decide) (by decide)]
  have c20 : ∀ o, w.1 20 o = if o = n then nI d else sm.1 20 o := fun o => by
    rw [w6 20 (by decide) (by decide) (by decide), hsm2, pt_n _ _ _ _ (by decide), pt_s, pt_n _ _ _ _ (by decide), pt_n _ _ _ _ (by decide), pt_n _ _ _ _ (by decide), l3 20 (by decide) (by decide) (by decide)]
  have c21 : ∀ o, w.1 21 o = if o = n then nI (Fr R D n) else sm.1 21 o := fun o => by
    rw [w6 21 (by decide) (by decide) (by decide), hsm2, pt_s, pt_n _ _ _ _ (by decide), pt_n _ _ _ _ (by decide), pt_n _ _ _ _ (by decide), pt_n _ _ _ _ (by decide), l3 21 (by decide) (by decide) (by decide)]
  have cc : ∀ c, c ≠ 14 → c ≠ 18 → c ≠ 19 → c ≠ 20 → c ≠ 21 → sm2.1 c = sm1.1 c := fun c h1 h2 h3 h4 h5 => by
    rw [hsm2, pt_n _ _ _ _ h5, pt_n _ _ _ _ h4, pt_n _ _ _ _ h3, pt_n _ _ _ _ h2, pt_n _ _ _ _ h1]
  have c14 : ∀ j, j ≠ 7 → sm2.1 14 j = sm1.1 14 j := fun j hj => by
    rw [hsm2, pt_n _ _ _ _ (by decide), pt_n _ _ _ _ (by decide), pt_n _ _ _ _ (by decide), pt_n _ _ _ _ (by decide), pt_j _ _ _ _ hj]
  have c147 : sm2.1 14 7 = nI (n + 1) := by
    rw [hsm2, pt_n _ _ _ _ (by decide), pt_n _ _ _ _ (by decide), pt_n _ _ _ _ (by decide), pt_n _ _ _ _ (by decide), pt_k]
  refine ⟨u, w, u1, ?_, by rw [w4 0 (by decide), c14 0 (by decide)], ⟨P, W, n + 1, K', F', upN A n a, upN R n r, upN D n d, newC C n r, upd ex k (nI n), op', g', ?_, ?_, ?_, ?_, ?_, ?_, ?_, ?_, ?_, ?_, ?_⟩⟩
  · unfold JX3_make_77
    have f13 : (pt (pt (pt (pt sm1 14 7 (nI (n + 1))) 18 n (nI a)) 19 n (nI r)) 20 n (nI d)).1 14 13 = nI (Fr R D n) := by
      rw [pt_n _ _ _ _ (by decide), pt_n _ _ _ _ (by decide), pt_n _ _ _ _ (by decide), pt_j _ _ _ _ (by decide)]; exact e13
    simp only [if_neg (nI_m1 (show a < 2 ^ 31 by omega)), e7, gd_n (show n < 4200 by omega) (show 4200 < 2 ^ 31 by omega), nI_clamp (show n < 2 ^ 31 by omega), nI_p1, f13, ← hsm2]
    exact w1
  · refine ⟨?_, ?_, fun p hp => ?_, fun p hp => ?_⟩
    · rw [pt_n _ _ _ _ (by decide)]; exact u2.1
    · rw [pt_n _ _ _ _ (by decide)]; exact u2.2.1
    · rw [pt_n _ _ _ _ (by decide)]; exact u2.2.2.1 p hp
    · rw [pt_n _ _ _ _ (by decide)]; exact u2.2.2.2 p hp
  · refine ⟨?_, ?_, fun p hp => ?_, fun p hp => ?_⟩
    · rw [w4 1 (by decide), c14 1 (by decide)]; exact l1.1
    · rw [w4 2 (by decide), c14 2 (by decide)]; exact l1.2.1
    · rw [w6 15 (by decide) (by decide) (by decide), cc 15 (by decide) (by decide) (by decide) (by decide) (by decide)]; exact l1.2.2.1 p hp
    · rw [w6 16 (by decide) (by decide) (by decide), cc 16 (by decide) (by decide) (by decide) (by decide) (by decide)]; exact l1.2.2.2 p hp
  · -- the class's objects
    rw [pt_n _ _ _ _ (by decide)]
    intro o ho
    by_cases e : o = n
    · subst e
      have nA : upN A o a o = a := if_pos rfl
      have nR : upN R o r o = r := if_pos rfl
      have nD : upN D o d o = d := if_pos rfl
      rw [nA, nR, nD]
      refine ⟨by rw [u6, if_pos rfl], fun i hi => ?_, fun i h1 h2 => ?_⟩
      · rw [u6, if_neg (by omega), if_pos (by omega)]
        unfold newC
        rw [if_pos rfl, if_pos hi, ad_m]
      · rw [u6, if_neg (by omega), if_neg (by omega)]
        unfold newC
        rw [if_pos rfl, if_neg (by omega)]
        exact hZX _ (by omega) (fun hh => pf.u _ (by omega) (by omega) hh.2)
    · have ho : o < n := by omega
      have oA : upN A n a o = A o := if_neg (by omega)
      have oR : upN R n r o = R o := if_neg (by omega)
      have oD : upN D n d o = D o := if_neg (by omega)
      have oC : ∀ i, newC C n r o i = C o i := fun i => if_neg (by omega)
      rw [oA, oR, oD]
      obtain ⟨x1, x2, x3⟩ := hOX o ho
      have hdis := g'.2.2.2.2.1 o n (by omega) (by omega) e
      simp only [szo, oA, oR, oD, show upN A n a n = a from if_pos rfl, show upN R n r n = r from if_pos rfl, show upN D n d n = d from if_pos rfl] at hdis
      have keep : ∀ j, j < 1 + R o + D o → u.1 5 (A o + j) = sx.1 5 (A o + j) := fun j hj => by
        rw [u6, if_neg (by omega), if_neg (by omega)]
      refine ⟨?_, fun i hi => ?_, fun i h1 h2 => ?_⟩
      · have := keep 0 (by omega); rw [Nat.add_zero] at this; rw [this]; exact x1
      · have := keep (1 + i) (by omega); rw [← Nat.add_assoc] at this
        rw [this, oC, ad_up hnle (hCR o i ho hi)]; exact x2 i hi
      · have := keep (1 + i) (by omega); rw [← Nat.add_assoc] at this
        rw [this, oC]; exact x3 i h1 h2
  · -- words without an object
    rw [pt_n _ _ _ _ (by decide)]
    intro x hx hno
    have h1 : ¬ (a ≤ x ∧ x < a + (1 + r + d)) := fun hh => hno ⟨by omega, (pf.w x).mpr (Or.inr hh)⟩
    rw [u6, if_neg (by omega), if_neg (by omega)]
    exact hZX x hx (fun hh => hno ⟨hh.1, (pf.w x).mpr (Or.inl hh.2)⟩)
  · exact u5
  · refine ⟨?_, ?_, fun o ho => ?_⟩
    · rw [w4 7 (by decide)]; exact c147
    · rw [w3, eFr1]
    · rw [c18, c19, c20, c21, Fr_up (show o ≤ n by omega)]
      by_cases e : o = n
      · subst e
        rw [if_pos rfl, if_pos rfl, if_pos rfl, if_pos rfl]
        have nR : upN R o r o = r := if_pos rfl
        have nD : upN D o d o = d := if_pos rfl
        rw [nR, nD, show upN A o a o = a from if_pos rfl]
        refine ⟨rfl, rfl, rfl, rfl, fun i hi => ?_⟩
        rw [w5, if_pos (by omega)]
        unfold newC
        rw [if_pos rfl]
        by_cases hc : i < r
        · rw [if_pos (by omega), if_pos hc]
        · rw [if_neg (by omega), if_neg hc]
      · have ho : o < n := by omega
        obtain ⟨y1, y2, y3, y4, y5⟩ := hOM.2.2 o ho
        have oR : upN R n r o = R o := if_neg (by omega)
        have oD : upN D n d o = D o := if_neg (by omega)
        rw [if_neg e, if_neg e, if_neg e, if_neg e, oR, oD, show upN A n a o = A o from if_neg (by omega)]
        refine ⟨y1, y2, y3, y4, fun i hi => ?_⟩
        have hmono := Fr_mono R D (show o + 1 ≤ n by omega)
        rw [Fr_s] at hmono
        rw [w5, if_neg (show ¬ (Fr R D n + 0 ≤ Fr R D o + i ∧ Fr R D o + i < Fr R D n + (r + d)) by omega), cc 22 (by decide) (by decide) (by decide) (by decide) (by decide), l3 22 (by decide) (by decide) (by decide), y5 i hi]
        exact (if_neg (by omega)).symm
  · intro o i ho hi
    by_cases e : o = n
    · subst e
      rw [show upN R o r o = r from if_pos rfl] at hi
      unfold newC
      rw [if_pos rfl, if_pos hi]; exact Or.inl rfl
    · rw [show upN R n r o = R o from if_neg (by omega)] at hi
      unfold newC
      rw [if_neg e]; exact okv_s (hCR o i (by omega) hi)
  · intro j hj
    obtain ⟨y1, y2, y3⟩ := hRT j hj
    rw [w2 j, cc 23 (by decide) (by decide) (by decide) (by decide) (by decide), l3 23 (by decide) (by decide) (by decide), pt_s]
    unfold upd
    by_cases e : j = k
    · rw [if_pos e, if_pos e, if_pos e]
      refine ⟨Or.inr ⟨n, by omega, rfl⟩, rfl, ?_⟩
      rw [ad_n (by omega)]
      exact congrArg nI (if_pos rfl).symm
    · rw [if_neg e, if_neg e, if_neg e]
      refine ⟨okv_s y1, y2, ?_⟩
      rw [ad_up hnle y1, u4 3 (by decide) (by decide) (by decide) (by decide)]; exact y3
  · intro j hj
    rw [pt_n _ _ _ _ (by decide), u4 4 (by decide) (by decide) (by decide) (by decide), w6 24 (by decide) (by decide) (by decide), cc 24 (by decide) (by decide) (by decide) (by decide) (by decide), l3 24 (by decide) (by decide) (by decide)]
    exact hLO j hj
  · refine ⟨by rw [pt_n _ _ _ _ (by decide)]; exact u3, by rw [w4 6 (by decide), c14 6 (by decide)]; exact l2, ?_⟩
    rcases hp with ⟨_, q, hq, _, _, _, e1, _, e3⟩ | ⟨_, f, need, _, _, _, _, e1, _, e3⟩
    · exact Or.inr ⟨q, hq, e3, by rw [e1]; exact if_pos rfl⟩
    · rw [e3]
      rcases o3 with e | ⟨q, hq, e, hK⟩
      · exact Or.inl e
      · exact Or.inr ⟨q, hq, e, pf.k1 q hK⟩
  · unfold TL at *
    rw [w6 25 (by decide) (by decide) (by decide), w6 17 (by decide) (by decide) (by decide), cc 25 (by decide) (by decide) (by decide) (by decide) (by decide), cc 17 (by decide) (by decide) (by decide) (by decide) (by decide), l3 25 (by decide) (by decide) (by decide), l3 17 (by decide) (by decide) (by decide), pt_n _ _ _ _ (by decide), pt_n _ _ _ _ (by decide), u4 2 (by decide) (by decide) (by decide) (by decide), u4 13 (by decide) (by decide) (by decide) (by decide)]
    exact hTL
end
