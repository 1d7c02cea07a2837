/-! the class's collection, behind the plan: the row moves -/
def nb (B : Nat → Nat) (v : Int32) : Int32 := if v = -1 then -1 else nI (B v.toNatClampNeg)
/-- an object's words behind the collection -/
def nw (B R D : Nat → Nat) (C : Nat → Nat → Int32) (o i : Nat) : Int32 := if i = 0 then nI (256 * R o + D o) else if i ≤ R o then nb B (C o (i - 1)) else C o (i - 1)
section
variable {P W n ln : Nat} {K F A R D row B T sel : Nat → Nat} {sv H S : Nat → Bool} {tg : Int32} {tf tk mv : Nat} {C : Nat → Nat → Int32} {ex : Nat → Int32} {op : Int32} {sx sm s : St}
/-- what told an object tells its new address -/
theorem ex_nao (g : Geo P W n K F A R D) {v : Int32} (hv : okv n v) (hc : Cl sv v) (h14 : s.1 1 4 = nI P) (h15 : s.1 1 5 = nI W) (h10 : ∀ j, j < n → sv j = true → s.1 10 (A j) = nI (B j)) (m : Nat) : FX0_newAddressOf m (ad A v) s = some (nb B v, s) := by
  have hn := g.nle
  unfold FX0_newAddressOf FX1_isAddress
  rw [h14, h15, pk_mul]
  rcases hv with rfl | ⟨o, ho, rfl⟩
  · rw [ad_m, if_pos (show (-1 : Int32) < 0 by decide), be_s, gz_0, bd_s, if_pos rfl, be_s]
    rfl
  · have hs : sv o = true := by
      rcases hc with h | h
      · exact absurd h (nI_m1 (by omega))
      · rw [nI_clamp (by omega)] at h; exact h
    have hPW := g.PWle
    have hA := (g.2.2.2.1 o ho).2.2
    simp only [szo] at hA
    rw [ad_n (by omega), if_neg (nI_pos (show A o < 2 ^ 31 by omega)), if_neg (nI_ge (show A o < P * W by omega) (by omega)), be_s, gz_1, bd_s, if_neg (show ¬ (1 : Int32) = 0 by decide), gd_n (by omega) (by omega), nI_clamp (by omega), h10 o ho hs, be_s]
    unfold nb
    rw [if_neg (nI_m1 (by omega)), nI_clamp (by omega)]
theorem ex_t11 (g : Geo P W n K F A R D) {o b : Nat} (ho : o < n) (hb : b + szo R D o ≤ 4096) (hok : ∀ i, i < R o → okv n (C o i)) (hcl : ∀ i, i < R o → Cl sv (C o i)) : ∀ (d i m : Nat) (s : St), i + d = R o → d < m → s.1 1 4 = nI P → s.1 1 5 = nI W → (∀ j, j < n → sv j = true → s.1 10 (A j) = nI (B j)) → (∀ j, i ≤ j → j < R o → s.1 5 (b + 1 + j) = ad A (C o j)) →
    ∃ u, LX0_tellNewRefs_11 m (nI b) (nI (R o)) (nI i) s = some (0, u) ∧ u.2 = s.2 ∧ (∀ c, c ≠ 5 → u.1 c = s.1 c) ∧ ∀ x, u.1 5 x = if b + 1 + i ≤ x ∧ x < b + 1 + R o then nb B (C o (x - (b + 1))) else s.1 5 x
  | 0, i, m, s, hd, hm, h14, h15, h10, h5 => by
    obtain ⟨m, rfl⟩ : ∃ j, m = j + 1 := ⟨m - 1, by omega⟩
    simp only [szo] at hb
    refine ⟨s, ?_, rfl, fun _ _ => rfl, fun x => by rw [if_neg (by omega)]⟩
    simp only [LX0_tellNewRefs_11]
    rw [if_pos (nI_le (by omega) (by omega))]
  | d + 1, i, m, s, hd, hm, h14, h15, h10, h5 => by
    obtain ⟨m, rfl⟩ : ∃ j, m = j + 1 := ⟨m - 1, by omega⟩
    have hb' := hb
    simp only [szo] at hb'
    have hn := g.nle
    have e5 := h5 i (Nat.le_refl _) (by omega)
    have fin : ∀ s' : St, s'.2 = s.2 → (∀ c, c ≠ 5 → s'.1 c = s.1 c) → (∀ x, s'.1 5 x = if x = b + 1 + i then nb B (C o i) else s.1 5 x) → ∃ u, LX0_tellNewRefs_11 m (nI b) (nI (R o)) (nI (i + 1)) s' = some (0, u) ∧ u.2 = s.2 ∧ (∀ c, c ≠ 5 → u.1 c = s.1 c) ∧ ∀ x, u.1 5 x = if b + 1 + i ≤ x ∧ x < b + 1 + R o then nb B (C o (x - (b + 1))) else s.1 5 x := by
      intro s' q1 q2 q3
      obtain ⟨u, u1, u2, u3, u4⟩ := ex_t11 g ho hb hok hcl d (i + 1) m s' (by omega) (by omega) (by rw [q2 1 (by decide)]; exact h14) (by rw [q2 1 (by decide)]; exact h15) (by rw [q2 10 (by decide)]; exact h10) (fun j j1 j2 => by rw [q3, if_neg (by omega)]; exact h5 j (by omega) j2)
      refine ⟨u, u1, by rw [u2, q1], fun c hc => by rw [u3 c hc, q2 c hc], fun x => ?_⟩
      rw [u4 x, q3 x]
      by_cases e : x = b + 1 + i
      · rw [if_neg (by omega), if_pos e, if_pos (by omega), e, show b + 1 + i - (b + 1) = i by omega]
      · rw [if_neg e]
        by_cases h : b + 1 + (i + 1) ≤ x ∧ x < b + 1 + R o
        · rw [if_pos h, if_pos (show b + 1 + i ≤ x ∧ x < b + 1 + R o by omega)]
        · rw [if_neg h, if_neg (show ¬ (b + 1 + i ≤ x ∧ x < b + 1 + R o) by omega)]
    have eN := ex_nao (B := B) g (hok i (by omega)) (hcl i (by omega)) h14 h15 h10 m
    simp only [LX0_tellNewRefs_11, FX1_ref, FX1_setRef, if_neg (nI_ge (show i < R o by omega) (show R o < 2 ^ 31 by omega)), nI_p1, nI_add, gd_n (show b + 1 + i < 4096 by omega) (show 4096 < 2 ^ 31 by omega), nI_clamp (show b + 1 + i < 2 ^ 31 by omega), bd_s, e5, eN]
    exact fin _ rfl (fun c hc => pt_n _ _ _ _ hc) (fun x => by rw [pt_s])
theorem ex_tell (g : Geo P W n K F A R D) {o b m : Nat} (ho : o < n) (hb : b + szo R D o ≤ 4096) (hm : 40 < m) (hok : ∀ i, i < R o → okv n (C o i)) (hcl : ∀ i, i < R o → Cl sv (C o i)) {s : St} (h14 : s.1 1 4 = nI P) (h15 : s.1 1 5 = nI W) (h10 : ∀ j, j < n → sv j = true → s.1 10 (A j) = nI (B j)) (h0 : s.1 5 b = nI (256 * R o + D o)) (h5 : ∀ j, j < R o → s.1 5 (b + 1 + j) = ad A (C o j)) :
    ∃ u, FX0_tellNewRefs m (nI b) s = some (0, u) ∧ u.2 = s.2 ∧ (∀ c, c ≠ 5 → u.1 c = s.1 c) ∧ ∀ x, u.1 5 x = if b + 1 ≤ x ∧ x < b + 1 + R o then nb B (C o (x - (b + 1))) else s.1 5 x := by
  have hd := g.2.2.2.1 o ho
  obtain ⟨u, u1, u2, u3, u4⟩ := ex_t11 (C := C) (sv := sv) (B := B) g ho hb hok hcl (R o) 0 m s (by omega) (by omega) h14 h15 h10 (fun j _ hj => h5 j hj)
  refine ⟨u, ?_, u2, u3, u4⟩
  simp only [szo] at hb
  unfold FX0_tellNewRefs FX1_refsOf
  rw [gd_n (by omega) (by omega), dz_256, nI_clamp (by omega), h0, hd_div hd.1 hd.2.1, bd_s]
  exact u1
/-- the heap while the row moves -/
def MI (P W n : Nat) (K F A R D row B : Nat → Nat) (C : Nat → Nat → Int32) (sx : St) (k : Nat) (s : St) : Prop :=
  (∀ c, c ≠ 5 → c ≠ 6 → c ≠ 7 → s.1 c = sx.1 c) ∧
  (∀ p, p < 64 → s.1 6 p = nI (if fl W A R D row B k p ≠ 0 then 1 else K p)) ∧
  (∀ p, p < 64 → s.1 7 p = nI (F p + fl W A R D row B k p)) ∧
  (∀ p x, p < 64 → x < 64 → (bit (s.2 p) x = true ↔ x < W ∧ ((∃ o, o < n ∧ A o = p * W + x) ∨ ∃ j, j < k ∧ B (row j) ≠ A (row j) ∧ B (row j) = p * W + x))) ∧
  (∀ j, j < k → ∀ i, i < szo R D (row j) → s.1 5 (B (row j) + i) = nw B R D C (row j) i) ∧
  (∀ o, o < n → (∀ j, j < k → row j = o → B o ≠ A o) → ∀ i, i < szo R D o → s.1 5 (A o + i) = wv A R D C o i) ∧
  (∀ w, w < 4096 → (∀ o, o < n → ¬ (A o ≤ w ∧ w < A o + szo R D o)) → (∀ j, j < k → ¬ (B (row j) ≤ w ∧ w < B (row j) + szo R D (row j))) → s.1 5 w = 0)
theorem PI.dis1 (pi : PI P W n K A R D ln row B sv H S T tg tf) (g : Geo P W n K F A R D) {o j w : Nat} (ho : o < n) (hj : j < ln) (hB : B (row j) ≠ A (row j)) (w1 : A o ≤ w) (w2 : w < A o + szo R D o) (w3 : B (row j) ≤ w) (w4 : w < B (row j) + szo R D (row j)) : False := by
  rcases pi.lo hj with ⟨h3, _⟩ | ⟨h4, h5, h6, h7, h8, _⟩
  · exact hB h3
  · have h9 := (pi.mvw g hj hB h7 h8).mp ⟨w3, w4⟩
    have := g.fz ho w1 w2
    rw [h9.1] at this
    exact this.2.2 h5
theorem PI.dis2 (pi : PI P W n K A R D ln row B sv H S T tg tf) (g : Geo P W n K F A R D) (hK : KH n W A H sv) (hsel : Sel n sv sel) {j j' w : Nat} (hj : j < ln) (hj' : j' < ln) (hne : j ≠ j') (w1 : B (row j) ≤ w) (w2 : w < B (row j) + szo R D (row j)) (w3 : B (row j') ≤ w) (w4 : w < B (row j') + szo R D (row j')) : False := by
  have s1 : sv (row j) = true := (pi.svi _).mpr ⟨j, hj, rfl⟩
  have s2 : sv (row j') = true := (pi.svi _).mpr ⟨j', hj', rfl⟩
  obtain ⟨a1, a2⟩ := hsel.of (pi.rn hj) s1
  obtain ⟨b1, b2⟩ := hsel.of (pi.rn hj') s2
  have h : B (sel (cnt sv (row j))) + szo R D (sel (cnt sv (row j))) ≤ B (sel (cnt sv (row j'))) ∨ B (sel (cnt sv (row j'))) + szo R D (sel (cnt sv (row j'))) ≤ B (sel (cnt sv (row j))) := (g.move pi hK hsel).2.2.2.2.1 (cnt sv (row j)) (cnt sv (row j')) a1 b1 (fun e => by
    rw [e, b2] at a2
    exact hne (pi.inj hj hj' a2.symm))
  rw [a2, b2] at h
  omega
theorem PI.bnd (pi : PI P W n K A R D ln row B sv H S T tg tf) (g : Geo P W n K F A R D) {o : Nat} (ho : o < n) (hs : sv o = true) : B o + szo R D o ≤ P * W := by
  have hW := g.1.2.2.1
  rcases pi.loc g ho hs with ⟨h1, _⟩ | ⟨k, _, _, _, h3, h4, h5, h6, h7, _⟩
  · rw [h1]; exact (g.2.2.2.1 o ho).2.2
  · obtain ⟨x', y', hy', e0', e1', e2'⟩ := dm_e (show 0 < W by omega) (B o)
    rw [e1'] at h5 h6 h7
    rw [e2'] at h6
    have := mulLt W h5
    omega
theorem wv_0 {o : Nat} : wv A R D C o 0 = nI (256 * R o + D o) := rfl
theorem wv_r {o i : Nat} (h : i < R o) : wv A R D C o (1 + i) = ad A (C o i) := by
  unfold wv; rw [if_neg (by omega), if_pos (by omega), show 1 + i - 1 = i by omega]
/-- one of the row moves, or stays -/
theorem MI.step (h : RR P W n K F A R D C ex op sx sm) (pi : PI P W n K A R D ln row B sv H S T tg tf) (px : PX n A ln row B sv H S tg tf tk mv sx) (hK : KH n W A H sv) (hsel : Sel n sv sel) (hcl : ∀ j, j < ln → ∀ i, i < R (row j) → Cl sv (C (row j) i)) {k m : Nat} (hk : k < ln) (hm : 100 < m) {s : St} (mi : MI P W n K F A R D row B C sx k s) :
    ∃ u, LX0_moveRow_2 (m + 1) (nI k) s = LX0_moveRow_2 m (nI (k + 1)) u ∧ MI P W n K F A R D row B C sx (k + 1) u := by
  obtain ⟨g, vx, -, hOX, -, -, -, hCR, -⟩ := h
  have hW := g.1.2.2.2.1
  have hW8 := g.1.2.2.1
  have hP := g.1.2.1
  have hPW := g.PWle
  have hn := g.nle
  have ho := pi.rn hk
  have hln := pi.lnle
  have hs : sv (row k) = true := (pi.svi _).mpr ⟨k, hk, rfl⟩
  have hA := g.Alt ho
  have hBb := pi.bnd g ho hs
  have hd := g.2.2.2.1 _ ho
  obtain ⟨i1, i2, i3, i4, i5, i6, i7⟩ := mi
  have hs1 : 1 ≤ szo R D (row k) := by simp only [szo]; omega
  have hfresh : ∀ j, j < k → row j = row k → B (row k) ≠ A (row k) := fun j hj e => by have := pi.inj (show j < ln by omega) hk e; omega
  have old := i6 (row k) ho hfresh
  have old0 : s.1 5 (A (row k)) = nI (256 * R (row k) + D (row k)) := by
    have := old 0 (by omega); rw [Nat.add_zero, wv_0] at this; exact this
  have oldr : ∀ j, j < R (row k) → s.1 5 (A (row k) + 1 + j) = ad A (C (row k) j) := fun j hj => by
    have := old (1 + j) (by simp only [szo]; omega)
    rw [wv_r hj, ← Nat.add_assoc] at this; exact this
  have e22 : s.1 2 2 = nI ln := by rw [i1 2 (by decide) (by decide) (by decide)]; exact px.1
  have e9 : s.1 9 k = nI (A (row k)) := by rw [i1 9 (by decide) (by decide) (by decide)]; exact px.2.1 k hk
  have h10 : ∀ j, j < n → sv j = true → s.1 10 (A j) = nI (B j) := fun j hj hsj => by
    rw [i1 10 (by decide) (by decide) (by decide), px.2.2.1 j hj, if_pos hsj]
  have e10 := h10 _ ho hs
  have w14 : s.1 1 4 = nI P := by rw [i1 1 (by decide) (by decide) (by decide)]; exact vx.1
  have w15 : s.1 1 5 = nI W := by rw [i1 1 (by decide) (by decide) (by decide)]; exact vx.2.1
  have eL : LX0_moveRow_2 (m + 1) (nI k) s = (if nI (A (row k)) = nI (B (row k)) then bd (FX0_tellNewRefs m (nI (B (row k))) s) (fun r3 u4 => LX0_moveRow_2 m (nI (k + 1)) u4) else bd (FX1_copySmall m (nI (A (row k))) (nI (B (row k))) s) (fun r6 u7 => bd (FX0_tellNewRefs m (nI (B (row k))) u7) (fun r9 u10 => LX0_moveRow_2 m (nI (k + 1)) u10))) := by
    simp only [LX0_moveRow_2, e22, if_neg (nI_ge hk (show ln < 2 ^ 31 by omega)), gd_n (show k < 4096 by omega) (show 4096 < 2 ^ 31 by omega), nI_clamp (show k < 2 ^ 31 by omega), e9, gd_n (show A (row k) < 4096 by omega) (show 4096 < 2 ^ 31 by omega), nI_clamp (show A (row k) < 2 ^ 31 by omega), e10, nI_p1]
  rw [eL]
  by_cases hB : B (row k) = A (row k)
  · -- it stays
    have hfl : ∀ p, fl W A R D row B (k + 1) p = fl W A R D row B k p := fun p => by
      simp only [fl]; rw [if_neg (fun e => e.1 hB), Nat.add_zero]
    obtain ⟨u, u1, u2, u3, u4⟩ := ex_tell (C := C) (sv := sv) (B := B) g ho (b := B (row k)) (m := m) (by omega) (by omega) (fun i hi => hCR _ i ho hi) (hcl k hk) w14 w15 h10 (by rw [hB]; exact old0) (fun j hj => by rw [hB]; exact oldr j hj)
    rw [if_pos (by rw [hB]), u1, bd_s]
    refine ⟨u, rfl, fun c c5 c6 c7 => by rw [u3 c c5]; exact i1 c c5 c6 c7, fun p hp => by rw [u3 6 (by decide), hfl]; exact i2 p hp, fun p hp => by rw [u3 7 (by decide), hfl]; exact i3 p hp, fun p x hp hx => ?_, fun j hj i hi => ?_, fun o ho2 hj i hi => ?_, fun w hw w1 w2 => ?_⟩
    · rw [u2, i4 p x hp hx]
      constructor
      · rintro ⟨a, b | ⟨j, hj, b⟩⟩
        · exact ⟨a, Or.inl b⟩
        · exact ⟨a, Or.inr ⟨j, by omega, b⟩⟩
      · rintro ⟨a, b | ⟨j, hj, b, c⟩⟩
        · exact ⟨a, Or.inl b⟩
        · refine ⟨a, Or.inr ⟨j, ?_, b, c⟩⟩
          apply Nat.lt_of_not_le
          intro hle
          have e : j = k := by omega
          rw [e] at b; exact b hB
    · by_cases e : j = k
      · rw [e] at hi ⊢
        rw [u4]
        unfold nw
        by_cases z : i = 0
        · rw [if_neg (by omega), if_pos z, z, Nat.add_zero, hB]; exact old0
        · rw [if_neg z]
          by_cases z2 : i ≤ R (row k)
          · rw [if_pos (by omega), if_pos z2, show B (row k) + i - (B (row k) + 1) = i - 1 by omega]
          · rw [if_neg (by omega), if_neg z2, hB, old i hi]
            unfold wv
            rw [if_neg z, if_neg z2]
      · have hj' : j < k := by omega
        rw [u4, if_neg (fun hh => pi.dis2 g hK hsel (show j < ln by omega) hk e (w := B (row j) + i) (by omega) (by omega) (by omega) (by simp only [szo]; omega))]
        exact i5 j hj' i hi
    · have hne : o ≠ row k := fun e => hj k (by omega) e.symm (by rw [e]; exact hB)
      rw [u4, if_neg (fun hh => by
        have := g.2.2.2.2.1 o (row k) ho2 ho hne
        simp only [szo] at this hi
        omega)]
      exact i6 o ho2 (fun j hj2 e => hj j (by omega) e) i hi
    · rw [u4, if_neg (fun hh => w2 k (by omega) ⟨by omega, by simp only [szo]; omega⟩)]
      exact i7 w hw w1 (fun j hj => w2 j (by omega))
  · -- it moves
    rcases pi.lo hk with ⟨h3, _⟩ | ⟨h4, h5, h6, h7, h8, _⟩
    · exact absurd h3 hB
    · obtain ⟨q, hq⟩ : ∃ q, q = B (row k) / W := ⟨_, rfl⟩
      rw [← hq] at h5 h6 h7 h8
      have hfl : ∀ p, fl W A R D row B (k + 1) p = upN (fl W A R D row B k) q (fl W A R D row B k q + szo R D (row k)) p := fun p => by
        simp only [fl, ← hq]
        unfold upN
        by_cases e : p = q
        · rw [if_pos ⟨hB, e.symm⟩, if_pos e, e]
        · rw [if_neg (fun e2 => e e2.2.symm), if_neg e, Nat.add_zero]
      have eB : B (row k) = q * W + B (row k) % W := by rw [hq, Nat.mul_comm]; exact (Nat.div_add_mod _ _).symm
      have hFq : F q = 0 := (g.2.2.1 q).mp h5
      -- copySmall
      have eSz : FX1_sizeOf m (nI (A (row k))) s = some (nI (szo R D (row k)), s) := by
        have hmod := hd_mod hd.1 hd.2.1
        rw [hd_div hd.1 hd.2.1] at hmod
        simp only [FX1_sizeOf, FX1_refsOf, FX1_dataOf, gd_n (show A (row k) < 4096 by omega) (show 4096 < 2 ^ 31 by omega), dz_256, nI_clamp (show A (row k) < 2 ^ 31 by omega), old0, hd_div hd.1 hd.2.1, hmod, bd_s, n1_p, nI_add]
      obtain ⟨s1, es1⟩ : ∃ s1, s1 = pg (pt (pt s 6 q (1 : Int32)) 7 q (nI (F q + fl W A R D row B k q + szo R D (row k)))) q (s.2 q ||| ((1 : Int64) <<< ((nI (B (row k) % W)).toInt64 &&& 63))) := ⟨_, rfl⟩
      have eEnt : FX1_enterSmall m (nI (B (row k))) (nI (szo R D (row k))) s = some (0, s1) := by
        have ePg : FX1_pageOf m (nI (B (row k))) s = some (nI q, s) := by
          unfold FX1_pageOf
          rw [w15, dz_n (by omega) (by omega), nI_div _ (by omega) (by omega) (by omega), ← hq]
        unfold FX1_enterSmall
        rw [ePg, bd_s, es1]
        have f1 : (pt s 6 q (1 : Int32)).1 7 q = nI (F q + fl W A R D row B k q) := by rw [pt_n _ _ _ _ (by decide)]; exact i3 q (by omega)
        have f2 : ∀ y, (pt (pt s 6 q (1 : Int32)) 7 q y).1 1 5 = nI W := fun y => by rw [pt_n _ _ _ _ (by decide), pt_n _ _ _ _ (by decide)]; exact w15
        have e2 : nI (B (row k)) - nI (B (row k)) / nI W * nI W = nI (B (row k) % W) := pk_rem (by omega) (by omega) (by omega)
        simp only [gd_n (show q < 64 by omega) (show 64 < 2 ^ 31 by omega), nI_clamp (show q < 2 ^ 31 by omega), f1, f2, dz_n (show 0 < W by omega) (show W < 2 ^ 31 by omega), nI_add, e2, pt_2]
      obtain ⟨s2, es2⟩ : ∃ s2, s2 = pf s1 5 (va_cpy (s.1 5) (s.1 5) (A (row k)) (B (row k)) (szo R D (row k))) := ⟨_, rfl⟩
      have s15 : s1.1 5 = s.1 5 := by rw [es1, pg_1, pt_n _ _ _ _ (by decide), pt_n _ _ _ _ (by decide)]
      have eCp : FX1_copySmall m (nI (A (row k))) (nI (B (row k))) s = some (0, s2) := by
        unfold FX1_copySmall
        rw [eSz, bd_s, eEnt, bd_s]
        unfold gc
        rw [nI_clamp (show A (row k) < 2 ^ 31 by omega), nI_clamp (show B (row k) < 2 ^ 31 by omega), nI_clamp (show szo R D (row k) < 2 ^ 31 by omega), if_neg, s15, es2]
        rintro (e | e | e | e | e)
        · exact nI_pos (by omega) e
        · exact nI_pos (by omega) e
        · exact nI_pos (by omega) e
        · omega
        · omega
      have m2 : ∀ x, s2.1 5 x = if B (row k) ≤ x ∧ x < B (row k) + szo R D (row k) then s.1 5 (A (row k) + (x - B (row k))) else s.1 5 x := fun x => by
        rw [es2, pf_s]; rfl
      have k2 : ∀ c, c ≠ 5 → c ≠ 6 → c ≠ 7 → s2.1 c = s.1 c := fun c c5 c6 c7 => by rw [es2, pf_n _ _ _ c5, es1, pg_1, pt_n _ _ _ _ c7, pt_n _ _ _ _ c6]
      obtain ⟨u, u1, u2, u3, u4⟩ := ex_tell (C := C) (sv := sv) (B := B) g ho (b := B (row k)) (m := m) (s := s2) (by omega) (by omega) (fun i hi => hCR _ i ho hi) (hcl k hk) (by rw [k2 1 (by decide) (by decide) (by decide)]; exact w14) (by rw [k2 1 (by decide) (by decide) (by decide)]; exact w15) (fun j hj hsj => by rw [k2 10 (by decide) (by decide) (by decide)]; exact h10 j hj hsj) (by rw [m2, if_pos (by omega), show A (row k) + (B (row k) - B (row k)) = A (row k) by omega]; exact old0) (fun j hj => by
        rw [m2, if_pos (by simp only [szo]; omega), show A (row k) + (B (row k) + 1 + j - B (row k)) = A (row k) + 1 + j by omega]; exact oldr j hj)
      rw [if_neg (nI_ne (by omega) (by omega) (fun e => hB e.symm)), eCp, bd_s, u1, bd_s]
      refine ⟨u, rfl, fun c c5 c6 c7 => by rw [u3 c c5, k2 c c5 c6 c7]; exact i1 c c5 c6 c7, fun p hp => ?_, fun p hp => ?_, fun p x hp hx => ?_, fun j hj i hi => ?_, fun o ho2 hj i hi => ?_, fun w hw w1 w2 => ?_⟩
      · rw [u3 6 (by decide), es2, pf_n _ _ _ (by decide), es1, pg_1, pt_n _ _ _ _ (by decide), pt_s, hfl]
        unfold upN
        by_cases e : p = q
        · rw [if_pos e, if_pos e, if_pos (by omega)]; rfl
        · rw [if_neg e, if_neg e]; exact i2 p hp
      · rw [u3 7 (by decide), es2, pf_n _ _ _ (by decide), es1, pg_1, pt_s, hfl]
        unfold upN
        by_cases e : p = q
        · rw [if_pos e, if_pos e, e, Nat.add_assoc]
        · rw [if_neg e, if_neg e, pt_n _ _ _ _ (by decide)]; exact i3 p hp
      · rw [u2, es2, pf_2, es1, pg_s]
        by_cases e : p = q
        · subst e
          have hr : B (row k) % W < W := Nat.mod_lt _ (by omega)
          rw [if_pos rfl, bit_or (by omega) hx]
          simp only [Bool.or_eq_true, decide_eq_true_eq]
          rw [i4 p x hp hx]
          constructor
          · rintro (⟨a, b | ⟨j, hj, b⟩⟩ | a)
            · exact ⟨a, Or.inl b⟩
            · exact ⟨a, Or.inr ⟨j, by omega, b⟩⟩
            · exact ⟨by omega, Or.inr ⟨k, by omega, hB, by rw [a]; exact eB⟩⟩
          · rintro ⟨a, b | ⟨j, hj, b, c⟩⟩
            · exact Or.inl ⟨a, Or.inl b⟩
            · by_cases ej : j = k
              · rw [ej] at c; exact Or.inr (by omega)
              · exact Or.inl ⟨a, Or.inr ⟨j, by omega, b, c⟩⟩
        · rw [if_neg e, pt_2, pt_2, i4 p x hp hx]
          constructor
          · rintro ⟨a, b | ⟨j, hj, b⟩⟩
            · exact ⟨a, Or.inl b⟩
            · exact ⟨a, Or.inr ⟨j, by omega, b⟩⟩
          · rintro ⟨a, b | ⟨j, hj, b, c⟩⟩
            · exact ⟨a, Or.inl b⟩
            · refine ⟨a, Or.inr ⟨j, ?_, b, c⟩⟩
              apply Nat.lt_of_not_le
              intro hle
              have ej : j = k := by omega
              rw [ej] at c
              have := dm_q (W := W) (q := p) (k := x) a
              rw [← c, ← hq] at this
              exact e this.symm
      · by_cases e : j = k
        · rw [e] at hi ⊢
          rw [u4, m2, if_pos (show B (row k) ≤ B (row k) + i ∧ B (row k) + i < B (row k) + szo R D (row k) by omega), show A (row k) + (B (row k) + i - B (row k)) = A (row k) + i by omega]
          unfold nw
          by_cases z : i = 0
          · rw [if_neg (by omega), if_pos z, z, Nat.add_zero]; exact old0
          · rw [if_neg z]
            by_cases z2 : i ≤ R (row k)
            · rw [if_pos (by omega), if_pos z2, show B (row k) + i - (B (row k) + 1) = i - 1 by omega]
            · rw [if_neg (by omega), if_neg z2, old i hi]
              unfold wv
              rw [if_neg z, if_neg z2]
        · have hj' : j < k := by omega
          rw [u4, if_neg (fun hh => pi.dis2 g hK hsel (show j < ln by omega) hk e (w := B (row j) + i) (by omega) (by omega) (by omega) (by simp only [szo]; omega)), m2, if_neg (fun hh => pi.dis2 g hK hsel (show j < ln by omega) hk e (w := B (row j) + i) (by omega) (by omega) hh.1 hh.2)]
          exact i5 j hj' i hi
      · rw [u4, if_neg (fun hh => pi.dis1 g ho2 hk hB (w := A o + i) (by omega) (by omega) (by omega) (by simp only [szo]; omega)), m2, if_neg (fun hh => pi.dis1 g ho2 hk hB (w := A o + i) (by omega) (by omega) hh.1 hh.2)]
        exact i6 o ho2 (fun j hj2 e => hj j (by omega) e) i hi
      · rw [u4, if_neg (fun hh => w2 k (by omega) ⟨by omega, by simp only [szo]; omega⟩), m2, if_neg (fun hh => w2 k (by omega) hh)]
        exact i7 w hw w1 (fun j hj => w2 j (by omega))
theorem MI.all (h : RR P W n K F A R D C ex op sx sm) (pi : PI P W n K A R D ln row B sv H S T tg tf) (px : PX n A ln row B sv H S tg tf tk mv sx) (hK : KH n W A H sv) (hsel : Sel n sv sel) (hcl : ∀ j, j < ln → ∀ i, i < R (row j) → Cl sv (C (row j) i)) : ∀ (d k m : Nat) (s : St), k + d = ln → d + 200 < m → MI P W n K F A R D row B C sx k s → ∃ u, LX0_moveRow_2 m (nI k) s = some (0, u) ∧ MI P W n K F A R D row B C sx ln u
  | 0, k, m, s, hd, hm, mi => by
    obtain ⟨m, rfl⟩ : ∃ j, m = j + 1 := ⟨m - 1, by omega⟩
    have hn := h.1.nle
    have hln := pi.lnle
    have e : k = ln := by omega
    subst e
    refine ⟨s, ?_, mi⟩
    have e22 : s.1 2 2 = nI k := by rw [mi.1 2 (by decide) (by decide) (by decide)]; exact px.1
    simp only [LX0_moveRow_2, e22]
    rw [if_pos (nI_le (Nat.le_refl _) (by omega))]
  | d + 1, k, m, s, hd, hm, mi => by
    obtain ⟨m, rfl⟩ : ∃ j, m = j + 1 := ⟨m - 1, by omega⟩
    obtain ⟨u, u1, u2⟩ := MI.step h pi px hK hsel hcl (show k < ln by omega) (show 100 < m by omega) mi
    obtain ⟨w, w1, w2⟩ := MI.all h pi px hK hsel hcl d (k + 1) m u (by omega) (by omega) u2
    exact ⟨w, by rw [u1]; exact w1, w2⟩
theorem MI.start (h : RR P W n K F A R D C ex op sx sm) : MI P W n K F A R D row B C sx 0 sx := by
  obtain ⟨g, vx, -, hOX, hZX, hBX, -⟩ := h
  refine ⟨fun _ _ _ _ => rfl, fun p hp => ?_, fun p hp => ?_, fun p x hp hx => ?_, fun j hj => absurd hj (Nat.not_lt_zero _), fun o ho _ i hi => ox_wv (s := sx) hOX ho hi, fun w hw w1 _ => ?_⟩
  · rw [if_neg (fun e => e rfl)]; exact vx.2.2.1 p hp
  · exact vx.2.2.2 p hp
  · rw [hBX p x hp hx]
    constructor
    · rintro ⟨a, b⟩; exact ⟨a, Or.inl b⟩
    · rintro ⟨a, b | ⟨j, hj, _⟩⟩
      · exact ⟨a, b⟩
      · exact absurd hj (Nat.not_lt_zero _)
  · refine hZX w hw (fun hh => ?_)
    obtain ⟨o, ho, h1, h2⟩ := (g.2.2.2.2.2.1 w hh.1).mpr hh.2
    exact w1 o ho ⟨h1, h2⟩
end
