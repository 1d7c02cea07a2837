/-! where a long object comes -/
theorem sub_le0 {a u : Nat} (ha : a < 2 ^ 30) (hu : u < 2 ^ 30) : nI a - nI u ≤ 0 ↔ a ≤ u := by
  have h0 : (0 : Int32).toInt = 0 := rfl
  rw [Int32.le_iff_toInt_le, pk_sub_toInt ha hu, h0]
  omega
theorem sub_p1 {p k : Nat} (h1 : 1 ≤ k) (h2 : k ≤ p + 1) (hp : p < 2 ^ 20) : nI p - nI k + (1 : Int32) = nI (p - (k - 1)) := by
  have e : (nI p - nI k + (1 : Int32)).toInt = (p : Int) - k + 1 := by
    rw [Int32.toInt_add, pk_sub_toInt (by omega) (by omega)]
    have h1 : (1 : Int32).toInt = 1 := rfl
    rw [h1, Int.bmod_eq_of_le (by omega) (by omega)]
  apply Int32.toInt_inj.mp
  rw [e, nI_toInt (by omega)]
  omega
theorem KLo_0 (K : Nat → Nat) (f : Nat) : KLo K f 0 = K := by
  funext x; unfold KLo; rw [if_neg (by omega)]
theorem FLo_0 (F : Nat → Nat) (W s f : Nat) : FLo F W s f 0 = F := by
  funext x; unfold FLo; rw [if_neg (by omega)]
theorem KLo_s (K : Nat → Nat) (f k : Nat) : KLo K f (k + 1) = upN (KLo K f k) (f + k) (if k = 0 then 2 else 3) := by
  funext x
  simp only [KLo, upN]
  by_cases e : x = f + k
  · rw [if_pos e, if_pos (by omega)]
    by_cases h : k = 0
    · rw [if_pos h, if_pos (by omega)]
    · rw [if_neg h, if_neg (by omega)]
  · rw [if_neg e]
    by_cases h : f ≤ x ∧ x < f + k
    · rw [if_pos h, if_pos (by omega)]
    · rw [if_neg h, if_neg (by omega)]
theorem FLo_s (F : Nat → Nat) (W s f k : Nat) : FLo F W s f (k + 1) = upN (FLo F W s f k) (f + k) (min W (s - k * W)) := by
  funext x
  simp only [FLo, upN]
  by_cases e : x = f + k
  · have e2 : x - f = k := by omega
    rw [if_pos e, if_pos (by omega), e2]
  · rw [if_neg e]
    by_cases h : f ≤ x ∧ x < f + k
    · rw [if_pos h, if_pos (by omega)]
    · rw [if_neg h, if_neg (by omega)]
theorem VM.up {P W : Nat} {K F : Nat → Nat} {s : St} (v : VM P W K F s) (q a b : Nat) : VM P W (upN K q a) (upN F q b) (pt (pt s 15 q (nI a)) 16 q (nI b)) := by
  refine ⟨?_, ?_, fun p hp => ?_, fun p hp => ?_⟩
  · rw [pt_n _ _ _ _ (by decide), pt_n _ _ _ _ (by decide)]; exact v.1
  · rw [pt_n _ _ _ _ (by decide), pt_n _ _ _ _ (by decide)]; exact v.2.1
  · rw [pt_n _ _ _ _ (by decide), pt_s]
    unfold upN
    by_cases e : p = q
    · rw [if_pos e, if_pos e]
    · rw [if_neg e, if_neg e]; exact v.2.2.1 p hp
  · rw [pt_s]
    unfold upN
    by_cases e : p = q
    · rw [if_pos e, if_pos e]
    · rw [if_neg e, if_neg e, pt_n _ _ _ _ (by decide)]; exact v.2.2.2 p hp
theorem VX.up {P W : Nat} {K F : Nat → Nat} {s : St} (v : VX P W K F s) (q a b : Nat) : VX P W (upN K q a) (upN F q b) (pt (pt s 6 q (nI a)) 7 q (nI b)) := by
  refine ⟨?_, ?_, fun p hp => ?_, fun p hp => ?_⟩
  · rw [pt_n _ _ _ _ (by decide), pt_n _ _ _ _ (by decide)]; exact v.1
  · rw [pt_n _ _ _ _ (by decide), pt_n _ _ _ _ (by decide)]; exact v.2.1
  · rw [pt_n _ _ _ _ (by decide), pt_s]
    unfold upN
    by_cases e : p = q
    · rw [if_pos e, if_pos e]
    · rw [if_neg e, if_neg e]; exact v.2.2.1 p hp
  · rw [pt_s]
    unfold upN
    by_cases e : p = q
    · rw [if_pos e, if_pos e]
    · rw [if_neg e, if_neg e, pt_n _ _ _ _ (by decide)]; exact v.2.2.2 p hp
theorem min_w {W l : Nat} (hW : W < 2 ^ 31) (hl : l < 2 ^ 31) : (if nI l < nI W then nI l else nI W) = nI (min W l) := by
  by_cases h : l < W
  · rw [if_pos (nI_lt h hW), Nat.min_eq_right (by omega)]
  · rw [if_neg (nI_nlt (by omega) (by omega)), Nat.min_eq_left (by omega)]
theorem min_x {W l : Nat} (hW : W < 2 ^ 31) (hl : l < 2 ^ 31) : (if nI W < nI l then nI W else nI l) = nI (min W l) := by
  by_cases h : W < l
  · rw [if_pos (nI_lt h hl), Nat.min_eq_left (by omega)]
  · rw [if_neg (nI_nlt (by omega) (by omega)), Nat.min_eq_right (by omega)]
section
variable {P W n : Nat} {K F A R D : Nat → Nat} {C : Nat → Nat → Int32} {ex : Nat → Int32} {op : Int32} {sx sm : St}
theorem em_91 {f s need : Nat} (hP : P ≤ 64) (hW : W ≤ 64) (hf : f + need ≤ P) (hs : s ≤ 300) (h1 : ∀ k, k < need → k * W < s) (x2 x4 x5 : Int32) : ∀ (d k m : Nat) (st : St), k + d = need → d < m → VM P W (KLo K f k) (FLo F W s f k) st →
    ∃ sm', LX3_laid_91 m (nI s) x2 (nI need) x4 x5 (nI f) (nI k) st = some (nI (f * W), sm') ∧ VM P W (KLo K f need) (FLo F W s f need) sm' ∧ ∀ c, c ≠ 15 → c ≠ 16 → sm'.1 c = st.1 c
  | 0, k, m, st, hd, hm, v => by
    obtain ⟨m, rfl⟩ : ∃ j, m = j + 1 := ⟨m - 1, by omega⟩
    have e : k = need := by omega
    subst e
    refine ⟨st, ?_, v, fun c _ _ => rfl⟩
    simp only [LX3_laid_91]
    rw [if_pos (nI_le (Nat.le_refl _) (by omega)), v.2.1, pk_mul, Nat.mul_comm]
  | d + 1, k, m, st, hd, hm, v => by
    obtain ⟨m, rfl⟩ : ∃ j, m = j + 1 := ⟨m - 1, by omega⟩
    have hk := h1 k (by omega)
    have vu := v.up (f + k) (if k = 0 then 2 else 3) (min W (s - k * W))
    rw [← KLo_s, ← FLo_s] at vu
    obtain ⟨sm', e1, e2, e3⟩ := em_91 hP hW hf hs h1 x2 x4 x5 d (k + 1) m _ (by omega) (by omega) vu
    refine ⟨sm', ?_, e2, fun c c1 c2 => by rw [e3 c c1 c2, pt_n _ _ _ _ c2, pt_n _ _ _ _ c1]⟩
    rw [← e1]
    have ew : ∀ x, (pt st 15 (f + k) x).1 14 2 = nI W := fun x => by rw [pt_n _ _ _ _ (by decide)]; exact v.2.1
    simp only [LX3_laid_91, if_neg (nI_ge (show k < need by omega) (show need < 2 ^ 31 by omega)), nI_add, gd_n (show f + k < 64 by omega) (show 64 < 2 ^ 31 by omega), nI_clamp (show f + k < 2 ^ 31 by omega), nI_p1, ew, pk_mul, Nat.mul_comm W k, pk_sub (show k * W ≤ s by omega), min_w (show W < 2 ^ 31 by omega) (show s - k * W < 2 ^ 31 by omega)]
    by_cases hz : k = 0
    · rw [if_pos ((nI_e0 (by omega)).mpr hz), if_pos hz]; rfl
    · rw [if_neg (fun e => hz ((nI_e0 (by omega)).mp e)), if_neg hz]; rfl
theorem ex_entL {f s need : Nat} (hP : P ≤ 64) (hW : W ≤ 64) (hf : f + need ≤ P) (hs : s ≤ 300) (h1 : ∀ k, k < need → k * W < s) (h2 : s ≤ need * W) : ∀ (d k m : Nat) (st : St), k + d + 1 = need → d + 1 < m → VX P W (KLo K f k) (FLo F W s f k) st →
    ∃ u, LX1_enterLong_5 m (nI f) (nI s) (nI (s - k * W)) (nI (f + k)) st = some (0, u) ∧ VX P W (KLo K f need) (FLo F W s f need) u ∧ (∀ c, c ≠ 6 → c ≠ 7 → u.1 c = st.1 c) ∧ u.2 = (fun j => if j = f then (1 : Int64) else st.2 j)
  | d, k, m, st, hd, hm, v => by
    obtain ⟨m, rfl⟩ : ∃ j, m = j + 1 := ⟨m - 1, by omega⟩
    have hk := h1 k (by omega)
    have vu := v.up (f + k) (if k = 0 then 2 else 3) (min W (s - k * W))
    rw [← KLo_s, ← FLo_s] at vu
    have ew : ∀ x, (pt st 6 (f + k) x).1 1 5 = nI W := fun x => by rw [pt_n _ _ _ _ (by decide)]; exact v.2.1
    have ew2 : ∀ x y, (pt (pt st 6 (f + k) x) 7 (f + k) y).1 1 5 = nI W := fun x y => by rw [pt_n _ _ _ _ (by decide)]; exact ew x
    have step : LX1_enterLong_5 (m + 1) (nI f) (nI s) (nI (s - k * W)) (nI (f + k)) st = LX1_enterLong_5 m (nI f) (nI s) (nI (s - k * W) - nI W) (nI (f + (k + 1))) (pt (pt st 6 (f + k) (nI (if k = 0 then 2 else 3))) 7 (f + k) (nI (min W (s - k * W)))) := by
      simp only [LX1_enterLong_5, v.1, if_neg (nI_ge (show f + k < P by omega) (show P < 2 ^ 31 by omega)), gd_n (show f + k < 64 by omega) (show 64 < 2 ^ 31 by omega), nI_clamp (show f + k < 2 ^ 31 by omega), nI_p1, ew, ew2, min_x (show W < 2 ^ 31 by omega) (show s - k * W < 2 ^ 31 by omega)]
      rw [if_neg (fun e => by have := (nI_le0 (by omega)).mp e; omega)]
      by_cases hz : k = 0
      · rw [if_pos (by rw [hz]; rfl), if_pos hz]; rfl
      · rw [if_neg (nI_ne (by omega) (by omega) (by omega)), if_neg hz]; rfl
    rw [step]
    match d, hd with
    | 0, hd =>
      obtain ⟨m, rfl⟩ : ∃ j, m = j + 1 := ⟨m - 1, by omega⟩
      have hkW : s ≤ k * W + W := by rw [← Nat.succ_mul]; have e : k + 1 = need := by omega
                                     rw [Nat.succ_eq_add_one, e]; exact h2
      have en : k + 1 = need := by omega
      rw [en] at vu ⊢
      refine ⟨pg (pt (pt st 6 (f + k) (nI (if k = 0 then 2 else 3))) 7 (f + k) (nI (min W (s - k * W)))) f (1 : Int64), ?_, ⟨vu.1, vu.2.1, vu.2.2.1, vu.2.2.2⟩, fun c c1 c2 => ?_, ?_⟩
      · simp only [LX1_enterLong_5]
        rw [if_pos (show nI (s - k * W) - nI W ≤ 0 from (sub_le0 (by omega) (by omega)).mpr (by omega)), gd_n (by omega) (by omega), nI_clamp (by omega)]
        simp
      · rw [pg_1, pt_n _ _ _ _ c2, pt_n _ _ _ _ c1]
      · funext j; rw [pg_s]; rfl
    | d + 1, hd =>
      have hk2 := h1 (k + 1) (by omega)
      have e2 : (k + 1) * W = k * W + W := Nat.succ_mul k W
      obtain ⟨u, u1, u2, u3, u4⟩ := ex_entL hP hW hf hs h1 h2 d (k + 1) m _ (by omega) (by omega) vu
      refine ⟨u, ?_, u2, fun c c1 c2 => by rw [u3 c c1 c2, pt_n _ _ _ _ c2, pt_n _ _ _ _ c1], u4⟩
      rw [pk_sub (by omega), show s - k * W - W = s - (k + 1) * W by omega]
      exact u1
/-- the first row of pages that are free -/
theorem row_l (h : PW P W K F) (vx : VX P W K F sx) (vm : VM P W K F sm) {s need : Nat} (hn : 2 ≤ need) (hc : nUsed K P + need ≤ P / 2) : ∀ (d p len m m2 : Nat), p + d = P → d < m → d + 80 < m2 → len < need → len ≤ p → (∀ j, p ≤ j + len → j < p → K j = 0) →
    (LX1_freeRow_4 m (nI need) (nI len) (nI p) sx = some (-1, sx) ∧ LX3_laid_40 m2 (nI s) (nI (P / 2) - nI (nUsed K P)) (nI need) (nI len) (nI p) sm = some (-1, sm)) ∨
    ∃ f m3 x4 x5, f + need ≤ P ∧ 70 < m3 ∧ (∀ j, j < need → K (f + j) = 0) ∧ LX1_freeRow_4 m (nI need) (nI len) (nI p) sx = some (nI f, sx) ∧ LX3_laid_40 m2 (nI s) (nI (P / 2) - nI (nUsed K P)) (nI need) (nI len) (nI p) sm = LX3_laid_91 m3 (nI s) (nI (P / 2) - nI (nUsed K P)) (nI need) x4 x5 (nI f) (0 : Int32) sm
  | 0, p, len, m, m2, hd, hm, hm2, hl, hlp, hf => by
    obtain ⟨m, rfl⟩ : ∃ j, m = j + 1 := ⟨m - 1, by omega⟩
    obtain ⟨m2, rfl⟩ : ∃ j, m2 = j + 1 := ⟨m2 - 1, by omega⟩
    have hP := h.2.1
    have e : p = P := by omega
    subst e
    refine Or.inl ⟨?_, ?_⟩
    · simp only [LX1_freeRow_4, vx.1]
      rw [if_pos (nI_le (Nat.le_refl _) (by omega))]
    · simp only [LX3_laid_40, vm.1]
      rw [if_pos (nI_le (Nat.le_refl _) (by omega))]
  | d + 1, p, len, m, m2, hd, hm, hm2, hl, hlp, hf => by
    obtain ⟨m, rfl⟩ : ∃ j, m = j + 1 := ⟨m - 1, by omega⟩
    obtain ⟨m2, rfl⟩ : ∃ j, m2 = j + 1 := ⟨m2 - 1, by omega⟩
    have hP := h.2.1
    have hu := used_le h
    have hK3 := h.2.2.2.2.1 p
    have hnm : ¬ nI (P / 2) - nI (nUsed K P) < nI need := fun e => by have := (most_lt (by omega) (by omega) (by omega)).mp e; omega
    simp only [LX1_freeRow_4, LX3_laid_40, vx.1, vm.1, if_neg (nI_ge (show p < P by omega) (show P < 2 ^ 31 by omega)), if_neg hnm, gd_n (show p < 64 by omega) (show 64 < 2 ^ 31 by omega), nI_clamp (show p < 2 ^ 31 by omega), vx.2.2.1 p (by omega), vm.2.2.1 p (by omega), be_s, nI_p1]
    by_cases hk : K p = 0
    · simp only [if_pos ((nI_e0 (show K p < 2 ^ 31 by omega)).mpr hk)]
      by_cases hle : len + 1 = need
      · rw [if_pos (by rw [hle]), if_pos (by rw [hle])]
        refine Or.inr ⟨p - (need - 1), m2, nI (len + 1), nI p, by omega, by omega, fun j hj => ?_, ?_, ?_⟩
        · by_cases e : p - (need - 1) + j = p
          · rw [e]; exact hk
          · exact hf _ (by omega) (by omega)
        · rw [sub_p1 (show 1 ≤ need by omega) (show need ≤ p + 1 by omega) (show p < 2 ^ 20 by omega)]
        · rw [sub_p1 (show 1 ≤ need by omega) (show need ≤ p + 1 by omega) (show p < 2 ^ 20 by omega)]
      · rw [if_neg (nI_ne (by omega) (by omega) hle), if_neg (nI_ne (by omega) (by omega) hle)]
        exact row_l h vx vm hn hc d (p + 1) (len + 1) m m2 (by omega) (by omega) (by omega) (by omega) (by omega) (fun j j1 j2 => by
          by_cases e : j = p
          · rw [e]; exact hk
          · exact hf j (by omega) (by omega))
    · simp only [if_neg (fun e => hk ((nI_e0 (show K p < 2 ^ 31 by omega)).mp e))]
      rw [if_neg (fun e : (0 : Int32) = nI need => by have := (nI_e0 (show need < 2 ^ 31 by omega)).mp e.symm; omega), if_neg (fun e : (0 : Int32) = nI need => by have := (nI_e0 (show need < 2 ^ 31 by omega)).mp e.symm; omega)]
      exact row_l h vx vm hn hc d (p + 1) 0 m m2 (by omega) (by omega) (by omega) (by omega) (by omega) (fun j j1 j2 => by omega)
theorem ceil_l {s W : Nat} (hW : 0 < W) {need : Nat} (e : need = (s + W - 1) / W) (hs : W < s) : 2 ≤ need ∧ (∀ k, k < need → k * W < s) ∧ s ≤ need * W := by
  have h1 := Nat.div_add_mod (s + W - 1) W
  have h2 := Nat.mod_lt (s + W - 1) hW
  rw [← e, Nat.mul_comm] at h1
  refine ⟨?_, fun k hk => ?_, by omega⟩
  · apply Nat.lt_of_not_le
    intro h
    have : need * W ≤ 1 * W := Nat.mul_le_mul_right W h
    omega
  · have : (k + 1) * W ≤ need * W := Nat.mul_le_mul_right W hk
    rw [Nat.succ_mul] at this
    omega
theorem room_l (g : Geo P W n K F A R D) (vx : VX P W K F sx) (vm : VM P W K F sm) (hOP : OP P K op sx sm) {s m : Nat} (hsW : W < s) (hs : s ≤ 300) (hm : 4200 ≤ m) :
    (FX1_roomFor m (nI s) sx = some (-1, sx) ∧ FX3_laid m (nI s) sm = some (-1, sm)) ∨
    (∃ a K' F' op' sm', FX1_roomFor m (nI s) sx = some (nI a, sx) ∧ FX3_laid m (nI s) sm = some (nI a, sm') ∧ Put P W K F op s a K' F' op' ∧ Laid P W K' F' op' sm sm') := by
  obtain ⟨o1, o2, o3⟩ := hOP
  have hP := g.1.2.1
  have hP4 := g.1.1
  have hW := g.1.2.2.2.1
  have hW8 := g.1.2.2.1
  have hu := used_le g.1
  obtain ⟨need, hne⟩ : ∃ need, need = (s + W - 1) / W := ⟨_, rfl⟩
  obtain ⟨c1, c2, c3⟩ := ceil_l (by omega) hne hsW
  have hn300 : need ≤ 300 := by
    have := c2 (need - 1) (by omega)
    have h8 : (need - 1) * 1 ≤ (need - 1) * W := Nat.mul_le_mul_left _ (by omega)
    omega
  have ed : (nI s + nI W - (1 : Int32)) / nI W = nI need := by
    rw [nI_add, nI_s1 (by omega), nI_div _ (by omega) (by omega) (by omega), ← hne]
  have may := ex_may g.1 vx (m := m) (k := need) (by omega) (by omega)
  have eX : FX1_roomFor m (nI s) sx = if nUsed K P + need ≤ P / 2 then bd (LX1_freeRow_4 m (nI need) (nI 0) (nI 0) sx) (fun r u => if r = -1 then some (-1, u) else bd (FX1_addressOf m r 0 u) (fun r u => some (r, u))) else some (-1, sx) := by
    unfold FX1_roomFor FX1_roomForLong FX1_freeRow
    rw [vx.2.1, if_pos (nI_lt hsW (by omega)), dz_n (by omega) (by omega), ed, may, bd_s]
    by_cases hc : nUsed K P + need ≤ P / 2
    · rw [if_pos hc, if_neg (by decide), if_pos hc]
      cases hq : LX1_freeRow_4 m (nI need) (nI 0) (nI 0) sx with
      | none => rw [n0, hq]; rfl
      | some q => 
        rw [n0, hq, bd_s]
        by_cases e : q.1 = -1
        · rw [if_pos e]; rfl
        · rw [if_neg e]; rfl
    · rw [if_neg hc, if_pos rfl, if_pos rfl, bd_s, if_neg hc]
  have eM : FX3_laid m (nI s) sm = LX3_laid_40 m (nI s) (nI (P / 2) - nI (nUsed K P)) (nI need) (nI 0) (nI 0) sm := by
    unfold FX3_laid
    rw [dz_2, em_used g.1 vm (by omega), bd_s, vm.2.1, vm.1, show (2 : Int32) = nI 2 from rfl, nI_div _ (by omega) (by omega) (by omega), if_neg (nI_ge hsW (by omega)), dz_n (by omega) (by omega), ed]
    rfl
  by_cases hc : nUsed K P + need ≤ P / 2
  · rw [if_pos hc] at eX
    rcases row_l g.1 vx vm (s := s) c1 hc P 0 0 m m (by omega) (by omega) (by omega) (by omega) (by omega) (fun j _ h2 => by omega) with ⟨r1, r2⟩ | ⟨f, m3, x4, x5, r1, r2, r3, r4, r5⟩
    · exact Or.inl ⟨by rw [eX, r1, bd_s, if_pos rfl], by rw [eM, r2]⟩
    · have vm0 : VM P W (KLo K f 0) (FLo F W s f 0) sm := by rw [KLo_0, FLo_0]; exact vm
      obtain ⟨sm', e1, e2, e3⟩ := em_91 hP hW r1 hs c2 (nI (P / 2) - nI (nUsed K P)) x4 x5 need 0 m3 sm (by omega) (by omega) vm0
      refine Or.inr ⟨f * W, KLo K f need, FLo F W s f need, op, sm', ?_, by rw [eM, r5]; exact e1, Or.inr ⟨hsW, f, need, hne, r1, rfl, r3, rfl, rfl, rfl⟩, e2, ?_, fun c c0 c1 c2 => e3 c c1 c2, fun j _ => by rw [e3 14 (by decide) (by decide)]⟩
      · rw [eX, r4, bd_s, if_neg (nI_m1 (by omega))]
        unfold FX1_addressOf
        rw [bd_s, vx.2.1, pk_mul, n0, nI_add, Nat.add_zero]
      · rw [e3 14 (by decide) (by decide)]; exact o2
  · rw [if_neg hc] at eX
    refine Or.inl ⟨eX, ?_⟩
    rw [eM]
    obtain ⟨m, rfl⟩ : ∃ j, m = j + 1 := ⟨m - 1, by omega⟩
    simp only [LX3_laid_40, vm.1]
    rw [if_neg (nI_ge (by omega) (by omega)), if_pos ((most_lt (by omega) (by omega) (by omega)).mpr (by omega))]
theorem room (g : Geo P W n K F A R D) (vx : VX P W K F sx) (vm : VM P W K F sm) (hOP : OP P K op sx sm) {s m : Nat} (hs : 1 ≤ s) (hs3 : s ≤ 300) (hm : 4200 ≤ m) :
    (FX1_roomFor m (nI s) sx = some (-1, sx) ∧ FX3_laid m (nI s) sm = some (-1, sm)) ∨
    (∃ a K' F' op' sm', FX1_roomFor m (nI s) sx = some (nI a, sx) ∧ FX3_laid m (nI s) sm = some (nI a, sm') ∧ Put P W K F op s a K' F' op' ∧ Laid P W K' F' op' sm sm') := by
  by_cases hc : s ≤ W
  · exact room_s g vx vm hOP hs hc hm
  · exact room_l g vx vm hOP (by omega) hs3 hm
end
