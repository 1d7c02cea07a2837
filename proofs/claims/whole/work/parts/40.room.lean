/-! where a new object comes -/
def upN (f : Nat → Nat) (q v : Nat) : Nat → Nat := fun x => if x = q then v else f x
def KLo (K : Nat → Nat) (f k : Nat) : Nat → Nat := fun x => if f ≤ x ∧ x < f + k then (if x = f then 2 else 3) else K x
def FLo (F : Nat → Nat) (W s f k : Nat) : Nat → Nat := fun x => if f ≤ x ∧ x < f + k then min W (s - (x - f) * W) else F x
def Put (P W : Nat) (K F : Nat → Nat) (op : Int32) (s a : Nat) (K' F' : Nat → Nat) (op' : Int32) : Prop :=
  (s ≤ W ∧ ∃ q, q < P ∧ a = q * W + F q ∧ F q + s ≤ W ∧ ((K q = 1 ∧ op = nI q) ∨ K q = 0) ∧ K' = upN K q 1 ∧ F' = upN F q (F q + s) ∧ op' = nI q) ∨
  (W < s ∧ ∃ p need, need = (s + W - 1) / W ∧ p + need ≤ P ∧ a = p * W ∧ (∀ j, j < need → K (p + j) = 0) ∧ K' = KLo K p need ∧ F' = FLo F W s p need ∧ op' = op)
/-- what the model's laid leaves -/
def Laid (P W : Nat) (K' F' : Nat → Nat) (op' : Int32) (sm sm' : St) : Prop := VM P W K' F' sm' ∧ sm'.1 14 6 = op' ∧ (∀ c, c ≠ 14 → c ≠ 15 → c ≠ 16 → sm'.1 c = sm.1 c) ∧ (∀ j, j ≠ 6 → sm'.1 14 j = sm.1 14 j)
theorem most_le {a u k : Nat} (ha : a < 2 ^ 30) (hu : u < 2 ^ 30) (hk : k < 2 ^ 30) : nI k ≤ nI a - nI u ↔ u + k ≤ a := by
  rw [Int32.le_iff_toInt_le, pk_sub_toInt ha hu, nI_toInt (by omega)]
  omega
theorem most_lt {a u k : Nat} (ha : a < 2 ^ 30) (hu : u < 2 ^ 30) (hk : k < 2 ^ 30) : nI a - nI u < nI k ↔ a < u + k := by
  rw [Int32.lt_iff_toInt_lt, pk_sub_toInt ha hu, nI_toInt (by omega)]
  omega
theorem sub_lt {w f s : Nat} (hw : w < 2 ^ 30) (hf : f < 2 ^ 30) (hs : s < 2 ^ 30) : nI w - nI f < nI s ↔ w < f + s := most_lt hw hf hs
section
variable {P W n : Nat} {K F A R D : Nat → Nat} {C : Nat → Nat → Int32} {ex : Nat → Int32} {op : Int32} {sx sm : St}
theorem used_le (h : PW P W K F) : nUsed K P ≤ P := cnt_le _ _
theorem ex_may (h : PW P W K F) (v : VX P W K F sx) {m k : Nat} (hm : 64 < m) (hk : k < 2 ^ 20) : FX1_mayTake m (nI k) sx = some (if nUsed K P + k ≤ P / 2 then 1 else 0, sx) := by
  have hu := used_le h
  have hP := h.2.1
  unfold FX1_mayTake
  rw [ex_used h v hm, bd_s, dz_2, v.1, show (2 : Int32) = nI 2 from rfl, nI_div _ (by omega) (by omega) (by omega), nI_add, be_s]
  by_cases hc : nUsed K P + k ≤ P / 2
  · rw [if_neg (nI_nlt hc (by omega)), gz_1, if_pos hc]
  · rw [if_pos (nI_lt (by omega) (by omega)), gz_0, if_neg hc]
/-- the model's page beside the class's: the least free one -/
theorem em_freeL (h : PW P W K F) (v : VM P W K F sm) (x1 x2 : Int32) : ∀ (d p m : Nat), p + d = P → d < m →
    (∃ q m', p ≤ q ∧ q < P ∧ K q = 0 ∧ (∀ j, p ≤ j → j < q → K j ≠ 0) ∧ LX3_laid_193 m x1 x2 (nI p) sm = JX3_laid_216 m' x1 x2 (nI q) sm) ∨ ((∀ j, p ≤ j → j < P → K j ≠ 0) ∧ ∃ m', LX3_laid_193 m x1 x2 (nI p) sm = JX3_laid_216 m' x1 x2 (nI P) sm)
  | 0, p, m, hd, hm => by
    obtain ⟨m, rfl⟩ : ∃ k, m = k + 1 := ⟨m - 1, by omega⟩
    have hP := h.2.1
    have e : p = P := by omega
    subst e
    refine Or.inr ⟨fun j h1 h2 => by omega, m, ?_⟩
    simp only [LX3_laid_193, v.1]
    rw [if_pos (nI_le (Nat.le_refl _) (by omega))]
  | d + 1, p, m, hd, hm => by
    obtain ⟨m, rfl⟩ : ∃ k, m = k + 1 := ⟨m - 1, by omega⟩
    have hP := h.2.1
    have hK3 := h.2.2.2.2.1 p
    have ih := em_freeL h v x1 x2 d (p + 1) m (by omega) (by omega)
    simp only [LX3_laid_193, v.1]
    rw [if_neg (nI_ge (by omega) (by omega)), gd_n (by omega) (by omega), nI_clamp (by omega), v.2.2.1 p (by omega), nI_p1]
    by_cases hk : K p = 0
    · exact Or.inl ⟨p, m, Nat.le_refl _, by omega, hk, fun j h1 h2 => by omega, by rw [if_pos ((nI_e0 (by omega)).mpr hk)]⟩
    · rw [if_neg (fun e => hk ((nI_e0 (by omega)).mp e))]
      rcases ih with ⟨q, m', h1, h2, h3, h4, h5⟩ | ⟨h1, m', h2⟩
      · exact Or.inl ⟨q, m', by omega, h2, h3, fun j j1 j2 => by
          by_cases e : j = p
          · rw [e]; exact hk
          · exact h4 j (by omega) j2, h5⟩
      · exact Or.inr ⟨fun j j1 j2 => by
          by_cases e : j = p
          · rw [e]; exact hk
          · exact h1 j (by omega) j2, m', h2⟩
/-- the last step of a small one: behind what is on the open page -/
theorem em_250 (hP : P ≤ 64) (hW : W ≤ 64) (v : VM P W K F sm) {q s m : Nat} (hq : q < P) (hF : F q ≤ 64) (hs : s ≤ 300) (ho : sm.1 14 6 = nI q) :
    ∃ sm', JX3_laid_250 m (nI s) sm = some (nI (q * W + F q), sm') ∧ Laid P W K (upN F q (F q + s)) (nI q) sm sm' := by
  have hqW : q * W ≤ 64 * 64 := Nat.mul_le_mul (by omega) hW
  refine ⟨pt sm 16 q (nI (F q + s)), ?_, ⟨?_, ?_, ?_, ?_⟩, ?_, ?_, ?_⟩
  · unfold JX3_laid_250
    simp only [ho, gd_n (show q < 64 by omega) (show 64 < 2 ^ 31 by omega), nI_clamp (show q < 2 ^ 31 by omega), v.2.1, v.2.2.2 q (by omega), pk_mul, nI_add, Nat.mul_comm W q]
  · rw [pt_n _ _ _ _ (by decide)]; exact v.1
  · rw [pt_n _ _ _ _ (by decide)]; exact v.2.1
  · intro p hp
    rw [pt_n _ _ _ _ (by decide)]; exact v.2.2.1 p hp
  · intro p hp
    rw [pt_s]
    unfold upN
    by_cases e : p = q
    · rw [if_pos e, if_pos e]
    · rw [if_neg e, if_neg e]; exact v.2.2.2 p hp
  · rw [pt_n _ _ _ _ (by decide)]; exact ho
  · intro c _ _ h3; exact pt_n _ _ _ _ h3
  · intro j _; rw [pt_n _ _ _ _ (by decide)]
theorem room_s (g : Geo P W n K F A R D) (vx : VX P W K F sx) (vm : VM P W K F sm) (hOP : OP P K op sx sm) {s m : Nat} (hs : 1 ≤ s) (hsW : s ≤ W) (hm : 4200 ≤ m) :
    (FX1_roomFor m (nI s) sx = some (-1, sx) ∧ FX3_laid m (nI s) sm = some (-1, sm)) ∨
    (∃ a K' F' op' sm', FX1_roomFor m (nI s) sx = some (nI a, sx) ∧ FX3_laid m (nI s) sm = some (nI a, sm') ∧ Put P W K F op s a K' F' op' ∧ Laid P W K' F' op' sm sm') := by
  obtain ⟨o1, o2, o3⟩ := hOP
  have hP := g.1.2.1
  have hP4 := g.1.1
  have hW := g.1.2.2.2.1
  have hW8 := g.1.2.2.1
  have hu := used_le g.1
  have eX : FX1_roomFor m (nI s) sx = bd (FX1_roomForSmall m (nI s) sx) (fun r u => some (r, u)) := by
    unfold FX1_roomFor
    rw [vx.2.1, if_neg (nI_nlt hsW (by omega))]
  have eM : FX3_laid m (nI s) sm = if op = -1 then JX3_laid_191 m (nI s) (nI (P / 2) - nI (nUsed K P)) sm else gd op 64 (if nI s ≤ nI W - sm.1 16 op.toNatClampNeg then JX3_laid_250 m (nI s) sm else JX3_laid_191 m (nI s) (nI (P / 2) - nI (nUsed K P)) sm) := by
    unfold FX3_laid
    rw [dz_2, em_used g.1 vm (by omega), bd_s, vm.2.1, vm.1, o2, show (2 : Int32) = nI 2 from rfl, nI_div _ (by omega) (by omega) (by omega), if_pos (nI_le hsW (by omega))]
  -- a new page, or none
  have key : (JX1_roomForSmall_44 m sx = some (-1, sx) ∧ JX3_laid_191 m (nI s) (nI (P / 2) - nI (nUsed K P)) sm = some (-1, sm)) ∨
      (∃ q sm', q < P ∧ K q = 0 ∧ JX1_roomForSmall_44 m sx = some (nI (q * W), sx) ∧ JX3_laid_191 m (nI s) (nI (P / 2) - nI (nUsed K P)) sm = some (nI (q * W), sm') ∧ Laid P W (upN K q 1) (upN F q (F q + s)) (nI q) sm sm') := by
    have hx := ex_freeL g.1 vx (0 : Int32) P 0 m (by omega) (by omega)
    have hmm := em_freeL g.1 vm (nI s) (nI (P / 2) - nI (nUsed K P)) P 0 m (by omega) (by omega)
    have may : FX1_mayTake m (1 : Int32) sx = some (if nUsed K P + 1 ≤ P / 2 then 1 else 0, sx) := ex_may g.1 vx (m := m) (k := 1) (by omega) (by omega)
    rw [← n0] at hx hmm
    unfold JX1_roomForSmall_44 JX3_laid_191
    rw [may, bd_s]
    unfold FX1_freePageFrom
    rcases hmm with ⟨q, m', _, hq, hk, hl, e⟩ | ⟨hno, m', e⟩
    · rw [e]
      unfold JX3_laid_216
      rw [vm.1, if_neg (nI_ne (by omega) (by omega) (by omega))]
      by_cases hc : nUsed K P + 1 ≤ P / 2
      · have hz : F q = 0 := (g.2.2.1 q).mp hk
        have hqW : q * W ≤ 64 * 64 := Nat.mul_le_mul (by omega) hW
        rcases hx with ⟨q2, _, hq2, hk2, hl2, ex2⟩ | ⟨hno, _⟩
        · have eq : q2 = q := by
            rcases Nat.lt_trichotomy q q2 with e1 | e1 | e1
            · exact absurd hk (hl2 q (Nat.zero_le _) e1)
            · exact e1.symm
            · exact absurd hk2 (hl q2 (Nat.zero_le _) e1)
          subst eq
          obtain ⟨sm', e3, l1, l2, l3, l4⟩ := em_250 (K := upN K q2 1) (F := upN F q2 0) (sm := pt (pt (pt sm 15 q2 (1 : Int32)) 16 q2 (0 : Int32)) 14 6 (nI q2)) (P := P) (W := W) (s := s) (q := q2) (m := m') hP hW (by
            refine ⟨?_, ?_, fun p hp => ?_, fun p hp => ?_⟩
            · rw [pt_j _ _ _ _ (by decide), pt_n _ _ _ _ (by decide), pt_n _ _ _ _ (by decide)]; exact vm.1
            · rw [pt_j _ _ _ _ (by decide), pt_n _ _ _ _ (by decide), pt_n _ _ _ _ (by decide)]; exact vm.2.1
            · rw [pt_n _ _ _ _ (by decide), pt_n _ _ _ _ (by decide), pt_s]
              unfold upN
              by_cases e1 : p = q2
              · exact (if_pos e1).trans (n1.trans (congrArg nI (if_pos e1).symm))
              · rw [if_neg e1, if_neg e1]; exact vm.2.2.1 p hp
            · rw [pt_n _ _ _ _ (by decide), pt_s]
              unfold upN
              by_cases e1 : p = q2
              · exact (if_pos e1).trans (n0.trans (congrArg nI (if_pos e1).symm))
              · rw [if_neg e1, if_neg e1, pt_n _ _ _ _ (by decide)]; exact vm.2.2.2 p hp) hq (by simp [upN]) (by omega) (pt_k _ _ _ _)
          have eF : upN (upN F q2 0) q2 (upN F q2 0 q2 + s) = upN F q2 (F q2 + s) := by
            funext x
            unfold upN
            by_cases e1 : x = q2
            · simp [e1, hz]
            · simp [e1]
          have eA : q2 * W + upN F q2 0 q2 = q2 * W := by simp [upN]
          rw [eF] at l1
          rw [eA] at e3
          refine Or.inr ⟨q2, sm', hq, hk, ?_, ?_, l1, l2, fun c c1 c2 c3 => ?_, fun j hj => ?_⟩
          · rw [if_pos hc, if_neg (by decide), ex2, bd_s, if_neg (nI_m1 (by omega))]
            unfold FX1_addressOf
            rw [bd_s, vx.2.1, pk_mul, n0, nI_add, Nat.add_zero]
          · rw [if_pos (show (1 : Int32) ≤ nI (P / 2) - nI (nUsed K P) from (most_le (k := 1) (by omega) (by omega) (by omega)).mpr hc), gd_n (by omega) (by omega), gd_n (by omega) (by omega), nI_clamp (by omega)]
            exact e3
          · rw [l3 c c1 c2 c3, pt_n _ _ _ _ c1, pt_n _ _ _ _ c3, pt_n _ _ _ _ c2]
          · rw [l4 j hj, pt_j _ _ _ _ hj, pt_n _ _ _ _ (by decide), pt_n _ _ _ _ (by decide)]
        · exact absurd hk (hno q (Nat.zero_le _) hq)
      · refine Or.inl ⟨?_, ?_⟩
        · rw [if_neg hc, if_pos rfl, if_pos rfl]
        · rw [if_neg (fun e1 : (1 : Int32) ≤ nI (P / 2) - nI (nUsed K P) => hc ((most_le (k := 1) (by omega) (by omega) (by omega)).mp e1))]
    · rw [e]
      unfold JX3_laid_216
      rw [vm.1]
      refine Or.inl ⟨?_, if_pos rfl⟩
      by_cases hc : nUsed K P + 1 ≤ P / 2
      · rcases hx with ⟨q2, _, hq2, hk2, _⟩ | ⟨_, ex2⟩
        · exact absurd hk2 (hno q2 (Nat.zero_le _) hq2)
        · rw [if_pos hc, if_neg (by decide), ex2, bd_s, if_pos rfl]
      · rw [if_neg hc, if_pos rfl, if_pos rfl]
  have fin : FX1_roomForSmall m (nI s) sx = JX1_roomForSmall_44 m sx → FX3_laid m (nI s) sm = JX3_laid_191 m (nI s) (nI (P / 2) - nI (nUsed K P)) sm →
      (FX1_roomFor m (nI s) sx = some (-1, sx) ∧ FX3_laid m (nI s) sm = some (-1, sm)) ∨
      (∃ a K' F' op' sm', FX1_roomFor m (nI s) sx = some (nI a, sx) ∧ FX3_laid m (nI s) sm = some (nI a, sm') ∧ Put P W K F op s a K' F' op' ∧ Laid P W K' F' op' sm sm') := by
    intro q1 q2
    rcases key with ⟨k1, k2⟩ | ⟨q, sm', hq, hk, k1, k2, k3⟩
    · exact Or.inl ⟨by rw [eX, q1, k1, bd_s], by rw [q2, k2]⟩
    · have hz : F q = 0 := (g.2.2.1 q).mp hk
      exact Or.inr ⟨q * W, _, _, _, sm', by rw [eX, q1, k1, bd_s], by rw [q2, k2], Or.inl ⟨hsW, q, hq, by omega, by omega, Or.inr hk, rfl, rfl, rfl⟩, k3⟩
  rcases o3 with eo | ⟨q, hq, eo, hk⟩
  · apply fin
    · unfold FX1_roomForSmall
      rw [o1, eo, if_pos rfl]
    · rw [eM, eo, if_pos rfl]
  · have hFq := g.1.2.2.2.2.2 q
    have hqW : q * W ≤ 64 * 64 := Nat.mul_le_mul (by omega) hW
    have nm : ¬ op = -1 := by rw [eo]; exact nI_m1 (by omega)
    have eXs : FX1_roomForSmall m (nI s) sx = if W < F q + s then JX1_roomForSmall_44 m sx else some (nI (q * W + F q), sx) := by
      unfold FX1_roomForSmall
      simp only [o1, eo, if_neg (nI_m1 (show q < 2 ^ 31 by omega)), gd_n (show q < 64 by omega) (show 64 < 2 ^ 31 by omega), nI_clamp (show q < 2 ^ 31 by omega), vx.2.1, vx.2.2.2 q (by omega), FX1_addressOf, bd_s, pk_mul, nI_add]
      by_cases hc : W < F q + s
      · rw [if_pos ((sub_lt (by omega) (by omega) (by omega)).mpr hc), if_pos hc]
      · rw [if_neg (fun e1 => hc ((sub_lt (by omega) (by omega) (by omega)).mp e1)), if_neg hc]
    have eMs : FX3_laid m (nI s) sm = if W < F q + s then JX3_laid_191 m (nI s) (nI (P / 2) - nI (nUsed K P)) sm else JX3_laid_250 m (nI s) sm := by
      rw [eM, if_neg nm, eo, gd_n (by omega) (by omega), nI_clamp (by omega), vm.2.2.2 q (by omega)]
      by_cases hc : W < F q + s
      · rw [if_neg (fun e1 => by have := (most_le (by omega) (by omega) (by omega)).mp e1; omega), if_pos hc]
      · rw [if_pos ((most_le (by omega) (by omega) (by omega)).mpr (by omega)), if_neg hc]
    by_cases hc : W < F q + s
    · apply fin
      · rw [eXs, if_pos hc]
      · rw [eMs, if_pos hc]
    · obtain ⟨sm', e3, l⟩ := em_250 (m := m) (s := s) hP hW vm hq (by omega) (by omega) (o2.trans eo)
      refine Or.inr ⟨q * W + F q, upN K q 1, upN F q (F q + s), nI q, sm', by rw [eX, eXs, if_neg hc, bd_s], by rw [eMs, if_neg hc, e3], Or.inl ⟨hsW, q, hq, rfl, by omega, Or.inl ⟨hk, eo⟩, rfl, rfl, rfl⟩, ?_⟩
      have eK : upN K q 1 = K := by
        funext x
        unfold upN
        by_cases e1 : x = q
        · rw [if_pos e1, e1, hk]
        · rw [if_neg e1]
      rw [eK]; exact l
end
