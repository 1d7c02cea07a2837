/-! steps of the plan, in the class and in the model -/
def KeepX (s u : St) : Prop := u.2 = s.2 ∧ (∀ c, c ≠ 2 → c ≠ 9 → c ≠ 10 → c ≠ 11 → c ≠ 12 → u.1 c = s.1 c) ∧ ∀ j, 10 ≤ j → u.1 2 j = s.1 2 j
def KeepM (s u : St) : Prop := (∀ c, c ≠ 14 → c ≠ 26 → c ≠ 27 → c ≠ 28 → c ≠ 29 → u.1 c = s.1 c) ∧ ∀ j, j ≤ 13 → u.1 14 j = s.1 14 j
theorem KeepX.rfl' (s : St) : KeepX s s := ⟨rfl, fun _ _ _ _ _ _ => rfl, fun _ _ => rfl⟩
theorem KeepM.rfl' (s : St) : KeepM s s := ⟨fun _ _ _ _ _ _ => rfl, fun _ _ => rfl⟩
theorem KeepX.tr {s u w : St} (h : KeepX s u) (h2 : KeepX u w) : KeepX s w := ⟨h2.1.trans h.1, fun c a b d e f => (h2.2.1 c a b d e f).trans (h.2.1 c a b d e f), fun j hj => (h2.2.2 j hj).trans (h.2.2 j hj)⟩
theorem KeepM.tr {s u w : St} (h : KeepM s u) (h2 : KeepM u w) : KeepM s w := ⟨fun c a b d e f => (h2.1 c a b d e f).trans (h.1 c a b d e f), fun j hj => (h2.2 j hj).trans (h.2 j hj)⟩
def bI (b : Bool) : Int32 := if b = true then 1 else 0
theorem bI_t : bI true = 1 := rfl
theorem bI_f : bI false = 0 := rfl
/-- the plan in the class -/
def PX (n : Nat) (A : Nat → Nat) (ln : Nat) (row B : Nat → Nat) (sv H S : Nat → Bool) (tg : Int32) (tf tk mv : Nat) (s : St) : Prop :=
  s.1 2 2 = nI ln ∧ (∀ k, k < ln → s.1 9 k = nI (A (row k))) ∧ (∀ o, o < n → s.1 10 (A o) = if sv o = true then nI (B o) else -1) ∧ (∀ p, p < 64 → s.1 11 p = bI (H p)) ∧ (∀ p, p < 64 → s.1 12 p = bI (S p)) ∧ s.1 2 6 = tg ∧ s.1 2 7 = nI tf ∧ s.1 2 8 = nI mv ∧ s.1 2 9 = nI tk
/-- the plan in the model -/
def PM (n ln : Nat) (row B : Nat → Nat) (sv H : Nat → Bool) (T : Nat → Nat) (tg : Int32) (tf tk mv : Nat) (s : St) : Prop :=
  s.1 14 18 = nI ln ∧ (∀ k, k < ln → s.1 26 k = nI (row k)) ∧ (∀ o, o < n → s.1 27 o = if sv o = true then nI (B o) else -1) ∧ (∀ p, p < 64 → s.1 28 p = bI (H p)) ∧ (∀ p, p < 64 → s.1 29 p = nI (T p)) ∧ s.1 14 22 = tg ∧ s.1 14 23 = nI tf ∧ s.1 14 24 = nI tk ∧ s.1 14 25 = nI mv
def QQ (P W n : Nat) (K A R D : Nat → Nat) (H : Nat → Bool) (ln : Nat) (row : Nat → Nat) (sv : Nat → Bool) (sx sm : St) : Prop :=
  ∃ (B : Nat → Nat) (S : Nat → Bool) (T : Nat → Nat) (tg : Int32) (tf tk mv : Nat), PI P W n K A R D ln row B sv H S T tg tf ∧ PX n A ln row B sv H S tg tf tk mv sx ∧ PM n ln row B sv H T tg tf tk mv sm
def Grow (ln : Nat) (row : Nat → Nat) (sv : Nat → Bool) (ln' : Nat) (row' : Nat → Nat) (sv' : Nat → Bool) : Prop := ln ≤ ln' ∧ (∀ k, k < ln → row' k = row k) ∧ ∀ o, sv o = true → sv' o = true
theorem Grow.rfl' (ln : Nat) (row : Nat → Nat) (sv : Nat → Bool) : Grow ln row sv ln row sv := ⟨Nat.le_refl _, fun _ _ => rfl, fun _ h => h⟩
theorem Grow.tr {l l1 l2 : Nat} {r r1 r2 : Nat → Nat} {v v1 v2 : Nat → Bool} (h : Grow l r v l1 r1 v1) (h2 : Grow l1 r1 v1 l2 r2 v2) : Grow l r v l2 r2 v2 := ⟨Nat.le_trans h.1 h2.1, fun k hk => (h2.2.1 k (Nat.lt_of_lt_of_le hk h.1)).trans (h.2.1 k hk), fun o ho => h2.2.2 o (h.2.2 o ho)⟩
theorem Grow.up {ln : Nat} {row : Nat → Nat} {sv : Nat → Bool} (o : Nat) : Grow ln row sv (ln + 1) (upN row ln o) (upB sv o) := ⟨Nat.le_succ _, fun k hk => if_neg (by omega), fun x h => (upB_t sv o x).mpr (Or.inl h)⟩
section
variable {P W n ln : Nat} {K F A R D row B T : Nat → Nat} {sv H S : Nat → Bool} {tg : Int32} {tf tk mv : Nat} {C : Nat → Nat → Int32} {ex : Nat → Int32} {op : Int32} {sx sm s : St}
theorem RR.keep (h : RR P W n K F A R D C ex op sx sm) {sx' sm' : St} (kx : KeepX sx sx') (km : KeepM sm sm') : RR P W n K F A R D C ex op sx' sm' := by
  obtain ⟨g, vx, vm, hOX, hZX, hBX, hOM, hCR, hRT, hLO, hOP, hTL⟩ := h
  obtain ⟨x0, x1, x2⟩ := kx
  obtain ⟨m1, m2⟩ := km
  have e1 := x1 1 (by decide) (by decide) (by decide) (by decide) (by decide)
  have e3 := x1 3 (by decide) (by decide) (by decide) (by decide) (by decide)
  have e4 := x1 4 (by decide) (by decide) (by decide) (by decide) (by decide)
  have e5 := x1 5 (by decide) (by decide) (by decide) (by decide) (by decide)
  have e6 := x1 6 (by decide) (by decide) (by decide) (by decide) (by decide)
  have e7 := x1 7 (by decide) (by decide) (by decide) (by decide) (by decide)
  have e13 := x1 13 (by decide) (by decide) (by decide) (by decide) (by decide)
  have f15 := m1 15 (by decide) (by decide) (by decide) (by decide) (by decide)
  have f16 := m1 16 (by decide) (by decide) (by decide) (by decide) (by decide)
  have f17 := m1 17 (by decide) (by decide) (by decide) (by decide) (by decide)
  have f18 := m1 18 (by decide) (by decide) (by decide) (by decide) (by decide)
  have f19 := m1 19 (by decide) (by decide) (by decide) (by decide) (by decide)
  have f20 := m1 20 (by decide) (by decide) (by decide) (by decide) (by decide)
  have f21 := m1 21 (by decide) (by decide) (by decide) (by decide) (by decide)
  have f22 := m1 22 (by decide) (by decide) (by decide) (by decide) (by decide)
  have f23 := m1 23 (by decide) (by decide) (by decide) (by decide) (by decide)
  have f24 := m1 24 (by decide) (by decide) (by decide) (by decide) (by decide)
  have f25 := m1 25 (by decide) (by decide) (by decide) (by decide) (by decide)
  refine ⟨g, ?_, ?_, by rw [e5]; exact hOX, by rw [e5]; exact hZX, by rw [x0]; exact hBX, ?_, hCR, ?_, ?_, ?_, ?_⟩
  · unfold VX at *; rw [e1, e6, e7]; exact vx
  · unfold VM at *; rw [m2 1 (by omega), m2 2 (by omega), f15, f16]; exact vm
  · unfold OM at *; rw [m2 7 (by omega), m2 13 (by omega), f18, f19, f20, f21, f22]; exact hOM
  · unfold RT at *; rw [f23, e3]; exact hRT
  · unfold LO at *; rw [f24, e4]; exact hLO
  · unfold OP at *; rw [e1, m2 6 (by omega)]; exact hOP
  · unfold TL at *; rw [f25, f17, e13, x2 10 (by omega), x2 11 (by omega), x2 13 (by omega), x2 14 (by omega), x2 15 (by omega), x2 16 (by omega), x2 17 (by omega)]; exact hTL
/-- the class's addToRow -/
theorem ex_add (g : Geo P W n K F A R D) (h : PX n A ln row B sv H S tg tf tk mv s) {o b : Nat} (ho : o < n) (hln : ln < 4096) (hno : ∀ k, k < ln → row k ≠ o) (m : Nat) :
    ∃ u, FX0_addToRow m (nI (A o)) (nI b) s = some (0, u) ∧ PX n A (ln + 1) (upN row ln o) (upN B o b) (upB sv o) H S tg tf tk mv u ∧ KeepX s u := by
  obtain ⟨h1, h2, h3, h4, h5, h6, h7, h8, h9⟩ := h
  have hA := g.Alt ho
  simp only [szo] at hA
  refine ⟨pt (pt (pt s 9 ln (nI (A o))) 2 2 (nI (ln + 1))) 10 (A o) (nI b), ?_, ⟨?_, fun k hk => ?_, fun x hx => ?_, fun p hp => ?_, fun p hp => ?_, ?_, ?_, ?_, ?_⟩, ?_, fun c c1 c2 c3 _ _ => ?_, fun j hj => ?_⟩
  · unfold FX0_addToRow
    have e : ∀ y, (pt s 9 ln y).1 2 2 = nI ln := fun y => by rw [pt_n _ _ _ _ (by decide)]; exact h1
    simp only [h1, gd_n (show ln < 4096 by omega) (show 4096 < 2 ^ 31 by omega), gd_n (show A o < 4096 by omega) (show 4096 < 2 ^ 31 by omega), nI_clamp (show ln < 2 ^ 31 by omega), nI_clamp (show A o < 2 ^ 31 by omega), e, nI_p1]
  · rw [pt_n _ _ _ _ (by decide), pt_k]
  · rw [pt_n _ _ _ _ (by decide), pt_n _ _ _ _ (by decide), pt_s]
    unfold upN
    by_cases e : k = ln
    · rw [if_pos e, if_pos e]
    · rw [if_neg e, if_neg e]; exact h2 k (by omega)
  · rw [pt_s]
    by_cases e : x = o
    · rw [e, if_pos rfl, if_pos (upB_s sv o), show upN B o b o = b from if_pos rfl]
    · rw [if_neg (fun q => e (g.Ainj hx ho q)), upB_n sv e, show upN B o b x = B x from if_neg e, pt_n _ _ _ _ (by decide), pt_n _ _ _ _ (by decide)]; exact h3 x hx
  · rw [pt_n _ _ _ _ (by decide), pt_n _ _ _ _ (by decide), pt_n _ _ _ _ (by decide)]; exact h4 p hp
  · rw [pt_n _ _ _ _ (by decide), pt_n _ _ _ _ (by decide), pt_n _ _ _ _ (by decide)]; exact h5 p hp
  · rw [pt_n _ _ _ _ (by decide), pt_j _ _ _ _ (by decide), pt_n _ _ _ _ (by decide)]; exact h6
  · rw [pt_n _ _ _ _ (by decide), pt_j _ _ _ _ (by decide), pt_n _ _ _ _ (by decide)]; exact h7
  · rw [pt_n _ _ _ _ (by decide), pt_j _ _ _ _ (by decide), pt_n _ _ _ _ (by decide)]; exact h8
  · rw [pt_n _ _ _ _ (by decide), pt_j _ _ _ _ (by decide), pt_n _ _ _ _ (by decide)]; exact h9
  · rfl
  · rw [pt_n _ _ _ _ c3, pt_n _ _ _ _ c1, pt_n _ _ _ _ c2]
  · rw [pt_n _ _ _ _ (by decide), pt_j _ _ _ _ (by omega), pt_n _ _ _ _ (by decide)]
/-- the model's stays -/
theorem em_stays (hO : OM n A R D C s) (hn : n ≤ 4096) (h : PM n ln row B sv H T tg tf tk mv s) {o : Nat} (ho : o < n) (hln : ln < 4096) (m : Nat) :
    ∃ u, FX3_stays m (nI o) s = some (0, u) ∧ PM n (ln + 1) (upN row ln o) (upN B o (A o)) (upB sv o) H T tg tf tk mv u ∧ KeepM s u := by
  obtain ⟨h1, h2, h3, h4, h5, h6, h7, h8, h9⟩ := h
  refine ⟨pt (pt (pt s 27 o (nI (A o))) 26 ln (nI o)) 14 18 (nI (ln + 1)), ?_, ⟨?_, fun k hk => ?_, fun x hx => ?_, fun p hp => ?_, fun p hp => ?_, ?_, ?_, ?_, ?_⟩, fun c c1 c2 c3 _ _ => ?_, fun j hj => ?_⟩
  · unfold FX3_stays
    have e0 := (hO.2.2 o ho).1
    have e1 : ∀ y, (pt s 27 o y).1 14 18 = nI ln := fun y => by rw [pt_n _ _ _ _ (by decide)]; exact h1
    have e2 : ∀ y z, (pt (pt s 27 o y) 26 ln z).1 14 18 = nI ln := fun y z => by rw [pt_n _ _ _ _ (by decide)]; exact e1 y
    simp only [gd_n (show o < 4200 by omega) (show 4200 < 2 ^ 31 by omega), nI_clamp (show o < 2 ^ 31 by omega), e0, e1, gd_n (show ln < 4200 by omega) (show 4200 < 2 ^ 31 by omega), nI_clamp (show ln < 2 ^ 31 by omega), e2, nI_p1]
  · rw [pt_k]
  · rw [pt_n _ _ _ _ (by decide), pt_s]
    unfold upN
    by_cases e : k = ln
    · rw [if_pos e, if_pos e]
    · rw [if_neg e, if_neg e, pt_n _ _ _ _ (by decide)]; exact h2 k (by omega)
  · rw [pt_n _ _ _ _ (by decide), pt_n _ _ _ _ (by decide), pt_s]
    by_cases e : x = o
    · rw [e, if_pos rfl, if_pos (upB_s sv o), show upN B o (A o) o = A o from if_pos rfl]
    · rw [if_neg e, upB_n sv e, show upN B o (A o) x = B x from if_neg e]; exact h3 x hx
  · rw [pt_n _ _ _ _ (by decide), pt_n _ _ _ _ (by decide), pt_n _ _ _ _ (by decide)]; exact h4 p hp
  · rw [pt_n _ _ _ _ (by decide), pt_n _ _ _ _ (by decide), pt_n _ _ _ _ (by decide)]; exact h5 p hp
  · rw [pt_j _ _ _ _ (by decide), pt_n _ _ _ _ (by decide), pt_n _ _ _ _ (by decide)]; exact h6
  · rw [pt_j _ _ _ _ (by decide), pt_n _ _ _ _ (by decide), pt_n _ _ _ _ (by decide)]; exact h7
  · rw [pt_j _ _ _ _ (by decide), pt_n _ _ _ _ (by decide), pt_n _ _ _ _ (by decide)]; exact h8
  · rw [pt_j _ _ _ _ (by decide), pt_n _ _ _ _ (by decide), pt_n _ _ _ _ (by decide)]; exact h9
  · rw [pt_n _ _ _ _ c1, pt_n _ _ _ _ c2, pt_n _ _ _ _ c3]
  · rw [pt_j _ _ _ _ (by omega), pt_n _ _ _ _ (by decide), pt_n _ _ _ _ (by decide)]
/-- the model puts one behind what is on the target -/
theorem em_128 (g : Geo P W n K F A R D) (vm : VM P W K F s) (hO : OM n A R D C s) {q : Nat} (hq : q < 64) (hf : tf ≤ 64) (h : PM n ln row B sv H T (nI q) tf tk mv s) {o : Nat} (ho : o < n) (hln : ln < 4096) (m : Nat) :
    ∃ u, JX3_comes_128 m (nI o) s = some (1, u) ∧ PM n (ln + 1) (upN row ln o) (upN B o (q * W + tf)) (upB sv o) H (upN T q (1 + (tf + szo R D o))) (nI q) (tf + szo R D o) tk (mv + 1) u ∧ KeepM s u := by
  obtain ⟨h1, h2, h3, h4, h5, h6, h7, h8, h9⟩ := h
  have hn := g.nle
  obtain ⟨s1, es1⟩ : ∃ s1, s1 = pt s 27 o (nI (q * W + tf)) := ⟨_, rfl⟩
  have k1 : ∀ c, c ≠ 27 → s1.1 c = s.1 c := fun c hc => by rw [es1, pt_n _ _ _ _ hc]
  have hO1 : OM n A R D C s1 := by
    unfold OM at *
    rw [k1 14 (by decide), k1 18 (by decide), k1 19 (by decide), k1 20 (by decide), k1 21 (by decide), k1 22 (by decide)]; exact hO
  have hsz := em_size g hO1 ho m
  refine ⟨pt (pt (pt (pt (pt s1 14 23 (nI (tf + szo R D o))) 29 q (nI (1 + (tf + szo R D o)))) 26 ln (nI o)) 14 18 (nI (ln + 1))) 14 25 (nI (mv + 1)), ?_, ⟨?_, fun k hk => ?_, fun x hx => ?_, fun p hp => ?_, fun p hp => ?_, ?_, ?_, ?_, ?_⟩, fun c c1 c2 c3 c4 c5 => ?_, fun j hj => ?_⟩
  · unfold JX3_comes_128
    have a1 : (pt s1 14 23 (nI (tf + szo R D o))).1 14 22 = nI q := by rw [pt_j _ _ _ _ (by decide), k1 14 (by decide)]; exact h6
    have a2 : (pt s1 14 23 (nI (tf + szo R D o))).1 14 23 = nI (tf + szo R D o) := pt_k _ _ _ _
    have a3 : (pt (pt s1 14 23 (nI (tf + szo R D o))) 29 q (nI (1 + (tf + szo R D o)))).1 14 18 = nI ln := by rw [pt_n _ _ _ _ (by decide), pt_j _ _ _ _ (by decide), k1 14 (by decide)]; exact h1
    have a4 : (pt (pt (pt s1 14 23 (nI (tf + szo R D o))) 29 q (nI (1 + (tf + szo R D o)))) 26 ln (nI o)).1 14 18 = nI ln := by rw [pt_n _ _ _ _ (by decide)]; exact a3
    have a5 : (pt (pt (pt (pt s1 14 23 (nI (tf + szo R D o))) 29 q (nI (1 + (tf + szo R D o)))) 26 ln (nI o)) 14 18 (nI (ln + 1))).1 14 25 = nI mv := by rw [pt_j _ _ _ _ (by decide), pt_n _ _ _ _ (by decide), pt_n _ _ _ _ (by decide), pt_j _ _ _ _ (by decide), k1 14 (by decide)]; exact h9
    have a6 : s1.1 14 23 = nI tf := by rw [k1 14 (by decide)]; exact h7
    simp only [gd_n (show o < 4200 by omega) (show 4200 < 2 ^ 31 by omega), nI_clamp (show o < 2 ^ 31 by omega), vm.2.1, h6, h7, pk_mul, nI_add, Nat.mul_comm W q, ← es1, hsz, bd_s, a6, a1, a2, n1_p, gd_n (show q < 64 by omega) (show 64 < 2 ^ 31 by omega), nI_clamp (show q < 2 ^ 31 by omega), a3, gd_n (show ln < 4200 by omega) (show 4200 < 2 ^ 31 by omega), nI_clamp (show ln < 2 ^ 31 by omega), a4, nI_p1, a5]
  · rw [pt_j _ _ _ _ (by decide), pt_k]
  · rw [pt_n _ _ _ _ (by decide), pt_n _ _ _ _ (by decide), pt_s]
    unfold upN
    by_cases e : k = ln
    · rw [if_pos e, if_pos e]
    · rw [if_neg e, if_neg e, pt_n _ _ _ _ (by decide), pt_n _ _ _ _ (by decide), k1 26 (by decide)]; exact h2 k (by omega)
  · rw [pt_n _ _ _ _ (by decide), pt_n _ _ _ _ (by decide), pt_n _ _ _ _ (by decide), pt_n _ _ _ _ (by decide), pt_n _ _ _ _ (by decide), es1, pt_s]
    by_cases e : x = o
    · rw [e, if_pos rfl, if_pos (upB_s sv o), show upN B o (q * W + tf) o = q * W + tf from if_pos rfl]
    · rw [if_neg e, upB_n sv e, show upN B o (q * W + tf) x = B x from if_neg e]; exact h3 x hx
  · rw [pt_n _ _ _ _ (by decide), pt_n _ _ _ _ (by decide), pt_n _ _ _ _ (by decide), pt_n _ _ _ _ (by decide), pt_n _ _ _ _ (by decide), k1 28 (by decide)]; exact h4 p hp
  · rw [pt_n _ _ _ _ (by decide), pt_n _ _ _ _ (by decide), pt_n _ _ _ _ (by decide), pt_s]
    unfold upN
    by_cases e : p = q
    · rw [if_pos e, if_pos e]
    · rw [if_neg e, if_neg e, pt_n _ _ _ _ (by decide), k1 29 (by decide)]; exact h5 p hp
  · rw [pt_j _ _ _ _ (by decide), pt_j _ _ _ _ (by decide), pt_n _ _ _ _ (by decide), pt_n _ _ _ _ (by decide), pt_j _ _ _ _ (by decide), k1 14 (by decide)]; exact h6
  · rw [pt_j _ _ _ _ (by decide), pt_j _ _ _ _ (by decide), pt_n _ _ _ _ (by decide), pt_n _ _ _ _ (by decide), pt_k]
  · rw [pt_j _ _ _ _ (by decide), pt_j _ _ _ _ (by decide), pt_n _ _ _ _ (by decide), pt_n _ _ _ _ (by decide), pt_j _ _ _ _ (by decide), k1 14 (by decide)]; exact h8
  · rw [pt_k]
  · rw [pt_n _ _ _ _ c1, pt_n _ _ _ _ c1, pt_n _ _ _ _ c2, pt_n _ _ _ _ c5, pt_n _ _ _ _ c1, k1 c c3]
  · rw [pt_j _ _ _ _ (by omega), pt_j _ _ _ _ (by omega), pt_n _ _ _ _ (by decide), pt_n _ _ _ _ (by decide), pt_j _ _ _ _ (by omega), k1 14 (by decide)]
/-- the class plans it so too -/
theorem ex_81 (g : Geo P W n K F A R D) (vx : VX P W K F s) {q : Nat} (h : PX n A ln row B sv H S (nI q) tf tk mv s) {o : Nat} (ho : o < n) (hln : ln < 4096) (hno : ∀ k, k < ln → row k ≠ o) (m : Nat) :
    ∃ u, JX0_planMove_81 m (nI (A o)) (nI (szo R D o)) s = some (1, u) ∧ PX n A (ln + 1) (upN row ln o) (upN B o (q * W + tf)) (upB sv o) H S (nI q) (tf + szo R D o) tk (mv + 1) u ∧ KeepX s u := by
  obtain ⟨u, u1, ⟨h1, h2, h3, h4, h5, h6, h7, h8, h9⟩, u3⟩ := ex_add g h ho hln hno (b := q * W + tf) m
  refine ⟨pt (pt u 2 7 (nI (tf + szo R D o))) 2 8 (nI (mv + 1)), ?_, ⟨?_, fun k hk => ?_, fun x hx => ?_, fun p hp => ?_, fun p hp => ?_, ?_, ?_, ?_, ?_⟩, u3.tr ⟨rfl, fun c c1 c2 c3 c4 c5 => ?_, fun j hj => ?_⟩⟩
  · unfold JX0_planMove_81 FX1_addressOf
    have a1 : (pt u 2 7 (nI (tf + szo R D o))).1 2 8 = nI mv := by rw [pt_j _ _ _ _ (by decide)]; exact h8
    simp only [h.2.2.2.2.2.1, h.2.2.2.2.2.2.1, vx.2.1, pk_mul, nI_add, bd_s, u1, h7, a1, nI_p1]
  · rw [pt_j _ _ _ _ (by decide), pt_j _ _ _ _ (by decide)]; exact h1
  · rw [pt_n _ _ _ _ (by decide), pt_n _ _ _ _ (by decide)]; exact h2 k hk
  · rw [pt_n _ _ _ _ (by decide), pt_n _ _ _ _ (by decide)]; exact h3 x hx
  · rw [pt_n _ _ _ _ (by decide), pt_n _ _ _ _ (by decide)]; exact h4 p hp
  · rw [pt_n _ _ _ _ (by decide), pt_n _ _ _ _ (by decide)]; exact h5 p hp
  · rw [pt_j _ _ _ _ (by decide), pt_j _ _ _ _ (by decide)]; exact h6
  · rw [pt_j _ _ _ _ (by decide), pt_k]
  · rw [pt_k]
  · rw [pt_j _ _ _ _ (by decide), pt_j _ _ _ _ (by decide)]; exact h9
  · rw [pt_n _ _ _ _ c1, pt_n _ _ _ _ c1]
  · rw [pt_j _ _ _ _ (by omega), pt_j _ _ _ _ (by omega)]
end
