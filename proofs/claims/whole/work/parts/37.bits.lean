/-! how many bits a long has (the rows wb_ and nx_and are of the BITS texts) -/
theorem wb_tb (n : Nat) : (lN n).toBitVec = BitVec.ofNat 64 n := rfl
theorem wb_inj {a b : Int64} (h : a.toBitVec = b.toBitVec) : a = b := Int64.toBitVec_inj.mp h
theorem wb_tn {n : Nat} (h : n < 2 ^ 64) : (lN n).toBitVec.toNat = n := by rw [wb_tb, BitVec.toNat_ofNat, Nat.mod_eq_of_lt h]
theorem wb_of (x : Int64) : ∃ n, n < 2 ^ 64 ∧ x = lN n := ⟨x.toBitVec.toNat, x.toBitVec.isLt, wb_inj (by rw [wb_tb]; simp)⟩
theorem wb_shr {n k : Nat} (hn : n < 2 ^ 64) (hk : k < 64) : ((lN n).toUInt64 >>> ((nI k).toInt64.toUInt64 &&& Int64.toUInt64 63)).toInt64 = lN (n / 2 ^ k) := by
  rw [wb_cu k hk]
  apply wb_inj
  apply BitVec.eq_of_toNat_eq
  show ((lN n).toUInt64 >>> UInt64.ofNat k).toNat = (BitVec.ofNat 64 _).toNat
  have h1 : (UInt64.ofNat k).toNat = k := by
    show (BitVec.ofNat 64 k).toNat = k
    rw [BitVec.toNat_ofNat, Nat.mod_eq_of_lt (by omega)]
  have h2 : (lN n).toUInt64.toNat = n := wb_tn hn
  rw [UInt64.toNat_shiftRight, h1, h2, Nat.mod_eq_of_lt hk, Nat.shiftRight_eq_div_pow, BitVec.toNat_ofNat, Nat.mod_eq_of_lt (Nat.lt_of_le_of_lt (Nat.div_le_self _ _) hn)]
theorem wb_and {a b : Nat} (ha : a < 2 ^ 64) (hb : b < 2 ^ 64) : lN a &&& lN b = lN (a &&& b) := by
  apply wb_inj
  rw [Int64.toBitVec_and, wb_tb, wb_tb, wb_tb]
  apply BitVec.eq_of_toNat_eq
  rw [BitVec.toNat_and, BitVec.toNat_ofNat, BitVec.toNat_ofNat, BitVec.toNat_ofNat, Nat.mod_eq_of_lt ha, Nat.mod_eq_of_lt hb, Nat.mod_eq_of_lt (Nat.and_lt_two_pow _ hb)]
theorem nx_and (a b : Nat) : nI a &&& nI b = nI (a &&& b) := by
  apply Int32.toBitVec_inj.1
  show BitVec.ofNat 32 a &&& BitVec.ofNat 32 b = BitVec.ofNat 32 (a &&& b)
  apply BitVec.eq_of_getLsbD_eq
  intro i hi
  simp [hi]
theorem land256 (a m : Nat) {c d : Nat} (hc : c < 256) (hd : d < 256) : (256 * a + c) &&& (256 * m + d) = 256 * (a &&& m) + (c &&& d) := by
  have hcd : c &&& d < 2 ^ 8 := Nat.and_lt_two_pow c hd
  apply Nat.eq_of_testBit_eq
  intro j
  rw [Nat.testBit_and, show (256 : Nat) = 2 ^ 8 from rfl, Nat.testBit_two_pow_mul_add a hc, Nat.testBit_two_pow_mul_add m hd, Nat.testBit_two_pow_mul_add _ hcd]
  by_cases h : j < 8
  · simp [h]
  · simp [h]
def msk (d : Nat) : Nat → Nat
  | 0 => 0
  | j + 1 => 256 * msk d j + d
/-- byte by byte -/
def dig (f : Nat → Nat) : Nat → Nat → Nat
  | 0, _ => 0
  | j + 1, N => 256 * dig f j (N / 256) + f (N % 256)
def f1 (b : Nat) : Nat := b - ((b / 2) &&& 85)
def f2 (b : Nat) : Nat := (b &&& 51) + ((b / 4) &&& 51)
def f3 (b : Nat) : Nat := (b + b / 16) &&& 15
theorem d_1 : ∀ e, e < 2 → ∀ b, b < 256 → (128 * e + b / 2) &&& 85 = (b / 2) &&& 85 := by decide +kernel
theorem d_2 : ∀ e, e < 4 → ∀ b, b < 256 → (64 * e + b / 4) &&& 51 = (b / 4) &&& 51 := by decide +kernel
theorem d_f1 : ∀ b, b < 256 → f1 b < 256 := by decide +kernel
theorem d_f2 : ∀ b, b < 256 → f2 b < 256 ∧ f2 b % 16 ≤ 4 + 2 ∧ f2 b / 16 ≤ 6 := by decide +kernel
theorem d_f3 : ∀ b, b < 256 → f3 (f2 (f1 b)) = cnt (fun k => b.testBit k) 8 := by decide +kernel
theorem s_1 : ∀ j N, N < 256 ^ j → N - ((N / 2) &&& msk 85 j) = dig f1 j N
  | 0, N, h => by
    have : N = 0 := by simpa using h
    subst this; rfl
  | j + 1, N, h => by
    have hM : N / 256 < 256 ^ j := Nat.div_lt_of_lt_mul (by rw [Nat.pow_succ, Nat.mul_comm] at h; exact h)
    have ih := s_1 j (N / 256) hM
    have hb : N % 256 < 256 := Nat.mod_lt _ (by omega)
    have e1 : N / 2 = 256 * (N / 256 / 2) + (128 * (N / 256 % 2) + N % 256 / 2) := by omega
    have e2 := land256 (N / 256 / 2) (msk 85 j) (c := 128 * (N / 256 % 2) + N % 256 / 2) (d := 85) (by omega) (by omega)
    have e3 := d_1 (N / 256 % 2) (Nat.mod_lt _ (by omega)) (N % 256) hb
    have l1 : (N / 256 / 2) &&& msk 85 j ≤ N / 256 / 2 := Nat.and_le_left
    have l2 : (N % 256 / 2) &&& 85 ≤ N % 256 / 2 := Nat.and_le_left
    show N - ((N / 2) &&& (256 * msk 85 j + 85)) = 256 * dig f1 j (N / 256) + f1 (N % 256)
    rw [e1, e2, e3, ← ih]
    unfold f1
    omega
theorem s_2 : ∀ j N, N < 256 ^ j → (N &&& msk 51 j) + ((N / 4) &&& msk 51 j) = dig f2 j N
  | 0, N, h => by
    have : N = 0 := by simpa using h
    subst this; rfl
  | j + 1, N, h => by
    have hM : N / 256 < 256 ^ j := Nat.div_lt_of_lt_mul (by rw [Nat.pow_succ, Nat.mul_comm] at h; exact h)
    have ih := s_2 j (N / 256) hM
    have hb : N % 256 < 256 := Nat.mod_lt _ (by omega)
    have e0 : N = 256 * (N / 256) + N % 256 := by omega
    have e1 : N / 4 = 256 * (N / 256 / 4) + (64 * (N / 256 % 4) + N % 256 / 4) := by omega
    have e2 := land256 (N / 256 / 4) (msk 51 j) (c := 64 * (N / 256 % 4) + N % 256 / 4) (d := 51) (by omega) (by omega)
    have e4 := land256 (N / 256) (msk 51 j) (c := N % 256) (d := 51) hb (by omega)
    have e3 := d_2 (N / 256 % 4) (Nat.mod_lt _ (by omega)) (N % 256) hb
    show (N &&& (256 * msk 51 j + 51)) + ((N / 4) &&& (256 * msk 51 j + 51)) = 256 * dig f2 j (N / 256) + f2 (N % 256)
    rw [e1, e2, e3, ← ih]
    conv => lhs; lhs; lhs; rw [e0]
    rw [e4]
    unfold f2
    omega
/-- every byte's halves are small -/
def nice : Nat → Nat → Prop
  | 0, N => N = 0
  | j + 1, N => N % 256 % 16 ≤ 6 ∧ N % 256 / 16 ≤ 6 ∧ nice j (N / 256)
theorem s_3 : ∀ j N, nice j N → (N + N / 16) &&& msk 15 j = dig f3 j N
  | 0, N, h => by
    have : N = 0 := h
    subst this; rfl
  | j + 1, N, h => by
    have ih := s_3 j (N / 256) h.2.2
    have hb : N % 256 < 256 := Nat.mod_lt _ (by omega)
    have hz : N / 256 % 16 ≤ 6 := by
      cases j with
      | zero =>
        have : N / 256 = 0 := h.2.2
        omega
      | succ j =>
        have := h.2.2.1
        omega
    have e1 : N + N / 16 = 256 * (N / 256 + N / 256 / 16) + (16 * (N / 256 % 16) + (N % 256 + N % 256 / 16)) := by omega
    have e2 := land256 (N / 256 + N / 256 / 16) (msk 15 j) (c := 16 * (N / 256 % 16) + (N % 256 + N % 256 / 16)) (d := 15) (by have := h.1; have := h.2.1; omega) (by omega)
    show (N + N / 16) &&& (256 * msk 15 j + 15) = 256 * dig f3 j (N / 256) + f3 (N % 256)
    rw [e1, e2, ih]
    unfold f3
    have m1 := Nat.and_two_pow_sub_one_eq_mod (16 * (N / 256 % 16) + (N % 256 + N % 256 / 16)) 4
    have m2 := Nat.and_two_pow_sub_one_eq_mod (N % 256 + N % 256 / 16) 4
    have q1 : 2 ^ 4 - 1 = 15 := rfl
    rw [q1] at m1 m2
    rw [m1, m2]
    omega
theorem dig_lt {f : Nat → Nat} (hf : ∀ b, b < 256 → f b < 256) : ∀ j N, dig f j N < 256 ^ j
  | 0, _ => by simp [dig]
  | j + 1, N => by
    have ih := dig_lt hf j (N / 256)
    have h := hf (N % 256) (Nat.mod_lt _ (by omega))
    simp only [dig]
    rw [Nat.pow_succ]
    omega
theorem dig_dig {f g : Nat → Nat} (hg : ∀ b, b < 256 → g b < 256) : ∀ j N, dig f j (dig g j N) = dig (fun b => f (g b)) j N
  | 0, _ => rfl
  | j + 1, N => by
    have h := hg (N % 256) (Nat.mod_lt _ (by omega))
    simp only [dig]
    rw [show (256 * dig g j (N / 256) + g (N % 256)) / 256 = dig g j (N / 256) by omega, show (256 * dig g j (N / 256) + g (N % 256)) % 256 = g (N % 256) by omega, dig_dig hg j]
theorem dig_nice : ∀ j N, nice j (dig f2 j N)
  | 0, _ => rfl
  | j + 1, N => by
    have h := d_f2 (N % 256) (Nat.mod_lt _ (by omega))
    simp only [nice, dig]
    rw [show (256 * dig f2 j (N / 256) + f2 (N % 256)) / 256 = dig f2 j (N / 256) by omega, show (256 * dig f2 j (N / 256) + f2 (N % 256)) % 256 = f2 (N % 256) by omega]
    exact ⟨h.2.1, h.2.2, dig_nice j _⟩
theorem cnt_add (f : Nat → Bool) (a : Nat) : ∀ b, cnt f (a + b) = cnt f a + cnt (fun k => f (a + k)) b
  | 0 => rfl
  | b + 1 => by
    show cnt f (a + b) + (if f (a + b) then 1 else 0) = cnt f a + (cnt (fun k => f (a + k)) b + (if f (a + b) then 1 else 0))
    rw [cnt_add f a b]
    omega
def dsum (f : Nat → Nat) : Nat → Nat → Nat
  | 0, _ => 0
  | j + 1, N => f (N % 256) + dsum f j (N / 256)
theorem dsum_cnt : ∀ j N, dsum (fun b => f3 (f2 (f1 b))) j N = cnt (fun k => N.testBit k) (8 * j)
  | 0, _ => rfl
  | j + 1, N => by
    have ih := dsum_cnt j (N / 256)
    rw [show 8 * (j + 1) = 8 + 8 * j by omega, cnt_add]
    simp only [dsum]
    rw [ih, d_f3 (N % 256) (Nat.mod_lt _ (by omega))]
    congr 1
    · apply cnt_congr
      intro k hk
      rw [show (256 : Nat) = 2 ^ 8 from rfl, Nat.testBit_mod_two_pow]
      simp [hk]
    · apply cnt_congr
      intro k hk
      rw [show (256 : Nat) = 2 ^ 8 from rfl, Nat.testBit_div_two_pow, Nat.add_comm]
theorem bu_n {N k : Nat} {x : Int32} (hN : N < 2 ^ 64) (hk : k < 64) (hx : x = nI k) : bu (lN N) x = lN (N / 2 ^ k) := by
  subst hx
  exact wb_shr hN hk
theorem m_1 : msk 85 8 = 6148914691236517205 := by decide +kernel
theorem m_2 : msk 51 8 = 3689348814741910323 := by decide +kernel
theorem m_4 : msk 15 8 = 1085102592571150095 := by decide +kernel
theorem b_1 {N : Nat} (hN : N < 2 ^ 64) : bt1 (lN N) = lN (dig f1 8 N) := by
  unfold bt1
  rw [bu_n (k := 1) (x := 1) hN (by omega) rfl, show (6148914691236517205 : Int64) = lN (msk 85 8) by rw [m_1]; rfl, wb_and (by omega) (by rw [m_1]; omega), lN_sub (Nat.le_trans Nat.and_le_left (Nat.div_le_self _ _)), ← s_1 8 N (by simpa using hN)]
theorem b_2 {N : Nat} (hN : N < 2 ^ 64) : bt2 (lN N) = lN (dig f2 8 N) := by
  unfold bt2
  rw [bu_n (k := 2) (x := 2) hN (by omega) rfl, show (3689348814741910323 : Int64) = lN (msk 51 8) by rw [m_2]; rfl, wb_and hN (by rw [m_2]; omega), wb_and (by omega) (by rw [m_2]; omega), lN_add, ← s_2 8 N (by simpa using hN)]
theorem nice_lt : ∀ j N, nice j N → 2 * N < 256 ^ j ∨ j = 0
  | 0, _, _ => Or.inr rfl
  | j + 1, N, h => by
    refine Or.inl ?_
    have h3 := nice_lt j (N / 256) h.2.2
    have a1 := h.1
    have a2 := h.2.1
    rw [Nat.pow_succ]
    rcases h3 with h3 | h3
    · omega
    · subst h3
      have : N / 256 = 0 := h.2.2
      simp
      omega
theorem b_3 {N : Nat} (h : nice 8 N) : bt3 (lN N) = lN (dig f3 8 N) := by
  have hl : 2 * N < 256 ^ 8 := (nice_lt 8 N h).resolve_right (by omega)
  have hl2 : 2 * N < 18446744073709551616 := by simpa using hl
  unfold bt3
  rw [bu_n (k := 4) (x := 4) (by omega) (by omega) rfl, lN_add, show (1085102592571150095 : Int64) = lN (msk 15 8) by rw [m_4]; rfl, wb_and (by omega) (by rw [m_4]; omega), ← s_3 8 N h]
section V
variable {a0 a1 a2 a3 a4 a5 a6 a7 Z1 Z2 Z3 Z4 Z5 Z6 Y : Nat}
theorem v_8 (h : a0 ≤ 8) (e : Y = 256 * Z1 + a0) : Y / 2 ^ 8 = Z1 := by subst e; omega
theorem v_16 (h0 : a0 ≤ 8) (h1 : a1 ≤ 8) (h2 : a2 ≤ 8) (e0 : Y = 256 * Z1 + a0) (e1 : Z1 = 256 * Z2 + a1) (e2 : Z2 = 256 * Z3 + a2) : (Y + Z1) / 2 ^ 16 = Z2 + Z3 := by subst e0; subst e1; subst e2; omega
theorem v_32 (h0 : a0 ≤ 8) (h1 : a1 ≤ 8) (h2 : a2 ≤ 8) (h3 : a3 ≤ 8) (h4 : a4 ≤ 8) (h5 : a5 ≤ 8) (h6 : a6 ≤ 8) (e0 : Y = 256 * Z1 + a0) (e1 : Z1 = 256 * Z2 + a1) (e2 : Z2 = 256 * Z3 + a2) (e3 : Z3 = 256 * Z4 + a3) (e4 : Z4 = 256 * Z5 + a4) (e5 : Z5 = 256 * Z6 + a5) (e6 : Z6 = 256 * a7 + a6) : (Y + Z1 + (Z2 + Z3)) / 2 ^ 32 = Z4 + Z5 + Z6 + a7 := by
  have l : Y + Z1 + (Z2 + Z3) = 4294967296 * (Z4 + Z5 + Z6 + a7) + ((a0 + a1 + a2 + a3) + 256 * (a1 + a2 + a3 + a4) + 65536 * (a2 + a3 + a4 + a5) + 16777216 * (a3 + a4 + a5 + a6)) := by omega
  rw [l]
  generalize Z4 + Z5 + Z6 + a7 = q
  clear l e0 e1 e2 e3 e4 e5 e6
  omega
theorem v_128 (h0 : a0 ≤ 8) (h1 : a1 ≤ 8) (h2 : a2 ≤ 8) (h3 : a3 ≤ 8) (h4 : a4 ≤ 8) (h5 : a5 ≤ 8) (h6 : a6 ≤ 8) (h7 : a7 ≤ 8) (e0 : Y = 256 * Z1 + a0) (e1 : Z1 = 256 * Z2 + a1) (e2 : Z2 = 256 * Z3 + a2) (e3 : Z3 = 256 * Z4 + a3) (e4 : Z4 = 256 * Z5 + a4) (e5 : Z5 = 256 * Z6 + a5) (e6 : Z6 = 256 * a7 + a6) : (Y + Z1 + (Z2 + Z3) + (Z4 + Z5 + Z6 + a7)) % 2 ^ 7 = a0 + (a1 + (a2 + (a3 + (a4 + (a5 + (a6 + (a7 + 0))))))) := by
  have l : Y + Z1 + (Z2 + Z3) + (Z4 + Z5 + Z6 + a7) = 128 * (2 * (Z1 + Z2 + Z3 + Z4 + Z5 + Z6 + a7)) + (a0 + (a1 + (a2 + (a3 + (a4 + (a5 + (a6 + (a7 + 0)))))))) := by omega
  rw [l]
  clear l e0 e1 e2 e3 e4 e5 e6
  omega
end V
/-- Long.bitCount counts the bits -/
theorem bct_cnt (x : Int64) : bct x = nI (cnt (fun k => bit x k) 64) := by
  obtain ⟨N, hN, rfl⟩ := wb_of x
  have e : cnt (fun k => bit (lN N) k) 64 = dsum (fun b => f3 (f2 (f1 b))) 8 N := by
    rw [dsum_cnt]
    apply cnt_congr
    intro k hk
    show (BitVec.ofNat 64 N).getLsbD k = N.testBit k
    rw [BitVec.getLsbD_ofNat, decide_eq_true hk, Bool.true_and]
  have l1 := dig_lt d_f1 8 N
  have l2 := dig_lt (f := f2) (fun b hb => (d_f2 b hb).1) 8 (dig f1 8 N)
  unfold bct
  rw [b_1 hN, b_2 (by simpa using l1), b_3 (dig_nice 8 _), e, dig_dig (fun b hb => (d_f2 b hb).1), dig_dig d_f1]
  have hp : ∀ b, b < 256 → f3 (f2 (f1 b)) ≤ 8 := fun b hb => by rw [d_f3 b hb]; exact cnt_le _ _
  have g0 := hp (N % 256) (Nat.mod_lt _ (by omega))
  have g1 := hp (N / 256 % 256) (Nat.mod_lt _ (by omega))
  have g2 := hp (N / 256 / 256 % 256) (Nat.mod_lt _ (by omega))
  have g3 := hp (N / 256 / 256 / 256 % 256) (Nat.mod_lt _ (by omega))
  have g4 := hp (N / 256 / 256 / 256 / 256 % 256) (Nat.mod_lt _ (by omega))
  have g5 := hp (N / 256 / 256 / 256 / 256 / 256 % 256) (Nat.mod_lt _ (by omega))
  have g6 := hp (N / 256 / 256 / 256 / 256 / 256 / 256 % 256) (Nat.mod_lt _ (by omega))
  have g7 := hp (N / 256 / 256 / 256 / 256 / 256 / 256 / 256 % 256) (Nat.mod_lt _ (by omega))
  simp only [dig, dsum]
  generalize f3 (f2 (f1 (N % 256))) = a0 at *
  generalize f3 (f2 (f1 (N / 256 % 256))) = a1 at *
  generalize f3 (f2 (f1 (N / 256 / 256 % 256))) = a2 at *
  generalize f3 (f2 (f1 (N / 256 / 256 / 256 % 256))) = a3 at *
  generalize f3 (f2 (f1 (N / 256 / 256 / 256 / 256 % 256))) = a4 at *
  generalize f3 (f2 (f1 (N / 256 / 256 / 256 / 256 / 256 % 256))) = a5 at *
  generalize f3 (f2 (f1 (N / 256 / 256 / 256 / 256 / 256 / 256 % 256))) = a6 at *
  generalize f3 (f2 (f1 (N / 256 / 256 / 256 / 256 / 256 / 256 / 256 % 256))) = a7 at *
  obtain ⟨Z6, E6⟩ : ∃ z, z = 256 * (256 * 0 + a7) + a6 := ⟨_, rfl⟩
  obtain ⟨Z5, E5⟩ : ∃ z, z = 256 * Z6 + a5 := ⟨_, rfl⟩
  obtain ⟨Z4, E4⟩ : ∃ z, z = 256 * Z5 + a4 := ⟨_, rfl⟩
  obtain ⟨Z3, E3⟩ : ∃ z, z = 256 * Z4 + a3 := ⟨_, rfl⟩
  obtain ⟨Z2, E2⟩ : ∃ z, z = 256 * Z3 + a2 := ⟨_, rfl⟩
  obtain ⟨Z1, E1⟩ : ∃ z, z = 256 * Z2 + a1 := ⟨_, rfl⟩
  obtain ⟨Y, E0⟩ : ∃ z, z = 256 * Z1 + a0 := ⟨_, rfl⟩
  rw [← E6, ← E5, ← E4, ← E3, ← E2, ← E1, ← E0]
  have E6' : Z6 = 256 * a7 + a6 := by rw [E6, Nat.mul_zero, Nat.zero_add]
  clear l1 l2 e hp hN E6
  have hY : Y < 2 ^ 60 := by omega
  have hz1 : Z1 < 2 ^ 60 := by omega
  have hz2 : Z2 < 2 ^ 60 := by omega
  have hz3 : Z3 < 2 ^ 60 := by omega
  unfold bt4
  rw [bu_n (k := 8) (x := 8) (by omega) (by omega) rfl, v_8 g0 E0, lN_add, bu_n (k := 16) (x := 16) (by omega) (by omega) rfl, v_16 g0 g1 g2 E0 E1 E2, lN_add, bu_n (k := 32) (x := 32) (by omega) (by omega) rfl, v_32 g0 g1 g2 g3 g4 g5 g6 E0 E1 E2 E3 E4 E5 E6', lN_add, lN_i, show (127 : Int32) = nI 127 from rfl, nx_and, show 127 = 2 ^ 7 - 1 from rfl, Nat.and_two_pow_sub_one_eq_mod, v_128 g0 g1 g2 g3 g4 g5 g6 g7 E0 E1 E2 E3 E4 E5 E6']
