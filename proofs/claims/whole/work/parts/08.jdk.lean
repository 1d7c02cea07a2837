theorem ml_X0_39 : Cond.methodLink RX0 39 yJ7_fill_53178 ∈ TB := tb_in 178 (by decide +kernel) (by decide +kernel)
theorem ml_X1_35 : Cond.methodLink RX1 35 yJ7_fill_53178 ∈ TB := tb_in 168 (by decide +kernel) (by decide +kernel)
theorem ml_X1_41 : Cond.methodLink RX1 41 yJ7_fill_d0a16 ∈ TB := tb_in 171 (by decide +kernel) (by decide +kernel)
theorem ml_X1_104 : Cond.methodLink RX1 104 arraycopyName ∈ TB := tb_in 321 (by decide +kernel) (by decide +kernel)
theorem ml_X1_48 : Cond.methodLink RX1 48 yJ13_bitCount_95d88 ∈ TB := tb_in 405 (by decide +kernel) (by decide +kernel)
theorem ml_X1_110 : Cond.methodLink RX1 110 Lib.Math.min.name ∈ TB := tb_in 582 (by decide +kernel) (by decide +kernel)
theorem ml_X2_167 : Cond.methodLink RX2 167 yJ7_fill_53178 ∈ TB := tb_in 179 (by decide +kernel) (by decide +kernel)
theorem ml_X3_90 : Cond.methodLink RX3 90 Lib.Math.min.name ∈ TB := tb_in 799 (by decide +kernel) (by decide +kernel)
theorem mm_st : Cond.static Lib.Math.min.name ∈ TB := tb_in 583 (by decide +kernel) (by decide +kernel)
theorem mm_in : Cond.initialized "java/lang/Math" ∈ TB := tb_in 56 (by decide +kernel) (by decide +kernel)
theorem mm_co : Cond.code Lib.Math.min.name Lib.Math.min.code 2 (some .int) ∈ TB := tb_in 584 (by decide +kernel) (by decide +kernel)
theorem ac_st : Cond.static arraycopyName ∈ TB := tb_in 322 (by decide +kernel) (by decide +kernel)
theorem ac_na : Cond.native arraycopyName ∈ TB := tb_in 323 (by decide +kernel) (by decide +kernel)
theorem ac_in : Cond.initialized "java/lang/System" ∈ TB := tb_in 55 (by decide +kernel) (by decide +kernel)
theorem fi_st : Cond.static yJ7_fill_53178 ∈ TB := tb_in 169 (by decide +kernel) (by decide +kernel)
theorem fj_st : Cond.static yJ7_fill_d0a16 ∈ TB := tb_in 172 (by decide +kernel) (by decide +kernel)
theorem fi_in : Cond.initialized "java/util/Arrays" ∈ TB := tb_in 49 (by decide +kernel) (by decide +kernel)
theorem fi_co : Cond.code yJ7_fill_53178 cJ7_fill_53178 4 none ∈ TB := tb_in 170 (by decide +kernel) (by decide +kernel)
theorem fj_co : Cond.code yJ7_fill_d0a16 cJ7_fill_d0a16 5 none ∈ TB := tb_in 173 (by decide +kernel) (by decide +kernel)
theorem bc_st : Cond.static yJ13_bitCount_95d88 ∈ TB := tb_in 406 (by decide +kernel) (by decide +kernel)
theorem bc_in : Cond.initialized "java/lang/Long" ∈ TB := tb_in 59 (by decide +kernel) (by decide +kernel)
theorem bc_co : Cond.code yJ13_bitCount_95d88 cJ13_bitCount_95d88 2 (some .int) ∈ TB := tb_in 407 (by decide +kernel) (by decide +kernel)
theorem bc_314 : Cond.constantLong "java/lang/Long" 314 (6148914691236517205 : Int64) ∈ TB := tb_in 408 (by decide +kernel) (by decide +kernel)
theorem bc_316 : Cond.constantLong "java/lang/Long" 316 (3689348814741910323 : Int64) ∈ TB := tb_in 409 (by decide +kernel) (by decide +kernel)
theorem bc_318 : Cond.constantLong "java/lang/Long" 318 (1085102592571150095 : Int64) ∈ TB := tb_in 410 (by decide +kernel) (by decide +kernel)

def wA (a : Nat) (cI : ClassId) (z : Nat) (st : St) : va_W := [(a, .inl (cI, z, .inl (st.1 0)))]
def wL (a : Nat) (cJ : ClassId) (z : Nat) (st : St) : va_W := [(a, .inl (cJ, z, .inr (.inl st.2)))]
def flI (z : Nat) (v : Int32) (f : Nat → Int32) : Nat → Int32 := fun j => if j < z then v else f j
def flJ (z : Nat) (v : Int64) (f : Nat → Int64) : Nat → Int64 := fun j => if j < z then v else f j
theorem flI_s (z : Nat) (v : Int32) (f : Nat → Int32) : upd (flI z v f) z v = flI (z + 1) v f := by
  funext j; simp only [upd, flI]; split <;> split <;> (try split) <;> first | rfl | omega
theorem flJ_s (z : Nat) (v : Int64) (f : Nat → Int64) : vp_updL (flJ z v f) z v = flJ (z + 1) v f := by
  funext j; simp only [vp_updL, flJ]; split <;> split <;> (try split) <;> first | rfl | omega
theorem flI_0 (v : Int32) (f : Nat → Int32) : flI 0 v f = f := by funext j; simp [flI]
theorem flJ_0 (v : Int64) (f : Nat → Int64) : flJ 0 v f = f := by funext j; simp [flJ]

set_option maxHeartbeats 4000000 in
theorem lfillI {l : Launch} {D : va_G} {a z : Nat} {cI cJ cZ : ClassId} {v : Int32} {st : St} {p : Program} {e : Env} {s : State} {m : MethodId} {args : Array Value} {below : List Frame} {meth : Method} {c : Code} {A : Nat → Prop} (hz : z < 2 ^ 31) (E : Env1 p s m args c cJ7_fill_53178 4 RJ7 D (tyL cI cJ cZ)) (hr : meth.sig.returnType = none) (hlocks : meth.locks = false) : ∀ (d j : Nat), j + d = z → ∀ (H : Heap) (locs : List Loc) (ls : Array Slot), va_P D vwCl (wA a cI z (pf st 0 (flI j v (st.1 0)))) H → va_D A (wA a cI z (pf st 0 (flI j v (st.1 0)))) → va_S A s.heap H locs → lv_has ls 4 [(0, .ref a), (1, .int v), (2, .int (nI j)), (3, .int (nI z))] → W p l e (rm 0 0) s m args below meth c H locs 0 0 (MQ below (CQv D (tyL cI cJ cZ) (wA a cI z) A (pf st 0 (flI z v (st.1 0)))) args s 0 0 A) (F0 m 5 ls []) := by
  have hx := E.1.1
  have hb := E.1.2.1
  intro d
  induction d with
  | zero =>
    intro j hj H locs ls hP hD hS hl
    have hjz : j = z := by omega
    subst hjz
    refine lv_iload_n hx hb dJ7_fill_53178_5 rfl (lv_at hl 2 rfl) ?_
    refine lv_iload_n hx hb dJ7_fill_53178_6 rfl (lv_at hl 3 rfl) ?_
    refine lv_icmp_ge (tgt := 20) hx hb dJ7_fill_53178_7 (by decide) (fun hc => ?_) (fun hc => ?_)
    · exact end_v E hr hlocks hP hD hS dJ7_fill_53178_20
    · exact absurd (nI_le (Nat.le_refl j) hz) hc
  | succ d ih =>
    intro j hj H locs ls hP hD hS hl
    refine lv_iload_n hx hb dJ7_fill_53178_5 rfl (lv_at hl 2 rfl) ?_
    refine lv_iload_n hx hb dJ7_fill_53178_6 rfl (lv_at hl 3 rfl) ?_
    refine lv_icmp_ge (tgt := 20) hx hb dJ7_fill_53178_7 (by decide) (fun hc => ?_) (fun hc => ?_)
    · exact absurd hc (nI_ge (by omega) hz)
    · have hin : vp_in (nI j) z := vp_in_nI (by omega) hz
      refine lv_aload_n hx hb dJ7_fill_53178_10 rfl (lv_at hl 0 rfl) ?_
      refine lv_iload_n hx hb dJ7_fill_53178_11 rfl (lv_at hl 2 rfl) ?_
      refine lv_iload_n hx hb dJ7_fill_53178_12 rfl (lv_at hl 1 rfl) ?_
      refine va_iast (D := D) hx hb E.2 hP hD hS 0 0 rfl rfl hin dJ7_fill_53178_13 (fun H locs hP hD hS => ?_)
      have hP : va_P D vwCl [(a, .inl (cI, z, .inl (upd (flI j v (st.1 0)) (nI j).toNatClampNeg v)))] H := hP
      have hD : va_D A [(a, .inl (cI, z, .inl (upd (flI j v (st.1 0)) (nI j).toNatClampNeg v)))] := hD
      rw [nI_clamp (by omega), flI_s] at hP hD
      refine lv_iinc (v := nI (j + 1)) (lv' := [(2, .int (nI (j + 1))), (0, .ref a), (1, .int v), (3, .int (nI z))]) hx hb dJ7_fill_53178_14 hl (k := 2) rfl (nI_succ j).symm (by decide) rfl (fun ls hl => ?_)
      refine lv_goto (tgt := 5) hx hb dJ7_fill_53178_17 (by decide) ?_
      exact ih (j + 1) (by omega) H locs ls hP hD hS (lv_sub hl [1, 2, 0, 3] rfl)
set_option maxHeartbeats 4000000 in
theorem kfillI (l : Launch) (D : va_G) (a z : Nat) (hz : z < 2 ^ 31) (cI cJ cZ : ClassId) (v : Int32) (st : St) : Cv l yJ7_fill_53178 cJ7_fill_53178 4 0 0 D (tyL cI cJ cZ) (wA a cI z) st [.ref a, .int v] (pf st 0 (flI z v (st.1 0))) := by
  refine body_v (by decide +kernel) (Nat.le_of_ble_eq_true rfl) ?_
  intro p e s m below meth c A ls E hr hlocks hA hP hD hS hl
  have E : Env1 p s m _ c cJ7_fill_53178 4 RJ7 D (tyL cI cJ cZ) := E
  have hl : lv_has ls 4 [(0, .ref a), (1, .int v)] := hl
  have hx := E.1.1
  have hb := E.1.2.1
  refine lv_iconst (v := 0) hx hb dJ7_fill_53178_0 (by decide) ?_
  refine lv_istore_n (lv' := [(2, .int 0), (0, .ref a), (1, .int v)]) hx hb dJ7_fill_53178_1 rfl hl (by decide) rfl (fun ls hl => ?_)
  refine lv_aload_n hx hb dJ7_fill_53178_2 rfl (lv_at hl 1 rfl) ?_
  refine va_alen (D := D) (v := nI z) hx hb E.2 hP 0 0 rfl rfl rfl dJ7_fill_53178_3 ?_
  refine lv_istore_n (lv' := [(3, .int (nI z)), (2, .int 0), (0, .ref a), (1, .int v)]) hx hb dJ7_fill_53178_4 rfl hl (by decide) rfl (fun ls hl => ?_)
  have e0 : wA a cI z (pf st 0 (flI 0 v (st.1 0))) = wA a cI z st := by simp only [wA, pf, flI_0]; rfl
  exact lfillI hz E hr hlocks z 0 (by omega) _ _ _ (by rw [e0]; exact hP) (by rw [e0]; exact hD) hS (lv_sub hl [2, 3, 1, 0] rfl)
set_option maxHeartbeats 4000000 in
theorem lfillJ {l : Launch} {D : va_G} {a z : Nat} {cI cJ cZ : ClassId} {v : Int64} {st : St} {p : Program} {e : Env} {s : State} {m : MethodId} {args : Array Value} {below : List Frame} {meth : Method} {c : Code} {A : Nat → Prop} (hz : z < 2 ^ 31) (E : Env1 p s m args c cJ7_fill_d0a16 5 RJ7 D (tyL cI cJ cZ)) (hr : meth.sig.returnType = none) (hlocks : meth.locks = false) : ∀ (d j : Nat), j + d = z → ∀ (H : Heap) (locs : List Loc) (ls : Array Slot), va_P D vwCl (wL a cJ z (ph st (flJ j v st.2))) H → va_D A (wL a cJ z (ph st (flJ j v st.2))) → va_S A s.heap H locs → lv_has ls 5 [(0, .ref a), (1, .long v), (3, .int (nI j)), (4, .int (nI z))] → W p l e (rm 0 0) s m args below meth c H locs 0 0 (MQ below (CQv D (tyL cI cJ cZ) (wL a cJ z) A (ph st (flJ z v st.2))) args s 0 0 A) (F0 m 6 ls []) := by
  have hx := E.1.1
  have hb := E.1.2.1
  intro d
  induction d with
  | zero =>
    intro j hj H locs ls hP hD hS hl
    have hjz : j = z := by omega
    subst hjz
    refine lv_iload_n hx hb dJ7_fill_d0a16_6 rfl (lv_at hl 2 rfl) ?_
    refine lv_iload hx hb dJ7_fill_d0a16_7 (lv_at hl 3 rfl) ?_
    refine lv_icmp_ge (tgt := 22) hx hb dJ7_fill_d0a16_9 (by decide) (fun hc => ?_) (fun hc => ?_)
    · exact end_v E hr hlocks hP hD hS dJ7_fill_d0a16_22
    · exact absurd (nI_le (Nat.le_refl j) hz) hc
  | succ d ih =>
    intro j hj H locs ls hP hD hS hl
    refine lv_iload_n hx hb dJ7_fill_d0a16_6 rfl (lv_at hl 2 rfl) ?_
    refine lv_iload hx hb dJ7_fill_d0a16_7 (lv_at hl 3 rfl) ?_
    refine lv_icmp_ge (tgt := 22) hx hb dJ7_fill_d0a16_9 (by decide) (fun hc => ?_) (fun hc => ?_)
    · exact absurd hc (nI_ge (by omega) hz)
    · have hin : vp_in (nI j) z := vp_in_nI (by omega) hz
      refine lv_aload_n hx hb dJ7_fill_d0a16_12 rfl (lv_at hl 0 rfl) ?_
      refine lv_iload_n hx hb dJ7_fill_d0a16_13 rfl (lv_at hl 2 rfl) ?_
      refine lv_lload_n hx hb dJ7_fill_d0a16_14 rfl (lv_at hl 1 rfl) ?_
      refine va_last (D := D) hx hb E.2 hP hD hS 0 1 rfl rfl hin dJ7_fill_d0a16_15 (fun H locs hP hD hS => ?_)
      have hP : va_P D vwCl [(a, .inl (cJ, z, .inr (.inl (vp_updL (flJ j v st.2) (nI j).toNatClampNeg v))))] H := hP
      have hD : va_D A [(a, .inl (cJ, z, .inr (.inl (vp_updL (flJ j v st.2) (nI j).toNatClampNeg v))))] := hD
      rw [nI_clamp (by omega), flJ_s] at hP hD
      refine lv_iinc (v := nI (j + 1)) (lv' := [(3, .int (nI (j + 1))), (0, .ref a), (1, .long v), (4, .int (nI z))]) hx hb dJ7_fill_d0a16_16 hl (k := 2) rfl (nI_succ j).symm (by decide) rfl (fun ls hl => ?_)
      refine lv_goto (tgt := 6) hx hb dJ7_fill_d0a16_19 (by decide) ?_
      exact ih (j + 1) (by omega) H locs ls hP hD hS (lv_sub hl [1, 2, 0, 3] rfl)
set_option maxHeartbeats 4000000 in
theorem kfillJ (l : Launch) (D : va_G) (a z : Nat) (hz : z < 2 ^ 31) (cI cJ cZ : ClassId) (v : Int64) (st : St) : Cv l yJ7_fill_d0a16 cJ7_fill_d0a16 5 0 0 D (tyL cI cJ cZ) (wL a cJ z) st [.ref a, .long v] (ph st (flJ z v st.2)) := by
  refine body_v (by decide +kernel) (Nat.le_of_ble_eq_true rfl) ?_
  intro p e s m below meth c A ls E hr hlocks hA hP hD hS hl
  have E : Env1 p s m _ c cJ7_fill_d0a16 5 RJ7 D (tyL cI cJ cZ) := E
  have hl : lv_has ls 5 [(0, .ref a), (1, .long v)] := hl
  have hx := E.1.1
  have hb := E.1.2.1
  refine lv_iconst (v := 0) hx hb dJ7_fill_d0a16_0 (by decide) ?_
  refine lv_istore_n (lv' := [(3, .int 0), (0, .ref a), (1, .long v)]) hx hb dJ7_fill_d0a16_1 rfl hl (by decide) rfl (fun ls hl => ?_)
  refine lv_aload_n hx hb dJ7_fill_d0a16_2 rfl (lv_at hl 1 rfl) ?_
  refine va_alen (D := D) (v := nI z) hx hb E.2 hP 0 1 rfl rfl rfl dJ7_fill_d0a16_3 ?_
  refine lv_istore (lv' := [(4, .int (nI z)), (3, .int 0), (0, .ref a), (1, .long v)]) hx hb dJ7_fill_d0a16_4 hl (by decide) rfl (fun ls hl => ?_)
  have e0 : wL a cJ z (ph st (flJ 0 v st.2)) = wL a cJ z st := by simp only [wL, ph, flJ_0]
  exact lfillJ hz E hr hlocks z 0 (by omega) _ _ _ (by rw [e0]; exact hP) (by rw [e0]; exact hD) hS (lv_sub hl [2, 3, 1, 0] rfl)
section JRows
variable {p : Program} {l : Launch} {e : Env} {R : Room} {s : State} {m : MethodId} {args : Array Value} {below : List Frame} {meth : Method} {c : Code} {H : Heap} {locs : List Loc} {pc nL : Nat} {ls : Array Slot} {cc : ByteArray} {own : String} {D : va_G} {h : Nat → Nat} {cI cJ cZ : ClassId} {st : St} {A : Nat → Prop} {Q : State → Prop} {rest : List Value} {idx : Nat}
set_option maxHeartbeats 4000000 in
set_option maxRecDepth 100000 in
theorem fill_3 {v : Int32} (E : Env1 p s m args c cc nL own D (tyL cI cJ cZ)) (hA : ∀ q : Nat, s.heap.size ≤ q → A q) (hP : va_P D vwCl (wX h cI cJ cZ st) H) (hD : va_D A (wX h cI cJ cZ st)) (hS : va_S A s.heap H locs) (hls : ls.size = nL) (hm : Cond.methodLink own idx yJ7_fill_53178 ∈ TB) (hW : (rest.map fun v => v.category).sum ≤ 8) (hR : 1 ≤ R.frames ∧ 8 + (4 + 11) + 0 ≤ R.locals) (hdg : decode cc pc = .ok (.invokestatic idx, 3))
    (kk : ∀ (H1 : Heap) (locs1 : List Loc), va_P D vwCl (wX h cI cJ cZ (pf st 3 (flI 32 v (st.1 3)))) H1 → va_D A (wX h cI cJ cZ (pf st 3 (flI 32 v (st.1 3)))) → va_S A s.heap H1 locs1 → W p l e R s m args below meth c H1 locs1 0 0 Q (F0 m (pc + 3) ls rest)) :
    W p l e R s m args below meth c H locs 0 0 Q (F0 m pc ls (.int v :: .ref (h 3) :: rest)) := by
  have hPc := hP.sub (ws' := wA (h 3) cI 32 (fun _ => st.1 3, st.2)) [3] rfl
  have hDc := hD.sub (ws' := wA (h 3) cI 32 (fun _ => st.1 3, st.2)) [3] (by decide) rfl
  have hFc := va_free (wc := wA (h 3) cI 32 (fun _ => st.1 3, st.2)) hD hS hA [3] rfl
  refine va_callv (va_runS (As := [.ref (h 3), .int v]) (rest := rest) E.1 (kfillI l D (h 3) 32 (by decide) cI cJ cZ v (fun _ => st.1 3, st.2) H.size) ⟨callB_of 2 E.1.2.2.2.2 (tb_code fi_co) rfl rfl rfl (E.1.2.2.2.2 _ fi_in) (E.1.2.2.2.2 _ hm) (by decide +kernel) hR, E.1.2.2.2.2 _ fi_st⟩ ⟨cp_blind, fun U hU hW => ⟨rfl, by rw [hU], by rw [hU]; exact hPc, va_K.moved hW.alike E.2, hDc.weaken (fun _ _ _ _ => trivial)⟩⟩ rfl rfl hls rfl (lv_room hW) hdg ⟨Nat.zero_le _, Nat.zero_le _⟩) hS (fun q _ h => hFc q h) hFc (fun u1 t H1 locs1 ht hvm hw hB hz1 hk1 hS1 => ?_)
  subst hw
  obtain ⟨hP1, hK1, hD1⟩ := hB
  rw [ht] at hP1
  obtain ⟨hP2, hD2⟩ := va_join (wr := [(h 0, .inr (2, [.ref (h 1), .ref (h 2), .ref (h 3), .ref (h 4)])), (h 1, .inr (1, [.ref (h 5), .ref (h 6), .ref (h 7), .ref (h 8), .int (st.1 1 4), .int (st.1 1 5), .int (st.1 1 6)])), (h 2, .inr (0, [.ref (h 1), .ref (h 9), .int (st.1 2 2), .ref (h 10), .ref (h 11), .ref (h 12), .int (st.1 2 6), .int (st.1 2 7), .int (st.1 2 8), .int (st.1 2 9), .int (st.1 2 10), .int (st.1 2 11), .ref (h 13), .int (st.1 2 13), .int (st.1 2 14), .int (st.1 2 15), .int (st.1 2 16), .int (st.1 2 17)])), (h 4, .inl (cI, 32, .inl (st.1 4))), (h 5, .inl (cI, 4096, .inl (st.1 5))), (h 6, .inl (cI, 64, .inl (st.1 6))), (h 7, .inl (cI, 64, .inl (st.1 7))), (h 8, .inl (cJ, 64, .inr (.inl st.2))), (h 9, .inl (cI, 4096, .inl (st.1 9))), (h 10, .inl (cI, 4096, .inl (st.1 10))), (h 11, .inl (cZ, 64, .inl (st.1 11))), (h 12, .inl (cZ, 64, .inl (st.1 12))), (h 13, .inl (cI, 64, .inl (st.1 13)))]) hP hD [3] [0, 1, 2, 4, 5, 6, 7, 8, 9, 10, 11, 12, 13] rfl rfl (by decide) (by decide) hk1 hFc hP1 hD1
  exact kk H1 locs1 (hP2.sub [0, 1, 2, 13, 3, 4, 5, 6, 7, 8, 9, 10, 11, 12] rfl) (hD2.sub [0, 1, 2, 13, 3, 4, 5, 6, 7, 8, 9, 10, 11, 12] (by decide) rfl) hS1
set_option maxHeartbeats 4000000 in
set_option maxRecDepth 100000 in
theorem fill_4 {v : Int32} (E : Env1 p s m args c cc nL own D (tyL cI cJ cZ)) (hA : ∀ q : Nat, s.heap.size ≤ q → A q) (hP : va_P D vwCl (wX h cI cJ cZ st) H) (hD : va_D A (wX h cI cJ cZ st)) (hS : va_S A s.heap H locs) (hls : ls.size = nL) (hm : Cond.methodLink own idx yJ7_fill_53178 ∈ TB) (hW : (rest.map fun v => v.category).sum ≤ 8) (hR : 1 ≤ R.frames ∧ 8 + (4 + 11) + 0 ≤ R.locals) (hdg : decode cc pc = .ok (.invokestatic idx, 3))
    (kk : ∀ (H1 : Heap) (locs1 : List Loc), va_P D vwCl (wX h cI cJ cZ (pf st 4 (flI 32 v (st.1 4)))) H1 → va_D A (wX h cI cJ cZ (pf st 4 (flI 32 v (st.1 4)))) → va_S A s.heap H1 locs1 → W p l e R s m args below meth c H1 locs1 0 0 Q (F0 m (pc + 3) ls rest)) :
    W p l e R s m args below meth c H locs 0 0 Q (F0 m pc ls (.int v :: .ref (h 4) :: rest)) := by
  have hPc := hP.sub (ws' := wA (h 4) cI 32 (fun _ => st.1 4, st.2)) [4] rfl
  have hDc := hD.sub (ws' := wA (h 4) cI 32 (fun _ => st.1 4, st.2)) [4] (by decide) rfl
  have hFc := va_free (wc := wA (h 4) cI 32 (fun _ => st.1 4, st.2)) hD hS hA [4] rfl
  refine va_callv (va_runS (As := [.ref (h 4), .int v]) (rest := rest) E.1 (kfillI l D (h 4) 32 (by decide) cI cJ cZ v (fun _ => st.1 4, st.2) H.size) ⟨callB_of 2 E.1.2.2.2.2 (tb_code fi_co) rfl rfl rfl (E.1.2.2.2.2 _ fi_in) (E.1.2.2.2.2 _ hm) (by decide +kernel) hR, E.1.2.2.2.2 _ fi_st⟩ ⟨cp_blind, fun U hU hW => ⟨rfl, by rw [hU], by rw [hU]; exact hPc, va_K.moved hW.alike E.2, hDc.weaken (fun _ _ _ _ => trivial)⟩⟩ rfl rfl hls rfl (lv_room hW) hdg ⟨Nat.zero_le _, Nat.zero_le _⟩) hS (fun q _ h => hFc q h) hFc (fun u1 t H1 locs1 ht hvm hw hB hz1 hk1 hS1 => ?_)
  subst hw
  obtain ⟨hP1, hK1, hD1⟩ := hB
  rw [ht] at hP1
  obtain ⟨hP2, hD2⟩ := va_join (wr := [(h 0, .inr (2, [.ref (h 1), .ref (h 2), .ref (h 3), .ref (h 4)])), (h 1, .inr (1, [.ref (h 5), .ref (h 6), .ref (h 7), .ref (h 8), .int (st.1 1 4), .int (st.1 1 5), .int (st.1 1 6)])), (h 2, .inr (0, [.ref (h 1), .ref (h 9), .int (st.1 2 2), .ref (h 10), .ref (h 11), .ref (h 12), .int (st.1 2 6), .int (st.1 2 7), .int (st.1 2 8), .int (st.1 2 9), .int (st.1 2 10), .int (st.1 2 11), .ref (h 13), .int (st.1 2 13), .int (st.1 2 14), .int (st.1 2 15), .int (st.1 2 16), .int (st.1 2 17)])), (h 3, .inl (cI, 32, .inl (st.1 3))), (h 5, .inl (cI, 4096, .inl (st.1 5))), (h 6, .inl (cI, 64, .inl (st.1 6))), (h 7, .inl (cI, 64, .inl (st.1 7))), (h 8, .inl (cJ, 64, .inr (.inl st.2))), (h 9, .inl (cI, 4096, .inl (st.1 9))), (h 10, .inl (cI, 4096, .inl (st.1 10))), (h 11, .inl (cZ, 64, .inl (st.1 11))), (h 12, .inl (cZ, 64, .inl (st.1 12))), (h 13, .inl (cI, 64, .inl (st.1 13)))]) hP hD [4] [0, 1, 2, 3, 5, 6, 7, 8, 9, 10, 11, 12, 13] rfl rfl (by decide) (by decide) hk1 hFc hP1 hD1
  exact kk H1 locs1 (hP2.sub [0, 1, 2, 3, 13, 4, 5, 6, 7, 8, 9, 10, 11, 12] rfl) (hD2.sub [0, 1, 2, 3, 13, 4, 5, 6, 7, 8, 9, 10, 11, 12] (by decide) rfl) hS1
set_option maxHeartbeats 4000000 in
set_option maxRecDepth 100000 in
theorem fill_5 {v : Int32} (E : Env1 p s m args c cc nL own D (tyL cI cJ cZ)) (hA : ∀ q : Nat, s.heap.size ≤ q → A q) (hP : va_P D vwCl (wX h cI cJ cZ st) H) (hD : va_D A (wX h cI cJ cZ st)) (hS : va_S A s.heap H locs) (hls : ls.size = nL) (hm : Cond.methodLink own idx yJ7_fill_53178 ∈ TB) (hW : (rest.map fun v => v.category).sum ≤ 8) (hR : 1 ≤ R.frames ∧ 8 + (4 + 11) + 0 ≤ R.locals) (hdg : decode cc pc = .ok (.invokestatic idx, 3))
    (kk : ∀ (H1 : Heap) (locs1 : List Loc), va_P D vwCl (wX h cI cJ cZ (pf st 5 (flI 4096 v (st.1 5)))) H1 → va_D A (wX h cI cJ cZ (pf st 5 (flI 4096 v (st.1 5)))) → va_S A s.heap H1 locs1 → W p l e R s m args below meth c H1 locs1 0 0 Q (F0 m (pc + 3) ls rest)) :
    W p l e R s m args below meth c H locs 0 0 Q (F0 m pc ls (.int v :: .ref (h 5) :: rest)) := by
  have hPc := hP.sub (ws' := wA (h 5) cI 4096 (fun _ => st.1 5, st.2)) [5] rfl
  have hDc := hD.sub (ws' := wA (h 5) cI 4096 (fun _ => st.1 5, st.2)) [5] (by decide) rfl
  have hFc := va_free (wc := wA (h 5) cI 4096 (fun _ => st.1 5, st.2)) hD hS hA [5] rfl
  refine va_callv (va_runS (As := [.ref (h 5), .int v]) (rest := rest) E.1 (kfillI l D (h 5) 4096 (by decide) cI cJ cZ v (fun _ => st.1 5, st.2) H.size) ⟨callB_of 2 E.1.2.2.2.2 (tb_code fi_co) rfl rfl rfl (E.1.2.2.2.2 _ fi_in) (E.1.2.2.2.2 _ hm) (by decide +kernel) hR, E.1.2.2.2.2 _ fi_st⟩ ⟨cp_blind, fun U hU hW => ⟨rfl, by rw [hU], by rw [hU]; exact hPc, va_K.moved hW.alike E.2, hDc.weaken (fun _ _ _ _ => trivial)⟩⟩ rfl rfl hls rfl (lv_room hW) hdg ⟨Nat.zero_le _, Nat.zero_le _⟩) hS (fun q _ h => hFc q h) hFc (fun u1 t H1 locs1 ht hvm hw hB hz1 hk1 hS1 => ?_)
  subst hw
  obtain ⟨hP1, hK1, hD1⟩ := hB
  rw [ht] at hP1
  obtain ⟨hP2, hD2⟩ := va_join (wr := [(h 0, .inr (2, [.ref (h 1), .ref (h 2), .ref (h 3), .ref (h 4)])), (h 1, .inr (1, [.ref (h 5), .ref (h 6), .ref (h 7), .ref (h 8), .int (st.1 1 4), .int (st.1 1 5), .int (st.1 1 6)])), (h 2, .inr (0, [.ref (h 1), .ref (h 9), .int (st.1 2 2), .ref (h 10), .ref (h 11), .ref (h 12), .int (st.1 2 6), .int (st.1 2 7), .int (st.1 2 8), .int (st.1 2 9), .int (st.1 2 10), .int (st.1 2 11), .ref (h 13), .int (st.1 2 13), .int (st.1 2 14), .int (st.1 2 15), .int (st.1 2 16), .int (st.1 2 17)])), (h 3, .inl (cI, 32, .inl (st.1 3))), (h 4, .inl (cI, 32, .inl (st.1 4))), (h 6, .inl (cI, 64, .inl (st.1 6))), (h 7, .inl (cI, 64, .inl (st.1 7))), (h 8, .inl (cJ, 64, .inr (.inl st.2))), (h 9, .inl (cI, 4096, .inl (st.1 9))), (h 10, .inl (cI, 4096, .inl (st.1 10))), (h 11, .inl (cZ, 64, .inl (st.1 11))), (h 12, .inl (cZ, 64, .inl (st.1 12))), (h 13, .inl (cI, 64, .inl (st.1 13)))]) hP hD [5] [0, 1, 2, 3, 4, 6, 7, 8, 9, 10, 11, 12, 13] rfl rfl (by decide) (by decide) hk1 hFc hP1 hD1
  exact kk H1 locs1 (hP2.sub [0, 1, 2, 3, 4, 13, 5, 6, 7, 8, 9, 10, 11, 12] rfl) (hD2.sub [0, 1, 2, 3, 4, 13, 5, 6, 7, 8, 9, 10, 11, 12] (by decide) rfl) hS1
set_option maxHeartbeats 4000000 in
set_option maxRecDepth 100000 in
theorem fill_6 {v : Int32} (E : Env1 p s m args c cc nL own D (tyL cI cJ cZ)) (hA : ∀ q : Nat, s.heap.size ≤ q → A q) (hP : va_P D vwCl (wX h cI cJ cZ st) H) (hD : va_D A (wX h cI cJ cZ st)) (hS : va_S A s.heap H locs) (hls : ls.size = nL) (hm : Cond.methodLink own idx yJ7_fill_53178 ∈ TB) (hW : (rest.map fun v => v.category).sum ≤ 8) (hR : 1 ≤ R.frames ∧ 8 + (4 + 11) + 0 ≤ R.locals) (hdg : decode cc pc = .ok (.invokestatic idx, 3))
    (kk : ∀ (H1 : Heap) (locs1 : List Loc), va_P D vwCl (wX h cI cJ cZ (pf st 6 (flI 64 v (st.1 6)))) H1 → va_D A (wX h cI cJ cZ (pf st 6 (flI 64 v (st.1 6)))) → va_S A s.heap H1 locs1 → W p l e R s m args below meth c H1 locs1 0 0 Q (F0 m (pc + 3) ls rest)) :
    W p l e R s m args below meth c H locs 0 0 Q (F0 m pc ls (.int v :: .ref (h 6) :: rest)) := by
  have hPc := hP.sub (ws' := wA (h 6) cI 64 (fun _ => st.1 6, st.2)) [6] rfl
  have hDc := hD.sub (ws' := wA (h 6) cI 64 (fun _ => st.1 6, st.2)) [6] (by decide) rfl
  have hFc := va_free (wc := wA (h 6) cI 64 (fun _ => st.1 6, st.2)) hD hS hA [6] rfl
  refine va_callv (va_runS (As := [.ref (h 6), .int v]) (rest := rest) E.1 (kfillI l D (h 6) 64 (by decide) cI cJ cZ v (fun _ => st.1 6, st.2) H.size) ⟨callB_of 2 E.1.2.2.2.2 (tb_code fi_co) rfl rfl rfl (E.1.2.2.2.2 _ fi_in) (E.1.2.2.2.2 _ hm) (by decide +kernel) hR, E.1.2.2.2.2 _ fi_st⟩ ⟨cp_blind, fun U hU hW => ⟨rfl, by rw [hU], by rw [hU]; exact hPc, va_K.moved hW.alike E.2, hDc.weaken (fun _ _ _ _ => trivial)⟩⟩ rfl rfl hls rfl (lv_room hW) hdg ⟨Nat.zero_le _, Nat.zero_le _⟩) hS (fun q _ h => hFc q h) hFc (fun u1 t H1 locs1 ht hvm hw hB hz1 hk1 hS1 => ?_)
  subst hw
  obtain ⟨hP1, hK1, hD1⟩ := hB
  rw [ht] at hP1
  obtain ⟨hP2, hD2⟩ := va_join (wr := [(h 0, .inr (2, [.ref (h 1), .ref (h 2), .ref (h 3), .ref (h 4)])), (h 1, .inr (1, [.ref (h 5), .ref (h 6), .ref (h 7), .ref (h 8), .int (st.1 1 4), .int (st.1 1 5), .int (st.1 1 6)])), (h 2, .inr (0, [.ref (h 1), .ref (h 9), .int (st.1 2 2), .ref (h 10), .ref (h 11), .ref (h 12), .int (st.1 2 6), .int (st.1 2 7), .int (st.1 2 8), .int (st.1 2 9), .int (st.1 2 10), .int (st.1 2 11), .ref (h 13), .int (st.1 2 13), .int (st.1 2 14), .int (st.1 2 15), .int (st.1 2 16), .int (st.1 2 17)])), (h 3, .inl (cI, 32, .inl (st.1 3))), (h 4, .inl (cI, 32, .inl (st.1 4))), (h 5, .inl (cI, 4096, .inl (st.1 5))), (h 7, .inl (cI, 64, .inl (st.1 7))), (h 8, .inl (cJ, 64, .inr (.inl st.2))), (h 9, .inl (cI, 4096, .inl (st.1 9))), (h 10, .inl (cI, 4096, .inl (st.1 10))), (h 11, .inl (cZ, 64, .inl (st.1 11))), (h 12, .inl (cZ, 64, .inl (st.1 12))), (h 13, .inl (cI, 64, .inl (st.1 13)))]) hP hD [6] [0, 1, 2, 3, 4, 5, 7, 8, 9, 10, 11, 12, 13] rfl rfl (by decide) (by decide) hk1 hFc hP1 hD1
  exact kk H1 locs1 (hP2.sub [0, 1, 2, 3, 4, 5, 13, 6, 7, 8, 9, 10, 11, 12] rfl) (hD2.sub [0, 1, 2, 3, 4, 5, 13, 6, 7, 8, 9, 10, 11, 12] (by decide) rfl) hS1
set_option maxHeartbeats 4000000 in
set_option maxRecDepth 100000 in
theorem fill_7 {v : Int32} (E : Env1 p s m args c cc nL own D (tyL cI cJ cZ)) (hA : ∀ q : Nat, s.heap.size ≤ q → A q) (hP : va_P D vwCl (wX h cI cJ cZ st) H) (hD : va_D A (wX h cI cJ cZ st)) (hS : va_S A s.heap H locs) (hls : ls.size = nL) (hm : Cond.methodLink own idx yJ7_fill_53178 ∈ TB) (hW : (rest.map fun v => v.category).sum ≤ 8) (hR : 1 ≤ R.frames ∧ 8 + (4 + 11) + 0 ≤ R.locals) (hdg : decode cc pc = .ok (.invokestatic idx, 3))
    (kk : ∀ (H1 : Heap) (locs1 : List Loc), va_P D vwCl (wX h cI cJ cZ (pf st 7 (flI 64 v (st.1 7)))) H1 → va_D A (wX h cI cJ cZ (pf st 7 (flI 64 v (st.1 7)))) → va_S A s.heap H1 locs1 → W p l e R s m args below meth c H1 locs1 0 0 Q (F0 m (pc + 3) ls rest)) :
    W p l e R s m args below meth c H locs 0 0 Q (F0 m pc ls (.int v :: .ref (h 7) :: rest)) := by
  have hPc := hP.sub (ws' := wA (h 7) cI 64 (fun _ => st.1 7, st.2)) [7] rfl
  have hDc := hD.sub (ws' := wA (h 7) cI 64 (fun _ => st.1 7, st.2)) [7] (by decide) rfl
  have hFc := va_free (wc := wA (h 7) cI 64 (fun _ => st.1 7, st.2)) hD hS hA [7] rfl
  refine va_callv (va_runS (As := [.ref (h 7), .int v]) (rest := rest) E.1 (kfillI l D (h 7) 64 (by decide) cI cJ cZ v (fun _ => st.1 7, st.2) H.size) ⟨callB_of 2 E.1.2.2.2.2 (tb_code fi_co) rfl rfl rfl (E.1.2.2.2.2 _ fi_in) (E.1.2.2.2.2 _ hm) (by decide +kernel) hR, E.1.2.2.2.2 _ fi_st⟩ ⟨cp_blind, fun U hU hW => ⟨rfl, by rw [hU], by rw [hU]; exact hPc, va_K.moved hW.alike E.2, hDc.weaken (fun _ _ _ _ => trivial)⟩⟩ rfl rfl hls rfl (lv_room hW) hdg ⟨Nat.zero_le _, Nat.zero_le _⟩) hS (fun q _ h => hFc q h) hFc (fun u1 t H1 locs1 ht hvm hw hB hz1 hk1 hS1 => ?_)
  subst hw
  obtain ⟨hP1, hK1, hD1⟩ := hB
  rw [ht] at hP1
  obtain ⟨hP2, hD2⟩ := va_join (wr := [(h 0, .inr (2, [.ref (h 1), .ref (h 2), .ref (h 3), .ref (h 4)])), (h 1, .inr (1, [.ref (h 5), .ref (h 6), .ref (h 7), .ref (h 8), .int (st.1 1 4), .int (st.1 1 5), .int (st.1 1 6)])), (h 2, .inr (0, [.ref (h 1), .ref (h 9), .int (st.1 2 2), .ref (h 10), .ref (h 11), .ref (h 12), .int (st.1 2 6), .int (st.1 2 7), .int (st.1 2 8), .int (st.1 2 9), .int (st.1 2 10), .int (st.1 2 11), .ref (h 13), .int (st.1 2 13), .int (st.1 2 14), .int (st.1 2 15), .int (st.1 2 16), .int (st.1 2 17)])), (h 3, .inl (cI, 32, .inl (st.1 3))), (h 4, .inl (cI, 32, .inl (st.1 4))), (h 5, .inl (cI, 4096, .inl (st.1 5))), (h 6, .inl (cI, 64, .inl (st.1 6))), (h 8, .inl (cJ, 64, .inr (.inl st.2))), (h 9, .inl (cI, 4096, .inl (st.1 9))), (h 10, .inl (cI, 4096, .inl (st.1 10))), (h 11, .inl (cZ, 64, .inl (st.1 11))), (h 12, .inl (cZ, 64, .inl (st.1 12))), (h 13, .inl (cI, 64, .inl (st.1 13)))]) hP hD [7] [0, 1, 2, 3, 4, 5, 6, 8, 9, 10, 11, 12, 13] rfl rfl (by decide) (by decide) hk1 hFc hP1 hD1
  exact kk H1 locs1 (hP2.sub [0, 1, 2, 3, 4, 5, 6, 13, 7, 8, 9, 10, 11, 12] rfl) (hD2.sub [0, 1, 2, 3, 4, 5, 6, 13, 7, 8, 9, 10, 11, 12] (by decide) rfl) hS1
set_option maxHeartbeats 4000000 in
set_option maxRecDepth 100000 in
theorem fill_8 {v : Int64} (E : Env1 p s m args c cc nL own D (tyL cI cJ cZ)) (hA : ∀ q : Nat, s.heap.size ≤ q → A q) (hP : va_P D vwCl (wX h cI cJ cZ st) H) (hD : va_D A (wX h cI cJ cZ st)) (hS : va_S A s.heap H locs) (hls : ls.size = nL) (hm : Cond.methodLink own idx yJ7_fill_d0a16 ∈ TB) (hW : (rest.map fun v => v.category).sum ≤ 8) (hR : 1 ≤ R.frames ∧ 8 + (5 + 11) + 0 ≤ R.locals) (hdg : decode cc pc = .ok (.invokestatic idx, 3))
    (kk : ∀ (H1 : Heap) (locs1 : List Loc), va_P D vwCl (wX h cI cJ cZ (ph st (flJ 64 v st.2))) H1 → va_D A (wX h cI cJ cZ (ph st (flJ 64 v st.2))) → va_S A s.heap H1 locs1 → W p l e R s m args below meth c H1 locs1 0 0 Q (F0 m (pc + 3) ls rest)) :
    W p l e R s m args below meth c H locs 0 0 Q (F0 m pc ls (.long v :: .ref (h 8) :: rest)) := by
  have hPc := hP.sub (ws' := wL (h 8) cJ 64 st) [8] rfl
  have hDc := hD.sub (ws' := wL (h 8) cJ 64 st) [8] (by decide) rfl
  have hFc := va_free (wc := wL (h 8) cJ 64 st) hD hS hA [8] rfl
  refine va_callv (va_runS (As := [.ref (h 8), .long v]) (rest := rest) E.1 (kfillJ l D (h 8) 64 (by decide) cI cJ cZ v st H.size) ⟨callB_of 2 E.1.2.2.2.2 (tb_code fj_co) rfl rfl rfl (E.1.2.2.2.2 _ fi_in) (E.1.2.2.2.2 _ hm) (by decide +kernel) hR, E.1.2.2.2.2 _ fj_st⟩ ⟨cp_blind, fun U hU hW => ⟨rfl, by rw [hU], by rw [hU]; exact hPc, va_K.moved hW.alike E.2, hDc.weaken (fun _ _ _ _ => trivial)⟩⟩ rfl rfl hls rfl (lv_room hW) hdg ⟨Nat.zero_le _, Nat.zero_le _⟩) hS (fun q _ h => hFc q h) hFc (fun u1 t H1 locs1 ht hvm hw hB hz1 hk1 hS1 => ?_)
  subst hw
  obtain ⟨hP1, hK1, hD1⟩ := hB
  rw [ht] at hP1
  obtain ⟨hP2, hD2⟩ := va_join (wr := [(h 0, .inr (2, [.ref (h 1), .ref (h 2), .ref (h 3), .ref (h 4)])), (h 1, .inr (1, [.ref (h 5), .ref (h 6), .ref (h 7), .ref (h 8), .int (st.1 1 4), .int (st.1 1 5), .int (st.1 1 6)])), (h 2, .inr (0, [.ref (h 1), .ref (h 9), .int (st.1 2 2), .ref (h 10), .ref (h 11), .ref (h 12), .int (st.1 2 6), .int (st.1 2 7), .int (st.1 2 8), .int (st.1 2 9), .int (st.1 2 10), .int (st.1 2 11), .ref (h 13), .int (st.1 2 13), .int (st.1 2 14), .int (st.1 2 15), .int (st.1 2 16), .int (st.1 2 17)])), (h 3, .inl (cI, 32, .inl (st.1 3))), (h 4, .inl (cI, 32, .inl (st.1 4))), (h 5, .inl (cI, 4096, .inl (st.1 5))), (h 6, .inl (cI, 64, .inl (st.1 6))), (h 7, .inl (cI, 64, .inl (st.1 7))), (h 9, .inl (cI, 4096, .inl (st.1 9))), (h 10, .inl (cI, 4096, .inl (st.1 10))), (h 11, .inl (cZ, 64, .inl (st.1 11))), (h 12, .inl (cZ, 64, .inl (st.1 12))), (h 13, .inl (cI, 64, .inl (st.1 13)))]) hP hD [8] [0, 1, 2, 3, 4, 5, 6, 7, 9, 10, 11, 12, 13] rfl rfl (by decide) (by decide) hk1 hFc hP1 hD1
  exact kk H1 locs1 (hP2.sub [0, 1, 2, 3, 4, 5, 6, 7, 13, 8, 9, 10, 11, 12] rfl) (hD2.sub [0, 1, 2, 3, 4, 5, 6, 7, 13, 8, 9, 10, 11, 12] (by decide) rfl) hS1
set_option maxHeartbeats 4000000 in
set_option maxRecDepth 100000 in
theorem fill_10 {v : Int32} (E : Env1 p s m args c cc nL own D (tyL cI cJ cZ)) (hA : ∀ q : Nat, s.heap.size ≤ q → A q) (hP : va_P D vwCl (wX h cI cJ cZ st) H) (hD : va_D A (wX h cI cJ cZ st)) (hS : va_S A s.heap H locs) (hls : ls.size = nL) (hm : Cond.methodLink own idx yJ7_fill_53178 ∈ TB) (hW : (rest.map fun v => v.category).sum ≤ 8) (hR : 1 ≤ R.frames ∧ 8 + (4 + 11) + 0 ≤ R.locals) (hdg : decode cc pc = .ok (.invokestatic idx, 3))
    (kk : ∀ (H1 : Heap) (locs1 : List Loc), va_P D vwCl (wX h cI cJ cZ (pf st 10 (flI 4096 v (st.1 10)))) H1 → va_D A (wX h cI cJ cZ (pf st 10 (flI 4096 v (st.1 10)))) → va_S A s.heap H1 locs1 → W p l e R s m args below meth c H1 locs1 0 0 Q (F0 m (pc + 3) ls rest)) :
    W p l e R s m args below meth c H locs 0 0 Q (F0 m pc ls (.int v :: .ref (h 10) :: rest)) := by
  have hPc := hP.sub (ws' := wA (h 10) cI 4096 (fun _ => st.1 10, st.2)) [10] rfl
  have hDc := hD.sub (ws' := wA (h 10) cI 4096 (fun _ => st.1 10, st.2)) [10] (by decide) rfl
  have hFc := va_free (wc := wA (h 10) cI 4096 (fun _ => st.1 10, st.2)) hD hS hA [10] rfl
  refine va_callv (va_runS (As := [.ref (h 10), .int v]) (rest := rest) E.1 (kfillI l D (h 10) 4096 (by decide) cI cJ cZ v (fun _ => st.1 10, st.2) H.size) ⟨callB_of 2 E.1.2.2.2.2 (tb_code fi_co) rfl rfl rfl (E.1.2.2.2.2 _ fi_in) (E.1.2.2.2.2 _ hm) (by decide +kernel) hR, E.1.2.2.2.2 _ fi_st⟩ ⟨cp_blind, fun U hU hW => ⟨rfl, by rw [hU], by rw [hU]; exact hPc, va_K.moved hW.alike E.2, hDc.weaken (fun _ _ _ _ => trivial)⟩⟩ rfl rfl hls rfl (lv_room hW) hdg ⟨Nat.zero_le _, Nat.zero_le _⟩) hS (fun q _ h => hFc q h) hFc (fun u1 t H1 locs1 ht hvm hw hB hz1 hk1 hS1 => ?_)
  subst hw
  obtain ⟨hP1, hK1, hD1⟩ := hB
  rw [ht] at hP1
  obtain ⟨hP2, hD2⟩ := va_join (wr := [(h 0, .inr (2, [.ref (h 1), .ref (h 2), .ref (h 3), .ref (h 4)])), (h 1, .inr (1, [.ref (h 5), .ref (h 6), .ref (h 7), .ref (h 8), .int (st.1 1 4), .int (st.1 1 5), .int (st.1 1 6)])), (h 2, .inr (0, [.ref (h 1), .ref (h 9), .int (st.1 2 2), .ref (h 10), .ref (h 11), .ref (h 12), .int (st.1 2 6), .int (st.1 2 7), .int (st.1 2 8), .int (st.1 2 9), .int (st.1 2 10), .int (st.1 2 11), .ref (h 13), .int (st.1 2 13), .int (st.1 2 14), .int (st.1 2 15), .int (st.1 2 16), .int (st.1 2 17)])), (h 3, .inl (cI, 32, .inl (st.1 3))), (h 4, .inl (cI, 32, .inl (st.1 4))), (h 5, .inl (cI, 4096, .inl (st.1 5))), (h 6, .inl (cI, 64, .inl (st.1 6))), (h 7, .inl (cI, 64, .inl (st.1 7))), (h 8, .inl (cJ, 64, .inr (.inl st.2))), (h 9, .inl (cI, 4096, .inl (st.1 9))), (h 11, .inl (cZ, 64, .inl (st.1 11))), (h 12, .inl (cZ, 64, .inl (st.1 12))), (h 13, .inl (cI, 64, .inl (st.1 13)))]) hP hD [10] [0, 1, 2, 3, 4, 5, 6, 7, 8, 9, 11, 12, 13] rfl rfl (by decide) (by decide) hk1 hFc hP1 hD1
  exact kk H1 locs1 (hP2.sub [0, 1, 2, 3, 4, 5, 6, 7, 8, 9, 13, 10, 11, 12] rfl) (hD2.sub [0, 1, 2, 3, 4, 5, 6, 7, 8, 9, 13, 10, 11, 12] (by decide) rfl) hS1
set_option maxHeartbeats 4000000 in
set_option maxRecDepth 100000 in
theorem fill_13 {v : Int32} (E : Env1 p s m args c cc nL own D (tyL cI cJ cZ)) (hA : ∀ q : Nat, s.heap.size ≤ q → A q) (hP : va_P D vwCl (wX h cI cJ cZ st) H) (hD : va_D A (wX h cI cJ cZ st)) (hS : va_S A s.heap H locs) (hls : ls.size = nL) (hm : Cond.methodLink own idx yJ7_fill_53178 ∈ TB) (hW : (rest.map fun v => v.category).sum ≤ 8) (hR : 1 ≤ R.frames ∧ 8 + (4 + 11) + 0 ≤ R.locals) (hdg : decode cc pc = .ok (.invokestatic idx, 3))
    (kk : ∀ (H1 : Heap) (locs1 : List Loc), va_P D vwCl (wX h cI cJ cZ (pf st 13 (flI 64 v (st.1 13)))) H1 → va_D A (wX h cI cJ cZ (pf st 13 (flI 64 v (st.1 13)))) → va_S A s.heap H1 locs1 → W p l e R s m args below meth c H1 locs1 0 0 Q (F0 m (pc + 3) ls rest)) :
    W p l e R s m args below meth c H locs 0 0 Q (F0 m pc ls (.int v :: .ref (h 13) :: rest)) := by
  have hPc := hP.sub (ws' := wA (h 13) cI 64 (fun _ => st.1 13, st.2)) [13] rfl
  have hDc := hD.sub (ws' := wA (h 13) cI 64 (fun _ => st.1 13, st.2)) [13] (by decide) rfl
  have hFc := va_free (wc := wA (h 13) cI 64 (fun _ => st.1 13, st.2)) hD hS hA [13] rfl
  refine va_callv (va_runS (As := [.ref (h 13), .int v]) (rest := rest) E.1 (kfillI l D (h 13) 64 (by decide) cI cJ cZ v (fun _ => st.1 13, st.2) H.size) ⟨callB_of 2 E.1.2.2.2.2 (tb_code fi_co) rfl rfl rfl (E.1.2.2.2.2 _ fi_in) (E.1.2.2.2.2 _ hm) (by decide +kernel) hR, E.1.2.2.2.2 _ fi_st⟩ ⟨cp_blind, fun U hU hW => ⟨rfl, by rw [hU], by rw [hU]; exact hPc, va_K.moved hW.alike E.2, hDc.weaken (fun _ _ _ _ => trivial)⟩⟩ rfl rfl hls rfl (lv_room hW) hdg ⟨Nat.zero_le _, Nat.zero_le _⟩) hS (fun q _ h => hFc q h) hFc (fun u1 t H1 locs1 ht hvm hw hB hz1 hk1 hS1 => ?_)
  subst hw
  obtain ⟨hP1, hK1, hD1⟩ := hB
  rw [ht] at hP1
  obtain ⟨hP2, hD2⟩ := va_join (wr := [(h 0, .inr (2, [.ref (h 1), .ref (h 2), .ref (h 3), .ref (h 4)])), (h 1, .inr (1, [.ref (h 5), .ref (h 6), .ref (h 7), .ref (h 8), .int (st.1 1 4), .int (st.1 1 5), .int (st.1 1 6)])), (h 2, .inr (0, [.ref (h 1), .ref (h 9), .int (st.1 2 2), .ref (h 10), .ref (h 11), .ref (h 12), .int (st.1 2 6), .int (st.1 2 7), .int (st.1 2 8), .int (st.1 2 9), .int (st.1 2 10), .int (st.1 2 11), .ref (h 13), .int (st.1 2 13), .int (st.1 2 14), .int (st.1 2 15), .int (st.1 2 16), .int (st.1 2 17)])), (h 3, .inl (cI, 32, .inl (st.1 3))), (h 4, .inl (cI, 32, .inl (st.1 4))), (h 5, .inl (cI, 4096, .inl (st.1 5))), (h 6, .inl (cI, 64, .inl (st.1 6))), (h 7, .inl (cI, 64, .inl (st.1 7))), (h 8, .inl (cJ, 64, .inr (.inl st.2))), (h 9, .inl (cI, 4096, .inl (st.1 9))), (h 10, .inl (cI, 4096, .inl (st.1 10))), (h 11, .inl (cZ, 64, .inl (st.1 11))), (h 12, .inl (cZ, 64, .inl (st.1 12)))]) hP hD [13] [0, 1, 2, 3, 4, 5, 6, 7, 8, 9, 10, 11, 12] rfl rfl (by decide) (by decide) hk1 hFc hP1 hD1
  exact kk H1 locs1 (hP2.sub [0, 1, 2, 3, 4, 5, 6, 7, 8, 9, 10, 11, 12, 13] rfl) (hD2.sub [0, 1, 2, 3, 4, 5, 6, 7, 8, 9, 10, 11, 12, 13] (by decide) rfl) hS1
def gc {α : Type} (sp dp n : Int32) (n0 n1 : Nat) (k : Option α) : Option α := if sp < 0 ∨ dp < 0 ∨ n < 0 ∨ n0 < sp.toNatClampNeg + n.toNatClampNeg ∨ n1 < dp.toNatClampNeg + n.toNatClampNeg then none else k
theorem gc_some {α : Type} {sp dp n : Int32} {n0 n1 : Nat} {k : Option α} {o : α} (h : gc sp dp n n0 n1 k = some o) : (¬ sp < 0 ∧ ¬ dp < 0 ∧ ¬ n < 0 ∧ sp.toNatClampNeg + n.toNatClampNeg ≤ n0 ∧ dp.toNatClampNeg + n.toNatClampNeg ≤ n1) ∧ k = some o := by
  unfold gc at h
  split at h
  · cases h
  · rename_i h1
    refine ⟨⟨fun a => h1 (Or.inl a), fun a => h1 (Or.inr (Or.inl a)), fun a => h1 (Or.inr (Or.inr (Or.inl a))), ?_, ?_⟩, h⟩
    · exact Nat.le_of_not_lt (fun a => h1 (Or.inr (Or.inr (Or.inr (Or.inl a)))))
    · exact Nat.le_of_not_lt (fun a => h1 (Or.inr (Or.inr (Or.inr (Or.inr a)))))
set_option maxHeartbeats 4000000 in
set_option maxRecDepth 100000 in
theorem cpy_5_5 {sp dp n : Int32} (E : Env1 p s m args c cc nL own D (tyL cI cJ cZ)) (hP : va_P D vwCl (wX h cI cJ cZ st) H) (hD : va_D A (wX h cI cJ cZ st)) (hS : va_S A s.heap H locs) (hls : ls.size = nL) (hm : Cond.methodLink own idx arraycopyName ∈ TB) (hy : ¬ sp < 0 ∧ ¬ dp < 0 ∧ ¬ n < 0 ∧ sp.toNatClampNeg + n.toNatClampNeg ≤ 4096 ∧ dp.toNatClampNeg + n.toNatClampNeg ≤ 4096) (hf : 1 ≤ R.frames) (hlo : (rest.map fun v => v.category).sum + (nativeFrameWords "java/lang/System" "arraycopy" 5 + 11) ≤ R.locals) (hdg : decode cc pc = .ok (.invokestatic idx, 3))
    (kk : ∀ (H1 : Heap) (locs1 : List Loc), va_P D vwCl (wX h cI cJ cZ (pf st 5 (va_cpy (st.1 5) (st.1 5) sp.toNatClampNeg dp.toNatClampNeg n.toNatClampNeg))) H1 → va_D A (wX h cI cJ cZ (pf st 5 (va_cpy (st.1 5) (st.1 5) sp.toNatClampNeg dp.toNatClampNeg n.toNatClampNeg))) → va_S A s.heap H1 locs1 → W p l e R s m args below meth c H1 locs1 0 0 Q (F0 m (pc + 3) ls rest)) :
    W p l e R s m args below meth c H locs 0 0 Q (F0 m pc ls (.int n :: .int dp :: .ref (h 5) :: .int sp :: .ref (h 5) :: rest)) :=
  va_copyi (D := D) E.1.1 E.1.2.1 (E.1.2.2.1.trans hls.symm) E.1.2.2.2.1 (E.1.2.2.2.2 _ hm) (E.1.2.2.2.2 _ ac_na) (E.1.2.2.2.2 _ ac_st) (E.1.2.2.2.2 _ ac_in) E.2 hP hD hS 5 5 0 0 rfl rfl rfl rfl rfl hy.1 hy.2.1 hy.2.2.1 hy.2.2.2.1 hy.2.2.2.2 (fun _ _ => rfl) hf hlo hdg kk
def bu (x : Int64) (k : Int32) : Int64 := (x.toUInt64 >>> (k.toInt64.toUInt64 &&& Int64.toUInt64 63)).toInt64
def bt1 (x : Int64) : Int64 := x - (bu x 1 &&& (6148914691236517205 : Int64))
def bt2 (x : Int64) : Int64 := (x &&& (3689348814741910323 : Int64)) + (bu x 2 &&& (3689348814741910323 : Int64))
def bt3 (x : Int64) : Int64 := (x + bu x 4) &&& (1085102592571150095 : Int64)
def bt4 (x : Int64) (k : Int32) : Int64 := x + bu x k
def bct (x : Int64) : Int32 := (bt4 (bt4 (bt4 (bt3 (bt2 (bt1 x))) 8) 16) 32).toInt32 &&& 127
set_option maxHeartbeats 4000000 in
theorem kbitc (l : Launch) (D : va_G) (cI cJ cZ : ClassId) (x : Int64) (st : St) : Ci l yJ13_bitCount_95d88 cJ13_bitCount_95d88 2 (some .int) 0 0 D (tyL cI cJ cZ) (fun _ => []) st [.long x] (bct x) st := by
  refine body_i (by decide +kernel) (Nat.le_of_ble_eq_true rfl) ?_
  intro p e s m below meth c A ls E hr hlocks hA hP hD hS hl
  have E : Env1 p s m _ c cJ13_bitCount_95d88 2 "java/lang/Long" D (tyL cI cJ cZ) := E
  have hl : lv_has ls 2 [(0, .long x)] := hl
  have hx := E.1.1
  have hb := E.1.2.1
  refine lv_lload_n hx hb dJ13_bitCount_95d88_0 rfl (lv_at hl 0 rfl) ?_
  refine lv_lload_n hx hb dJ13_bitCount_95d88_1 rfl (lv_at hl 0 rfl) ?_
  refine lv_iconst (v := 1) hx hb dJ13_bitCount_95d88_2 (by decide) ?_
  refine lv_lushr hx hb dJ13_bitCount_95d88_3 rfl ?_
  refine lv_ldc2 hx hb E.1.2.2.2.1 (E.1.2.2.2.2 _ bc_314) dJ13_bitCount_95d88_4 ?_
  refine lv_land hx hb dJ13_bitCount_95d88_7 ?_
  refine lv_lsub hx hb dJ13_bitCount_95d88_8 ?_
  refine lv_lstore_n (lv' := [(0, .long (bt1 x))]) hx hb dJ13_bitCount_95d88_9 rfl hl (by decide) rfl (fun ls hl => ?_)
  refine lv_lload_n hx hb dJ13_bitCount_95d88_10 rfl (lv_at hl 0 rfl) ?_
  refine lv_ldc2 hx hb E.1.2.2.2.1 (E.1.2.2.2.2 _ bc_316) dJ13_bitCount_95d88_11 ?_
  refine lv_land hx hb dJ13_bitCount_95d88_14 ?_
  refine lv_lload_n hx hb dJ13_bitCount_95d88_15 rfl (lv_at hl 0 rfl) ?_
  refine lv_iconst (v := 2) hx hb dJ13_bitCount_95d88_16 (by decide) ?_
  refine lv_lushr hx hb dJ13_bitCount_95d88_17 rfl ?_
  refine lv_ldc2 hx hb E.1.2.2.2.1 (E.1.2.2.2.2 _ bc_316) dJ13_bitCount_95d88_18 ?_
  refine lv_land hx hb dJ13_bitCount_95d88_21 ?_
  refine lv_ladd hx hb dJ13_bitCount_95d88_22 ?_
  refine lv_lstore_n (lv' := [(0, .long (bt2 (bt1 x)))]) hx hb dJ13_bitCount_95d88_23 rfl hl (by decide) rfl (fun ls hl => ?_)
  refine lv_lload_n hx hb dJ13_bitCount_95d88_24 rfl (lv_at hl 0 rfl) ?_
  refine lv_lload_n hx hb dJ13_bitCount_95d88_25 rfl (lv_at hl 0 rfl) ?_
  refine lv_iconst (v := 4) hx hb dJ13_bitCount_95d88_26 (by decide) ?_
  refine lv_lushr hx hb dJ13_bitCount_95d88_27 rfl ?_
  refine lv_ladd hx hb dJ13_bitCount_95d88_28 ?_
  refine lv_ldc2 hx hb E.1.2.2.2.1 (E.1.2.2.2.2 _ bc_318) dJ13_bitCount_95d88_29 ?_
  refine lv_land hx hb dJ13_bitCount_95d88_32 ?_
  refine lv_lstore_n (lv' := [(0, .long (bt3 (bt2 (bt1 x))))]) hx hb dJ13_bitCount_95d88_33 rfl hl (by decide) rfl (fun ls hl => ?_)
  refine lv_lload_n hx hb dJ13_bitCount_95d88_34 rfl (lv_at hl 0 rfl) ?_
  refine lv_lload_n hx hb dJ13_bitCount_95d88_35 rfl (lv_at hl 0 rfl) ?_
  refine lv_bipush (v := 8) hx hb dJ13_bitCount_95d88_36 (by decide) ?_
  refine lv_lushr hx hb dJ13_bitCount_95d88_38 rfl ?_
  refine lv_ladd hx hb dJ13_bitCount_95d88_39 ?_
  refine lv_lstore_n (lv' := [(0, .long (bt4 (bt3 (bt2 (bt1 x))) 8))]) hx hb dJ13_bitCount_95d88_40 rfl hl (by decide) rfl (fun ls hl => ?_)
  refine lv_lload_n hx hb dJ13_bitCount_95d88_41 rfl (lv_at hl 0 rfl) ?_
  refine lv_lload_n hx hb dJ13_bitCount_95d88_42 rfl (lv_at hl 0 rfl) ?_
  refine lv_bipush (v := 16) hx hb dJ13_bitCount_95d88_43 (by decide) ?_
  refine lv_lushr hx hb dJ13_bitCount_95d88_45 rfl ?_
  refine lv_ladd hx hb dJ13_bitCount_95d88_46 ?_
  refine lv_lstore_n (lv' := [(0, .long (bt4 (bt4 (bt3 (bt2 (bt1 x))) 8) 16))]) hx hb dJ13_bitCount_95d88_47 rfl hl (by decide) rfl (fun ls hl => ?_)
  refine lv_lload_n hx hb dJ13_bitCount_95d88_48 rfl (lv_at hl 0 rfl) ?_
  refine lv_lload_n hx hb dJ13_bitCount_95d88_49 rfl (lv_at hl 0 rfl) ?_
  refine lv_bipush (v := 32) hx hb dJ13_bitCount_95d88_50 (by decide) ?_
  refine lv_lushr hx hb dJ13_bitCount_95d88_52 rfl ?_
  refine lv_ladd hx hb dJ13_bitCount_95d88_53 ?_
  refine lv_lstore_n (lv' := [(0, .long (bt4 (bt4 (bt4 (bt3 (bt2 (bt1 x))) 8) 16) 32))]) hx hb dJ13_bitCount_95d88_54 rfl hl (by decide) rfl (fun ls hl => ?_)
  refine lv_lload_n hx hb dJ13_bitCount_95d88_55 rfl (lv_at hl 0 rfl) ?_
  refine lv_l2i hx hb dJ13_bitCount_95d88_56 rfl ?_
  refine lv_bipush (v := 127) hx hb dJ13_bitCount_95d88_57 (by decide) ?_
  refine lv_iand hx hb dJ13_bitCount_95d88_59 ?_
  exact end_i (r := bct x) E hr hlocks hP hD hS dJ13_bitCount_95d88_60
set_option maxHeartbeats 4000000 in
set_option maxRecDepth 100000 in
theorem bitc {x : Int64} (E : Env1 p s m args c cc nL own D (tyL cI cJ cZ)) (hA : ∀ q : Nat, s.heap.size ≤ q → A q) (hP : va_P D vwCl (wX h cI cJ cZ st) H) (hD : va_D A (wX h cI cJ cZ st)) (hS : va_S A s.heap H locs) (hls : ls.size = nL) (hm : Cond.methodLink own idx yJ13_bitCount_95d88 ∈ TB) (hW : (rest.map fun v => v.category).sum ≤ 8) (hR : 1 ≤ R.frames ∧ 8 + (2 + 11) + 0 ≤ R.locals) (hdg : decode cc pc = .ok (.invokestatic idx, 3))
    (kk : ∀ (H1 : Heap) (locs1 : List Loc), va_P D vwCl (wX h cI cJ cZ st) H1 → va_D A (wX h cI cJ cZ st) → va_S A s.heap H1 locs1 → W p l e R s m args below meth c H1 locs1 0 0 Q (F0 m (pc + 3) ls (.int (bct x) :: rest))) :
    W p l e R s m args below meth c H locs 0 0 Q (F0 m pc ls (.long x :: rest)) := by
  have hPc : va_P D vwCl [] H := hP.sub [] rfl
  have hDc : va_D A [] := hD.sub [] (by decide) rfl
  have hFc := va_free (wc := []) hD hS hA [] rfl
  refine va_calli (va_runS (As := [.long x]) (rest := rest) E.1 (kbitc l D cI cJ cZ x st H.size) ⟨callB_of 1 E.1.2.2.2.2 (tb_code bc_co) rfl rfl rfl (E.1.2.2.2.2 _ bc_in) (E.1.2.2.2.2 _ hm) (by decide +kernel) hR, E.1.2.2.2.2 _ bc_st⟩ ⟨cp_blind, fun U hU hW => ⟨rfl, by rw [hU], by rw [hU]; exact hPc, va_K.moved hW.alike E.2, hDc.weaken (fun _ _ _ _ => trivial)⟩⟩ rfl rfl hls rfl (lv_room hW) hdg ⟨Nat.zero_le _, Nat.zero_le _⟩) hS (fun q _ h => hFc q h) hFc (fun r1 u1 t H1 locs1 ht hvm hw hB hz1 hk1 hS1 => ?_)
  obtain ⟨rfl, rfl⟩ := hw
  obtain ⟨hP1, hK1, hD1⟩ := hB
  rw [ht] at hP1
  obtain ⟨hP2, hD2⟩ := va_join (wc := []) (w1 := []) (wr := wX h cI cJ cZ u1) hP hD [] [0, 1, 2, 3, 4, 5, 6, 7, 8, 9, 10, 11, 12, 13] rfl rfl (by decide) (by decide) hk1 hFc hP1 hD1
  exact kk H1 locs1 (hP2.sub [0, 1, 2, 3, 4, 5, 6, 7, 8, 9, 10, 11, 12, 13] rfl) (hD2.sub [0, 1, 2, 3, 4, 5, 6, 7, 8, 9, 10, 11, 12, 13] (by decide) rfl) hS1
end JRows
