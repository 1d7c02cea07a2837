/-! the law itself: the class's cells, 'out', the model's -/
abbrev SL : Type := St × St × (Nat → Int64)
def wLw (h : Nat → Nat) (cI cJ cZ : ClassId) (q : SL) : va_W := (wX h cI cJ cZ q.1 ++ [(h 31, .inl (cJ, 1, .inr (.inl q.2.2)))]) ++ wM h cI cJ cZ q.2.1
section RowsL
variable {p : Program} {l : Launch} {e : Env} {R : Room} {s : State} {m : MethodId} {args : Array Value} {below : List Frame} {meth : Method} {c : Code} {H : Heap} {locs : List Loc} {pc nL cells slots : Nat} {ls : Array Slot} {cc : ByteArray} {D : va_G} {h : Nat → Nat} {cI cJ cZ : ClassId} {sx sm ux : St} {oc oc1 : Nat → Int64} {v r : Int32} {A : Nat → Prop} {rest : List Value} {Q : State → Prop}
variable {idx n' f' k' na : Nat} {y : MethodName} {cc' : ByteArray} {ret : Option FieldType} {As st0 : List Value} {hh : List (Nat × Nat × Nat × Nat)}
set_option maxHeartbeats 4000000 in
set_option maxRecDepth 100000 in
theorem lwX_i (E : Env1 p s m args c cc nL RL D (tyL cI cJ cZ)) (hA : ∀ q : Nat, s.heap.size ≤ q → A q) (hP : va_P D vwCl (wLw h cI cJ cZ (sx, sm, oc)) H) (hD : va_D A (wLw h cI cJ cZ (sx, sm, oc))) (hS : va_S A s.heap H locs) (hls : ls.size = nL) (hM : Ci l y cc' n' ret f' k' D (tyL cI cJ cZ) (wX h cI cJ cZ) sx (.ref (h 0) :: As) r ux) (cw : cwd RL idx RX2 y cc' n' ret na) (hn : As.length = na) (hst : st0 = As.reverse ++ .ref (h 0) :: rest) (hW : (rest.map fun v => v.category).sum ≤ 8) (hR : f' + 1 ≤ R.frames ∧ 8 + (n' + 11) + k' ≤ R.locals) (hcs : cells ≤ R.cells ∧ slots ≤ R.slots) (hdg : decode cc pc = .ok (.invokevirtual idx, 3))
    (kk : ∀ (H1 : Heap) (locs1 : List Loc), va_P D vwCl (wLw h cI cJ cZ (ux, sm, oc)) H1 → va_D A (wLw h cI cJ cZ (ux, sm, oc)) → va_S A s.heap H1 locs1 → W p l e R s m args below meth c H1 locs1 cells slots Q (F0 m (pc + 3) ls (.int r :: rest))) :
    W p l e R s m args below meth c H locs cells slots Q (F0 m pc ls st0) := by
  have hPc : va_P D vwCl (wX h cI cJ cZ sx) H := hP.sub [0, 1, 2, 3, 4, 5, 6, 7, 8, 9, 10, 11, 12, 13] rfl
  have hDc : va_D A (wX h cI cJ cZ sx) := hD.sub [0, 1, 2, 3, 4, 5, 6, 7, 8, 9, 10, 11, 12, 13] (by decide) rfl
  have hFc := va_free (wc := wX h cI cJ cZ sx) hD hS hA [0, 1, 2, 3, 4, 5, 6, 7, 8, 9, 10, 11, 12, 13] rfl
  refine va_calli (va_runV (As := As) (rest := rest) E.1 (hM H.size) (cwV na E.1.2.2.2.2 cw.1 rfl rfl rfl cw.2 hR) ⟨cp_blind, va_recv E.2 hPc (ci := 2) (q0 := 0) rfl rfl, fun U hU hW => ⟨rfl, by rw [hU], by rw [hU]; exact hPc, va_K.moved hW.alike E.2, hDc.weaken (fun _ _ _ _ => trivial)⟩⟩ rfl hn hls hst (lv_room hW) hdg hcs) hS (fun q _ h => hFc q h) hFc (fun r1 u1 t H1 locs1 ht hvm hw hB hz1 hk1 hS1 => ?_)
  obtain ⟨rfl, rfl⟩ := hw
  obtain ⟨hP1, hK1, hD1⟩ := hB
  rw [ht] at hP1
  obtain ⟨hP2, hD2⟩ := va_join (wc := wX h cI cJ cZ sx) (wr := [(h 31, .inl (cJ, 1, .inr (.inl oc)))] ++ wM h cI cJ cZ sm) (w1 := wX h cI cJ cZ u1) hP hD [0, 1, 2, 3, 4, 5, 6, 7, 8, 9, 10, 11, 12, 13] [14, 15, 16, 17, 18, 19, 20, 21, 22, 23, 24, 25, 26, 27, 28, 29, 30, 31] rfl rfl (by decide) (by decide) hk1 hFc hP1 hD1
  exact kk H1 locs1 (hP2.sub [18, 19, 20, 21, 22, 23, 24, 25, 26, 27, 28, 29, 30, 31, 0, 1, 2, 3, 4, 5, 6, 7, 8, 9, 10, 11, 12, 13, 14, 15, 16, 17] rfl) (hD2.sub [18, 19, 20, 21, 22, 23, 24, 25, 26, 27, 28, 29, 30, 31, 0, 1, 2, 3, 4, 5, 6, 7, 8, 9, 10, 11, 12, 13, 14, 15, 16, 17] (by decide) rfl) hS1
set_option maxHeartbeats 4000000 in
set_option maxRecDepth 100000 in
theorem lwM_i (E : Env1 p s m args c cc nL RL D (tyL cI cJ cZ)) (hA : ∀ q : Nat, s.heap.size ≤ q → A q) (hP : va_P D vwCl (wLw h cI cJ cZ (sx, sm, oc)) H) (hD : va_D A (wLw h cI cJ cZ (sx, sm, oc))) (hS : va_S A s.heap H locs) (hls : ls.size = nL) (hM : Ci l y cc' n' ret f' k' D (tyL cI cJ cZ) (wM h cI cJ cZ) sm (.ref (h 14) :: As) r ux) (cw : cwd RL idx RX3 y cc' n' ret na) (hn : As.length = na) (hst : st0 = As.reverse ++ .ref (h 14) :: rest) (hW : (rest.map fun v => v.category).sum ≤ 8) (hR : f' + 1 ≤ R.frames ∧ 8 + (n' + 11) + k' ≤ R.locals) (hcs : cells ≤ R.cells ∧ slots ≤ R.slots) (hdg : decode cc pc = .ok (.invokevirtual idx, 3))
    (kk : ∀ (H1 : Heap) (locs1 : List Loc), va_P D vwCl (wLw h cI cJ cZ (sx, ux, oc)) H1 → va_D A (wLw h cI cJ cZ (sx, ux, oc)) → va_S A s.heap H1 locs1 → W p l e R s m args below meth c H1 locs1 cells slots Q (F0 m (pc + 3) ls (.int r :: rest))) :
    W p l e R s m args below meth c H locs cells slots Q (F0 m pc ls st0) := by
  have hPc : va_P D vwCl (wM h cI cJ cZ sm) H := hP.sub [15, 16, 17, 18, 19, 20, 21, 22, 23, 24, 25, 26, 27, 28, 29, 30, 31] rfl
  have hDc : va_D A (wM h cI cJ cZ sm) := hD.sub [15, 16, 17, 18, 19, 20, 21, 22, 23, 24, 25, 26, 27, 28, 29, 30, 31] (by decide) rfl
  have hFc := va_free (wc := wM h cI cJ cZ sm) hD hS hA [15, 16, 17, 18, 19, 20, 21, 22, 23, 24, 25, 26, 27, 28, 29, 30, 31] rfl
  refine va_calli (va_runV (As := As) (rest := rest) E.1 (hM H.size) (cwV na E.1.2.2.2.2 cw.1 rfl rfl rfl cw.2 hR) ⟨cp_blind, va_recv E.2 hPc (ci := 3) (q0 := 0) rfl rfl, fun U hU hW => ⟨rfl, by rw [hU], by rw [hU]; exact hPc, va_K.moved hW.alike E.2, hDc.weaken (fun _ _ _ _ => trivial)⟩⟩ rfl hn hls hst (lv_room hW) hdg hcs) hS (fun q _ h => hFc q h) hFc (fun r1 u1 t H1 locs1 ht hvm hw hB hz1 hk1 hS1 => ?_)
  obtain ⟨rfl, rfl⟩ := hw
  obtain ⟨hP1, hK1, hD1⟩ := hB
  rw [ht] at hP1
  obtain ⟨hP2, hD2⟩ := va_join (wc := wM h cI cJ cZ sm) (wr := wX h cI cJ cZ sx ++ [(h 31, .inl (cJ, 1, .inr (.inl oc)))]) (w1 := wM h cI cJ cZ u1) hP hD [15, 16, 17, 18, 19, 20, 21, 22, 23, 24, 25, 26, 27, 28, 29, 30, 31] [0, 1, 2, 3, 4, 5, 6, 7, 8, 9, 10, 11, 12, 13, 14] rfl rfl (by decide) (by decide) hk1 hFc hP1 hD1
  exact kk H1 locs1 (hP2.sub [0, 1, 2, 3, 4, 5, 6, 7, 8, 9, 10, 11, 12, 13, 14, 15, 16, 17, 18, 19, 20, 21, 22, 23, 24, 25, 26, 27, 28, 29, 30, 31] rfl) (hD2.sub [0, 1, 2, 3, 4, 5, 6, 7, 8, 9, 10, 11, 12, 13, 14, 15, 16, 17, 18, 19, 20, 21, 22, 23, 24, 25, 26, 27, 28, 29, 30, 31] (by decide) rfl) hS1
set_option maxHeartbeats 4000000 in
set_option maxRecDepth 100000 in
theorem lwM_v (E : Env1 p s m args c cc nL RL D (tyL cI cJ cZ)) (hA : ∀ q : Nat, s.heap.size ≤ q → A q) (hP : va_P D vwCl (wLw h cI cJ cZ (sx, sm, oc)) H) (hD : va_D A (wLw h cI cJ cZ (sx, sm, oc))) (hS : va_S A s.heap H locs) (hls : ls.size = nL) (hM : Cv l y cc' n' f' k' D (tyL cI cJ cZ) (wM h cI cJ cZ) sm (.ref (h 14) :: As) ux) (cw : cwd RL idx RX3 y cc' n' none na) (hn : As.length = na) (hst : st0 = As.reverse ++ .ref (h 14) :: rest) (hW : (rest.map fun v => v.category).sum ≤ 8) (hR : f' + 1 ≤ R.frames ∧ 8 + (n' + 11) + k' ≤ R.locals) (hcs : cells ≤ R.cells ∧ slots ≤ R.slots) (hdg : decode cc pc = .ok (.invokevirtual idx, 3))
    (kk : ∀ (H1 : Heap) (locs1 : List Loc), va_P D vwCl (wLw h cI cJ cZ (sx, ux, oc)) H1 → va_D A (wLw h cI cJ cZ (sx, ux, oc)) → va_S A s.heap H1 locs1 → W p l e R s m args below meth c H1 locs1 cells slots Q (F0 m (pc + 3) ls rest)) :
    W p l e R s m args below meth c H locs cells slots Q (F0 m pc ls st0) := by
  have hPc : va_P D vwCl (wM h cI cJ cZ sm) H := hP.sub [15, 16, 17, 18, 19, 20, 21, 22, 23, 24, 25, 26, 27, 28, 29, 30, 31] rfl
  have hDc : va_D A (wM h cI cJ cZ sm) := hD.sub [15, 16, 17, 18, 19, 20, 21, 22, 23, 24, 25, 26, 27, 28, 29, 30, 31] (by decide) rfl
  have hFc := va_free (wc := wM h cI cJ cZ sm) hD hS hA [15, 16, 17, 18, 19, 20, 21, 22, 23, 24, 25, 26, 27, 28, 29, 30, 31] rfl
  refine va_callv (va_runV (As := As) (rest := rest) E.1 (hM H.size) (cwV na E.1.2.2.2.2 cw.1 rfl rfl rfl cw.2 hR) ⟨cp_blind, va_recv E.2 hPc (ci := 3) (q0 := 0) rfl rfl, fun U hU hW => ⟨rfl, by rw [hU], by rw [hU]; exact hPc, va_K.moved hW.alike E.2, hDc.weaken (fun _ _ _ _ => trivial)⟩⟩ rfl hn hls hst (lv_room hW) hdg hcs) hS (fun q _ h => hFc q h) hFc (fun u1 t H1 locs1 ht hvm hw hB hz1 hk1 hS1 => ?_)
  subst hw
  obtain ⟨hP1, hK1, hD1⟩ := hB
  rw [ht] at hP1
  obtain ⟨hP2, hD2⟩ := va_join (wc := wM h cI cJ cZ sm) (wr := wX h cI cJ cZ sx ++ [(h 31, .inl (cJ, 1, .inr (.inl oc)))]) (w1 := wM h cI cJ cZ u1) hP hD [15, 16, 17, 18, 19, 20, 21, 22, 23, 24, 25, 26, 27, 28, 29, 30, 31] [0, 1, 2, 3, 4, 5, 6, 7, 8, 9, 10, 11, 12, 13, 14] rfl rfl (by decide) (by decide) hk1 hFc hP1 hD1
  exact kk H1 locs1 (hP2.sub [0, 1, 2, 3, 4, 5, 6, 7, 8, 9, 10, 11, 12, 13, 14, 15, 16, 17, 18, 19, 20, 21, 22, 23, 24, 25, 26, 27, 28, 29, 30, 31] rfl) (hD2.sub [0, 1, 2, 3, 4, 5, 6, 7, 8, 9, 10, 11, 12, 13, 14, 15, 16, 17, 18, 19, 20, 21, 22, 23, 24, 25, 26, 27, 28, 29, 30, 31] (by decide) rfl) hS1
/-- how the law names a wrapper -/
def cww (own : String) (idx : Nat) (y : MethodName) (cc' : ByteArray) (n' : Nat) (hh : List (Nat × Nat × Nat × Nat)) (na : Nat) : Prop :=
  GoodIn TB (va_wsS own idx y (Cond.codeWith y cc' n' (some .int) hh :: TB)) ∧ (y.cls ≠ "java/lang/invoke/MethodHandle" ∧ y.cls ≠ "java/lang/invoke/VarHandle" ∧ (parseMethodDescriptor y.desc).map (fun d => d.parameters.length) = some na)
theorem tb_W {own : String} {idx n : Nat} {y : MethodName} {cc : ByteArray} {hh : List (Nat × Nat × Nat × Nat)} (h1 : Cond.methodLink own idx y ∈ TB) (h2 : Cond.static y ∈ TB) (h4 : Cond.initialized y.cls ∈ TB) (h5 : Cond.codeWith y cc n (some .int) hh ∈ TB) : GoodIn TB (va_wsS own idx y (Cond.codeWith y cc n (some .int) hh :: TB)) := fun w hw => by
  rcases List.mem_append.mp hw with h | h
  · rcases List.mem_cons.mp h with e | h
    · rw [e]; exact tb_gd h1
    · rcases List.mem_cons.mp h with e | h
      · rw [e]; exact tb_gd h2
      · rcases List.mem_cons.mp h with e | h
        · rw [e]; exact tb_gd h4
        · cases h
  · rcases List.mem_cons.mp h with e | h
    · rw [e]; exact tb_gd h5
    · exact tb_gd h
theorem cw_X {l : Launch} {f k : Nat} {D : va_G} {tys : List (ClassId × FieldType)} {w : SO → va_W} {st u : SO} {av : List Value} (hM : Cw l y cc' n' hh f k D tys w st av r u) (sz : Nat) : vx_Met l y (Cond.codeWith y cc' n' (some .int) hh :: TB) (rmx f k) (GP D tys (w st) sz av) (GQ D tys w (va_A (w st) sz) r u) (vx_X (fun _ : Unit => False) (fun _ _ _ => False) (fun _ => False)) 1 6 (va_A (w st) sz) := by
  intro p e ha hc hk s m args below hf hap hP hT
  obtain ⟨t, o, h1, h2, h3, hQ⟩ := hM sz p e ha hc hk s m args below hf hap hP hT
  refine ⟨t, o, h1, h2, h3, ?_⟩
  rcases hQ with hQ | ⟨q, ho, E0, ce, L0, hx, _⟩
  · exact Or.inl hQ
  · exact hx.elim
set_option maxHeartbeats 4000000 in
set_option maxRecDepth 100000 in
theorem lwW (E : Env1 p s m args c cc nL RL D (tyL cI cJ cZ)) (hA : ∀ q : Nat, s.heap.size ≤ q → A q) (hP : va_P D vwCl (wLw h cI cJ cZ (sx, sm, oc)) H) (hD : va_D A (wLw h cI cJ cZ (sx, sm, oc))) (hS : va_S A s.heap H locs) (hls : ls.size = nL) (hG : XG A s s.heap) (hX : XS s) (hN : XN s) (hM : Cw l y cc' n' hh f' k' D (tyL cI cJ cZ) (wO h cI cJ cZ) (sx, oc) As r (ux, oc1)) (cw : cww RL idx y cc' n' hh na) (hn : As.length = na) (hst : st0 = As.reverse ++ rest) (hW : (rest.map fun v => v.category).sum ≤ 8) (hR : f' + 1 ≤ R.frames ∧ 8 + (n' + 11) + k' ≤ R.locals) (hcs : cells + 1 ≤ R.cells ∧ slots + 6 ≤ R.slots) (hdg : decode cc pc = .ok (.invokestatic idx, 3))
    (kk : ∀ (H1 : Heap) (locs1 : List Loc), va_P D vwCl (wLw h cI cJ cZ (ux, sm, oc1)) H1 → va_D A (wLw h cI cJ cZ (ux, sm, oc1)) → va_S A s.heap H1 locs1 → W p l e R s m args below meth c H1 locs1 (cells + 1) (slots + 6) Q (F0 m (pc + 3) ls (.int r :: rest))) :
    W p l e R s m args below meth c H locs cells slots Q (F0 m pc ls st0) := by
  have hPc : va_P D vwCl (wO h cI cJ cZ (sx, oc)) H := hP.sub [0, 1, 2, 3, 4, 5, 6, 7, 8, 9, 10, 11, 12, 13, 14] rfl
  have hDc : va_D A (wO h cI cJ cZ (sx, oc)) := hD.sub [0, 1, 2, 3, 4, 5, 6, 7, 8, 9, 10, 11, 12, 13, 14] (by decide) rfl
  have hFc := va_free (wc := wO h cI cJ cZ (sx, oc)) hD hS hA [0, 1, 2, 3, 4, 5, 6, 7, 8, 9, 10, 11, 12, 13, 14] rfl
  refine vx_calli (vx_runSX (As := As) (rest := rest) E.1 (cw_X hM H.size) (vx_cwSW na E.1.2.2.2.2 cw.1 rfl rfl rfl cw.2 hR) ⟨gp_blind, fun U hU hW => ⟨rfl, by rw [hU], by rw [hU]; exact hPc, va_K.moved hW.alike E.2, hDc.weaken (fun _ _ _ _ => trivial), by rw [hU]; exact ((hG.kept hS.2.1).narrow hFc).moved hW.alike, hX.warm hW, hN.moved hW.alike⟩⟩ rfl hn hls hst (lv_room hW) hdg hcs) hS (fun q _ h => hFc q h) hFc (fun q _ h => h.elim) (fun E0 ce q9 u' t1 H1 locs1 ht hvm hpx hB hz hk1 hS1 hcell hv hcl => hpx.elim) (fun r1 u1 t H1 locs1 ht hvm hw hB hz1 hk1 hS1 => ?_)
  obtain ⟨rfl, rfl⟩ := hw
  obtain ⟨hP1, hK1, hD1⟩ := hB
  rw [ht] at hP1
  obtain ⟨hP2, hD2⟩ := va_join (wc := wO h cI cJ cZ (sx, oc)) (wr := wM h cI cJ cZ sm) (w1 := wO h cI cJ cZ (ux, oc1)) hP hD [0, 1, 2, 3, 4, 5, 6, 7, 8, 9, 10, 11, 12, 13, 14] [15, 16, 17, 18, 19, 20, 21, 22, 23, 24, 25, 26, 27, 28, 29, 30, 31] rfl rfl (by decide) (by decide) hk1 hFc hP1 hD1
  exact kk H1 locs1 (hP2.sub [17, 18, 19, 20, 21, 22, 23, 24, 25, 26, 27, 28, 29, 30, 31, 0, 1, 2, 3, 4, 5, 6, 7, 8, 9, 10, 11, 12, 13, 14, 15, 16] rfl) (hD2.sub [17, 18, 19, 20, 21, 22, 23, 24, 25, 26, 27, 28, 29, 30, 31, 0, 1, 2, 3, 4, 5, 6, 7, 8, 9, 10, 11, 12, 13, 14, 15, 16] (by decide) rfl) hS1
theorem la_31 {i : Int32} (E : Env1 p s m args c cc nL RL D (tyL cI cJ cZ)) (hP : va_P D vwCl (wLw h cI cJ cZ (sx, sm, oc)) H) (hi : vp_in i 1) (hdg : decode cc pc = .ok (.laload, 1)) (kk : W p l e R s m args below meth c H locs cells slots Q (F0 m (pc + 1) ls (.long (oc i.toNatClampNeg) :: rest))) : W p l e R s m args below meth c H locs cells slots Q (F0 m pc ls (.int i :: .ref (h 31) :: rest)) :=
  va_lald (D := D) E.1.1 E.1.2.1 E.2 hP 14 1 rfl rfl hi hdg kk
theorem lsd {b L : Nat} {xs : Nat → Int32} (j : Nat) (E : Env1 p s m args c cc nL RL D (tyL cI cJ cZ)) (hSc : va_X b L xs s s.heap) (hbl : b < s.heap.size) (hbA : ¬ A b) (hS : va_S A s.heap H locs) (hv : v = nI j) (hj : j < L) (hL : L ≤ 2048) (hdg : decode cc pc = .ok (.iaload, 1)) (kk : W p l e R s m args below meth c H locs cells slots Q (F0 m (pc + 1) ls (.int (xs j) :: rest))) : W p l e R s m args below meth c H locs cells slots Q (F0 m pc ls (.int v :: .ref b :: rest)) := by
  subst hv
  refine va_sld E.1.1 E.1.2.1 hSc hbl hbA hS (vp_in_nI hj (by omega)) hdg ?_
  rw [nI_clamp (by omega)]
  exact kk
end RowsL
theorem cw_L_53 : cww RL 53 yL_format cL_format 4 [(0, 6, 9, 13)] 3 := ⟨tb_W (tb_in 462 (by decide +kernel) (by decide +kernel)) (tb_in 463 (by decide +kernel) (by decide +kernel)) (tb_in 45 (by decide +kernel) (by decide +kernel)) (tb_in 464 (by decide +kernel) (by decide +kernel)), by decide +kernel⟩
theorem cw_L_63 : cww RL 63 yL_make cL_make 6 [(0, 19, 22, 13)] 5 := ⟨tb_W (tb_in 539 (by decide +kernel) (by decide +kernel)) (tb_in 540 (by decide +kernel) (by decide +kernel)) (tb_in 45 (by decide +kernel) (by decide +kernel)) (tb_in 541 (by decide +kernel) (by decide +kernel)), by decide +kernel⟩
theorem cw_L_67 : cww RL 67 yL_copy cL_copy 4 [(0, 6, 9, 13)] 3 := ⟨tb_W (tb_in 586 (by decide +kernel) (by decide +kernel)) (tb_in 587 (by decide +kernel) (by decide +kernel)) (tb_in 45 (by decide +kernel) (by decide +kernel)) (tb_in 588 (by decide +kernel) (by decide +kernel)), by decide +kernel⟩
theorem cw_L_70 : cww RL 70 yL_drop cL_drop 3 [(0, 5, 8, 13)] 2 := ⟨tb_W (tb_in 593 (by decide +kernel) (by decide +kernel)) (tb_in 594 (by decide +kernel) (by decide +kernel)) (tb_in 45 (by decide +kernel) (by decide +kernel)) (tb_in 595 (by decide +kernel) (by decide +kernel)), by decide +kernel⟩
theorem cw_L_74 : cww RL 74 yL_link cL_link 5 [(0, 7, 10, 13), (0, 7, 14, 30), (0, 7, 18, 32)] 4 := ⟨tb_W (tb_in 600 (by decide +kernel) (by decide +kernel)) (tb_in 601 (by decide +kernel) (by decide +kernel)) (tb_in 45 (by decide +kernel) (by decide +kernel)) (tb_in 602 (by decide +kernel) (by decide +kernel)), by decide +kernel⟩
theorem cw_L_78 : cww RL 78 yL_follow cL_follow 6 [(0, 12, 15, 13), (0, 12, 19, 30), (0, 12, 23, 32)] 5 := ⟨tb_W (tb_in 650 (by decide +kernel) (by decide +kernel)) (tb_in 651 (by decide +kernel) (by decide +kernel)) (tb_in 45 (by decide +kernel) (by decide +kernel)) (tb_in 652 (by decide +kernel) (by decide +kernel)), by decide +kernel⟩
theorem cw_L_81 : cww RL 81 yL_set cL_set 6 [(0, 12, 15, 13), (0, 12, 19, 30), (0, 12, 23, 32)] 5 := ⟨tb_W (tb_in 658 (by decide +kernel) (by decide +kernel)) (tb_in 659 (by decide +kernel) (by decide +kernel)) (tb_in 45 (by decide +kernel) (by decide +kernel)) (tb_in 660 (by decide +kernel) (by decide +kernel)), by decide +kernel⟩
theorem cw_L_84 : cww RL 84 yL_loose cL_loose 5 [(0, 10, 13, 13)] 4 := ⟨tb_W (tb_in 670 (by decide +kernel) (by decide +kernel)) (tb_in 671 (by decide +kernel) (by decide +kernel)) (tb_in 45 (by decide +kernel) (by decide +kernel)) (tb_in 672 (by decide +kernel) (by decide +kernel)), by decide +kernel⟩
theorem cw_L_88 : cww RL 88 yL_take cL_take 5 [(0, 17, 20, 13)] 4 := ⟨tb_W (tb_in 677 (by decide +kernel) (by decide +kernel)) (tb_in 678 (by decide +kernel) (by decide +kernel)) (tb_in 45 (by decide +kernel) (by decide +kernel)) (tb_in 679 (by decide +kernel) (by decide +kernel)), by decide +kernel⟩
theorem cw_L_58 : cwd RL 58 RX3 yX3_format cX3_format 3 none 2 := ⟨tb_V (tb_in 780 (by decide +kernel) (by decide +kernel)) (tb_in 781 (by decide +kernel) (by decide +kernel)) (tb_in 782 (by decide +kernel) (by decide +kernel)) (tb_in 50 (by decide +kernel) (by decide +kernel)) (tb_in 783 (by decide +kernel) (by decide +kernel)), by decide +kernel⟩
theorem cw_L_59 : cwd RL 59 RX3 yX3_thrown cX3_thrown 1 (some .int) 0 := ⟨tb_V (tb_in 684 (by decide +kernel) (by decide +kernel)) (tb_in 685 (by decide +kernel) (by decide +kernel)) (tb_in 686 (by decide +kernel) (by decide +kernel)) (tb_in 50 (by decide +kernel) (by decide +kernel)) (tb_in 687 (by decide +kernel) (by decide +kernel)), by decide +kernel⟩
theorem cw_L_66 : cwd RL 66 RX3 yX3_make cX3_make 7 (some .boolean) 3 := ⟨tb_V (tb_in 784 (by decide +kernel) (by decide +kernel)) (tb_in 785 (by decide +kernel) (by decide +kernel)) (tb_in 786 (by decide +kernel) (by decide +kernel)) (tb_in 50 (by decide +kernel) (by decide +kernel)) (tb_in 787 (by decide +kernel) (by decide +kernel)), by decide +kernel⟩
theorem cw_L_69 : cwd RL 69 RX3 yX3_copy cX3_copy 3 none 2 := ⟨tb_V (tb_in 844 (by decide +kernel) (by decide +kernel)) (tb_in 845 (by decide +kernel) (by decide +kernel)) (tb_in 846 (by decide +kernel) (by decide +kernel)) (tb_in 50 (by decide +kernel) (by decide +kernel)) (tb_in 847 (by decide +kernel) (by decide +kernel)), by decide +kernel⟩
theorem cw_L_73 : cwd RL 73 RX3 yX3_drop cX3_drop 2 none 1 := ⟨tb_V (tb_in 848 (by decide +kernel) (by decide +kernel)) (tb_in 849 (by decide +kernel) (by decide +kernel)) (tb_in 850 (by decide +kernel) (by decide +kernel)) (tb_in 50 (by decide +kernel) (by decide +kernel)) (tb_in 851 (by decide +kernel) (by decide +kernel)), by decide +kernel⟩
theorem cw_L_77 : cwd RL 77 RX3 yX3_link cX3_link 4 none 3 := ⟨tb_V (tb_in 852 (by decide +kernel) (by decide +kernel)) (tb_in 853 (by decide +kernel) (by decide +kernel)) (tb_in 854 (by decide +kernel) (by decide +kernel)) (tb_in 50 (by decide +kernel) (by decide +kernel)) (tb_in 855 (by decide +kernel) (by decide +kernel)), by decide +kernel⟩
theorem cw_L_80 : cwd RL 80 RX3 yX3_follow cX3_follow 4 (some .int) 3 := ⟨tb_V (tb_in 860 (by decide +kernel) (by decide +kernel)) (tb_in 861 (by decide +kernel) (by decide +kernel)) (tb_in 862 (by decide +kernel) (by decide +kernel)) (tb_in 50 (by decide +kernel) (by decide +kernel)) (tb_in 863 (by decide +kernel) (by decide +kernel)), by decide +kernel⟩
theorem cw_L_83 : cwd RL 83 RX3 yX3_set cX3_set 6 (some .int) 3 := ⟨tb_V (tb_in 868 (by decide +kernel) (by decide +kernel)) (tb_in 869 (by decide +kernel) (by decide +kernel)) (tb_in 870 (by decide +kernel) (by decide +kernel)) (tb_in 50 (by decide +kernel) (by decide +kernel)) (tb_in 871 (by decide +kernel) (by decide +kernel)), by decide +kernel⟩
theorem cw_L_87 : cwd RL 87 RX3 yX3_loose cX3_loose 4 (some .int) 2 := ⟨tb_V (tb_in 876 (by decide +kernel) (by decide +kernel)) (tb_in 877 (by decide +kernel) (by decide +kernel)) (tb_in 878 (by decide +kernel) (by decide +kernel)) (tb_in 50 (by decide +kernel) (by decide +kernel)) (tb_in 879 (by decide +kernel) (by decide +kernel)), by decide +kernel⟩
theorem cw_L_90 : cwd RL 90 RX3 yX3_take cX3_take 4 (some .boolean) 2 := ⟨tb_V (tb_in 880 (by decide +kernel) (by decide +kernel)) (tb_in 881 (by decide +kernel) (by decide +kernel)) (tb_in 882 (by decide +kernel) (by decide +kernel)) (tb_in 50 (by decide +kernel) (by decide +kernel)) (tb_in 883 (by decide +kernel) (by decide +kernel)), by decide +kernel⟩
theorem cw_L_91 : cwd RL 91 RX2 yX2_collect cX2_collect 1 (some .int) 0 := ⟨tb_V (tb_in 193 (by decide +kernel) (by decide +kernel)) (tb_in 194 (by decide +kernel) (by decide +kernel)) (tb_in 195 (by decide +kernel) (by decide +kernel)) (tb_in 46 (by decide +kernel) (by decide +kernel)) (tb_in 196 (by decide +kernel) (by decide +kernel)), by decide +kernel⟩
theorem cw_L_94 : cwd RL 94 RX3 yX3_collect cX3_collect 1 (some .int) 0 := ⟨tb_V (tb_in 840 (by decide +kernel) (by decide +kernel)) (tb_in 841 (by decide +kernel) (by decide +kernel)) (tb_in 842 (by decide +kernel) (by decide +kernel)) (tb_in 50 (by decide +kernel) (by decide +kernel)) (tb_in 843 (by decide +kernel) (by decide +kernel)), by decide +kernel⟩
theorem cw_L_95 : cwd RL 95 RX2 yX2_root cX2_root 2 (some .int) 1 := ⟨tb_V (tb_in 361 (by decide +kernel) (by decide +kernel)) (tb_in 362 (by decide +kernel) (by decide +kernel)) (tb_in 363 (by decide +kernel) (by decide +kernel)) (tb_in 46 (by decide +kernel) (by decide +kernel)) (tb_in 364 (by decide +kernel) (by decide +kernel)), by decide +kernel⟩
theorem cw_L_99 : cwd RL 99 RX3 yX3_root cX3_root 2 (some .int) 1 := ⟨tb_V (tb_in 884 (by decide +kernel) (by decide +kernel)) (tb_in 885 (by decide +kernel) (by decide +kernel)) (tb_in 886 (by decide +kernel) (by decide +kernel)) (tb_in 50 (by decide +kernel) (by decide +kernel)) (tb_in 887 (by decide +kernel) (by decide +kernel)), by decide +kernel⟩
theorem cw_L_100 : cwd RL 100 RX2 yX2_word cX2_word 2 (some .int) 1 := ⟨tb_V (tb_in 368 (by decide +kernel) (by decide +kernel)) (tb_in 369 (by decide +kernel) (by decide +kernel)) (tb_in 370 (by decide +kernel) (by decide +kernel)) (tb_in 46 (by decide +kernel) (by decide +kernel)) (tb_in 371 (by decide +kernel) (by decide +kernel)), by decide +kernel⟩
theorem cw_L_103 : cwd RL 103 RX3 yX3_word cX3_word 5 (some .int) 1 := ⟨tb_V (tb_in 888 (by decide +kernel) (by decide +kernel)) (tb_in 889 (by decide +kernel) (by decide +kernel)) (tb_in 890 (by decide +kernel) (by decide +kernel)) (tb_in 50 (by decide +kernel) (by decide +kernel)) (tb_in 891 (by decide +kernel) (by decide +kernel)), by decide +kernel⟩
theorem cw_L_104 : cwd RL 104 RX2 yX2_object cX2_object 3 (some .int) 2 := ⟨tb_V (tb_in 377 (by decide +kernel) (by decide +kernel)) (tb_in 378 (by decide +kernel) (by decide +kernel)) (tb_in 379 (by decide +kernel) (by decide +kernel)) (tb_in 46 (by decide +kernel) (by decide +kernel)) (tb_in 380 (by decide +kernel) (by decide +kernel)), by decide +kernel⟩
theorem cw_L_107 : cwd RL 107 RX3 yX3_object cX3_object 4 (some .int) 2 := ⟨tb_V (tb_in 892 (by decide +kernel) (by decide +kernel)) (tb_in 893 (by decide +kernel) (by decide +kernel)) (tb_in 894 (by decide +kernel) (by decide +kernel)) (tb_in 50 (by decide +kernel) (by decide +kernel)) (tb_in 895 (by decide +kernel) (by decide +kernel)), by decide +kernel⟩
theorem cw_L_108 : cwd RL 108 RX2 yX2_page cX2_page 3 (some .int) 2 := ⟨tb_V (tb_in 385 (by decide +kernel) (by decide +kernel)) (tb_in 386 (by decide +kernel) (by decide +kernel)) (tb_in 387 (by decide +kernel) (by decide +kernel)) (tb_in 46 (by decide +kernel) (by decide +kernel)) (tb_in 388 (by decide +kernel) (by decide +kernel)), by decide +kernel⟩
theorem cw_L_111 : cwd RL 111 RX3 yX3_page cX3_page 3 (some .int) 2 := ⟨tb_V (tb_in 896 (by decide +kernel) (by decide +kernel)) (tb_in 897 (by decide +kernel) (by decide +kernel)) (tb_in 898 (by decide +kernel) (by decide +kernel)) (tb_in 50 (by decide +kernel) (by decide +kernel)) (tb_in 899 (by decide +kernel) (by decide +kernel)), by decide +kernel⟩
theorem cw_L_112 : cwd RL 112 RX2 yX2_look cX2_look 2 (some .int) 1 := ⟨tb_V (tb_in 415 (by decide +kernel) (by decide +kernel)) (tb_in 416 (by decide +kernel) (by decide +kernel)) (tb_in 417 (by decide +kernel) (by decide +kernel)) (tb_in 46 (by decide +kernel) (by decide +kernel)) (tb_in 418 (by decide +kernel) (by decide +kernel)), by decide +kernel⟩
theorem cw_L_115 : cwd RL 115 RX3 yX3_look cX3_look 2 (some .int) 1 := ⟨tb_V (tb_in 904 (by decide +kernel) (by decide +kernel)) (tb_in 905 (by decide +kernel) (by decide +kernel)) (tb_in 906 (by decide +kernel) (by decide +kernel)) (tb_in 50 (by decide +kernel) (by decide +kernel)) (tb_in 907 (by decide +kernel) (by decide +kernel)), by decide +kernel⟩
def A_law_0 (n : Nat) (i : Nat) (xs : Nat → Int32) (sx sm : St) (oc : Nat → Int64) : Option SL := be (FL_format n (xs (i + 1)) (xs (i + 2)) sx oc) (fun (r1, u2, o4) => bd (FX3_format n (xs (i + 1)) (xs (i + 2)) sm) (fun r5 u6 => bd (FX3_thrown n  u6) (fun r8 u9 => (if r8 = r1 then some (u2, u9, o4) else none))))
set_option maxHeartbeats 4000000 in
set_option maxRecDepth 100000 in
theorem a_law_0 {l : Launch} {D : va_G} {h : Nat → Nat} {cI cJ cZ : ClassId} {p : Program} {e : Env} {s : State} {m : MethodId} {args : Array Value} {below : List Frame} {meth : Method} {c : Code} {A : Nat → Prop} {Q : State → Prop} {b L : Nat} {xs : Nat → Int32} (hst : l.stackTraces = false) (hL : L ≤ 2048) (E : Env1 p s m args c cL_law 7 RL D (tyL cI cJ cZ)) (hA : ∀ q : Nat, s.heap.size ≤ q → A q) (hG : XG A s s.heap) (hX : XS s) (hN : XN s) (hSc : va_X b L xs s s.heap) (hbl : b < s.heap.size) (hbA : ¬ A b) (n i cl sl : Nat) (hi : i + 4 ≤ L) (hcl : cl + 1 ≤ 1064) (hsl : sl + 6 ≤ 59830) (sx sm : St) (oc : Nat → Int64) (q : SL) (H : Heap) (locs : List Loc) (ls : Array Slot) (hP : va_P D vwCl (wLw h cI cJ cZ (sx, sm, oc)) H) (hD : va_D A (wLw h cI cJ cZ (sx, sm, oc))) (hS : va_S A s.heap H locs) (hl : lv_has ls 7 [(0, .ref b), (1, .ref (h 0)), (2, .ref (h 14)), (3, .ref (h 31)), (4, .int (nI i))]) (hF : A_law_0 n i xs sx sm oc = some q) (kx : ∀ (H1 : Heap) (locs1 : List Loc) (ls1 : Array Slot) (c1 s1 : Nat), c1 ≤ cl + 1 → s1 ≤ sl + 6 → va_P D vwCl (wLw h cI cJ cZ q) H1 → va_D A (wLw h cI cJ cZ q) → va_S A s.heap H1 locs1 → lv_has ls1 7 [(0, .ref b), (1, .ref (h 0)), (2, .ref (h 14)), (3, .ref (h 31)), (4, .int (nI i))] → W p l e room_1 s m args below meth c H1 locs1 c1 s1 Q (F0 m 856 ls1 [])) : W p l e room_1 s m args below meth c H locs cl sl Q (F0 m 112 ls []) := by
  have hx := E.1.1
  have hb := E.1.2.1
  unfold A_law_0 at hF
  refine lv_aload_n hx hb dL_law_112 rfl (lv_at hl 1 rfl) ?_
  refine lv_aload_n hx hb dL_law_113 rfl (lv_at hl 0 rfl) ?_
  refine lv_iload hx hb dL_law_114 (lv_at hl 4 rfl) ?_
  refine lv_iconst (v := 1) hx hb dL_law_116 (by decide) ?_
  refine lv_iadd hx hb dL_law_117 ?_
  refine lsd (i + 1) E hSc hbl hbA hS (nI_add i 1) (by omega) hL dL_law_118 ?_
  refine lv_aload_n hx hb dL_law_119 rfl (lv_at hl 0 rfl) ?_
  refine lv_iload hx hb dL_law_120 (lv_at hl 4 rfl) ?_
  refine lv_iconst (v := 2) hx hb dL_law_122 (by decide) ?_
  refine lv_iadd hx hb dL_law_123 ?_
  refine lsd (i + 2) E hSc hbl hbA hS (nI_add i 2) (by omega) hL dL_law_124 ?_
  obtain ⟨⟨r1, u2, o4⟩, hc3, hF⟩ := be_some hF
  refine lwW (rest := []) E hA hP hD hS hl.1 hG hX hN (kL_format l hst D h cI cJ cZ n (xs (i + 1)) (xs (i + 2)) sx oc r1 u2 o4 hc3) cw_L_53 rfl rfl (Nat.le_of_ble_eq_true rfl) ⟨by decide, by decide⟩ ⟨by show cl + 1 ≤ 1064; omega, by show sl + 6 ≤ 59830; omega⟩ dL_law_125 (fun H locs hP hD hS => ?_)
  refine lv_istore (lv' := [(5, .int r1), (0, .ref b), (1, .ref (h 0)), (2, .ref (h 14)), (3, .ref (h 31)), (4, .int (nI i))]) hx hb dL_law_128 hl (by decide) rfl (fun ls hl => ?_)
  refine lv_aload_n hx hb dL_law_130 rfl (lv_at hl 3 rfl) ?_
  refine lv_aload_n hx hb dL_law_131 rfl (lv_at hl 1 rfl) ?_
  refine lv_iload hx hb dL_law_132 (lv_at hl 5 rfl) ?_
  refine lv_iconst (v := 1) hx hb dL_law_134 (by decide) ?_
  refine lv_iadd hx hb dL_law_135 ?_
  refine lsd (i + 1) E hSc hbl hbA hS (nI_add i 1) (by omega) hL dL_law_136 ?_
  refine lv_aload_n hx hb dL_law_137 rfl (lv_at hl 1 rfl) ?_
  refine lv_iload hx hb dL_law_138 (lv_at hl 5 rfl) ?_
  refine lv_iconst (v := 2) hx hb dL_law_140 (by decide) ?_
  refine lv_iadd hx hb dL_law_141 ?_
  refine lsd (i + 2) E hSc hbl hbA hS (nI_add i 2) (by omega) hL dL_law_142 ?_
  obtain ⟨r5, u6, hc7, hF⟩ := bd_some hF
  refine lwM_v (rest := []) E hA hP hD hS hl.1 (kX3_format l D h cI cJ cZ n (xs (i + 1)) (xs (i + 2)) sm r5 u6 hc7) cw_L_58 rfl rfl (Nat.le_of_ble_eq_true rfl) ⟨by decide, by decide⟩ ⟨by show cl + 1 ≤ 1064; omega, by show sl + 6 ≤ 59830; omega⟩ dL_law_143 (fun H locs hP hD hS => ?_)
  refine lv_aload_n hx hb dL_law_146 rfl (lv_at hl 3 rfl) ?_
  obtain ⟨r8, u9, hc10, hF⟩ := bd_some hF
  refine lwM_i (rest := []) E hA hP hD hS hl.1 (kX3_thrown l D h cI cJ cZ n  u6 r8 u9 hc10) cw_L_59 rfl rfl (Nat.le_of_ble_eq_true rfl) ⟨by decide, by decide⟩ ⟨by show cl + 1 ≤ 1064; omega, by show sl + 6 ≤ 59830; omega⟩ dL_law_147 (fun H locs hP hD hS => ?_)
  refine lv_iload hx hb dL_law_150 (lv_at hl 0 rfl) ?_
  refine lv_icmp_eq (tgt := 157) hx hb dL_law_152 (by decide) (fun hc => ?_) (fun hc => ?_)
  · have hF := if_t hc hF
    refine lv_goto (tgt := 856) hx hb dL_law_157 (by decide) ?_
    cases hF
    exact kx _ _ _ (cl + 1) (sl + 6) (by omega) (by omega) hP hD hS (lv_sub hl [1, 2, 3, 4, 5] rfl)
  · have hF := if_f hc hF
    cases hF
def A_law_1 (n : Nat) (i : Nat) (xs : Nat → Int32) (sx sm : St) (oc : Nat → Int64) : Option SL := be (FL_make n (xs (i + 1)) (xs (i + 2)) (xs (i + 3)) sx oc) (fun (r1, u2, o4) => bd (FX3_make n (xs (i + 1)) (xs (i + 2)) (xs (i + 3)) sm) (fun r5 u6 => bd (FX3_thrown n  u6) (fun r8 u9 => (if r8 = r1 then (if r1 = 0 then (if r5 = 0 then (if (lg_cmp (o4 (0 : Int32).toNatClampNeg) (0 : Int64)) = 0 then some (u2, u9, o4) else none) else (if (lg_cmp (o4 (0 : Int32).toNatClampNeg) (1 : Int64)) = 0 then some (u2, u9, o4) else none)) else some (u2, u9, o4)) else none))))
set_option maxHeartbeats 4000000 in
set_option maxRecDepth 100000 in
theorem a_law_1 {l : Launch} {D : va_G} {h : Nat → Nat} {cI cJ cZ : ClassId} {p : Program} {e : Env} {s : State} {m : MethodId} {args : Array Value} {below : List Frame} {meth : Method} {c : Code} {A : Nat → Prop} {Q : State → Prop} {b L : Nat} {xs : Nat → Int32} (hst : l.stackTraces = false) (hL : L ≤ 2048) (E : Env1 p s m args c cL_law 7 RL D (tyL cI cJ cZ)) (hA : ∀ q : Nat, s.heap.size ≤ q → A q) (hG : XG A s s.heap) (hX : XS s) (hN : XN s) (hSc : va_X b L xs s s.heap) (hbl : b < s.heap.size) (hbA : ¬ A b) (n i cl sl : Nat) (hi : i + 4 ≤ L) (hcl : cl + 1 ≤ 1064) (hsl : sl + 6 ≤ 59830) (sx sm : St) (oc : Nat → Int64) (q : SL) (H : Heap) (locs : List Loc) (ls : Array Slot) (hP : va_P D vwCl (wLw h cI cJ cZ (sx, sm, oc)) H) (hD : va_D A (wLw h cI cJ cZ (sx, sm, oc))) (hS : va_S A s.heap H locs) (hl : lv_has ls 7 [(0, .ref b), (1, .ref (h 0)), (2, .ref (h 14)), (3, .ref (h 31)), (4, .int (nI i))]) (hF : A_law_1 n i xs sx sm oc = some q) (kx : ∀ (H1 : Heap) (locs1 : List Loc) (ls1 : Array Slot) (c1 s1 : Nat), c1 ≤ cl + 1 → s1 ≤ sl + 6 → va_P D vwCl (wLw h cI cJ cZ q) H1 → va_D A (wLw h cI cJ cZ q) → va_S A s.heap H1 locs1 → lv_has ls1 7 [(0, .ref b), (1, .ref (h 0)), (2, .ref (h 14)), (3, .ref (h 31)), (4, .int (nI i))] → W p l e room_1 s m args below meth c H1 locs1 c1 s1 Q (F0 m 856 ls1 [])) : W p l e room_1 s m args below meth c H locs cl sl Q (F0 m 160 ls []) := by
  have hx := E.1.1
  have hb := E.1.2.1
  unfold A_law_1 at hF
  refine lv_aload_n hx hb dL_law_160 rfl (lv_at hl 1 rfl) ?_
  refine lv_aload_n hx hb dL_law_161 rfl (lv_at hl 0 rfl) ?_
  refine lv_iload hx hb dL_law_162 (lv_at hl 4 rfl) ?_
  refine lv_iconst (v := 1) hx hb dL_law_164 (by decide) ?_
  refine lv_iadd hx hb dL_law_165 ?_
  refine lsd (i + 1) E hSc hbl hbA hS (nI_add i 1) (by omega) hL dL_law_166 ?_
  refine lv_aload_n hx hb dL_law_167 rfl (lv_at hl 0 rfl) ?_
  refine lv_iload hx hb dL_law_168 (lv_at hl 4 rfl) ?_
  refine lv_iconst (v := 2) hx hb dL_law_170 (by decide) ?_
  refine lv_iadd hx hb dL_law_171 ?_
  refine lsd (i + 2) E hSc hbl hbA hS (nI_add i 2) (by omega) hL dL_law_172 ?_
  refine lv_aload_n hx hb dL_law_173 rfl (lv_at hl 0 rfl) ?_
  refine lv_iload hx hb dL_law_174 (lv_at hl 4 rfl) ?_
  refine lv_iconst (v := 3) hx hb dL_law_176 (by decide) ?_
  refine lv_iadd hx hb dL_law_177 ?_
  refine lsd (i + 3) E hSc hbl hbA hS (nI_add i 3) (by omega) hL dL_law_178 ?_
  refine lv_aload_n hx hb dL_law_179 rfl (lv_at hl 3 rfl) ?_
  obtain ⟨⟨r1, u2, o4⟩, hc3, hF⟩ := be_some hF
  refine lwW (rest := []) E hA hP hD hS hl.1 hG hX hN (kL_make l hst D h cI cJ cZ n (xs (i + 1)) (xs (i + 2)) (xs (i + 3)) sx oc r1 u2 o4 hc3) cw_L_63 rfl rfl (Nat.le_of_ble_eq_true rfl) ⟨by decide, by decide⟩ ⟨by show cl + 1 ≤ 1064; omega, by show sl + 6 ≤ 59830; omega⟩ dL_law_180 (fun H locs hP hD hS => ?_)
  refine lv_istore (lv' := [(5, .int r1), (0, .ref b), (1, .ref (h 0)), (2, .ref (h 14)), (3, .ref (h 31)), (4, .int (nI i))]) hx hb dL_law_183 hl (by decide) rfl (fun ls hl => ?_)
  refine lv_aload_n hx hb dL_law_185 rfl (lv_at hl 3 rfl) ?_
  refine lv_aload_n hx hb dL_law_186 rfl (lv_at hl 1 rfl) ?_
  refine lv_iload hx hb dL_law_187 (lv_at hl 5 rfl) ?_
  refine lv_iconst (v := 1) hx hb dL_law_189 (by decide) ?_
  refine lv_iadd hx hb dL_law_190 ?_
  refine lsd (i + 1) E hSc hbl hbA hS (nI_add i 1) (by omega) hL dL_law_191 ?_
  refine lv_aload_n hx hb dL_law_192 rfl (lv_at hl 1 rfl) ?_
  refine lv_iload hx hb dL_law_193 (lv_at hl 5 rfl) ?_
  refine lv_iconst (v := 2) hx hb dL_law_195 (by decide) ?_
  refine lv_iadd hx hb dL_law_196 ?_
  refine lsd (i + 2) E hSc hbl hbA hS (nI_add i 2) (by omega) hL dL_law_197 ?_
  refine lv_aload_n hx hb dL_law_198 rfl (lv_at hl 1 rfl) ?_
  refine lv_iload hx hb dL_law_199 (lv_at hl 5 rfl) ?_
  refine lv_iconst (v := 3) hx hb dL_law_201 (by decide) ?_
  refine lv_iadd hx hb dL_law_202 ?_
  refine lsd (i + 3) E hSc hbl hbA hS (nI_add i 3) (by omega) hL dL_law_203 ?_
  obtain ⟨r5, u6, hc7, hF⟩ := bd_some hF
  refine lwM_i (rest := []) E hA hP hD hS hl.1 (kX3_make l D h cI cJ cZ n (xs (i + 1)) (xs (i + 2)) (xs (i + 3)) sm r5 u6 hc7) cw_L_66 rfl rfl (Nat.le_of_ble_eq_true rfl) ⟨by decide, by decide⟩ ⟨by show cl + 1 ≤ 1064; omega, by show sl + 6 ≤ 59830; omega⟩ dL_law_204 (fun H locs hP hD hS => ?_)
  refine lv_istore (lv' := [(6, .int r5), (5, .int r1), (0, .ref b), (1, .ref (h 0)), (2, .ref (h 14)), (3, .ref (h 31)), (4, .int (nI i))]) hx hb dL_law_207 hl (by decide) rfl (fun ls hl => ?_)
  refine lv_aload_n hx hb dL_law_209 rfl (lv_at hl 4 rfl) ?_
  obtain ⟨r8, u9, hc10, hF⟩ := bd_some hF
  refine lwM_i (rest := []) E hA hP hD hS hl.1 (kX3_thrown l D h cI cJ cZ n  u6 r8 u9 hc10) cw_L_59 rfl rfl (Nat.le_of_ble_eq_true rfl) ⟨by decide, by decide⟩ ⟨by show cl + 1 ≤ 1064; omega, by show sl + 6 ≤ 59830; omega⟩ dL_law_210 (fun H locs hP hD hS => ?_)
  refine lv_iload hx hb dL_law_213 (lv_at hl 1 rfl) ?_
  refine lv_icmp_eq (tgt := 220) hx hb dL_law_215 (by decide) (fun hc => ?_) (fun hc => ?_)
  · have hF := if_t hc hF
    refine lv_iload hx hb dL_law_220 (lv_at hl 1 rfl) ?_
    refine lv_if_ne (tgt := 244) hx hb dL_law_222 (by decide) (fun hc => ?_) (fun hc => ?_)
    · have hF := if_f hc hF
      refine lv_goto (tgt := 856) hx hb dL_law_244 (by decide) ?_
      cases hF
      exact kx _ _ _ (cl + 1) (sl + 6) (by omega) (by omega) hP hD hS (lv_sub hl [2, 3, 4, 5, 6] rfl)
    · have hF := if_t hc hF
      refine lv_aload_n hx hb dL_law_225 rfl (lv_at hl 5 rfl) ?_
      refine lv_iconst (v := 0) hx hb dL_law_226 (by decide) ?_
      refine la_31 E hP (by unfold vp_in; decide) dL_law_227 ?_
      refine lv_iload hx hb dL_law_228 (lv_at hl 0 rfl) ?_
      refine lv_if_eq (tgt := 237) hx hb dL_law_230 (by decide) (fun hc => ?_) (fun hc => ?_)
      · have hF := if_t hc hF
        refine lv_lconst (v := 0) hx hb dL_law_237 rfl ?_
        refine W.lcmp hx hb dL_law_238 ?_
        refine lv_if_eq (tgt := 244) hx hb dL_law_239 (by decide) (fun hc => ?_) (fun hc => ?_)
        · have hF := if_t hc hF
          refine lv_goto (tgt := 856) hx hb dL_law_244 (by decide) ?_
          cases hF
          exact kx _ _ _ (cl + 1) (sl + 6) (by omega) (by omega) hP hD hS (lv_sub hl [2, 3, 4, 5, 6] rfl)
        · have hF := if_f hc hF
          cases hF
      · have hF := if_f hc hF
        refine lv_lconst (v := 1) hx hb dL_law_233 rfl ?_
        refine lv_goto (tgt := 238) hx hb dL_law_234 (by decide) ?_
        refine W.lcmp hx hb dL_law_238 ?_
        refine lv_if_eq (tgt := 244) hx hb dL_law_239 (by decide) (fun hc => ?_) (fun hc => ?_)
        · have hF := if_t hc hF
          refine lv_goto (tgt := 856) hx hb dL_law_244 (by decide) ?_
          cases hF
          exact kx _ _ _ (cl + 1) (sl + 6) (by omega) (by omega) hP hD hS (lv_sub hl [2, 3, 4, 5, 6] rfl)
        · have hF := if_f hc hF
          cases hF
  · have hF := if_f hc hF
    cases hF
def A_law_2 (n : Nat) (i : Nat) (xs : Nat → Int32) (sx sm : St) (oc : Nat → Int64) : Option SL := be (FL_copy n (xs (i + 1)) (xs (i + 2)) sx oc) (fun (r1, u2, o4) => bd (FX3_copy n (xs (i + 1)) (xs (i + 2)) sm) (fun r5 u6 => bd (FX3_thrown n  u6) (fun r8 u9 => (if r8 = r1 then some (u2, u9, o4) else none))))
set_option maxHeartbeats 4000000 in
set_option maxRecDepth 100000 in
theorem a_law_2 {l : Launch} {D : va_G} {h : Nat → Nat} {cI cJ cZ : ClassId} {p : Program} {e : Env} {s : State} {m : MethodId} {args : Array Value} {below : List Frame} {meth : Method} {c : Code} {A : Nat → Prop} {Q : State → Prop} {b L : Nat} {xs : Nat → Int32} (hst : l.stackTraces = false) (hL : L ≤ 2048) (E : Env1 p s m args c cL_law 7 RL D (tyL cI cJ cZ)) (hA : ∀ q : Nat, s.heap.size ≤ q → A q) (hG : XG A s s.heap) (hX : XS s) (hN : XN s) (hSc : va_X b L xs s s.heap) (hbl : b < s.heap.size) (hbA : ¬ A b) (n i cl sl : Nat) (hi : i + 4 ≤ L) (hcl : cl + 1 ≤ 1064) (hsl : sl + 6 ≤ 59830) (sx sm : St) (oc : Nat → Int64) (q : SL) (H : Heap) (locs : List Loc) (ls : Array Slot) (hP : va_P D vwCl (wLw h cI cJ cZ (sx, sm, oc)) H) (hD : va_D A (wLw h cI cJ cZ (sx, sm, oc))) (hS : va_S A s.heap H locs) (hl : lv_has ls 7 [(0, .ref b), (1, .ref (h 0)), (2, .ref (h 14)), (3, .ref (h 31)), (4, .int (nI i))]) (hF : A_law_2 n i xs sx sm oc = some q) (kx : ∀ (H1 : Heap) (locs1 : List Loc) (ls1 : Array Slot) (c1 s1 : Nat), c1 ≤ cl + 1 → s1 ≤ sl + 6 → va_P D vwCl (wLw h cI cJ cZ q) H1 → va_D A (wLw h cI cJ cZ q) → va_S A s.heap H1 locs1 → lv_has ls1 7 [(0, .ref b), (1, .ref (h 0)), (2, .ref (h 14)), (3, .ref (h 31)), (4, .int (nI i))] → W p l e room_1 s m args below meth c H1 locs1 c1 s1 Q (F0 m 856 ls1 [])) : W p l e room_1 s m args below meth c H locs cl sl Q (F0 m 247 ls []) := by
  have hx := E.1.1
  have hb := E.1.2.1
  unfold A_law_2 at hF
  refine lv_aload_n hx hb dL_law_247 rfl (lv_at hl 1 rfl) ?_
  refine lv_aload_n hx hb dL_law_248 rfl (lv_at hl 0 rfl) ?_
  refine lv_iload hx hb dL_law_249 (lv_at hl 4 rfl) ?_
  refine lv_iconst (v := 1) hx hb dL_law_251 (by decide) ?_
  refine lv_iadd hx hb dL_law_252 ?_
  refine lsd (i + 1) E hSc hbl hbA hS (nI_add i 1) (by omega) hL dL_law_253 ?_
  refine lv_aload_n hx hb dL_law_254 rfl (lv_at hl 0 rfl) ?_
  refine lv_iload hx hb dL_law_255 (lv_at hl 4 rfl) ?_
  refine lv_iconst (v := 2) hx hb dL_law_257 (by decide) ?_
  refine lv_iadd hx hb dL_law_258 ?_
  refine lsd (i + 2) E hSc hbl hbA hS (nI_add i 2) (by omega) hL dL_law_259 ?_
  obtain ⟨⟨r1, u2, o4⟩, hc3, hF⟩ := be_some hF
  refine lwW (rest := []) E hA hP hD hS hl.1 hG hX hN (kL_copy l hst D h cI cJ cZ n (xs (i + 1)) (xs (i + 2)) sx oc r1 u2 o4 hc3) cw_L_67 rfl rfl (Nat.le_of_ble_eq_true rfl) ⟨by decide, by decide⟩ ⟨by show cl + 1 ≤ 1064; omega, by show sl + 6 ≤ 59830; omega⟩ dL_law_260 (fun H locs hP hD hS => ?_)
  refine lv_istore (lv' := [(5, .int r1), (0, .ref b), (1, .ref (h 0)), (2, .ref (h 14)), (3, .ref (h 31)), (4, .int (nI i))]) hx hb dL_law_263 hl (by decide) rfl (fun ls hl => ?_)
  refine lv_aload_n hx hb dL_law_265 rfl (lv_at hl 3 rfl) ?_
  refine lv_aload_n hx hb dL_law_266 rfl (lv_at hl 1 rfl) ?_
  refine lv_iload hx hb dL_law_267 (lv_at hl 5 rfl) ?_
  refine lv_iconst (v := 1) hx hb dL_law_269 (by decide) ?_
  refine lv_iadd hx hb dL_law_270 ?_
  refine lsd (i + 1) E hSc hbl hbA hS (nI_add i 1) (by omega) hL dL_law_271 ?_
  refine lv_aload_n hx hb dL_law_272 rfl (lv_at hl 1 rfl) ?_
  refine lv_iload hx hb dL_law_273 (lv_at hl 5 rfl) ?_
  refine lv_iconst (v := 2) hx hb dL_law_275 (by decide) ?_
  refine lv_iadd hx hb dL_law_276 ?_
  refine lsd (i + 2) E hSc hbl hbA hS (nI_add i 2) (by omega) hL dL_law_277 ?_
  obtain ⟨r5, u6, hc7, hF⟩ := bd_some hF
  refine lwM_v (rest := []) E hA hP hD hS hl.1 (kX3_copy l D h cI cJ cZ n (xs (i + 1)) (xs (i + 2)) sm r5 u6 hc7) cw_L_69 rfl rfl (Nat.le_of_ble_eq_true rfl) ⟨by decide, by decide⟩ ⟨by show cl + 1 ≤ 1064; omega, by show sl + 6 ≤ 59830; omega⟩ dL_law_278 (fun H locs hP hD hS => ?_)
  refine lv_aload_n hx hb dL_law_281 rfl (lv_at hl 3 rfl) ?_
  obtain ⟨r8, u9, hc10, hF⟩ := bd_some hF
  refine lwM_i (rest := []) E hA hP hD hS hl.1 (kX3_thrown l D h cI cJ cZ n  u6 r8 u9 hc10) cw_L_59 rfl rfl (Nat.le_of_ble_eq_true rfl) ⟨by decide, by decide⟩ ⟨by show cl + 1 ≤ 1064; omega, by show sl + 6 ≤ 59830; omega⟩ dL_law_282 (fun H locs hP hD hS => ?_)
  refine lv_iload hx hb dL_law_285 (lv_at hl 0 rfl) ?_
  refine lv_icmp_eq (tgt := 292) hx hb dL_law_287 (by decide) (fun hc => ?_) (fun hc => ?_)
  · have hF := if_t hc hF
    refine lv_goto (tgt := 856) hx hb dL_law_292 (by decide) ?_
    cases hF
    exact kx _ _ _ (cl + 1) (sl + 6) (by omega) (by omega) hP hD hS (lv_sub hl [1, 2, 3, 4, 5] rfl)
  · have hF := if_f hc hF
    cases hF
def A_law_3 (n : Nat) (i : Nat) (xs : Nat → Int32) (sx sm : St) (oc : Nat → Int64) : Option SL := be (FL_drop n (xs (i + 1)) sx oc) (fun (r1, u2, o4) => bd (FX3_drop n (xs (i + 1)) sm) (fun r5 u6 => bd (FX3_thrown n  u6) (fun r8 u9 => (if r8 = r1 then some (u2, u9, o4) else none))))
set_option maxHeartbeats 4000000 in
set_option maxRecDepth 100000 in
theorem a_law_3 {l : Launch} {D : va_G} {h : Nat → Nat} {cI cJ cZ : ClassId} {p : Program} {e : Env} {s : State} {m : MethodId} {args : Array Value} {below : List Frame} {meth : Method} {c : Code} {A : Nat → Prop} {Q : State → Prop} {b L : Nat} {xs : Nat → Int32} (hst : l.stackTraces = false) (hL : L ≤ 2048) (E : Env1 p s m args c cL_law 7 RL D (tyL cI cJ cZ)) (hA : ∀ q : Nat, s.heap.size ≤ q → A q) (hG : XG A s s.heap) (hX : XS s) (hN : XN s) (hSc : va_X b L xs s s.heap) (hbl : b < s.heap.size) (hbA : ¬ A b) (n i cl sl : Nat) (hi : i + 4 ≤ L) (hcl : cl + 1 ≤ 1064) (hsl : sl + 6 ≤ 59830) (sx sm : St) (oc : Nat → Int64) (q : SL) (H : Heap) (locs : List Loc) (ls : Array Slot) (hP : va_P D vwCl (wLw h cI cJ cZ (sx, sm, oc)) H) (hD : va_D A (wLw h cI cJ cZ (sx, sm, oc))) (hS : va_S A s.heap H locs) (hl : lv_has ls 7 [(0, .ref b), (1, .ref (h 0)), (2, .ref (h 14)), (3, .ref (h 31)), (4, .int (nI i))]) (hF : A_law_3 n i xs sx sm oc = some q) (kx : ∀ (H1 : Heap) (locs1 : List Loc) (ls1 : Array Slot) (c1 s1 : Nat), c1 ≤ cl + 1 → s1 ≤ sl + 6 → va_P D vwCl (wLw h cI cJ cZ q) H1 → va_D A (wLw h cI cJ cZ q) → va_S A s.heap H1 locs1 → lv_has ls1 7 [(0, .ref b), (1, .ref (h 0)), (2, .ref (h 14)), (3, .ref (h 31)), (4, .int (nI i))] → W p l e room_1 s m args below meth c H1 locs1 c1 s1 Q (F0 m 856 ls1 [])) : W p l e room_1 s m args below meth c H locs cl sl Q (F0 m 295 ls []) := by
  have hx := E.1.1
  have hb := E.1.2.1
  unfold A_law_3 at hF
  refine lv_aload_n hx hb dL_law_295 rfl (lv_at hl 1 rfl) ?_
  refine lv_aload_n hx hb dL_law_296 rfl (lv_at hl 0 rfl) ?_
  refine lv_iload hx hb dL_law_297 (lv_at hl 4 rfl) ?_
  refine lv_iconst (v := 1) hx hb dL_law_299 (by decide) ?_
  refine lv_iadd hx hb dL_law_300 ?_
  refine lsd (i + 1) E hSc hbl hbA hS (nI_add i 1) (by omega) hL dL_law_301 ?_
  obtain ⟨⟨r1, u2, o4⟩, hc3, hF⟩ := be_some hF
  refine lwW (rest := []) E hA hP hD hS hl.1 hG hX hN (kL_drop l hst D h cI cJ cZ n (xs (i + 1)) sx oc r1 u2 o4 hc3) cw_L_70 rfl rfl (Nat.le_of_ble_eq_true rfl) ⟨by decide, by decide⟩ ⟨by show cl + 1 ≤ 1064; omega, by show sl + 6 ≤ 59830; omega⟩ dL_law_302 (fun H locs hP hD hS => ?_)
  refine lv_istore (lv' := [(5, .int r1), (0, .ref b), (1, .ref (h 0)), (2, .ref (h 14)), (3, .ref (h 31)), (4, .int (nI i))]) hx hb dL_law_305 hl (by decide) rfl (fun ls hl => ?_)
  refine lv_aload_n hx hb dL_law_307 rfl (lv_at hl 3 rfl) ?_
  refine lv_aload_n hx hb dL_law_308 rfl (lv_at hl 1 rfl) ?_
  refine lv_iload hx hb dL_law_309 (lv_at hl 5 rfl) ?_
  refine lv_iconst (v := 1) hx hb dL_law_311 (by decide) ?_
  refine lv_iadd hx hb dL_law_312 ?_
  refine lsd (i + 1) E hSc hbl hbA hS (nI_add i 1) (by omega) hL dL_law_313 ?_
  obtain ⟨r5, u6, hc7, hF⟩ := bd_some hF
  refine lwM_v (rest := []) E hA hP hD hS hl.1 (kX3_drop l D h cI cJ cZ n (xs (i + 1)) sm r5 u6 hc7) cw_L_73 rfl rfl (Nat.le_of_ble_eq_true rfl) ⟨by decide, by decide⟩ ⟨by show cl + 1 ≤ 1064; omega, by show sl + 6 ≤ 59830; omega⟩ dL_law_314 (fun H locs hP hD hS => ?_)
  refine lv_aload_n hx hb dL_law_317 rfl (lv_at hl 3 rfl) ?_
  obtain ⟨r8, u9, hc10, hF⟩ := bd_some hF
  refine lwM_i (rest := []) E hA hP hD hS hl.1 (kX3_thrown l D h cI cJ cZ n  u6 r8 u9 hc10) cw_L_59 rfl rfl (Nat.le_of_ble_eq_true rfl) ⟨by decide, by decide⟩ ⟨by show cl + 1 ≤ 1064; omega, by show sl + 6 ≤ 59830; omega⟩ dL_law_318 (fun H locs hP hD hS => ?_)
  refine lv_iload hx hb dL_law_321 (lv_at hl 0 rfl) ?_
  refine lv_icmp_eq (tgt := 328) hx hb dL_law_323 (by decide) (fun hc => ?_) (fun hc => ?_)
  · have hF := if_t hc hF
    refine lv_goto (tgt := 856) hx hb dL_law_328 (by decide) ?_
    cases hF
    exact kx _ _ _ (cl + 1) (sl + 6) (by omega) (by omega) hP hD hS (lv_sub hl [1, 2, 3, 4, 5] rfl)
  · have hF := if_f hc hF
    cases hF
def A_law_4 (n : Nat) (i : Nat) (xs : Nat → Int32) (sx sm : St) (oc : Nat → Int64) : Option SL := be (FL_link n (xs (i + 1)) (xs (i + 2)) (xs (i + 3)) sx oc) (fun (r1, u2, o4) => bd (FX3_link n (xs (i + 1)) (xs (i + 2)) (xs (i + 3)) sm) (fun r5 u6 => bd (FX3_thrown n  u6) (fun r8 u9 => (if r8 = r1 then some (u2, u9, o4) else none))))
set_option maxHeartbeats 4000000 in
set_option maxRecDepth 100000 in
theorem a_law_4 {l : Launch} {D : va_G} {h : Nat → Nat} {cI cJ cZ : ClassId} {p : Program} {e : Env} {s : State} {m : MethodId} {args : Array Value} {below : List Frame} {meth : Method} {c : Code} {A : Nat → Prop} {Q : State → Prop} {b L : Nat} {xs : Nat → Int32} (hst : l.stackTraces = false) (hL : L ≤ 2048) (E : Env1 p s m args c cL_law 7 RL D (tyL cI cJ cZ)) (hA : ∀ q : Nat, s.heap.size ≤ q → A q) (hG : XG A s s.heap) (hX : XS s) (hN : XN s) (hSc : va_X b L xs s s.heap) (hbl : b < s.heap.size) (hbA : ¬ A b) (n i cl sl : Nat) (hi : i + 4 ≤ L) (hcl : cl + 1 ≤ 1064) (hsl : sl + 6 ≤ 59830) (sx sm : St) (oc : Nat → Int64) (q : SL) (H : Heap) (locs : List Loc) (ls : Array Slot) (hP : va_P D vwCl (wLw h cI cJ cZ (sx, sm, oc)) H) (hD : va_D A (wLw h cI cJ cZ (sx, sm, oc))) (hS : va_S A s.heap H locs) (hl : lv_has ls 7 [(0, .ref b), (1, .ref (h 0)), (2, .ref (h 14)), (3, .ref (h 31)), (4, .int (nI i))]) (hF : A_law_4 n i xs sx sm oc = some q) (kx : ∀ (H1 : Heap) (locs1 : List Loc) (ls1 : Array Slot) (c1 s1 : Nat), c1 ≤ cl + 1 → s1 ≤ sl + 6 → va_P D vwCl (wLw h cI cJ cZ q) H1 → va_D A (wLw h cI cJ cZ q) → va_S A s.heap H1 locs1 → lv_has ls1 7 [(0, .ref b), (1, .ref (h 0)), (2, .ref (h 14)), (3, .ref (h 31)), (4, .int (nI i))] → W p l e room_1 s m args below meth c H1 locs1 c1 s1 Q (F0 m 856 ls1 [])) : W p l e room_1 s m args below meth c H locs cl sl Q (F0 m 331 ls []) := by
  have hx := E.1.1
  have hb := E.1.2.1
  unfold A_law_4 at hF
  refine lv_aload_n hx hb dL_law_331 rfl (lv_at hl 1 rfl) ?_
  refine lv_aload_n hx hb dL_law_332 rfl (lv_at hl 0 rfl) ?_
  refine lv_iload hx hb dL_law_333 (lv_at hl 4 rfl) ?_
  refine lv_iconst (v := 1) hx hb dL_law_335 (by decide) ?_
  refine lv_iadd hx hb dL_law_336 ?_
  refine lsd (i + 1) E hSc hbl hbA hS (nI_add i 1) (by omega) hL dL_law_337 ?_
  refine lv_aload_n hx hb dL_law_338 rfl (lv_at hl 0 rfl) ?_
  refine lv_iload hx hb dL_law_339 (lv_at hl 4 rfl) ?_
  refine lv_iconst (v := 2) hx hb dL_law_341 (by decide) ?_
  refine lv_iadd hx hb dL_law_342 ?_
  refine lsd (i + 2) E hSc hbl hbA hS (nI_add i 2) (by omega) hL dL_law_343 ?_
  refine lv_aload_n hx hb dL_law_344 rfl (lv_at hl 0 rfl) ?_
  refine lv_iload hx hb dL_law_345 (lv_at hl 4 rfl) ?_
  refine lv_iconst (v := 3) hx hb dL_law_347 (by decide) ?_
  refine lv_iadd hx hb dL_law_348 ?_
  refine lsd (i + 3) E hSc hbl hbA hS (nI_add i 3) (by omega) hL dL_law_349 ?_
  obtain ⟨⟨r1, u2, o4⟩, hc3, hF⟩ := be_some hF
  refine lwW (rest := []) E hA hP hD hS hl.1 hG hX hN (kL_link l hst D h cI cJ cZ n (xs (i + 1)) (xs (i + 2)) (xs (i + 3)) sx oc r1 u2 o4 hc3) cw_L_74 rfl rfl (Nat.le_of_ble_eq_true rfl) ⟨by decide, by decide⟩ ⟨by show cl + 1 ≤ 1064; omega, by show sl + 6 ≤ 59830; omega⟩ dL_law_350 (fun H locs hP hD hS => ?_)
  refine lv_istore (lv' := [(5, .int r1), (0, .ref b), (1, .ref (h 0)), (2, .ref (h 14)), (3, .ref (h 31)), (4, .int (nI i))]) hx hb dL_law_353 hl (by decide) rfl (fun ls hl => ?_)
  refine lv_aload_n hx hb dL_law_355 rfl (lv_at hl 3 rfl) ?_
  refine lv_aload_n hx hb dL_law_356 rfl (lv_at hl 1 rfl) ?_
  refine lv_iload hx hb dL_law_357 (lv_at hl 5 rfl) ?_
  refine lv_iconst (v := 1) hx hb dL_law_359 (by decide) ?_
  refine lv_iadd hx hb dL_law_360 ?_
  refine lsd (i + 1) E hSc hbl hbA hS (nI_add i 1) (by omega) hL dL_law_361 ?_
  refine lv_aload_n hx hb dL_law_362 rfl (lv_at hl 1 rfl) ?_
  refine lv_iload hx hb dL_law_363 (lv_at hl 5 rfl) ?_
  refine lv_iconst (v := 2) hx hb dL_law_365 (by decide) ?_
  refine lv_iadd hx hb dL_law_366 ?_
  refine lsd (i + 2) E hSc hbl hbA hS (nI_add i 2) (by omega) hL dL_law_367 ?_
  refine lv_aload_n hx hb dL_law_368 rfl (lv_at hl 1 rfl) ?_
  refine lv_iload hx hb dL_law_369 (lv_at hl 5 rfl) ?_
  refine lv_iconst (v := 3) hx hb dL_law_371 (by decide) ?_
  refine lv_iadd hx hb dL_law_372 ?_
  refine lsd (i + 3) E hSc hbl hbA hS (nI_add i 3) (by omega) hL dL_law_373 ?_
  obtain ⟨r5, u6, hc7, hF⟩ := bd_some hF
  refine lwM_v (rest := []) E hA hP hD hS hl.1 (kX3_link l D h cI cJ cZ n (xs (i + 1)) (xs (i + 2)) (xs (i + 3)) sm r5 u6 hc7) cw_L_77 rfl rfl (Nat.le_of_ble_eq_true rfl) ⟨by decide, by decide⟩ ⟨by show cl + 1 ≤ 1064; omega, by show sl + 6 ≤ 59830; omega⟩ dL_law_374 (fun H locs hP hD hS => ?_)
  refine lv_aload_n hx hb dL_law_377 rfl (lv_at hl 3 rfl) ?_
  obtain ⟨r8, u9, hc10, hF⟩ := bd_some hF
  refine lwM_i (rest := []) E hA hP hD hS hl.1 (kX3_thrown l D h cI cJ cZ n  u6 r8 u9 hc10) cw_L_59 rfl rfl (Nat.le_of_ble_eq_true rfl) ⟨by decide, by decide⟩ ⟨by show cl + 1 ≤ 1064; omega, by show sl + 6 ≤ 59830; omega⟩ dL_law_378 (fun H locs hP hD hS => ?_)
  refine lv_iload hx hb dL_law_381 (lv_at hl 0 rfl) ?_
  refine lv_icmp_eq (tgt := 388) hx hb dL_law_383 (by decide) (fun hc => ?_) (fun hc => ?_)
  · have hF := if_t hc hF
    refine lv_goto (tgt := 856) hx hb dL_law_388 (by decide) ?_
    cases hF
    exact kx _ _ _ (cl + 1) (sl + 6) (by omega) (by omega) hP hD hS (lv_sub hl [1, 2, 3, 4, 5] rfl)
  · have hF := if_f hc hF
    cases hF
def A_law_5 (n : Nat) (i : Nat) (xs : Nat → Int32) (sx sm : St) (oc : Nat → Int64) : Option SL := be (FL_follow n (xs (i + 1)) (xs (i + 2)) (xs (i + 3)) sx oc) (fun (r1, u2, o4) => bd (FX3_follow n (xs (i + 1)) (xs (i + 2)) (xs (i + 3)) sm) (fun r5 u6 => bd (FX3_thrown n  u6) (fun r8 u9 => (if r8 = r1 then (if r1 = 0 then (if (lg_cmp (o4 (0 : Int32).toNatClampNeg) r5.toInt64) = 0 then some (u2, u9, o4) else none) else some (u2, u9, o4)) else none))))
set_option maxHeartbeats 4000000 in
set_option maxRecDepth 100000 in
theorem a_law_5 {l : Launch} {D : va_G} {h : Nat → Nat} {cI cJ cZ : ClassId} {p : Program} {e : Env} {s : State} {m : MethodId} {args : Array Value} {below : List Frame} {meth : Method} {c : Code} {A : Nat → Prop} {Q : State → Prop} {b L : Nat} {xs : Nat → Int32} (hst : l.stackTraces = false) (hL : L ≤ 2048) (E : Env1 p s m args c cL_law 7 RL D (tyL cI cJ cZ)) (hA : ∀ q : Nat, s.heap.size ≤ q → A q) (hG : XG A s s.heap) (hX : XS s) (hN : XN s) (hSc : va_X b L xs s s.heap) (hbl : b < s.heap.size) (hbA : ¬ A b) (n i cl sl : Nat) (hi : i + 4 ≤ L) (hcl : cl + 1 ≤ 1064) (hsl : sl + 6 ≤ 59830) (sx sm : St) (oc : Nat → Int64) (q : SL) (H : Heap) (locs : List Loc) (ls : Array Slot) (hP : va_P D vwCl (wLw h cI cJ cZ (sx, sm, oc)) H) (hD : va_D A (wLw h cI cJ cZ (sx, sm, oc))) (hS : va_S A s.heap H locs) (hl : lv_has ls 7 [(0, .ref b), (1, .ref (h 0)), (2, .ref (h 14)), (3, .ref (h 31)), (4, .int (nI i))]) (hF : A_law_5 n i xs sx sm oc = some q) (kx : ∀ (H1 : Heap) (locs1 : List Loc) (ls1 : Array Slot) (c1 s1 : Nat), c1 ≤ cl + 1 → s1 ≤ sl + 6 → va_P D vwCl (wLw h cI cJ cZ q) H1 → va_D A (wLw h cI cJ cZ q) → va_S A s.heap H1 locs1 → lv_has ls1 7 [(0, .ref b), (1, .ref (h 0)), (2, .ref (h 14)), (3, .ref (h 31)), (4, .int (nI i))] → W p l e room_1 s m args below meth c H1 locs1 c1 s1 Q (F0 m 856 ls1 [])) : W p l e room_1 s m args below meth c H locs cl sl Q (F0 m 391 ls []) := by
  have hx := E.1.1
  have hb := E.1.2.1
  unfold A_law_5 at hF
  refine lv_aload_n hx hb dL_law_391 rfl (lv_at hl 1 rfl) ?_
  refine lv_aload_n hx hb dL_law_392 rfl (lv_at hl 0 rfl) ?_
  refine lv_iload hx hb dL_law_393 (lv_at hl 4 rfl) ?_
  refine lv_iconst (v := 1) hx hb dL_law_395 (by decide) ?_
  refine lv_iadd hx hb dL_law_396 ?_
  refine lsd (i + 1) E hSc hbl hbA hS (nI_add i 1) (by omega) hL dL_law_397 ?_
  refine lv_aload_n hx hb dL_law_398 rfl (lv_at hl 0 rfl) ?_
  refine lv_iload hx hb dL_law_399 (lv_at hl 4 rfl) ?_
  refine lv_iconst (v := 2) hx hb dL_law_401 (by decide) ?_
  refine lv_iadd hx hb dL_law_402 ?_
  refine lsd (i + 2) E hSc hbl hbA hS (nI_add i 2) (by omega) hL dL_law_403 ?_
  refine lv_aload_n hx hb dL_law_404 rfl (lv_at hl 0 rfl) ?_
  refine lv_iload hx hb dL_law_405 (lv_at hl 4 rfl) ?_
  refine lv_iconst (v := 3) hx hb dL_law_407 (by decide) ?_
  refine lv_iadd hx hb dL_law_408 ?_
  refine lsd (i + 3) E hSc hbl hbA hS (nI_add i 3) (by omega) hL dL_law_409 ?_
  refine lv_aload_n hx hb dL_law_410 rfl (lv_at hl 3 rfl) ?_
  obtain ⟨⟨r1, u2, o4⟩, hc3, hF⟩ := be_some hF
  refine lwW (rest := []) E hA hP hD hS hl.1 hG hX hN (kL_follow l hst D h cI cJ cZ n (xs (i + 1)) (xs (i + 2)) (xs (i + 3)) sx oc r1 u2 o4 hc3) cw_L_78 rfl rfl (Nat.le_of_ble_eq_true rfl) ⟨by decide, by decide⟩ ⟨by show cl + 1 ≤ 1064; omega, by show sl + 6 ≤ 59830; omega⟩ dL_law_411 (fun H locs hP hD hS => ?_)
  refine lv_istore (lv' := [(5, .int r1), (0, .ref b), (1, .ref (h 0)), (2, .ref (h 14)), (3, .ref (h 31)), (4, .int (nI i))]) hx hb dL_law_414 hl (by decide) rfl (fun ls hl => ?_)
  refine lv_aload_n hx hb dL_law_416 rfl (lv_at hl 3 rfl) ?_
  refine lv_aload_n hx hb dL_law_417 rfl (lv_at hl 1 rfl) ?_
  refine lv_iload hx hb dL_law_418 (lv_at hl 5 rfl) ?_
  refine lv_iconst (v := 1) hx hb dL_law_420 (by decide) ?_
  refine lv_iadd hx hb dL_law_421 ?_
  refine lsd (i + 1) E hSc hbl hbA hS (nI_add i 1) (by omega) hL dL_law_422 ?_
  refine lv_aload_n hx hb dL_law_423 rfl (lv_at hl 1 rfl) ?_
  refine lv_iload hx hb dL_law_424 (lv_at hl 5 rfl) ?_
  refine lv_iconst (v := 2) hx hb dL_law_426 (by decide) ?_
  refine lv_iadd hx hb dL_law_427 ?_
  refine lsd (i + 2) E hSc hbl hbA hS (nI_add i 2) (by omega) hL dL_law_428 ?_
  refine lv_aload_n hx hb dL_law_429 rfl (lv_at hl 1 rfl) ?_
  refine lv_iload hx hb dL_law_430 (lv_at hl 5 rfl) ?_
  refine lv_iconst (v := 3) hx hb dL_law_432 (by decide) ?_
  refine lv_iadd hx hb dL_law_433 ?_
  refine lsd (i + 3) E hSc hbl hbA hS (nI_add i 3) (by omega) hL dL_law_434 ?_
  obtain ⟨r5, u6, hc7, hF⟩ := bd_some hF
  refine lwM_i (rest := []) E hA hP hD hS hl.1 (kX3_follow l D h cI cJ cZ n (xs (i + 1)) (xs (i + 2)) (xs (i + 3)) sm r5 u6 hc7) cw_L_80 rfl rfl (Nat.le_of_ble_eq_true rfl) ⟨by decide, by decide⟩ ⟨by show cl + 1 ≤ 1064; omega, by show sl + 6 ≤ 59830; omega⟩ dL_law_435 (fun H locs hP hD hS => ?_)
  refine lv_istore (lv' := [(6, .int r5), (5, .int r1), (0, .ref b), (1, .ref (h 0)), (2, .ref (h 14)), (3, .ref (h 31)), (4, .int (nI i))]) hx hb dL_law_438 hl (by decide) rfl (fun ls hl => ?_)
  refine lv_aload_n hx hb dL_law_440 rfl (lv_at hl 4 rfl) ?_
  obtain ⟨r8, u9, hc10, hF⟩ := bd_some hF
  refine lwM_i (rest := []) E hA hP hD hS hl.1 (kX3_thrown l D h cI cJ cZ n  u6 r8 u9 hc10) cw_L_59 rfl rfl (Nat.le_of_ble_eq_true rfl) ⟨by decide, by decide⟩ ⟨by show cl + 1 ≤ 1064; omega, by show sl + 6 ≤ 59830; omega⟩ dL_law_441 (fun H locs hP hD hS => ?_)
  refine lv_iload hx hb dL_law_444 (lv_at hl 1 rfl) ?_
  refine lv_icmp_eq (tgt := 451) hx hb dL_law_446 (by decide) (fun hc => ?_) (fun hc => ?_)
  · have hF := if_t hc hF
    refine lv_iload hx hb dL_law_451 (lv_at hl 1 rfl) ?_
    refine lv_if_ne (tgt := 468) hx hb dL_law_453 (by decide) (fun hc => ?_) (fun hc => ?_)
    · have hF := if_f hc hF
      refine lv_goto (tgt := 856) hx hb dL_law_468 (by decide) ?_
      cases hF
      exact kx _ _ _ (cl + 1) (sl + 6) (by omega) (by omega) hP hD hS (lv_sub hl [2, 3, 4, 5, 6] rfl)
    · have hF := if_t hc hF
      refine lv_aload_n hx hb dL_law_456 rfl (lv_at hl 5 rfl) ?_
      refine lv_iconst (v := 0) hx hb dL_law_457 (by decide) ?_
      refine la_31 E hP (by unfold vp_in; decide) dL_law_458 ?_
      refine lv_iload hx hb dL_law_459 (lv_at hl 0 rfl) ?_
      refine lv_i2l hx hb dL_law_461 rfl ?_
      refine W.lcmp hx hb dL_law_462 ?_
      refine lv_if_eq (tgt := 468) hx hb dL_law_463 (by decide) (fun hc => ?_) (fun hc => ?_)
      · have hF := if_t hc hF
        refine lv_goto (tgt := 856) hx hb dL_law_468 (by decide) ?_
        cases hF
        exact kx _ _ _ (cl + 1) (sl + 6) (by omega) (by omega) hP hD hS (lv_sub hl [2, 3, 4, 5, 6] rfl)
      · have hF := if_f hc hF
        cases hF
  · have hF := if_f hc hF
    cases hF
def A_law_6 (n : Nat) (i : Nat) (xs : Nat → Int32) (sx sm : St) (oc : Nat → Int64) : Option SL := be (FL_set n (xs (i + 1)) (xs (i + 2)) (xs (i + 3)) sx oc) (fun (r1, u2, o4) => bd (FX3_set n (xs (i + 1)) (xs (i + 2)) (xs (i + 3)) sm) (fun r5 u6 => bd (FX3_thrown n  u6) (fun r8 u9 => (if r8 = r1 then (if r1 = 0 then (if (lg_cmp (o4 (0 : Int32).toNatClampNeg) r5.toInt64) = 0 then some (u2, u9, o4) else none) else some (u2, u9, o4)) else none))))
set_option maxHeartbeats 4000000 in
set_option maxRecDepth 100000 in
theorem a_law_6 {l : Launch} {D : va_G} {h : Nat → Nat} {cI cJ cZ : ClassId} {p : Program} {e : Env} {s : State} {m : MethodId} {args : Array Value} {below : List Frame} {meth : Method} {c : Code} {A : Nat → Prop} {Q : State → Prop} {b L : Nat} {xs : Nat → Int32} (hst : l.stackTraces = false) (hL : L ≤ 2048) (E : Env1 p s m args c cL_law 7 RL D (tyL cI cJ cZ)) (hA : ∀ q : Nat, s.heap.size ≤ q → A q) (hG : XG A s s.heap) (hX : XS s) (hN : XN s) (hSc : va_X b L xs s s.heap) (hbl : b < s.heap.size) (hbA : ¬ A b) (n i cl sl : Nat) (hi : i + 4 ≤ L) (hcl : cl + 1 ≤ 1064) (hsl : sl + 6 ≤ 59830) (sx sm : St) (oc : Nat → Int64) (q : SL) (H : Heap) (locs : List Loc) (ls : Array Slot) (hP : va_P D vwCl (wLw h cI cJ cZ (sx, sm, oc)) H) (hD : va_D A (wLw h cI cJ cZ (sx, sm, oc))) (hS : va_S A s.heap H locs) (hl : lv_has ls 7 [(0, .ref b), (1, .ref (h 0)), (2, .ref (h 14)), (3, .ref (h 31)), (4, .int (nI i))]) (hF : A_law_6 n i xs sx sm oc = some q) (kx : ∀ (H1 : Heap) (locs1 : List Loc) (ls1 : Array Slot) (c1 s1 : Nat), c1 ≤ cl + 1 → s1 ≤ sl + 6 → va_P D vwCl (wLw h cI cJ cZ q) H1 → va_D A (wLw h cI cJ cZ q) → va_S A s.heap H1 locs1 → lv_has ls1 7 [(0, .ref b), (1, .ref (h 0)), (2, .ref (h 14)), (3, .ref (h 31)), (4, .int (nI i))] → W p l e room_1 s m args below meth c H1 locs1 c1 s1 Q (F0 m 856 ls1 [])) : W p l e room_1 s m args below meth c H locs cl sl Q (F0 m 471 ls []) := by
  have hx := E.1.1
  have hb := E.1.2.1
  unfold A_law_6 at hF
  refine lv_aload_n hx hb dL_law_471 rfl (lv_at hl 1 rfl) ?_
  refine lv_aload_n hx hb dL_law_472 rfl (lv_at hl 0 rfl) ?_
  refine lv_iload hx hb dL_law_473 (lv_at hl 4 rfl) ?_
  refine lv_iconst (v := 1) hx hb dL_law_475 (by decide) ?_
  refine lv_iadd hx hb dL_law_476 ?_
  refine lsd (i + 1) E hSc hbl hbA hS (nI_add i 1) (by omega) hL dL_law_477 ?_
  refine lv_aload_n hx hb dL_law_478 rfl (lv_at hl 0 rfl) ?_
  refine lv_iload hx hb dL_law_479 (lv_at hl 4 rfl) ?_
  refine lv_iconst (v := 2) hx hb dL_law_481 (by decide) ?_
  refine lv_iadd hx hb dL_law_482 ?_
  refine lsd (i + 2) E hSc hbl hbA hS (nI_add i 2) (by omega) hL dL_law_483 ?_
  refine lv_aload_n hx hb dL_law_484 rfl (lv_at hl 0 rfl) ?_
  refine lv_iload hx hb dL_law_485 (lv_at hl 4 rfl) ?_
  refine lv_iconst (v := 3) hx hb dL_law_487 (by decide) ?_
  refine lv_iadd hx hb dL_law_488 ?_
  refine lsd (i + 3) E hSc hbl hbA hS (nI_add i 3) (by omega) hL dL_law_489 ?_
  refine lv_aload_n hx hb dL_law_490 rfl (lv_at hl 3 rfl) ?_
  obtain ⟨⟨r1, u2, o4⟩, hc3, hF⟩ := be_some hF
  refine lwW (rest := []) E hA hP hD hS hl.1 hG hX hN (kL_set l hst D h cI cJ cZ n (xs (i + 1)) (xs (i + 2)) (xs (i + 3)) sx oc r1 u2 o4 hc3) cw_L_81 rfl rfl (Nat.le_of_ble_eq_true rfl) ⟨by decide, by decide⟩ ⟨by show cl + 1 ≤ 1064; omega, by show sl + 6 ≤ 59830; omega⟩ dL_law_491 (fun H locs hP hD hS => ?_)
  refine lv_istore (lv' := [(5, .int r1), (0, .ref b), (1, .ref (h 0)), (2, .ref (h 14)), (3, .ref (h 31)), (4, .int (nI i))]) hx hb dL_law_494 hl (by decide) rfl (fun ls hl => ?_)
  refine lv_aload_n hx hb dL_law_496 rfl (lv_at hl 3 rfl) ?_
  refine lv_aload_n hx hb dL_law_497 rfl (lv_at hl 1 rfl) ?_
  refine lv_iload hx hb dL_law_498 (lv_at hl 5 rfl) ?_
  refine lv_iconst (v := 1) hx hb dL_law_500 (by decide) ?_
  refine lv_iadd hx hb dL_law_501 ?_
  refine lsd (i + 1) E hSc hbl hbA hS (nI_add i 1) (by omega) hL dL_law_502 ?_
  refine lv_aload_n hx hb dL_law_503 rfl (lv_at hl 1 rfl) ?_
  refine lv_iload hx hb dL_law_504 (lv_at hl 5 rfl) ?_
  refine lv_iconst (v := 2) hx hb dL_law_506 (by decide) ?_
  refine lv_iadd hx hb dL_law_507 ?_
  refine lsd (i + 2) E hSc hbl hbA hS (nI_add i 2) (by omega) hL dL_law_508 ?_
  refine lv_aload_n hx hb dL_law_509 rfl (lv_at hl 1 rfl) ?_
  refine lv_iload hx hb dL_law_510 (lv_at hl 5 rfl) ?_
  refine lv_iconst (v := 3) hx hb dL_law_512 (by decide) ?_
  refine lv_iadd hx hb dL_law_513 ?_
  refine lsd (i + 3) E hSc hbl hbA hS (nI_add i 3) (by omega) hL dL_law_514 ?_
  obtain ⟨r5, u6, hc7, hF⟩ := bd_some hF
  refine lwM_i (rest := []) E hA hP hD hS hl.1 (kX3_set l D h cI cJ cZ n (xs (i + 1)) (xs (i + 2)) (xs (i + 3)) sm r5 u6 hc7) cw_L_83 rfl rfl (Nat.le_of_ble_eq_true rfl) ⟨by decide, by decide⟩ ⟨by show cl + 1 ≤ 1064; omega, by show sl + 6 ≤ 59830; omega⟩ dL_law_515 (fun H locs hP hD hS => ?_)
  refine lv_istore (lv' := [(6, .int r5), (5, .int r1), (0, .ref b), (1, .ref (h 0)), (2, .ref (h 14)), (3, .ref (h 31)), (4, .int (nI i))]) hx hb dL_law_518 hl (by decide) rfl (fun ls hl => ?_)
  refine lv_aload_n hx hb dL_law_520 rfl (lv_at hl 4 rfl) ?_
  obtain ⟨r8, u9, hc10, hF⟩ := bd_some hF
  refine lwM_i (rest := []) E hA hP hD hS hl.1 (kX3_thrown l D h cI cJ cZ n  u6 r8 u9 hc10) cw_L_59 rfl rfl (Nat.le_of_ble_eq_true rfl) ⟨by decide, by decide⟩ ⟨by show cl + 1 ≤ 1064; omega, by show sl + 6 ≤ 59830; omega⟩ dL_law_521 (fun H locs hP hD hS => ?_)
  refine lv_iload hx hb dL_law_524 (lv_at hl 1 rfl) ?_
  refine lv_icmp_eq (tgt := 531) hx hb dL_law_526 (by decide) (fun hc => ?_) (fun hc => ?_)
  · have hF := if_t hc hF
    refine lv_iload hx hb dL_law_531 (lv_at hl 1 rfl) ?_
    refine lv_if_ne (tgt := 548) hx hb dL_law_533 (by decide) (fun hc => ?_) (fun hc => ?_)
    · have hF := if_f hc hF
      refine lv_goto (tgt := 856) hx hb dL_law_548 (by decide) ?_
      cases hF
      exact kx _ _ _ (cl + 1) (sl + 6) (by omega) (by omega) hP hD hS (lv_sub hl [2, 3, 4, 5, 6] rfl)
    · have hF := if_t hc hF
      refine lv_aload_n hx hb dL_law_536 rfl (lv_at hl 5 rfl) ?_
      refine lv_iconst (v := 0) hx hb dL_law_537 (by decide) ?_
      refine la_31 E hP (by unfold vp_in; decide) dL_law_538 ?_
      refine lv_iload hx hb dL_law_539 (lv_at hl 0 rfl) ?_
      refine lv_i2l hx hb dL_law_541 rfl ?_
      refine W.lcmp hx hb dL_law_542 ?_
      refine lv_if_eq (tgt := 548) hx hb dL_law_543 (by decide) (fun hc => ?_) (fun hc => ?_)
      · have hF := if_t hc hF
        refine lv_goto (tgt := 856) hx hb dL_law_548 (by decide) ?_
        cases hF
        exact kx _ _ _ (cl + 1) (sl + 6) (by omega) (by omega) hP hD hS (lv_sub hl [2, 3, 4, 5, 6] rfl)
      · have hF := if_f hc hF
        cases hF
  · have hF := if_f hc hF
    cases hF
def A_law_7 (n : Nat) (i : Nat) (xs : Nat → Int32) (sx sm : St) (oc : Nat → Int64) : Option SL := be (FL_loose n (xs (i + 1)) (xs (i + 2)) sx oc) (fun (r1, u2, o4) => bd (FX3_loose n (xs (i + 1)) (xs (i + 2)) sm) (fun r5 u6 => bd (FX3_thrown n  u6) (fun r8 u9 => (if r8 = r1 then (if r1 = 0 then (if (lg_cmp (o4 (0 : Int32).toNatClampNeg) r5.toInt64) = 0 then some (u2, u9, o4) else none) else some (u2, u9, o4)) else none))))
set_option maxHeartbeats 4000000 in
set_option maxRecDepth 100000 in
theorem a_law_7 {l : Launch} {D : va_G} {h : Nat → Nat} {cI cJ cZ : ClassId} {p : Program} {e : Env} {s : State} {m : MethodId} {args : Array Value} {below : List Frame} {meth : Method} {c : Code} {A : Nat → Prop} {Q : State → Prop} {b L : Nat} {xs : Nat → Int32} (hst : l.stackTraces = false) (hL : L ≤ 2048) (E : Env1 p s m args c cL_law 7 RL D (tyL cI cJ cZ)) (hA : ∀ q : Nat, s.heap.size ≤ q → A q) (hG : XG A s s.heap) (hX : XS s) (hN : XN s) (hSc : va_X b L xs s s.heap) (hbl : b < s.heap.size) (hbA : ¬ A b) (n i cl sl : Nat) (hi : i + 4 ≤ L) (hcl : cl + 1 ≤ 1064) (hsl : sl + 6 ≤ 59830) (sx sm : St) (oc : Nat → Int64) (q : SL) (H : Heap) (locs : List Loc) (ls : Array Slot) (hP : va_P D vwCl (wLw h cI cJ cZ (sx, sm, oc)) H) (hD : va_D A (wLw h cI cJ cZ (sx, sm, oc))) (hS : va_S A s.heap H locs) (hl : lv_has ls 7 [(0, .ref b), (1, .ref (h 0)), (2, .ref (h 14)), (3, .ref (h 31)), (4, .int (nI i))]) (hF : A_law_7 n i xs sx sm oc = some q) (kx : ∀ (H1 : Heap) (locs1 : List Loc) (ls1 : Array Slot) (c1 s1 : Nat), c1 ≤ cl + 1 → s1 ≤ sl + 6 → va_P D vwCl (wLw h cI cJ cZ q) H1 → va_D A (wLw h cI cJ cZ q) → va_S A s.heap H1 locs1 → lv_has ls1 7 [(0, .ref b), (1, .ref (h 0)), (2, .ref (h 14)), (3, .ref (h 31)), (4, .int (nI i))] → W p l e room_1 s m args below meth c H1 locs1 c1 s1 Q (F0 m 856 ls1 [])) : W p l e room_1 s m args below meth c H locs cl sl Q (F0 m 551 ls []) := by
  have hx := E.1.1
  have hb := E.1.2.1
  unfold A_law_7 at hF
  refine lv_aload_n hx hb dL_law_551 rfl (lv_at hl 1 rfl) ?_
  refine lv_aload_n hx hb dL_law_552 rfl (lv_at hl 0 rfl) ?_
  refine lv_iload hx hb dL_law_553 (lv_at hl 4 rfl) ?_
  refine lv_iconst (v := 1) hx hb dL_law_555 (by decide) ?_
  refine lv_iadd hx hb dL_law_556 ?_
  refine lsd (i + 1) E hSc hbl hbA hS (nI_add i 1) (by omega) hL dL_law_557 ?_
  refine lv_aload_n hx hb dL_law_558 rfl (lv_at hl 0 rfl) ?_
  refine lv_iload hx hb dL_law_559 (lv_at hl 4 rfl) ?_
  refine lv_iconst (v := 2) hx hb dL_law_561 (by decide) ?_
  refine lv_iadd hx hb dL_law_562 ?_
  refine lsd (i + 2) E hSc hbl hbA hS (nI_add i 2) (by omega) hL dL_law_563 ?_
  refine lv_aload_n hx hb dL_law_564 rfl (lv_at hl 3 rfl) ?_
  obtain ⟨⟨r1, u2, o4⟩, hc3, hF⟩ := be_some hF
  refine lwW (rest := []) E hA hP hD hS hl.1 hG hX hN (kL_loose l hst D h cI cJ cZ n (xs (i + 1)) (xs (i + 2)) sx oc r1 u2 o4 hc3) cw_L_84 rfl rfl (Nat.le_of_ble_eq_true rfl) ⟨by decide, by decide⟩ ⟨by show cl + 1 ≤ 1064; omega, by show sl + 6 ≤ 59830; omega⟩ dL_law_565 (fun H locs hP hD hS => ?_)
  refine lv_istore (lv' := [(5, .int r1), (0, .ref b), (1, .ref (h 0)), (2, .ref (h 14)), (3, .ref (h 31)), (4, .int (nI i))]) hx hb dL_law_568 hl (by decide) rfl (fun ls hl => ?_)
  refine lv_aload_n hx hb dL_law_570 rfl (lv_at hl 3 rfl) ?_
  refine lv_aload_n hx hb dL_law_571 rfl (lv_at hl 1 rfl) ?_
  refine lv_iload hx hb dL_law_572 (lv_at hl 5 rfl) ?_
  refine lv_iconst (v := 1) hx hb dL_law_574 (by decide) ?_
  refine lv_iadd hx hb dL_law_575 ?_
  refine lsd (i + 1) E hSc hbl hbA hS (nI_add i 1) (by omega) hL dL_law_576 ?_
  refine lv_aload_n hx hb dL_law_577 rfl (lv_at hl 1 rfl) ?_
  refine lv_iload hx hb dL_law_578 (lv_at hl 5 rfl) ?_
  refine lv_iconst (v := 2) hx hb dL_law_580 (by decide) ?_
  refine lv_iadd hx hb dL_law_581 ?_
  refine lsd (i + 2) E hSc hbl hbA hS (nI_add i 2) (by omega) hL dL_law_582 ?_
  obtain ⟨r5, u6, hc7, hF⟩ := bd_some hF
  refine lwM_i (rest := []) E hA hP hD hS hl.1 (kX3_loose l D h cI cJ cZ n (xs (i + 1)) (xs (i + 2)) sm r5 u6 hc7) cw_L_87 rfl rfl (Nat.le_of_ble_eq_true rfl) ⟨by decide, by decide⟩ ⟨by show cl + 1 ≤ 1064; omega, by show sl + 6 ≤ 59830; omega⟩ dL_law_583 (fun H locs hP hD hS => ?_)
  refine lv_istore (lv' := [(6, .int r5), (5, .int r1), (0, .ref b), (1, .ref (h 0)), (2, .ref (h 14)), (3, .ref (h 31)), (4, .int (nI i))]) hx hb dL_law_586 hl (by decide) rfl (fun ls hl => ?_)
  refine lv_aload_n hx hb dL_law_588 rfl (lv_at hl 4 rfl) ?_
  obtain ⟨r8, u9, hc10, hF⟩ := bd_some hF
  refine lwM_i (rest := []) E hA hP hD hS hl.1 (kX3_thrown l D h cI cJ cZ n  u6 r8 u9 hc10) cw_L_59 rfl rfl (Nat.le_of_ble_eq_true rfl) ⟨by decide, by decide⟩ ⟨by show cl + 1 ≤ 1064; omega, by show sl + 6 ≤ 59830; omega⟩ dL_law_589 (fun H locs hP hD hS => ?_)
  refine lv_iload hx hb dL_law_592 (lv_at hl 1 rfl) ?_
  refine lv_icmp_eq (tgt := 599) hx hb dL_law_594 (by decide) (fun hc => ?_) (fun hc => ?_)
  · have hF := if_t hc hF
    refine lv_iload hx hb dL_law_599 (lv_at hl 1 rfl) ?_
    refine lv_if_ne (tgt := 616) hx hb dL_law_601 (by decide) (fun hc => ?_) (fun hc => ?_)
    · have hF := if_f hc hF
      refine lv_goto (tgt := 856) hx hb dL_law_616 (by decide) ?_
      cases hF
      exact kx _ _ _ (cl + 1) (sl + 6) (by omega) (by omega) hP hD hS (lv_sub hl [2, 3, 4, 5, 6] rfl)
    · have hF := if_t hc hF
      refine lv_aload_n hx hb dL_law_604 rfl (lv_at hl 5 rfl) ?_
      refine lv_iconst (v := 0) hx hb dL_law_605 (by decide) ?_
      refine la_31 E hP (by unfold vp_in; decide) dL_law_606 ?_
      refine lv_iload hx hb dL_law_607 (lv_at hl 0 rfl) ?_
      refine lv_i2l hx hb dL_law_609 rfl ?_
      refine W.lcmp hx hb dL_law_610 ?_
      refine lv_if_eq (tgt := 616) hx hb dL_law_611 (by decide) (fun hc => ?_) (fun hc => ?_)
      · have hF := if_t hc hF
        refine lv_goto (tgt := 856) hx hb dL_law_616 (by decide) ?_
        cases hF
        exact kx _ _ _ (cl + 1) (sl + 6) (by omega) (by omega) hP hD hS (lv_sub hl [2, 3, 4, 5, 6] rfl)
      · have hF := if_f hc hF
        cases hF
  · have hF := if_f hc hF
    cases hF
def A_law_8 (n : Nat) (i : Nat) (xs : Nat → Int32) (sx sm : St) (oc : Nat → Int64) : Option SL := be (FL_take n (xs (i + 1)) (xs (i + 2)) sx oc) (fun (r1, u2, o4) => bd (FX3_take n (xs (i + 1)) (xs (i + 2)) sm) (fun r5 u6 => bd (FX3_thrown n  u6) (fun r8 u9 => (if r8 = r1 then (if r1 = 0 then (if r5 = 0 then (if (lg_cmp (o4 (0 : Int32).toNatClampNeg) (0 : Int64)) = 0 then some (u2, u9, o4) else none) else (if (lg_cmp (o4 (0 : Int32).toNatClampNeg) (1 : Int64)) = 0 then some (u2, u9, o4) else none)) else some (u2, u9, o4)) else none))))
set_option maxHeartbeats 4000000 in
set_option maxRecDepth 100000 in
theorem a_law_8 {l : Launch} {D : va_G} {h : Nat → Nat} {cI cJ cZ : ClassId} {p : Program} {e : Env} {s : State} {m : MethodId} {args : Array Value} {below : List Frame} {meth : Method} {c : Code} {A : Nat → Prop} {Q : State → Prop} {b L : Nat} {xs : Nat → Int32} (hst : l.stackTraces = false) (hL : L ≤ 2048) (E : Env1 p s m args c cL_law 7 RL D (tyL cI cJ cZ)) (hA : ∀ q : Nat, s.heap.size ≤ q → A q) (hG : XG A s s.heap) (hX : XS s) (hN : XN s) (hSc : va_X b L xs s s.heap) (hbl : b < s.heap.size) (hbA : ¬ A b) (n i cl sl : Nat) (hi : i + 4 ≤ L) (hcl : cl + 1 ≤ 1064) (hsl : sl + 6 ≤ 59830) (sx sm : St) (oc : Nat → Int64) (q : SL) (H : Heap) (locs : List Loc) (ls : Array Slot) (hP : va_P D vwCl (wLw h cI cJ cZ (sx, sm, oc)) H) (hD : va_D A (wLw h cI cJ cZ (sx, sm, oc))) (hS : va_S A s.heap H locs) (hl : lv_has ls 7 [(0, .ref b), (1, .ref (h 0)), (2, .ref (h 14)), (3, .ref (h 31)), (4, .int (nI i))]) (hF : A_law_8 n i xs sx sm oc = some q) (kx : ∀ (H1 : Heap) (locs1 : List Loc) (ls1 : Array Slot) (c1 s1 : Nat), c1 ≤ cl + 1 → s1 ≤ sl + 6 → va_P D vwCl (wLw h cI cJ cZ q) H1 → va_D A (wLw h cI cJ cZ q) → va_S A s.heap H1 locs1 → lv_has ls1 7 [(0, .ref b), (1, .ref (h 0)), (2, .ref (h 14)), (3, .ref (h 31)), (4, .int (nI i))] → W p l e room_1 s m args below meth c H1 locs1 c1 s1 Q (F0 m 856 ls1 [])) : W p l e room_1 s m args below meth c H locs cl sl Q (F0 m 619 ls []) := by
  have hx := E.1.1
  have hb := E.1.2.1
  unfold A_law_8 at hF
  refine lv_aload_n hx hb dL_law_619 rfl (lv_at hl 1 rfl) ?_
  refine lv_aload_n hx hb dL_law_620 rfl (lv_at hl 0 rfl) ?_
  refine lv_iload hx hb dL_law_621 (lv_at hl 4 rfl) ?_
  refine lv_iconst (v := 1) hx hb dL_law_623 (by decide) ?_
  refine lv_iadd hx hb dL_law_624 ?_
  refine lsd (i + 1) E hSc hbl hbA hS (nI_add i 1) (by omega) hL dL_law_625 ?_
  refine lv_aload_n hx hb dL_law_626 rfl (lv_at hl 0 rfl) ?_
  refine lv_iload hx hb dL_law_627 (lv_at hl 4 rfl) ?_
  refine lv_iconst (v := 2) hx hb dL_law_629 (by decide) ?_
  refine lv_iadd hx hb dL_law_630 ?_
  refine lsd (i + 2) E hSc hbl hbA hS (nI_add i 2) (by omega) hL dL_law_631 ?_
  refine lv_aload_n hx hb dL_law_632 rfl (lv_at hl 3 rfl) ?_
  obtain ⟨⟨r1, u2, o4⟩, hc3, hF⟩ := be_some hF
  refine lwW (rest := []) E hA hP hD hS hl.1 hG hX hN (kL_take l hst D h cI cJ cZ n (xs (i + 1)) (xs (i + 2)) sx oc r1 u2 o4 hc3) cw_L_88 rfl rfl (Nat.le_of_ble_eq_true rfl) ⟨by decide, by decide⟩ ⟨by show cl + 1 ≤ 1064; omega, by show sl + 6 ≤ 59830; omega⟩ dL_law_633 (fun H locs hP hD hS => ?_)
  refine lv_istore (lv' := [(5, .int r1), (0, .ref b), (1, .ref (h 0)), (2, .ref (h 14)), (3, .ref (h 31)), (4, .int (nI i))]) hx hb dL_law_636 hl (by decide) rfl (fun ls hl => ?_)
  refine lv_aload_n hx hb dL_law_638 rfl (lv_at hl 3 rfl) ?_
  refine lv_aload_n hx hb dL_law_639 rfl (lv_at hl 1 rfl) ?_
  refine lv_iload hx hb dL_law_640 (lv_at hl 5 rfl) ?_
  refine lv_iconst (v := 1) hx hb dL_law_642 (by decide) ?_
  refine lv_iadd hx hb dL_law_643 ?_
  refine lsd (i + 1) E hSc hbl hbA hS (nI_add i 1) (by omega) hL dL_law_644 ?_
  refine lv_aload_n hx hb dL_law_645 rfl (lv_at hl 1 rfl) ?_
  refine lv_iload hx hb dL_law_646 (lv_at hl 5 rfl) ?_
  refine lv_iconst (v := 2) hx hb dL_law_648 (by decide) ?_
  refine lv_iadd hx hb dL_law_649 ?_
  refine lsd (i + 2) E hSc hbl hbA hS (nI_add i 2) (by omega) hL dL_law_650 ?_
  obtain ⟨r5, u6, hc7, hF⟩ := bd_some hF
  refine lwM_i (rest := []) E hA hP hD hS hl.1 (kX3_take l D h cI cJ cZ n (xs (i + 1)) (xs (i + 2)) sm r5 u6 hc7) cw_L_90 rfl rfl (Nat.le_of_ble_eq_true rfl) ⟨by decide, by decide⟩ ⟨by show cl + 1 ≤ 1064; omega, by show sl + 6 ≤ 59830; omega⟩ dL_law_651 (fun H locs hP hD hS => ?_)
  refine lv_istore (lv' := [(6, .int r5), (5, .int r1), (0, .ref b), (1, .ref (h 0)), (2, .ref (h 14)), (3, .ref (h 31)), (4, .int (nI i))]) hx hb dL_law_654 hl (by decide) rfl (fun ls hl => ?_)
  refine lv_aload_n hx hb dL_law_656 rfl (lv_at hl 4 rfl) ?_
  obtain ⟨r8, u9, hc10, hF⟩ := bd_some hF
  refine lwM_i (rest := []) E hA hP hD hS hl.1 (kX3_thrown l D h cI cJ cZ n  u6 r8 u9 hc10) cw_L_59 rfl rfl (Nat.le_of_ble_eq_true rfl) ⟨by decide, by decide⟩ ⟨by show cl + 1 ≤ 1064; omega, by show sl + 6 ≤ 59830; omega⟩ dL_law_657 (fun H locs hP hD hS => ?_)
  refine lv_iload hx hb dL_law_660 (lv_at hl 1 rfl) ?_
  refine lv_icmp_eq (tgt := 667) hx hb dL_law_662 (by decide) (fun hc => ?_) (fun hc => ?_)
  · have hF := if_t hc hF
    refine lv_iload hx hb dL_law_667 (lv_at hl 1 rfl) ?_
    refine lv_if_ne (tgt := 691) hx hb dL_law_669 (by decide) (fun hc => ?_) (fun hc => ?_)
    · have hF := if_f hc hF
      refine lv_goto (tgt := 856) hx hb dL_law_691 (by decide) ?_
      cases hF
      exact kx _ _ _ (cl + 1) (sl + 6) (by omega) (by omega) hP hD hS (lv_sub hl [2, 3, 4, 5, 6] rfl)
    · have hF := if_t hc hF
      refine lv_aload_n hx hb dL_law_672 rfl (lv_at hl 5 rfl) ?_
      refine lv_iconst (v := 0) hx hb dL_law_673 (by decide) ?_
      refine la_31 E hP (by unfold vp_in; decide) dL_law_674 ?_
      refine lv_iload hx hb dL_law_675 (lv_at hl 0 rfl) ?_
      refine lv_if_eq (tgt := 684) hx hb dL_law_677 (by decide) (fun hc => ?_) (fun hc => ?_)
      · have hF := if_t hc hF
        refine lv_lconst (v := 0) hx hb dL_law_684 rfl ?_
        refine W.lcmp hx hb dL_law_685 ?_
        refine lv_if_eq (tgt := 691) hx hb dL_law_686 (by decide) (fun hc => ?_) (fun hc => ?_)
        · have hF := if_t hc hF
          refine lv_goto (tgt := 856) hx hb dL_law_691 (by decide) ?_
          cases hF
          exact kx _ _ _ (cl + 1) (sl + 6) (by omega) (by omega) hP hD hS (lv_sub hl [2, 3, 4, 5, 6] rfl)
        · have hF := if_f hc hF
          cases hF
      · have hF := if_f hc hF
        refine lv_lconst (v := 1) hx hb dL_law_680 rfl ?_
        refine lv_goto (tgt := 685) hx hb dL_law_681 (by decide) ?_
        refine W.lcmp hx hb dL_law_685 ?_
        refine lv_if_eq (tgt := 691) hx hb dL_law_686 (by decide) (fun hc => ?_) (fun hc => ?_)
        · have hF := if_t hc hF
          refine lv_goto (tgt := 856) hx hb dL_law_691 (by decide) ?_
          cases hF
          exact kx _ _ _ (cl + 1) (sl + 6) (by omega) (by omega) hP hD hS (lv_sub hl [2, 3, 4, 5, 6] rfl)
        · have hF := if_f hc hF
          cases hF
  · have hF := if_f hc hF
    cases hF
def A_law_9 (n : Nat) (i : Nat) (xs : Nat → Int32) (sx sm : St) (oc : Nat → Int64) : Option SL := bd (FX2_collect n  sx) (fun r1 u2 => bd (FX3_collect n  sm) (fun r4 u5 => (if r1 = r4 then some (u2, u5, oc) else none)))
set_option maxHeartbeats 4000000 in
set_option maxRecDepth 100000 in
theorem a_law_9 {l : Launch} {D : va_G} {h : Nat → Nat} {cI cJ cZ : ClassId} {p : Program} {e : Env} {s : State} {m : MethodId} {args : Array Value} {below : List Frame} {meth : Method} {c : Code} {A : Nat → Prop} {Q : State → Prop} {b L : Nat} {xs : Nat → Int32} (hst : l.stackTraces = false) (hL : L ≤ 2048) (E : Env1 p s m args c cL_law 7 RL D (tyL cI cJ cZ)) (hA : ∀ q : Nat, s.heap.size ≤ q → A q) (hG : XG A s s.heap) (hX : XS s) (hN : XN s) (hSc : va_X b L xs s s.heap) (hbl : b < s.heap.size) (hbA : ¬ A b) (n i cl sl : Nat) (hi : i + 4 ≤ L) (hcl : cl + 1 ≤ 1064) (hsl : sl + 6 ≤ 59830) (sx sm : St) (oc : Nat → Int64) (q : SL) (H : Heap) (locs : List Loc) (ls : Array Slot) (hP : va_P D vwCl (wLw h cI cJ cZ (sx, sm, oc)) H) (hD : va_D A (wLw h cI cJ cZ (sx, sm, oc))) (hS : va_S A s.heap H locs) (hl : lv_has ls 7 [(0, .ref b), (1, .ref (h 0)), (2, .ref (h 14)), (3, .ref (h 31)), (4, .int (nI i))]) (hF : A_law_9 n i xs sx sm oc = some q) (kx : ∀ (H1 : Heap) (locs1 : List Loc) (ls1 : Array Slot) (c1 s1 : Nat), c1 ≤ cl + 1 → s1 ≤ sl + 6 → va_P D vwCl (wLw h cI cJ cZ q) H1 → va_D A (wLw h cI cJ cZ q) → va_S A s.heap H1 locs1 → lv_has ls1 7 [(0, .ref b), (1, .ref (h 0)), (2, .ref (h 14)), (3, .ref (h 31)), (4, .int (nI i))] → W p l e room_1 s m args below meth c H1 locs1 c1 s1 Q (F0 m 856 ls1 [])) : W p l e room_1 s m args below meth c H locs cl sl Q (F0 m 694 ls []) := by
  have hx := E.1.1
  have hb := E.1.2.1
  unfold A_law_9 at hF
  refine lv_aload_n hx hb dL_law_694 rfl (lv_at hl 1 rfl) ?_
  obtain ⟨r1, u2, hc3, hF⟩ := bd_some hF
  refine lwX_i (rest := []) E hA hP hD hS hl.1 (kX2_collect l D h cI cJ cZ n  sx r1 u2 hc3) cw_L_91 rfl rfl (Nat.le_of_ble_eq_true rfl) ⟨by decide, by decide⟩ ⟨by show cl ≤ 1064; omega, by show sl ≤ 59830; omega⟩ dL_law_695 (fun H locs hP hD hS => ?_)
  refine lv_aload_n hx hb dL_law_698 rfl (lv_at hl 2 rfl) ?_
  obtain ⟨r4, u5, hc6, hF⟩ := bd_some hF
  refine lwM_i (rest := [.int r1]) E hA hP hD hS hl.1 (kX3_collect l D h cI cJ cZ n  sm r4 u5 hc6) cw_L_94 rfl rfl (Nat.le_of_ble_eq_true rfl) ⟨by decide, by decide⟩ ⟨by show cl ≤ 1064; omega, by show sl ≤ 59830; omega⟩ dL_law_699 (fun H locs hP hD hS => ?_)
  refine lv_icmp_eq (tgt := 856) hx hb dL_law_702 (by decide) (fun hc => ?_) (fun hc => ?_)
  · have hF := if_t hc hF
    cases hF
    exact kx _ _ _ cl sl (by omega) (by omega) hP hD hS (lv_sub hl [0, 1, 2, 3, 4] rfl)
  · have hF := if_f hc hF
    cases hF
def A_law_10 (n : Nat) (i : Nat) (xs : Nat → Int32) (sx sm : St) (oc : Nat → Int64) : Option SL := bd (FX2_root n (xs (i + 1)) sx) (fun r1 u2 => bd (FX3_root n (xs (i + 1)) sm) (fun r4 u5 => (if r1 = r4 then some (u2, u5, oc) else none)))
set_option maxHeartbeats 4000000 in
set_option maxRecDepth 100000 in
theorem a_law_10 {l : Launch} {D : va_G} {h : Nat → Nat} {cI cJ cZ : ClassId} {p : Program} {e : Env} {s : State} {m : MethodId} {args : Array Value} {below : List Frame} {meth : Method} {c : Code} {A : Nat → Prop} {Q : State → Prop} {b L : Nat} {xs : Nat → Int32} (hst : l.stackTraces = false) (hL : L ≤ 2048) (E : Env1 p s m args c cL_law 7 RL D (tyL cI cJ cZ)) (hA : ∀ q : Nat, s.heap.size ≤ q → A q) (hG : XG A s s.heap) (hX : XS s) (hN : XN s) (hSc : va_X b L xs s s.heap) (hbl : b < s.heap.size) (hbA : ¬ A b) (n i cl sl : Nat) (hi : i + 4 ≤ L) (hcl : cl + 1 ≤ 1064) (hsl : sl + 6 ≤ 59830) (sx sm : St) (oc : Nat → Int64) (q : SL) (H : Heap) (locs : List Loc) (ls : Array Slot) (hP : va_P D vwCl (wLw h cI cJ cZ (sx, sm, oc)) H) (hD : va_D A (wLw h cI cJ cZ (sx, sm, oc))) (hS : va_S A s.heap H locs) (hl : lv_has ls 7 [(0, .ref b), (1, .ref (h 0)), (2, .ref (h 14)), (3, .ref (h 31)), (4, .int (nI i))]) (hF : A_law_10 n i xs sx sm oc = some q) (kx : ∀ (H1 : Heap) (locs1 : List Loc) (ls1 : Array Slot) (c1 s1 : Nat), c1 ≤ cl + 1 → s1 ≤ sl + 6 → va_P D vwCl (wLw h cI cJ cZ q) H1 → va_D A (wLw h cI cJ cZ q) → va_S A s.heap H1 locs1 → lv_has ls1 7 [(0, .ref b), (1, .ref (h 0)), (2, .ref (h 14)), (3, .ref (h 31)), (4, .int (nI i))] → W p l e room_1 s m args below meth c H1 locs1 c1 s1 Q (F0 m 856 ls1 [])) : W p l e room_1 s m args below meth c H locs cl sl Q (F0 m 707 ls []) := by
  have hx := E.1.1
  have hb := E.1.2.1
  unfold A_law_10 at hF
  refine lv_aload_n hx hb dL_law_707 rfl (lv_at hl 1 rfl) ?_
  refine lv_aload_n hx hb dL_law_708 rfl (lv_at hl 0 rfl) ?_
  refine lv_iload hx hb dL_law_709 (lv_at hl 4 rfl) ?_
  refine lv_iconst (v := 1) hx hb dL_law_711 (by decide) ?_
  refine lv_iadd hx hb dL_law_712 ?_
  refine lsd (i + 1) E hSc hbl hbA hS (nI_add i 1) (by omega) hL dL_law_713 ?_
  obtain ⟨r1, u2, hc3, hF⟩ := bd_some hF
  refine lwX_i (rest := []) E hA hP hD hS hl.1 (kX2_root l D h cI cJ cZ n (xs (i + 1)) sx r1 u2 hc3) cw_L_95 rfl rfl (Nat.le_of_ble_eq_true rfl) ⟨by decide, by decide⟩ ⟨by show cl ≤ 1064; omega, by show sl ≤ 59830; omega⟩ dL_law_714 (fun H locs hP hD hS => ?_)
  refine lv_aload_n hx hb dL_law_717 rfl (lv_at hl 2 rfl) ?_
  refine lv_aload_n hx hb dL_law_718 rfl (lv_at hl 0 rfl) ?_
  refine lv_iload hx hb dL_law_719 (lv_at hl 4 rfl) ?_
  refine lv_iconst (v := 1) hx hb dL_law_721 (by decide) ?_
  refine lv_iadd hx hb dL_law_722 ?_
  refine lsd (i + 1) E hSc hbl hbA hS (nI_add i 1) (by omega) hL dL_law_723 ?_
  obtain ⟨r4, u5, hc6, hF⟩ := bd_some hF
  refine lwM_i (rest := [.int r1]) E hA hP hD hS hl.1 (kX3_root l D h cI cJ cZ n (xs (i + 1)) sm r4 u5 hc6) cw_L_99 rfl rfl (Nat.le_of_ble_eq_true rfl) ⟨by decide, by decide⟩ ⟨by show cl ≤ 1064; omega, by show sl ≤ 59830; omega⟩ dL_law_724 (fun H locs hP hD hS => ?_)
  refine lv_icmp_eq (tgt := 856) hx hb dL_law_727 (by decide) (fun hc => ?_) (fun hc => ?_)
  · have hF := if_t hc hF
    cases hF
    exact kx _ _ _ cl sl (by omega) (by omega) hP hD hS (lv_sub hl [0, 1, 2, 3, 4] rfl)
  · have hF := if_f hc hF
    cases hF
def A_law_11 (n : Nat) (i : Nat) (xs : Nat → Int32) (sx sm : St) (oc : Nat → Int64) : Option SL := bd (FX2_word n (xs (i + 1)) sx) (fun r1 u2 => bd (FX3_word n (xs (i + 1)) sm) (fun r4 u5 => (if r1 = r4 then some (u2, u5, oc) else none)))
set_option maxHeartbeats 4000000 in
set_option maxRecDepth 100000 in
theorem a_law_11 {l : Launch} {D : va_G} {h : Nat → Nat} {cI cJ cZ : ClassId} {p : Program} {e : Env} {s : State} {m : MethodId} {args : Array Value} {below : List Frame} {meth : Method} {c : Code} {A : Nat → Prop} {Q : State → Prop} {b L : Nat} {xs : Nat → Int32} (hst : l.stackTraces = false) (hL : L ≤ 2048) (E : Env1 p s m args c cL_law 7 RL D (tyL cI cJ cZ)) (hA : ∀ q : Nat, s.heap.size ≤ q → A q) (hG : XG A s s.heap) (hX : XS s) (hN : XN s) (hSc : va_X b L xs s s.heap) (hbl : b < s.heap.size) (hbA : ¬ A b) (n i cl sl : Nat) (hi : i + 4 ≤ L) (hcl : cl + 1 ≤ 1064) (hsl : sl + 6 ≤ 59830) (sx sm : St) (oc : Nat → Int64) (q : SL) (H : Heap) (locs : List Loc) (ls : Array Slot) (hP : va_P D vwCl (wLw h cI cJ cZ (sx, sm, oc)) H) (hD : va_D A (wLw h cI cJ cZ (sx, sm, oc))) (hS : va_S A s.heap H locs) (hl : lv_has ls 7 [(0, .ref b), (1, .ref (h 0)), (2, .ref (h 14)), (3, .ref (h 31)), (4, .int (nI i))]) (hF : A_law_11 n i xs sx sm oc = some q) (kx : ∀ (H1 : Heap) (locs1 : List Loc) (ls1 : Array Slot) (c1 s1 : Nat), c1 ≤ cl + 1 → s1 ≤ sl + 6 → va_P D vwCl (wLw h cI cJ cZ q) H1 → va_D A (wLw h cI cJ cZ q) → va_S A s.heap H1 locs1 → lv_has ls1 7 [(0, .ref b), (1, .ref (h 0)), (2, .ref (h 14)), (3, .ref (h 31)), (4, .int (nI i))] → W p l e room_1 s m args below meth c H1 locs1 c1 s1 Q (F0 m 856 ls1 [])) : W p l e room_1 s m args below meth c H locs cl sl Q (F0 m 732 ls []) := by
  have hx := E.1.1
  have hb := E.1.2.1
  unfold A_law_11 at hF
  refine lv_aload_n hx hb dL_law_732 rfl (lv_at hl 1 rfl) ?_
  refine lv_aload_n hx hb dL_law_733 rfl (lv_at hl 0 rfl) ?_
  refine lv_iload hx hb dL_law_734 (lv_at hl 4 rfl) ?_
  refine lv_iconst (v := 1) hx hb dL_law_736 (by decide) ?_
  refine lv_iadd hx hb dL_law_737 ?_
  refine lsd (i + 1) E hSc hbl hbA hS (nI_add i 1) (by omega) hL dL_law_738 ?_
  obtain ⟨r1, u2, hc3, hF⟩ := bd_some hF
  refine lwX_i (rest := []) E hA hP hD hS hl.1 (kX2_word l D h cI cJ cZ n (xs (i + 1)) sx r1 u2 hc3) cw_L_100 rfl rfl (Nat.le_of_ble_eq_true rfl) ⟨by decide, by decide⟩ ⟨by show cl ≤ 1064; omega, by show sl ≤ 59830; omega⟩ dL_law_739 (fun H locs hP hD hS => ?_)
  refine lv_aload_n hx hb dL_law_742 rfl (lv_at hl 2 rfl) ?_
  refine lv_aload_n hx hb dL_law_743 rfl (lv_at hl 0 rfl) ?_
  refine lv_iload hx hb dL_law_744 (lv_at hl 4 rfl) ?_
  refine lv_iconst (v := 1) hx hb dL_law_746 (by decide) ?_
  refine lv_iadd hx hb dL_law_747 ?_
  refine lsd (i + 1) E hSc hbl hbA hS (nI_add i 1) (by omega) hL dL_law_748 ?_
  obtain ⟨r4, u5, hc6, hF⟩ := bd_some hF
  refine lwM_i (rest := [.int r1]) E hA hP hD hS hl.1 (kX3_word l D h cI cJ cZ n (xs (i + 1)) sm r4 u5 hc6) cw_L_103 rfl rfl (Nat.le_of_ble_eq_true rfl) ⟨by decide, by decide⟩ ⟨by show cl ≤ 1064; omega, by show sl ≤ 59830; omega⟩ dL_law_749 (fun H locs hP hD hS => ?_)
  refine lv_icmp_eq (tgt := 856) hx hb dL_law_752 (by decide) (fun hc => ?_) (fun hc => ?_)
  · have hF := if_t hc hF
    cases hF
    exact kx _ _ _ cl sl (by omega) (by omega) hP hD hS (lv_sub hl [0, 1, 2, 3, 4] rfl)
  · have hF := if_f hc hF
    cases hF
def A_law_12 (n : Nat) (i : Nat) (xs : Nat → Int32) (sx sm : St) (oc : Nat → Int64) : Option SL := bd (FX2_object n (xs (i + 1)) (xs (i + 2)) sx) (fun r1 u2 => bd (FX3_object n (xs (i + 1)) (xs (i + 2)) sm) (fun r4 u5 => (if r1 = r4 then some (u2, u5, oc) else none)))
set_option maxHeartbeats 4000000 in
set_option maxRecDepth 100000 in
theorem a_law_12 {l : Launch} {D : va_G} {h : Nat → Nat} {cI cJ cZ : ClassId} {p : Program} {e : Env} {s : State} {m : MethodId} {args : Array Value} {below : List Frame} {meth : Method} {c : Code} {A : Nat → Prop} {Q : State → Prop} {b L : Nat} {xs : Nat → Int32} (hst : l.stackTraces = false) (hL : L ≤ 2048) (E : Env1 p s m args c cL_law 7 RL D (tyL cI cJ cZ)) (hA : ∀ q : Nat, s.heap.size ≤ q → A q) (hG : XG A s s.heap) (hX : XS s) (hN : XN s) (hSc : va_X b L xs s s.heap) (hbl : b < s.heap.size) (hbA : ¬ A b) (n i cl sl : Nat) (hi : i + 4 ≤ L) (hcl : cl + 1 ≤ 1064) (hsl : sl + 6 ≤ 59830) (sx sm : St) (oc : Nat → Int64) (q : SL) (H : Heap) (locs : List Loc) (ls : Array Slot) (hP : va_P D vwCl (wLw h cI cJ cZ (sx, sm, oc)) H) (hD : va_D A (wLw h cI cJ cZ (sx, sm, oc))) (hS : va_S A s.heap H locs) (hl : lv_has ls 7 [(0, .ref b), (1, .ref (h 0)), (2, .ref (h 14)), (3, .ref (h 31)), (4, .int (nI i))]) (hF : A_law_12 n i xs sx sm oc = some q) (kx : ∀ (H1 : Heap) (locs1 : List Loc) (ls1 : Array Slot) (c1 s1 : Nat), c1 ≤ cl + 1 → s1 ≤ sl + 6 → va_P D vwCl (wLw h cI cJ cZ q) H1 → va_D A (wLw h cI cJ cZ q) → va_S A s.heap H1 locs1 → lv_has ls1 7 [(0, .ref b), (1, .ref (h 0)), (2, .ref (h 14)), (3, .ref (h 31)), (4, .int (nI i))] → W p l e room_1 s m args below meth c H1 locs1 c1 s1 Q (F0 m 856 ls1 [])) : W p l e room_1 s m args below meth c H locs cl sl Q (F0 m 757 ls []) := by
  have hx := E.1.1
  have hb := E.1.2.1
  unfold A_law_12 at hF
  refine lv_aload_n hx hb dL_law_757 rfl (lv_at hl 1 rfl) ?_
  refine lv_aload_n hx hb dL_law_758 rfl (lv_at hl 0 rfl) ?_
  refine lv_iload hx hb dL_law_759 (lv_at hl 4 rfl) ?_
  refine lv_iconst (v := 1) hx hb dL_law_761 (by decide) ?_
  refine lv_iadd hx hb dL_law_762 ?_
  refine lsd (i + 1) E hSc hbl hbA hS (nI_add i 1) (by omega) hL dL_law_763 ?_
  refine lv_aload_n hx hb dL_law_764 rfl (lv_at hl 0 rfl) ?_
  refine lv_iload hx hb dL_law_765 (lv_at hl 4 rfl) ?_
  refine lv_iconst (v := 2) hx hb dL_law_767 (by decide) ?_
  refine lv_iadd hx hb dL_law_768 ?_
  refine lsd (i + 2) E hSc hbl hbA hS (nI_add i 2) (by omega) hL dL_law_769 ?_
  obtain ⟨r1, u2, hc3, hF⟩ := bd_some hF
  refine lwX_i (rest := []) E hA hP hD hS hl.1 (kX2_object l D h cI cJ cZ n (xs (i + 1)) (xs (i + 2)) sx r1 u2 hc3) cw_L_104 rfl rfl (Nat.le_of_ble_eq_true rfl) ⟨by decide, by decide⟩ ⟨by show cl ≤ 1064; omega, by show sl ≤ 59830; omega⟩ dL_law_770 (fun H locs hP hD hS => ?_)
  refine lv_aload_n hx hb dL_law_773 rfl (lv_at hl 2 rfl) ?_
  refine lv_aload_n hx hb dL_law_774 rfl (lv_at hl 0 rfl) ?_
  refine lv_iload hx hb dL_law_775 (lv_at hl 4 rfl) ?_
  refine lv_iconst (v := 1) hx hb dL_law_777 (by decide) ?_
  refine lv_iadd hx hb dL_law_778 ?_
  refine lsd (i + 1) E hSc hbl hbA hS (nI_add i 1) (by omega) hL dL_law_779 ?_
  refine lv_aload_n hx hb dL_law_780 rfl (lv_at hl 0 rfl) ?_
  refine lv_iload hx hb dL_law_781 (lv_at hl 4 rfl) ?_
  refine lv_iconst (v := 2) hx hb dL_law_783 (by decide) ?_
  refine lv_iadd hx hb dL_law_784 ?_
  refine lsd (i + 2) E hSc hbl hbA hS (nI_add i 2) (by omega) hL dL_law_785 ?_
  obtain ⟨r4, u5, hc6, hF⟩ := bd_some hF
  refine lwM_i (rest := [.int r1]) E hA hP hD hS hl.1 (kX3_object l D h cI cJ cZ n (xs (i + 1)) (xs (i + 2)) sm r4 u5 hc6) cw_L_107 rfl rfl (Nat.le_of_ble_eq_true rfl) ⟨by decide, by decide⟩ ⟨by show cl ≤ 1064; omega, by show sl ≤ 59830; omega⟩ dL_law_786 (fun H locs hP hD hS => ?_)
  refine lv_icmp_eq (tgt := 856) hx hb dL_law_789 (by decide) (fun hc => ?_) (fun hc => ?_)
  · have hF := if_t hc hF
    cases hF
    exact kx _ _ _ cl sl (by omega) (by omega) hP hD hS (lv_sub hl [0, 1, 2, 3, 4] rfl)
  · have hF := if_f hc hF
    cases hF
def A_law_13 (n : Nat) (i : Nat) (xs : Nat → Int32) (sx sm : St) (oc : Nat → Int64) : Option SL := bd (FX2_page n (xs (i + 1)) (xs (i + 2)) sx) (fun r1 u2 => bd (FX3_page n (xs (i + 1)) (xs (i + 2)) sm) (fun r4 u5 => (if r1 = r4 then some (u2, u5, oc) else none)))
set_option maxHeartbeats 4000000 in
set_option maxRecDepth 100000 in
theorem a_law_13 {l : Launch} {D : va_G} {h : Nat → Nat} {cI cJ cZ : ClassId} {p : Program} {e : Env} {s : State} {m : MethodId} {args : Array Value} {below : List Frame} {meth : Method} {c : Code} {A : Nat → Prop} {Q : State → Prop} {b L : Nat} {xs : Nat → Int32} (hst : l.stackTraces = false) (hL : L ≤ 2048) (E : Env1 p s m args c cL_law 7 RL D (tyL cI cJ cZ)) (hA : ∀ q : Nat, s.heap.size ≤ q → A q) (hG : XG A s s.heap) (hX : XS s) (hN : XN s) (hSc : va_X b L xs s s.heap) (hbl : b < s.heap.size) (hbA : ¬ A b) (n i cl sl : Nat) (hi : i + 4 ≤ L) (hcl : cl + 1 ≤ 1064) (hsl : sl + 6 ≤ 59830) (sx sm : St) (oc : Nat → Int64) (q : SL) (H : Heap) (locs : List Loc) (ls : Array Slot) (hP : va_P D vwCl (wLw h cI cJ cZ (sx, sm, oc)) H) (hD : va_D A (wLw h cI cJ cZ (sx, sm, oc))) (hS : va_S A s.heap H locs) (hl : lv_has ls 7 [(0, .ref b), (1, .ref (h 0)), (2, .ref (h 14)), (3, .ref (h 31)), (4, .int (nI i))]) (hF : A_law_13 n i xs sx sm oc = some q) (kx : ∀ (H1 : Heap) (locs1 : List Loc) (ls1 : Array Slot) (c1 s1 : Nat), c1 ≤ cl + 1 → s1 ≤ sl + 6 → va_P D vwCl (wLw h cI cJ cZ q) H1 → va_D A (wLw h cI cJ cZ q) → va_S A s.heap H1 locs1 → lv_has ls1 7 [(0, .ref b), (1, .ref (h 0)), (2, .ref (h 14)), (3, .ref (h 31)), (4, .int (nI i))] → W p l e room_1 s m args below meth c H1 locs1 c1 s1 Q (F0 m 856 ls1 [])) : W p l e room_1 s m args below meth c H locs cl sl Q (F0 m 794 ls []) := by
  have hx := E.1.1
  have hb := E.1.2.1
  unfold A_law_13 at hF
  refine lv_aload_n hx hb dL_law_794 rfl (lv_at hl 1 rfl) ?_
  refine lv_aload_n hx hb dL_law_795 rfl (lv_at hl 0 rfl) ?_
  refine lv_iload hx hb dL_law_796 (lv_at hl 4 rfl) ?_
  refine lv_iconst (v := 1) hx hb dL_law_798 (by decide) ?_
  refine lv_iadd hx hb dL_law_799 ?_
  refine lsd (i + 1) E hSc hbl hbA hS (nI_add i 1) (by omega) hL dL_law_800 ?_
  refine lv_aload_n hx hb dL_law_801 rfl (lv_at hl 0 rfl) ?_
  refine lv_iload hx hb dL_law_802 (lv_at hl 4 rfl) ?_
  refine lv_iconst (v := 2) hx hb dL_law_804 (by decide) ?_
  refine lv_iadd hx hb dL_law_805 ?_
  refine lsd (i + 2) E hSc hbl hbA hS (nI_add i 2) (by omega) hL dL_law_806 ?_
  obtain ⟨r1, u2, hc3, hF⟩ := bd_some hF
  refine lwX_i (rest := []) E hA hP hD hS hl.1 (kX2_page l D h cI cJ cZ n (xs (i + 1)) (xs (i + 2)) sx r1 u2 hc3) cw_L_108 rfl rfl (Nat.le_of_ble_eq_true rfl) ⟨by decide, by decide⟩ ⟨by show cl ≤ 1064; omega, by show sl ≤ 59830; omega⟩ dL_law_807 (fun H locs hP hD hS => ?_)
  refine lv_aload_n hx hb dL_law_810 rfl (lv_at hl 2 rfl) ?_
  refine lv_aload_n hx hb dL_law_811 rfl (lv_at hl 0 rfl) ?_
  refine lv_iload hx hb dL_law_812 (lv_at hl 4 rfl) ?_
  refine lv_iconst (v := 1) hx hb dL_law_814 (by decide) ?_
  refine lv_iadd hx hb dL_law_815 ?_
  refine lsd (i + 1) E hSc hbl hbA hS (nI_add i 1) (by omega) hL dL_law_816 ?_
  refine lv_aload_n hx hb dL_law_817 rfl (lv_at hl 0 rfl) ?_
  refine lv_iload hx hb dL_law_818 (lv_at hl 4 rfl) ?_
  refine lv_iconst (v := 2) hx hb dL_law_820 (by decide) ?_
  refine lv_iadd hx hb dL_law_821 ?_
  refine lsd (i + 2) E hSc hbl hbA hS (nI_add i 2) (by omega) hL dL_law_822 ?_
  obtain ⟨r4, u5, hc6, hF⟩ := bd_some hF
  refine lwM_i (rest := [.int r1]) E hA hP hD hS hl.1 (kX3_page l D h cI cJ cZ n (xs (i + 1)) (xs (i + 2)) sm r4 u5 hc6) cw_L_111 rfl rfl (Nat.le_of_ble_eq_true rfl) ⟨by decide, by decide⟩ ⟨by show cl ≤ 1064; omega, by show sl ≤ 59830; omega⟩ dL_law_823 (fun H locs hP hD hS => ?_)
  refine lv_icmp_eq (tgt := 856) hx hb dL_law_826 (by decide) (fun hc => ?_) (fun hc => ?_)
  · have hF := if_t hc hF
    cases hF
    exact kx _ _ _ cl sl (by omega) (by omega) hP hD hS (lv_sub hl [0, 1, 2, 3, 4] rfl)
  · have hF := if_f hc hF
    cases hF
def A_law_14 (n : Nat) (i : Nat) (xs : Nat → Int32) (sx sm : St) (oc : Nat → Int64) : Option SL := bd (FX2_look n (xs (i + 1)) sx) (fun r1 u2 => bd (FX3_look n (xs (i + 1)) sm) (fun r4 u5 => (if r1 = r4 then some (u2, u5, oc) else none)))
set_option maxHeartbeats 4000000 in
set_option maxRecDepth 100000 in
theorem a_law_14 {l : Launch} {D : va_G} {h : Nat → Nat} {cI cJ cZ : ClassId} {p : Program} {e : Env} {s : State} {m : MethodId} {args : Array Value} {below : List Frame} {meth : Method} {c : Code} {A : Nat → Prop} {Q : State → Prop} {b L : Nat} {xs : Nat → Int32} (hst : l.stackTraces = false) (hL : L ≤ 2048) (E : Env1 p s m args c cL_law 7 RL D (tyL cI cJ cZ)) (hA : ∀ q : Nat, s.heap.size ≤ q → A q) (hG : XG A s s.heap) (hX : XS s) (hN : XN s) (hSc : va_X b L xs s s.heap) (hbl : b < s.heap.size) (hbA : ¬ A b) (n i cl sl : Nat) (hi : i + 4 ≤ L) (hcl : cl + 1 ≤ 1064) (hsl : sl + 6 ≤ 59830) (sx sm : St) (oc : Nat → Int64) (q : SL) (H : Heap) (locs : List Loc) (ls : Array Slot) (hP : va_P D vwCl (wLw h cI cJ cZ (sx, sm, oc)) H) (hD : va_D A (wLw h cI cJ cZ (sx, sm, oc))) (hS : va_S A s.heap H locs) (hl : lv_has ls 7 [(0, .ref b), (1, .ref (h 0)), (2, .ref (h 14)), (3, .ref (h 31)), (4, .int (nI i))]) (hF : A_law_14 n i xs sx sm oc = some q) (kx : ∀ (H1 : Heap) (locs1 : List Loc) (ls1 : Array Slot) (c1 s1 : Nat), c1 ≤ cl + 1 → s1 ≤ sl + 6 → va_P D vwCl (wLw h cI cJ cZ q) H1 → va_D A (wLw h cI cJ cZ q) → va_S A s.heap H1 locs1 → lv_has ls1 7 [(0, .ref b), (1, .ref (h 0)), (2, .ref (h 14)), (3, .ref (h 31)), (4, .int (nI i))] → W p l e room_1 s m args below meth c H1 locs1 c1 s1 Q (F0 m 856 ls1 [])) : W p l e room_1 s m args below meth c H locs cl sl Q (F0 m 831 ls []) := by
  have hx := E.1.1
  have hb := E.1.2.1
  unfold A_law_14 at hF
  refine lv_aload_n hx hb dL_law_831 rfl (lv_at hl 1 rfl) ?_
  refine lv_aload_n hx hb dL_law_832 rfl (lv_at hl 0 rfl) ?_
  refine lv_iload hx hb dL_law_833 (lv_at hl 4 rfl) ?_
  refine lv_iconst (v := 1) hx hb dL_law_835 (by decide) ?_
  refine lv_iadd hx hb dL_law_836 ?_
  refine lsd (i + 1) E hSc hbl hbA hS (nI_add i 1) (by omega) hL dL_law_837 ?_
  obtain ⟨r1, u2, hc3, hF⟩ := bd_some hF
  refine lwX_i (rest := []) E hA hP hD hS hl.1 (kX2_look l D h cI cJ cZ n (xs (i + 1)) sx r1 u2 hc3) cw_L_112 rfl rfl (Nat.le_of_ble_eq_true rfl) ⟨by decide, by decide⟩ ⟨by show cl ≤ 1064; omega, by show sl ≤ 59830; omega⟩ dL_law_838 (fun H locs hP hD hS => ?_)
  refine lv_aload_n hx hb dL_law_841 rfl (lv_at hl 2 rfl) ?_
  refine lv_aload_n hx hb dL_law_842 rfl (lv_at hl 0 rfl) ?_
  refine lv_iload hx hb dL_law_843 (lv_at hl 4 rfl) ?_
  refine lv_iconst (v := 1) hx hb dL_law_845 (by decide) ?_
  refine lv_iadd hx hb dL_law_846 ?_
  refine lsd (i + 1) E hSc hbl hbA hS (nI_add i 1) (by omega) hL dL_law_847 ?_
  obtain ⟨r4, u5, hc6, hF⟩ := bd_some hF
  refine lwM_i (rest := [.int r1]) E hA hP hD hS hl.1 (kX3_look l D h cI cJ cZ n (xs (i + 1)) sm r4 u5 hc6) cw_L_115 rfl rfl (Nat.le_of_ble_eq_true rfl) ⟨by decide, by decide⟩ ⟨by show cl ≤ 1064; omega, by show sl ≤ 59830; omega⟩ dL_law_848 (fun H locs hP hD hS => ?_)
  refine lv_icmp_eq (tgt := 856) hx hb dL_law_851 (by decide) (fun hc => ?_) (fun hc => ?_)
  · have hF := if_t hc hF
    cases hF
    exact kx _ _ _ cl sl (by omega) (by omega) hP hD hS (lv_sub hl [0, 1, 2, 3, 4] rfl)
  · have hF := if_f hc hF
    cases hF
