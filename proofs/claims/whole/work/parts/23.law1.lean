/-! the law's own wrappers: over the class's cells and the array 'out' (number 31) -/
abbrev SO : Type := St × (Nat → Int64)
def wO (h : Nat → Nat) (cI cJ cZ : ClassId) (q : SO) : va_W := wX h cI cJ cZ q.1 ++ [(h 31, .inl (cJ, 1, .inr (.inl q.2)))]
def XN (U : State) : Prop := va_Nc "java/lang/IllegalStateException" "java/lang/IllegalArgumentException" U ∧ va_Nc "java/util/NoSuchElementException" "java/lang/IllegalArgumentException" U ∧ va_Nc "java/util/NoSuchElementException" "java/lang/IllegalStateException" U
theorem XN.moved {u U : State} (hvm : u.vm.Alike U.vm) (h : XN u) : XN U := ⟨h.1.moved hvm, h.2.1.moved hvm, h.2.2.moved hvm⟩
def GQ {S : Type} (D : va_G) (tys : List (ClassId × FieldType)) (w : S → va_W) (A : Nat → Prop) (r : Int32) (u : S) : Array Value → State → Outcome → State → Prop :=
  va_Qi (fun (r' : Int32) (u' : S) => r' = r ∧ u' = u) (fun u t => va_P D vwCl (w u) t.heap ∧ va_K D vwCl tys t ∧ va_D A (w u)) A
def GP (D : va_G) (tys : List (ClassId × FieldType)) (w0 : va_W) (sz : Nat) (av : List Value) : Array Value → State → Prop :=
  va_Pc av (fun U => U.heap.size = sz ∧ va_P D vwCl w0 U.heap ∧ va_K D vwCl tys U ∧ va_D (fun _ => True) w0 ∧ XG (va_A w0 sz) U U.heap ∧ XS U ∧ XN U)
theorem gp_blind {D : va_G} {tys : List (ClassId × FieldType)} {w0 : va_W} {sz : Nat} {av : List Value} : FrameBlind (GP D tys w0 sz av) := fun a U g mk q => by
  obtain ⟨q0, q1, qP, qK, qD, qG, qS, qN⟩ := q
  exact ⟨q0, q1, qP, va_K.moved (u := U) (U := U.calling g mk a) (Vm.Alike.refl U.vm) qK, qD, XG.moved (u := U) (U := U.calling g mk a) (Vm.Alike.refl U.vm) qG, XS.same (s := U) (U := U.calling g mk a) rfl qS, XN.moved (u := U) (U := U.calling g mk a) (Vm.Alike.refl U.vm) qN⟩
/-- the contract of a wrapper -/
def Cw (l : Launch) (y : MethodName) (cc : ByteArray) (n : Nat) (hh : List (Nat × Nat × Nat × Nat)) (f k : Nat) (D : va_G) (tys : List (ClassId × FieldType)) (w : SO → va_W) (st : SO) (av : List Value) (r : Int32) (u : SO) : Prop :=
  ∀ sz : Nat, vx_Met l y (Cond.codeWith y cc n (some .int) hh :: TB) (rmx f k) (GP D tys (w st) sz av) (GQ D tys w (va_A (w st) sz) r u) (fun _ _ _ => False) 1 6 (va_A (w st) sz)
theorem ge_some {α : Type} {c : Prop} [Decidable c] {a : Option α} {o : α} (h : (if c then a else none) = some o) : c ∧ a = some o := by
  by_cases hc : c
  · rw [if_pos hc] at h; exact ⟨hc, h⟩
  · rw [if_neg hc] at h; cases h
section BodiesW
variable {l : Launch} {y : MethodName} {cc : ByteArray} {n f k : Nat} {hh : List (Nat × Nat × Nat × Nat)} {D : va_G} {tys : List (ClassId × FieldType)} {w : SO → va_W} {st u : SO} {av : List Value} {r : Int32}
set_option maxHeartbeats 1000000 in
theorem body_w (hy : plainName y.cls = true) (hav : (lg_sl av).length ≤ n)
    (body : ∀ (p : Program) (e : Env) (s : State) (m : MethodId) (below : List Frame) (meth : Method) (c : Code) (A : Nat → Prop) (ls : Array Slot), Env1 p s m av.toArray c cc n y.cls D tys → meth.sig.returnType = some .int → meth.locks = false →
      (∀ q : Nat, s.heap.size ≤ q → A q) → c.exceptionTable.toList = tableOf hh → XG A s s.heap → XS s → XN s → va_P D vwCl (w st) s.heap → va_D A (w st) → va_S A s.heap s.heap [] → lv_has ls n (lv_args 0 av) →
      W p l e (rmx f k) s m av.toArray below meth c s.heap [] 0 0 (vx_MQ below (GQ D tys w A r u) (fun _ _ _ => False) av.toArray s 1 6 A) (F0 m 0 ls [])) : Cw l y cc n hh f k D tys w st av r u := by
  intro sz
  refine vx_ofWH (cc := cc) (maxL := n) (ret := some .int) (hh := hh) hy rfl ?_
  intro p e s m args below meth c s₁ B hml hv
  obtain ⟨rfl, hsz, hP, hK, hD0, hG, hXS, hXN⟩ := hv
  have hts := atoms_spec (ws := Cond.codeWith y cc n (some .int) hh :: TB) B.pre
  have hown : s.vm.findClass y.cls = some m.cls := findClass_of_methodNamed B.named
  have hEx := vx_table (x := y) B (hts _ List.mem_cons_self)
  subst hsz
  have hD := hD0.self (sz := s.heap.size)
  have hA : ∀ q : Nat, s.heap.size ≤ q → va_A (w st) s.heap.size q := fun q h => Or.inr h
  have hl := lv_entry av (n := n) hav
  rw [lg_entry_eq]
  exact body p e s m below meth c (va_A (w st) s.heap.size) _ ⟨⟨B.exec, B.bytes, hml, hown, fun w hw => hts w (List.mem_cons_of_mem _ hw)⟩, hK⟩ B.returns B.notSynchronized hA hEx hG hXS hXN hP hD va_S.rf hl
end BodiesW
section RowsW
variable {p : Program} {l : Launch} {e : Env} {R : Room} {s : State} {m : MethodId} {args : Array Value} {below : List Frame} {meth : Method} {c : Code} {H : Heap} {locs : List Loc} {pc nL cells slots : Nat} {ls : Array Slot} {cc : ByteArray} {own : String} {D : va_G} {h : Nat → Nat} {cI cJ cZ : ClassId} {st u : St} {oc : Nat → Int64} {q : SO} {v r : Int32} {A : Nat → Prop} {rest : List Value} {t : Nat} {Q : State → Prop}
variable {idx n' f' k' na : Nat} {y : MethodName} {cc' : ByteArray} {ret : Option FieldType} {As st0 : List Value}
theorem endW (E : Env1 p s m args c cc nL own D (tyL cI cJ cZ)) (hr : meth.sig.returnType = some .int) (hlocks : meth.locks = false) (hP : va_P D vwCl (wO h cI cJ cZ q) H) (hD : va_D A (wO h cI cJ cZ q)) (hS : va_S A s.heap H locs) (hc : cells ≤ 1) (hs : slots ≤ 6) (hdg : decode cc pc = .ok (.ireturn, 1)) :
    W p l e R s m args below meth c H locs cells slots (vx_MQ below (GQ D (tyL cI cJ cZ) (wO h cI cJ cZ) A r q) (fun _ _ _ => False) args s 1 6 A) (F0 m pc ls [.int r]) :=
  W.widen hc hs (vx_ret (W.iret (v := r) E.1.1 E.1.2.1 hr (fun t ht hW => ⟨⟨r, q, rfl, ⟨rfl, rfl⟩, by rw [ht]; exact hP, va_K.moved hW.alike E.2, hD⟩, hS.F ht⟩) hS.2.2 hdg hlocks))

set_option maxHeartbeats 4000000 in
set_option maxRecDepth 100000 in
theorem cwX_i (E : Env1 p s m args c cc nL RL D (tyL cI cJ cZ)) (hA : ∀ q : Nat, s.heap.size ≤ q → A q) (hP : va_P D vwCl (wO h cI cJ cZ (st, oc)) H) (hD : va_D A (wO h cI cJ cZ (st, oc))) (hS : va_S A s.heap H locs) (hls : ls.size = nL) (hM : Ci l y cc' n' ret f' k' D (tyL cI cJ cZ) (wX h cI cJ cZ) st (.ref (h 0) :: As) r u) (cw : cwd RL idx RX2 y cc' n' ret na) (hn : As.length = na) (hst : st0 = As.reverse ++ .ref (h 0) :: rest) (hW : (rest.map fun v => v.category).sum ≤ 8) (hR : f' + 1 ≤ R.frames ∧ 8 + (n' + 11) + k' ≤ R.locals) (hcs : cells ≤ R.cells ∧ slots ≤ R.slots) (hdg : decode cc pc = .ok (.invokevirtual idx, 3))
    (kk : ∀ (H1 : Heap) (locs1 : List Loc), va_P D vwCl (wO h cI cJ cZ (u, oc)) H1 → va_D A (wO h cI cJ cZ (u, oc)) → va_S A s.heap H1 locs1 → W p l e R s m args below meth c H1 locs1 cells slots Q (F0 m (pc + 3) ls (.int r :: rest))) :
    W p l e R s m args below meth c H locs cells slots Q (F0 m pc ls st0) := by
  have hPc : va_P D vwCl (wX h cI cJ cZ st) H := hP.sub [0, 1, 2, 3, 4, 5, 6, 7, 8, 9, 10, 11, 12, 13] rfl
  have hDc : va_D A (wX h cI cJ cZ st) := hD.sub [0, 1, 2, 3, 4, 5, 6, 7, 8, 9, 10, 11, 12, 13] (by decide) rfl
  have hFc := va_free (wc := wX h cI cJ cZ st) hD hS hA [0, 1, 2, 3, 4, 5, 6, 7, 8, 9, 10, 11, 12, 13] rfl
  refine va_calli (va_runV (As := As) (rest := rest) E.1 (hM H.size) (cwV na E.1.2.2.2.2 cw.1 rfl rfl rfl cw.2 hR) ⟨cp_blind, va_recv E.2 hPc (ci := 2) (q0 := 0) rfl rfl, fun U hU hW => ⟨rfl, by rw [hU], by rw [hU]; exact hPc, va_K.moved hW.alike E.2, hDc.weaken (fun _ _ _ _ => trivial)⟩⟩ rfl hn hls hst (lv_room hW) hdg hcs) hS (fun q _ h => hFc q h) hFc (fun r1 u1 t H1 locs1 ht hvm hw hB hz1 hk1 hS1 => ?_)
  obtain ⟨rfl, rfl⟩ := hw
  obtain ⟨hP1, hK1, hD1⟩ := hB
  rw [ht] at hP1
  obtain ⟨hP2, hD2⟩ := va_join (wc := wX h cI cJ cZ st) (wr := [(h 31, .inl (cJ, 1, .inr (.inl oc)))]) (w1 := wX h cI cJ cZ u1) hP hD [0, 1, 2, 3, 4, 5, 6, 7, 8, 9, 10, 11, 12, 13] [14] rfl rfl (by decide) (by decide) hk1 hFc hP1 hD1
  exact kk H1 locs1 (hP2.sub [1, 2, 3, 4, 5, 6, 7, 8, 9, 10, 11, 12, 13, 14, 0] rfl) (hD2.sub [1, 2, 3, 4, 5, 6, 7, 8, 9, 10, 11, 12, 13, 14, 0] (by decide) rfl) hS1
set_option maxHeartbeats 4000000 in
set_option maxRecDepth 100000 in
theorem cwX_v (E : Env1 p s m args c cc nL RL D (tyL cI cJ cZ)) (hA : ∀ q : Nat, s.heap.size ≤ q → A q) (hP : va_P D vwCl (wO h cI cJ cZ (st, oc)) H) (hD : va_D A (wO h cI cJ cZ (st, oc))) (hS : va_S A s.heap H locs) (hls : ls.size = nL) (hM : Cv l y cc' n' f' k' D (tyL cI cJ cZ) (wX h cI cJ cZ) st (.ref (h 0) :: As) u) (cw : cwd RL idx RX2 y cc' n' none na) (hn : As.length = na) (hst : st0 = As.reverse ++ .ref (h 0) :: rest) (hW : (rest.map fun v => v.category).sum ≤ 8) (hR : f' + 1 ≤ R.frames ∧ 8 + (n' + 11) + k' ≤ R.locals) (hcs : cells ≤ R.cells ∧ slots ≤ R.slots) (hdg : decode cc pc = .ok (.invokevirtual idx, 3))
    (kk : ∀ (H1 : Heap) (locs1 : List Loc), va_P D vwCl (wO h cI cJ cZ (u, oc)) H1 → va_D A (wO h cI cJ cZ (u, oc)) → va_S A s.heap H1 locs1 → W p l e R s m args below meth c H1 locs1 cells slots Q (F0 m (pc + 3) ls rest)) :
    W p l e R s m args below meth c H locs cells slots Q (F0 m pc ls st0) := by
  have hPc : va_P D vwCl (wX h cI cJ cZ st) H := hP.sub [0, 1, 2, 3, 4, 5, 6, 7, 8, 9, 10, 11, 12, 13] rfl
  have hDc : va_D A (wX h cI cJ cZ st) := hD.sub [0, 1, 2, 3, 4, 5, 6, 7, 8, 9, 10, 11, 12, 13] (by decide) rfl
  have hFc := va_free (wc := wX h cI cJ cZ st) hD hS hA [0, 1, 2, 3, 4, 5, 6, 7, 8, 9, 10, 11, 12, 13] rfl
  refine va_callv (va_runV (As := As) (rest := rest) E.1 (hM H.size) (cwV na E.1.2.2.2.2 cw.1 rfl rfl rfl cw.2 hR) ⟨cp_blind, va_recv E.2 hPc (ci := 2) (q0 := 0) rfl rfl, fun U hU hW => ⟨rfl, by rw [hU], by rw [hU]; exact hPc, va_K.moved hW.alike E.2, hDc.weaken (fun _ _ _ _ => trivial)⟩⟩ rfl hn hls hst (lv_room hW) hdg hcs) hS (fun q _ h => hFc q h) hFc (fun u1 t H1 locs1 ht hvm hw hB hz1 hk1 hS1 => ?_)
  subst hw
  obtain ⟨hP1, hK1, hD1⟩ := hB
  rw [ht] at hP1
  obtain ⟨hP2, hD2⟩ := va_join (wc := wX h cI cJ cZ st) (wr := [(h 31, .inl (cJ, 1, .inr (.inl oc)))]) (w1 := wX h cI cJ cZ u1) hP hD [0, 1, 2, 3, 4, 5, 6, 7, 8, 9, 10, 11, 12, 13] [14] rfl rfl (by decide) (by decide) hk1 hFc hP1 hD1
  exact kk H1 locs1 (hP2.sub [1, 2, 3, 4, 5, 6, 7, 8, 9, 10, 11, 12, 13, 14, 0] rfl) (hD2.sub [1, 2, 3, 4, 5, 6, 7, 8, 9, 10, 11, 12, 13, 14, 0] (by decide) rfl) hS1
set_option maxHeartbeats 4000000 in
set_option maxRecDepth 100000 in
theorem cwX_x (E : Env1 p s m args c cc nL RL D (tyL cI cJ cZ)) (hA : ∀ q : Nat, s.heap.size ≤ q → A q) (hP : va_P D vwCl (wO h cI cJ cZ (st, oc)) H) (hD : va_D A (wO h cI cJ cZ (st, oc))) (hS : va_S A s.heap H locs) (hls : ls.size = nL) (hG : XG A s s.heap) (hX : XS s) (hM : Cx l y cc' n' ret f' k' D (tyL cI cJ cZ) (wX h cI cJ cZ) st (.ref (h 0) :: As) t u) (cw : cwd RL idx RX2 y cc' n' ret na) (hn : As.length = na) (hst : st0 = As.reverse ++ .ref (h 0) :: rest) (hW : (rest.map fun v => v.category).sum ≤ 8) (hR : f' + 1 ≤ R.frames ∧ 8 + (n' + 11) + k' ≤ R.locals) (hcs : 1 ≤ R.cells ∧ 6 ≤ R.slots) (hdg : decode cc pc = .ok (.invokevirtual idx, 3))
    (kx : ∀ (ce : Cell) (q9 : Addr) (H1 : Heap) (locs1 : List Loc), va_P D vwCl (wO h cI cJ cZ (u, oc)) H1 → va_D A (wO h cI cJ cZ (u, oc)) → va_S A s.heap H1 locs1 → H1[q9]? = some ce → ce.vm = .none → s.vm.findClass (tagN t) = some ce.cls → vx_W p l e R s m args below meth c H1 locs1 (0 + 1) (0 + 6) Q (F0 m pc ls rest) q9) :
    W p l e R s m args below meth c H locs 0 0 Q (F0 m pc ls st0) := by
  have hPc : va_P D vwCl (wX h cI cJ cZ st) H := hP.sub [0, 1, 2, 3, 4, 5, 6, 7, 8, 9, 10, 11, 12, 13] rfl
  have hDc : va_D A (wX h cI cJ cZ st) := hD.sub [0, 1, 2, 3, 4, 5, 6, 7, 8, 9, 10, 11, 12, 13] (by decide) rfl
  have hFc := va_free (wc := wX h cI cJ cZ st) hD hS hA [0, 1, 2, 3, 4, 5, 6, 7, 8, 9, 10, 11, 12, 13] rfl
  refine vx_callv (vx_runV (As := As) (rest := rest) E.1 (hM H.size) (cwV na E.1.2.2.2.2 cw.1 rfl rfl rfl cw.2 hR) ⟨cpx_blind, va_recv E.2 hPc (ci := 2) (q0 := 0) rfl rfl, fun U hU hW => ⟨rfl, by rw [hU], by rw [hU]; exact hPc, va_K.moved hW.alike E.2, hDc.weaken (fun _ _ _ _ => trivial), by rw [hU]; exact ((hG.kept hS.2.1).narrow hFc).moved hW.alike, hX.warm hW⟩⟩ rfl hn hls hst (lv_room hW) hdg (by rw [Nat.zero_add, Nat.zero_add]; exact hcs)) hS (fun q _ h => hFc q h) hFc (fun q _ h => hFc q h) (fun E0 ce q9 u' t1 H1 locs1 ht hvm hpx hB hz hk1 hS1 hcell hv hcl => ?_) (fun u1 t1 H1 locs1 ht hvm hw hB hz1 hk1 hS1 => hw.elim)
  subst hpx
  obtain ⟨rfl, hP1, hK1, hD1⟩ := hB
  rw [ht] at hP1
  obtain ⟨hP2, hD2⟩ := va_join (wc := wX h cI cJ cZ st) (wr := [(h 31, .inl (cJ, 1, .inr (.inl oc)))]) (w1 := wX h cI cJ cZ u') hP hD [0, 1, 2, 3, 4, 5, 6, 7, 8, 9, 10, 11, 12, 13] [14] rfl rfl (by decide) (by decide) hk1 hFc hP1 hD1
  exact kx ce q9 H1 locs1 (hP2.sub [1, 2, 3, 4, 5, 6, 7, 8, 9, 10, 11, 12, 13, 14, 0] rfl) (hD2.sub [1, 2, 3, 4, 5, 6, 7, 8, 9, 10, 11, 12, 13, 14, 0] (by decide) rfl) hS1 hcell hv hcl
theorem sa_31 {i : Int32} {x : Int64} (E : Env1 p s m args c cc nL own D (tyL cI cJ cZ)) (hP : va_P D vwCl (wO h cI cJ cZ q) H) (hD : va_D A (wO h cI cJ cZ q)) (hS : va_S A s.heap H locs) (hi : vp_in i 1) (hdg : decode cc pc = .ok (.lastore, 1)) (kk : ∀ (H1 : Heap) (locs1 : List Loc), va_P D vwCl (wO h cI cJ cZ (q.1, vp_updL q.2 i.toNatClampNeg x)) H1 → va_D A (wO h cI cJ cZ (q.1, vp_updL q.2 i.toNatClampNeg x)) → va_S A s.heap H1 locs1 → W p l e R s m args below meth c H1 locs1 cells slots Q (F0 m (pc + 1) ls rest)) : W p l e R s m args below meth c H locs cells slots Q (F0 m pc ls (.long x :: .int i :: .ref (h 31) :: rest)) :=
  va_last (D := D) E.1.1 E.1.2.1 E.2 hP hD hS 14 1 rfl rfl hi hdg kk
end RowsW
theorem lk_1 : Cond.classLink RL 13 "java/lang/IllegalArgumentException" ∈ TB := tb_in 465 (by decide +kernel) (by decide +kernel)
theorem lk_2 : Cond.classLink RL 30 "java/lang/IllegalStateException" ∈ TB := tb_in 603 (by decide +kernel) (by decide +kernel)
theorem lk_3 : Cond.classLink RL 32 "java/util/NoSuchElementException" ∈ TB := tb_in 604 (by decide +kernel) (by decide +kernel)
theorem cw_L_7 : cwd RL 7 RX2 yX2_format cX2_format 3 none 2 := ⟨tb_V (tb_in 466 (by decide +kernel) (by decide +kernel)) (tb_in 467 (by decide +kernel) (by decide +kernel)) (tb_in 468 (by decide +kernel) (by decide +kernel)) (tb_in 46 (by decide +kernel) (by decide +kernel)) (tb_in 469 (by decide +kernel) (by decide +kernel)), by decide +kernel⟩
def FL_format (n : Nat) (p0 p1 : Int32) (st : St) (oc : Nat → Int64) : Option (Int32 × St × (Nat → Int64)) := btw (FX2_format n p0 p1 st) (fun r u => some (0, u, oc)) (fun t u => if t = 1 then some (1, u, oc) else none)
set_option maxHeartbeats 4000000 in
set_option maxRecDepth 100000 in
theorem kL_format (l : Launch) (hst : l.stackTraces = false) (D : va_G) (h : Nat → Nat) (cI cJ cZ : ClassId) (n : Nat) (p0 p1 : Int32) (st : St) (oc : Nat → Int64) (r : Int32) (u : St) (oc1 : Nat → Int64) (hF : FL_format n p0 p1 st oc = some (r, u, oc1)) : Cw l yL_format cL_format 4 [(0, 6, 9, 13)] 7 112 D (tyL cI cJ cZ) (wO h cI cJ cZ) (st, oc) [.ref (h 0), .int p0, .int p1] r (u, oc1) := by
  refine body_w (by decide +kernel) (Nat.le_of_ble_eq_true rfl) ?_
  intro p e s m below meth c A ls E hr hlocks hA hEx hG hX hN hP hD hS hl
  have E : Env1 p s m _ c cL_format 4 RL D (tyL cI cJ cZ) := E
  have hl : lv_has ls 4 [(0, .ref (h 0)), (1, .int p0), (2, .int p1)] := hl
  have hx := E.1.1
  have hb := E.1.2.1
  unfold FL_format at hF
  obtain ⟨t, r1, u1, hc, hF⟩ := btw_some hF
  refine lv_aload_n hx hb dL_format_0 rfl (lv_at hl 0 rfl) ?_
  refine lv_iload_n hx hb dL_format_1 rfl (lv_at hl 1 rfl) ?_
  refine lv_iload_n hx hb dL_format_2 rfl (lv_at hl 2 rfl) ?_
  by_cases h0 : t = 0
  · subst h0
    have hF := if_t rfl hF
    refine cwX_v (rest := []) E hA hP hD hS hl.1 (kX2_format l D h cI cJ cZ n p0 p1 st r1 u1 hc) cw_L_7 rfl rfl (Nat.le_of_ble_eq_true rfl) ⟨Nat.le_of_ble_eq_true rfl, Nat.le_of_ble_eq_true rfl⟩ ⟨Nat.zero_le _, Nat.zero_le _⟩ dL_format_3 (fun H locs hP hD hS => ?_)
    refine lv_goto (tgt := 12) hx hb dL_format_6 (by decide) ?_
    refine lv_iconst (v := 0) hx hb dL_format_12 (by decide) ?_
    cases hF
    exact endW E hr hlocks hP hD hS (Nat.zero_le _) (Nat.zero_le _) dL_format_13
  · have hF := if_f h0 hF
    by_cases h1 : t = 1
    · have hF := if_t h1 hF
      subst h1
      refine cwX_x (rest := []) E hA hP hD hS hl.1 hG hX (xX2_format l hst D h cI cJ cZ n p0 p1 st 1 r1 u1 h0 hc) cw_L_7 rfl rfl (Nat.le_of_ble_eq_true rfl) ⟨Nat.le_of_ble_eq_true rfl, Nat.le_of_ble_eq_true rfl⟩ ⟨Nat.le_refl _, Nat.le_refl _⟩ dL_format_3 (fun ce q9 H locs hP hD hS hcell hv hcl => ?_)
      refine vx_catch (own := RL) (name := "java/lang/IllegalArgumentException") (E := tagN 1) E.1.2.2.2.1 [] ⟨0, 6, 9, 13⟩ [] hEx (fun z hz => nomatch hz) (by decide) (by decide) (E.1.2.2.2.2 _ lk_1) (va_Nw.use (XB_ot _ (List.mem_of_getElem? (i := 0) rfl)) (hX.1 _ (List.mem_of_getElem? (i := 0) rfl))) hcell hv hcl ?_
      refine lv_astore_n (lv' := [(3, .ref q9), (0, .ref (h 0)), (1, .int p0), (2, .int p1)]) hx hb dL_format_9 rfl hl (by decide) rfl (fun ls hl => ?_)
      refine lv_iconst (v := 1) hx hb dL_format_10 (by decide) ?_
      cases hF
      exact endW E hr hlocks hP hD hS (Nat.le_refl _) (Nat.le_refl _) dL_format_11
    have hF := if_f h1 hF
    cases hF
theorem cw_L_15 : cwd RL 15 RX2 yX2_make cX2_make 6 (some .boolean) 3 := ⟨tb_V (tb_in 542 (by decide +kernel) (by decide +kernel)) (tb_in 543 (by decide +kernel) (by decide +kernel)) (tb_in 544 (by decide +kernel) (by decide +kernel)) (tb_in 46 (by decide +kernel) (by decide +kernel)) (tb_in 545 (by decide +kernel) (by decide +kernel)), by decide +kernel⟩
def FL_make (n : Nat) (p0 p1 p2 : Int32) (st : St) (oc : Nat → Int64) : Option (Int32 × St × (Nat → Int64)) := btw (FX2_make n p0 p1 p2 st) (fun r u => some (0, u, (vp_updL oc (0 : Int32).toNatClampNeg (if r = 0 then (0 : Int64) else 1)))) (fun t u => if t = 1 then some (1, u, oc) else none)
set_option maxHeartbeats 4000000 in
set_option maxRecDepth 100000 in
theorem kL_make (l : Launch) (hst : l.stackTraces = false) (D : va_G) (h : Nat → Nat) (cI cJ cZ : ClassId) (n : Nat) (p0 p1 p2 : Int32) (st : St) (oc : Nat → Int64) (r : Int32) (u : St) (oc1 : Nat → Int64) (hF : FL_make n p0 p1 p2 st oc = some (r, u, oc1)) : Cw l yL_make cL_make 6 [(0, 19, 22, 13)] 8 193 D (tyL cI cJ cZ) (wO h cI cJ cZ) (st, oc) [.ref (h 0), .int p0, .int p1, .int p2, .ref (h 31)] r (u, oc1) := by
  refine body_w (by decide +kernel) (Nat.le_of_ble_eq_true rfl) ?_
  intro p e s m below meth c A ls E hr hlocks hA hEx hG hX hN hP hD hS hl
  have E : Env1 p s m _ c cL_make 6 RL D (tyL cI cJ cZ) := E
  have hl : lv_has ls 6 [(0, .ref (h 0)), (1, .int p0), (2, .int p1), (3, .int p2), (4, .ref (h 31))] := hl
  have hx := E.1.1
  have hb := E.1.2.1
  unfold FL_make at hF
  obtain ⟨t, r1, u1, hc, hF⟩ := btw_some hF
  refine lv_aload hx hb dL_make_0 (lv_at hl 4 rfl) ?_
  refine lv_iconst (v := 0) hx hb dL_make_2 (by decide) ?_
  refine lv_aload_n hx hb dL_make_3 rfl (lv_at hl 0 rfl) ?_
  refine lv_iload_n hx hb dL_make_4 rfl (lv_at hl 1 rfl) ?_
  refine lv_iload_n hx hb dL_make_5 rfl (lv_at hl 2 rfl) ?_
  refine lv_iload_n hx hb dL_make_6 rfl (lv_at hl 3 rfl) ?_
  by_cases h0 : t = 0
  · subst h0
    have hF := if_t rfl hF
    refine cwX_i (rest := [.int 0, .ref (h 31)]) E hA hP hD hS hl.1 (kX2_make l D h cI cJ cZ n p0 p1 p2 st r1 u1 hc) cw_L_15 rfl rfl (Nat.le_of_ble_eq_true rfl) ⟨Nat.le_of_ble_eq_true rfl, Nat.le_of_ble_eq_true rfl⟩ ⟨Nat.zero_le _, Nat.zero_le _⟩ dL_make_7 (fun H locs hP hD hS => ?_)
    obtain ⟨w1, ew1⟩ : ∃ z : Int64, z = (if r1 = 0 then (0 : Int64) else 1) := ⟨_, rfl⟩
    have kont : W p l e (rmx 8 193) s m ([.ref (h 0), .int p0, .int p1, .int p2, .ref (h 31)] : List Value).toArray below meth c H locs 0 0 (vx_MQ below (GQ D (tyL cI cJ cZ) (wO h cI cJ cZ) A r (u, oc1)) (fun _ _ _ => False) ([.ref (h 0), .int p0, .int p1, .int p2, .ref (h 31)] : List Value).toArray s 1 6 A) (F0 m 18 ls [.long w1, .int 0, .ref (h 31)]) := by
      refine sa_31 E hP hD hS (by unfold vp_in; decide) dL_make_18 (fun H locs hP hD hS => ?_)
      refine lv_goto (tgt := 26) hx hb dL_make_19 (by decide) ?_
      refine lv_iconst (v := 0) hx hb dL_make_26 (by decide) ?_
      rw [ew1] at hP hD
      cases hF
      exact endW E hr hlocks hP hD hS (Nat.zero_le _) (Nat.zero_le _) dL_make_27
    refine lv_if_eq (tgt := 17) hx hb dL_make_10 (by decide) (fun hc1 => ?_) (fun hc1 => ?_)
    · refine lv_lconst (v := w1) hx hb dL_make_17 (by rw [ew1, if_pos hc1]; rfl) ?_
      exact kont
    · refine lv_lconst (v := w1) hx hb dL_make_13 (by rw [ew1, if_neg hc1]; rfl) ?_
      refine lv_goto (tgt := 18) hx hb dL_make_14 (by decide) ?_
      exact kont
  · have hF := if_f h0 hF
    by_cases h1 : t = 1
    · have hF := if_t h1 hF
      subst h1
      refine cwX_x (rest := [.int 0, .ref (h 31)]) E hA hP hD hS hl.1 hG hX (xX2_make l hst D h cI cJ cZ n p0 p1 p2 st 1 r1 u1 h0 hc) cw_L_15 rfl rfl (Nat.le_of_ble_eq_true rfl) ⟨Nat.le_of_ble_eq_true rfl, Nat.le_of_ble_eq_true rfl⟩ ⟨Nat.le_refl _, Nat.le_refl _⟩ dL_make_7 (fun ce q9 H locs hP hD hS hcell hv hcl => ?_)
      refine vx_catch (own := RL) (name := "java/lang/IllegalArgumentException") (E := tagN 1) E.1.2.2.2.1 [] ⟨0, 19, 22, 13⟩ [] hEx (fun z hz => nomatch hz) (by decide) (by decide) (E.1.2.2.2.2 _ lk_1) (va_Nw.use (XB_ot _ (List.mem_of_getElem? (i := 0) rfl)) (hX.1 _ (List.mem_of_getElem? (i := 0) rfl))) hcell hv hcl ?_
      refine lv_astore (lv' := [(5, .ref q9), (0, .ref (h 0)), (1, .int p0), (2, .int p1), (3, .int p2), (4, .ref (h 31))]) hx hb dL_make_22 hl (by decide) rfl (fun ls hl => ?_)
      refine lv_iconst (v := 1) hx hb dL_make_24 (by decide) ?_
      cases hF
      exact endW E hr hlocks hP hD hS (Nat.le_refl _) (Nat.le_refl _) dL_make_25
    have hF := if_f h1 hF
    cases hF
theorem cw_L_19 : cwd RL 19 RX2 yX2_copy cX2_copy 3 none 2 := ⟨tb_V (tb_in 589 (by decide +kernel) (by decide +kernel)) (tb_in 590 (by decide +kernel) (by decide +kernel)) (tb_in 591 (by decide +kernel) (by decide +kernel)) (tb_in 46 (by decide +kernel) (by decide +kernel)) (tb_in 592 (by decide +kernel) (by decide +kernel)), by decide +kernel⟩
def FL_copy (n : Nat) (p0 p1 : Int32) (st : St) (oc : Nat → Int64) : Option (Int32 × St × (Nat → Int64)) := btw (FX2_copy n p0 p1 st) (fun r u => some (0, u, oc)) (fun t u => if t = 1 then some (1, u, oc) else none)
set_option maxHeartbeats 4000000 in
set_option maxRecDepth 100000 in
theorem kL_copy (l : Launch) (hst : l.stackTraces = false) (D : va_G) (h : Nat → Nat) (cI cJ cZ : ClassId) (n : Nat) (p0 p1 : Int32) (st : St) (oc : Nat → Int64) (r : Int32) (u : St) (oc1 : Nat → Int64) (hF : FL_copy n p0 p1 st oc = some (r, u, oc1)) : Cw l yL_copy cL_copy 4 [(0, 6, 9, 13)] 8 132 D (tyL cI cJ cZ) (wO h cI cJ cZ) (st, oc) [.ref (h 0), .int p0, .int p1] r (u, oc1) := by
  refine body_w (by decide +kernel) (Nat.le_of_ble_eq_true rfl) ?_
  intro p e s m below meth c A ls E hr hlocks hA hEx hG hX hN hP hD hS hl
  have E : Env1 p s m _ c cL_copy 4 RL D (tyL cI cJ cZ) := E
  have hl : lv_has ls 4 [(0, .ref (h 0)), (1, .int p0), (2, .int p1)] := hl
  have hx := E.1.1
  have hb := E.1.2.1
  unfold FL_copy at hF
  obtain ⟨t, r1, u1, hc, hF⟩ := btw_some hF
  refine lv_aload_n hx hb dL_copy_0 rfl (lv_at hl 0 rfl) ?_
  refine lv_iload_n hx hb dL_copy_1 rfl (lv_at hl 1 rfl) ?_
  refine lv_iload_n hx hb dL_copy_2 rfl (lv_at hl 2 rfl) ?_
  by_cases h0 : t = 0
  · subst h0
    have hF := if_t rfl hF
    refine cwX_v (rest := []) E hA hP hD hS hl.1 (kX2_copy l D h cI cJ cZ n p0 p1 st r1 u1 hc) cw_L_19 rfl rfl (Nat.le_of_ble_eq_true rfl) ⟨Nat.le_of_ble_eq_true rfl, Nat.le_of_ble_eq_true rfl⟩ ⟨Nat.zero_le _, Nat.zero_le _⟩ dL_copy_3 (fun H locs hP hD hS => ?_)
    refine lv_goto (tgt := 12) hx hb dL_copy_6 (by decide) ?_
    refine lv_iconst (v := 0) hx hb dL_copy_12 (by decide) ?_
    cases hF
    exact endW E hr hlocks hP hD hS (Nat.zero_le _) (Nat.zero_le _) dL_copy_13
  · have hF := if_f h0 hF
    by_cases h1 : t = 1
    · have hF := if_t h1 hF
      subst h1
      refine cwX_x (rest := []) E hA hP hD hS hl.1 hG hX (xX2_copy l hst D h cI cJ cZ n p0 p1 st 1 r1 u1 h0 hc) cw_L_19 rfl rfl (Nat.le_of_ble_eq_true rfl) ⟨Nat.le_of_ble_eq_true rfl, Nat.le_of_ble_eq_true rfl⟩ ⟨Nat.le_refl _, Nat.le_refl _⟩ dL_copy_3 (fun ce q9 H locs hP hD hS hcell hv hcl => ?_)
      refine vx_catch (own := RL) (name := "java/lang/IllegalArgumentException") (E := tagN 1) E.1.2.2.2.1 [] ⟨0, 6, 9, 13⟩ [] hEx (fun z hz => nomatch hz) (by decide) (by decide) (E.1.2.2.2.2 _ lk_1) (va_Nw.use (XB_ot _ (List.mem_of_getElem? (i := 0) rfl)) (hX.1 _ (List.mem_of_getElem? (i := 0) rfl))) hcell hv hcl ?_
      refine lv_astore_n (lv' := [(3, .ref q9), (0, .ref (h 0)), (1, .int p0), (2, .int p1)]) hx hb dL_copy_9 rfl hl (by decide) rfl (fun ls hl => ?_)
      refine lv_iconst (v := 1) hx hb dL_copy_10 (by decide) ?_
      cases hF
      exact endW E hr hlocks hP hD hS (Nat.le_refl _) (Nat.le_refl _) dL_copy_11
    have hF := if_f h1 hF
    cases hF
theorem cw_L_22 : cwd RL 22 RX2 yX2_drop cX2_drop 2 none 1 := ⟨tb_V (tb_in 596 (by decide +kernel) (by decide +kernel)) (tb_in 597 (by decide +kernel) (by decide +kernel)) (tb_in 598 (by decide +kernel) (by decide +kernel)) (tb_in 46 (by decide +kernel) (by decide +kernel)) (tb_in 599 (by decide +kernel) (by decide +kernel)), by decide +kernel⟩
def FL_drop (n : Nat) (p0 : Int32) (st : St) (oc : Nat → Int64) : Option (Int32 × St × (Nat → Int64)) := btw (FX2_drop n p0 st) (fun r u => some (0, u, oc)) (fun t u => if t = 1 then some (1, u, oc) else none)
set_option maxHeartbeats 4000000 in
set_option maxRecDepth 100000 in
theorem kL_drop (l : Launch) (hst : l.stackTraces = false) (D : va_G) (h : Nat → Nat) (cI cJ cZ : ClassId) (n : Nat) (p0 : Int32) (st : St) (oc : Nat → Int64) (r : Int32) (u : St) (oc1 : Nat → Int64) (hF : FL_drop n p0 st oc = some (r, u, oc1)) : Cw l yL_drop cL_drop 3 [(0, 5, 8, 13)] 8 131 D (tyL cI cJ cZ) (wO h cI cJ cZ) (st, oc) [.ref (h 0), .int p0] r (u, oc1) := by
  refine body_w (by decide +kernel) (Nat.le_of_ble_eq_true rfl) ?_
  intro p e s m below meth c A ls E hr hlocks hA hEx hG hX hN hP hD hS hl
  have E : Env1 p s m _ c cL_drop 3 RL D (tyL cI cJ cZ) := E
  have hl : lv_has ls 3 [(0, .ref (h 0)), (1, .int p0)] := hl
  have hx := E.1.1
  have hb := E.1.2.1
  unfold FL_drop at hF
  obtain ⟨t, r1, u1, hc, hF⟩ := btw_some hF
  refine lv_aload_n hx hb dL_drop_0 rfl (lv_at hl 0 rfl) ?_
  refine lv_iload_n hx hb dL_drop_1 rfl (lv_at hl 1 rfl) ?_
  by_cases h0 : t = 0
  · subst h0
    have hF := if_t rfl hF
    refine cwX_v (rest := []) E hA hP hD hS hl.1 (kX2_drop l D h cI cJ cZ n p0 st r1 u1 hc) cw_L_22 rfl rfl (Nat.le_of_ble_eq_true rfl) ⟨Nat.le_of_ble_eq_true rfl, Nat.le_of_ble_eq_true rfl⟩ ⟨Nat.zero_le _, Nat.zero_le _⟩ dL_drop_2 (fun H locs hP hD hS => ?_)
    refine lv_goto (tgt := 11) hx hb dL_drop_5 (by decide) ?_
    refine lv_iconst (v := 0) hx hb dL_drop_11 (by decide) ?_
    cases hF
    exact endW E hr hlocks hP hD hS (Nat.zero_le _) (Nat.zero_le _) dL_drop_12
  · have hF := if_f h0 hF
    by_cases h1 : t = 1
    · have hF := if_t h1 hF
      subst h1
      refine cwX_x (rest := []) E hA hP hD hS hl.1 hG hX (xX2_drop l hst D h cI cJ cZ n p0 st 1 r1 u1 h0 hc) cw_L_22 rfl rfl (Nat.le_of_ble_eq_true rfl) ⟨Nat.le_of_ble_eq_true rfl, Nat.le_of_ble_eq_true rfl⟩ ⟨Nat.le_refl _, Nat.le_refl _⟩ dL_drop_2 (fun ce q9 H locs hP hD hS hcell hv hcl => ?_)
      refine vx_catch (own := RL) (name := "java/lang/IllegalArgumentException") (E := tagN 1) E.1.2.2.2.1 [] ⟨0, 5, 8, 13⟩ [] hEx (fun z hz => nomatch hz) (by decide) (by decide) (E.1.2.2.2.2 _ lk_1) (va_Nw.use (XB_ot _ (List.mem_of_getElem? (i := 0) rfl)) (hX.1 _ (List.mem_of_getElem? (i := 0) rfl))) hcell hv hcl ?_
      refine lv_astore_n (lv' := [(2, .ref q9), (0, .ref (h 0)), (1, .int p0)]) hx hb dL_drop_8 rfl hl (by decide) rfl (fun ls hl => ?_)
      refine lv_iconst (v := 1) hx hb dL_drop_9 (by decide) ?_
      cases hF
      exact endW E hr hlocks hP hD hS (Nat.le_refl _) (Nat.le_refl _) dL_drop_10
    have hF := if_f h1 hF
    cases hF
theorem cw_L_26 : cwd RL 26 RX2 yX2_link cX2_link 4 none 3 := ⟨tb_V (tb_in 605 (by decide +kernel) (by decide +kernel)) (tb_in 606 (by decide +kernel) (by decide +kernel)) (tb_in 607 (by decide +kernel) (by decide +kernel)) (tb_in 46 (by decide +kernel) (by decide +kernel)) (tb_in 608 (by decide +kernel) (by decide +kernel)), by decide +kernel⟩
def FL_link (n : Nat) (p0 p1 p2 : Int32) (st : St) (oc : Nat → Int64) : Option (Int32 × St × (Nat → Int64)) := btw (FX2_link n p0 p1 p2 st) (fun r u => some (0, u, oc)) (fun t u => if t = 1 then some (1, u, oc) else if t = 2 then some (2, u, oc) else if t = 3 then some (3, u, oc) else none)
set_option maxHeartbeats 4000000 in
set_option maxRecDepth 100000 in
theorem kL_link (l : Launch) (hst : l.stackTraces = false) (D : va_G) (h : Nat → Nat) (cI cJ cZ : ClassId) (n : Nat) (p0 p1 p2 : Int32) (st : St) (oc : Nat → Int64) (r : Int32) (u : St) (oc1 : Nat → Int64) (hF : FL_link n p0 p1 p2 st oc = some (r, u, oc1)) : Cw l yL_link cL_link 5 [(0, 7, 10, 13), (0, 7, 14, 30), (0, 7, 18, 32)] 8 135 D (tyL cI cJ cZ) (wO h cI cJ cZ) (st, oc) [.ref (h 0), .int p0, .int p1, .int p2] r (u, oc1) := by
  refine body_w (by decide +kernel) (Nat.le_of_ble_eq_true rfl) ?_
  intro p e s m below meth c A ls E hr hlocks hA hEx hG hX hN hP hD hS hl
  have E : Env1 p s m _ c cL_link 5 RL D (tyL cI cJ cZ) := E
  have hl : lv_has ls 5 [(0, .ref (h 0)), (1, .int p0), (2, .int p1), (3, .int p2)] := hl
  have hx := E.1.1
  have hb := E.1.2.1
  unfold FL_link at hF
  obtain ⟨t, r1, u1, hc, hF⟩ := btw_some hF
  refine lv_aload_n hx hb dL_link_0 rfl (lv_at hl 0 rfl) ?_
  refine lv_iload_n hx hb dL_link_1 rfl (lv_at hl 1 rfl) ?_
  refine lv_iload_n hx hb dL_link_2 rfl (lv_at hl 2 rfl) ?_
  refine lv_iload_n hx hb dL_link_3 rfl (lv_at hl 3 rfl) ?_
  by_cases h0 : t = 0
  · subst h0
    have hF := if_t rfl hF
    refine cwX_v (rest := []) E hA hP hD hS hl.1 (kX2_link l D h cI cJ cZ n p0 p1 p2 st r1 u1 hc) cw_L_26 rfl rfl (Nat.le_of_ble_eq_true rfl) ⟨Nat.le_of_ble_eq_true rfl, Nat.le_of_ble_eq_true rfl⟩ ⟨Nat.zero_le _, Nat.zero_le _⟩ dL_link_4 (fun H locs hP hD hS => ?_)
    refine lv_goto (tgt := 22) hx hb dL_link_7 (by decide) ?_
    refine lv_iconst (v := 0) hx hb dL_link_22 (by decide) ?_
    cases hF
    exact endW E hr hlocks hP hD hS (Nat.zero_le _) (Nat.zero_le _) dL_link_23
  · have hF := if_f h0 hF
    by_cases h1 : t = 1
    · have hF := if_t h1 hF
      subst h1
      refine cwX_x (rest := []) E hA hP hD hS hl.1 hG hX (xX2_link l hst D h cI cJ cZ n p0 p1 p2 st 1 r1 u1 h0 hc) cw_L_26 rfl rfl (Nat.le_of_ble_eq_true rfl) ⟨Nat.le_of_ble_eq_true rfl, Nat.le_of_ble_eq_true rfl⟩ ⟨Nat.le_refl _, Nat.le_refl _⟩ dL_link_4 (fun ce q9 H locs hP hD hS hcell hv hcl => ?_)
      refine vx_catch (own := RL) (name := "java/lang/IllegalArgumentException") (E := tagN 1) E.1.2.2.2.1 [] ⟨0, 7, 10, 13⟩ [⟨0, 7, 14, 30⟩, ⟨0, 7, 18, 32⟩] hEx (fun z hz => nomatch hz) (by decide) (by decide) (E.1.2.2.2.2 _ lk_1) (va_Nw.use (XB_ot _ (List.mem_of_getElem? (i := 0) rfl)) (hX.1 _ (List.mem_of_getElem? (i := 0) rfl))) hcell hv hcl ?_
      refine lv_astore (lv' := [(4, .ref q9), (0, .ref (h 0)), (1, .int p0), (2, .int p1), (3, .int p2)]) hx hb dL_link_10 hl (by decide) rfl (fun ls hl => ?_)
      refine lv_iconst (v := 1) hx hb dL_link_12 (by decide) ?_
      cases hF
      exact endW E hr hlocks hP hD hS (Nat.le_refl _) (Nat.le_refl _) dL_link_13
    have hF := if_f h1 hF
    by_cases h2 : t = 2
    · have hF := if_t h2 hF
      subst h2
      refine cwX_x (rest := []) E hA hP hD hS hl.1 hG hX (xX2_link l hst D h cI cJ cZ n p0 p1 p2 st 2 r1 u1 h0 hc) cw_L_26 rfl rfl (Nat.le_of_ble_eq_true rfl) ⟨Nat.le_of_ble_eq_true rfl, Nat.le_of_ble_eq_true rfl⟩ ⟨Nat.le_refl _, Nat.le_refl _⟩ dL_link_4 (fun ce q9 H locs hP hD hS hcell hv hcl => ?_)
      refine vx_catch (own := RL) (name := "java/lang/IllegalStateException") (E := tagN 2) E.1.2.2.2.1 [⟨0, 7, 10, 13⟩] ⟨0, 7, 14, 30⟩ [⟨0, 7, 18, 32⟩] hEx (List.forall_mem_cons.mpr ⟨Or.inr ⟨by decide, "java/lang/IllegalArgumentException", E.1.2.2.2.2 _ lk_1, hN.1⟩, fun z hz => nomatch hz⟩) (by decide) (by decide) (E.1.2.2.2.2 _ lk_2) (va_Nw.use (XB_ot _ (List.mem_of_getElem? (i := 1) rfl)) (hX.1 _ (List.mem_of_getElem? (i := 1) rfl))) hcell hv hcl ?_
      refine lv_astore (lv' := [(4, .ref q9), (0, .ref (h 0)), (1, .int p0), (2, .int p1), (3, .int p2)]) hx hb dL_link_14 hl (by decide) rfl (fun ls hl => ?_)
      refine lv_iconst (v := 2) hx hb dL_link_16 (by decide) ?_
      cases hF
      exact endW E hr hlocks hP hD hS (Nat.le_refl _) (Nat.le_refl _) dL_link_17
    have hF := if_f h2 hF
    by_cases h3 : t = 3
    · have hF := if_t h3 hF
      subst h3
      refine cwX_x (rest := []) E hA hP hD hS hl.1 hG hX (xX2_link l hst D h cI cJ cZ n p0 p1 p2 st 3 r1 u1 h0 hc) cw_L_26 rfl rfl (Nat.le_of_ble_eq_true rfl) ⟨Nat.le_of_ble_eq_true rfl, Nat.le_of_ble_eq_true rfl⟩ ⟨Nat.le_refl _, Nat.le_refl _⟩ dL_link_4 (fun ce q9 H locs hP hD hS hcell hv hcl => ?_)
      refine vx_catch (own := RL) (name := "java/util/NoSuchElementException") (E := tagN 3) E.1.2.2.2.1 [⟨0, 7, 10, 13⟩, ⟨0, 7, 14, 30⟩] ⟨0, 7, 18, 32⟩ [] hEx (List.forall_mem_cons.mpr ⟨Or.inr ⟨by decide, "java/lang/IllegalArgumentException", E.1.2.2.2.2 _ lk_1, hN.2.1⟩, List.forall_mem_cons.mpr ⟨Or.inr ⟨by decide, "java/lang/IllegalStateException", E.1.2.2.2.2 _ lk_2, hN.2.2⟩, fun z hz => nomatch hz⟩⟩) (by decide) (by decide) (E.1.2.2.2.2 _ lk_3) (va_Nw.use (XB_ot _ (List.mem_of_getElem? (i := 2) rfl)) (hX.1 _ (List.mem_of_getElem? (i := 2) rfl))) hcell hv hcl ?_
      refine lv_astore (lv' := [(4, .ref q9), (0, .ref (h 0)), (1, .int p0), (2, .int p1), (3, .int p2)]) hx hb dL_link_18 hl (by decide) rfl (fun ls hl => ?_)
      refine lv_iconst (v := 3) hx hb dL_link_20 (by decide) ?_
      cases hF
      exact endW E hr hlocks hP hD hS (Nat.le_refl _) (Nat.le_refl _) dL_link_21
    have hF := if_f h3 hF
    cases hF
theorem cw_L_34 : cwd RL 34 RX2 yX2_follow cX2_follow 4 (some .int) 3 := ⟨tb_V (tb_in 653 (by decide +kernel) (by decide +kernel)) (tb_in 654 (by decide +kernel) (by decide +kernel)) (tb_in 655 (by decide +kernel) (by decide +kernel)) (tb_in 46 (by decide +kernel) (by decide +kernel)) (tb_in 656 (by decide +kernel) (by decide +kernel)), by decide +kernel⟩
def FL_follow (n : Nat) (p0 p1 p2 : Int32) (st : St) (oc : Nat → Int64) : Option (Int32 × St × (Nat → Int64)) := btw (FX2_follow n p0 p1 p2 st) (fun r u => some (0, u, (vp_updL oc (0 : Int32).toNatClampNeg r.toInt64))) (fun t u => if t = 1 then some (1, u, oc) else if t = 2 then some (2, u, oc) else if t = 3 then some (3, u, oc) else none)
set_option maxHeartbeats 4000000 in
set_option maxRecDepth 100000 in
theorem kL_follow (l : Launch) (hst : l.stackTraces = false) (D : va_G) (h : Nat → Nat) (cI cJ cZ : ClassId) (n : Nat) (p0 p1 p2 : Int32) (st : St) (oc : Nat → Int64) (r : Int32) (u : St) (oc1 : Nat → Int64) (hF : FL_follow n p0 p1 p2 st oc = some (r, u, oc1)) : Cw l yL_follow cL_follow 6 [(0, 12, 15, 13), (0, 12, 19, 30), (0, 12, 23, 32)] 8 135 D (tyL cI cJ cZ) (wO h cI cJ cZ) (st, oc) [.ref (h 0), .int p0, .int p1, .int p2, .ref (h 31)] r (u, oc1) := by
  refine body_w (by decide +kernel) (Nat.le_of_ble_eq_true rfl) ?_
  intro p e s m below meth c A ls E hr hlocks hA hEx hG hX hN hP hD hS hl
  have E : Env1 p s m _ c cL_follow 6 RL D (tyL cI cJ cZ) := E
  have hl : lv_has ls 6 [(0, .ref (h 0)), (1, .int p0), (2, .int p1), (3, .int p2), (4, .ref (h 31))] := hl
  have hx := E.1.1
  have hb := E.1.2.1
  unfold FL_follow at hF
  obtain ⟨t, r1, u1, hc, hF⟩ := btw_some hF
  refine lv_aload hx hb dL_follow_0 (lv_at hl 4 rfl) ?_
  refine lv_iconst (v := 0) hx hb dL_follow_2 (by decide) ?_
  refine lv_aload_n hx hb dL_follow_3 rfl (lv_at hl 0 rfl) ?_
  refine lv_iload_n hx hb dL_follow_4 rfl (lv_at hl 1 rfl) ?_
  refine lv_iload_n hx hb dL_follow_5 rfl (lv_at hl 2 rfl) ?_
  refine lv_iload_n hx hb dL_follow_6 rfl (lv_at hl 3 rfl) ?_
  by_cases h0 : t = 0
  · subst h0
    have hF := if_t rfl hF
    refine cwX_i (rest := [.int 0, .ref (h 31)]) E hA hP hD hS hl.1 (kX2_follow l D h cI cJ cZ n p0 p1 p2 st r1 u1 hc) cw_L_34 rfl rfl (Nat.le_of_ble_eq_true rfl) ⟨Nat.le_of_ble_eq_true rfl, Nat.le_of_ble_eq_true rfl⟩ ⟨Nat.zero_le _, Nat.zero_le _⟩ dL_follow_7 (fun H locs hP hD hS => ?_)
    refine lv_i2l hx hb dL_follow_10 rfl ?_
    refine sa_31 E hP hD hS (by unfold vp_in; decide) dL_follow_11 (fun H locs hP hD hS => ?_)
    refine lv_goto (tgt := 27) hx hb dL_follow_12 (by decide) ?_
    refine lv_iconst (v := 0) hx hb dL_follow_27 (by decide) ?_
    cases hF
    exact endW E hr hlocks hP hD hS (Nat.zero_le _) (Nat.zero_le _) dL_follow_28
  · have hF := if_f h0 hF
    by_cases h1 : t = 1
    · have hF := if_t h1 hF
      subst h1
      refine cwX_x (rest := [.int 0, .ref (h 31)]) E hA hP hD hS hl.1 hG hX (xX2_follow l hst D h cI cJ cZ n p0 p1 p2 st 1 r1 u1 h0 hc) cw_L_34 rfl rfl (Nat.le_of_ble_eq_true rfl) ⟨Nat.le_of_ble_eq_true rfl, Nat.le_of_ble_eq_true rfl⟩ ⟨Nat.le_refl _, Nat.le_refl _⟩ dL_follow_7 (fun ce q9 H locs hP hD hS hcell hv hcl => ?_)
      refine vx_catch (own := RL) (name := "java/lang/IllegalArgumentException") (E := tagN 1) E.1.2.2.2.1 [] ⟨0, 12, 15, 13⟩ [⟨0, 12, 19, 30⟩, ⟨0, 12, 23, 32⟩] hEx (fun z hz => nomatch hz) (by decide) (by decide) (E.1.2.2.2.2 _ lk_1) (va_Nw.use (XB_ot _ (List.mem_of_getElem? (i := 0) rfl)) (hX.1 _ (List.mem_of_getElem? (i := 0) rfl))) hcell hv hcl ?_
      refine lv_astore (lv' := [(5, .ref q9), (0, .ref (h 0)), (1, .int p0), (2, .int p1), (3, .int p2), (4, .ref (h 31))]) hx hb dL_follow_15 hl (by decide) rfl (fun ls hl => ?_)
      refine lv_iconst (v := 1) hx hb dL_follow_17 (by decide) ?_
      cases hF
      exact endW E hr hlocks hP hD hS (Nat.le_refl _) (Nat.le_refl _) dL_follow_18
    have hF := if_f h1 hF
    by_cases h2 : t = 2
    · have hF := if_t h2 hF
      subst h2
      refine cwX_x (rest := [.int 0, .ref (h 31)]) E hA hP hD hS hl.1 hG hX (xX2_follow l hst D h cI cJ cZ n p0 p1 p2 st 2 r1 u1 h0 hc) cw_L_34 rfl rfl (Nat.le_of_ble_eq_true rfl) ⟨Nat.le_of_ble_eq_true rfl, Nat.le_of_ble_eq_true rfl⟩ ⟨Nat.le_refl _, Nat.le_refl _⟩ dL_follow_7 (fun ce q9 H locs hP hD hS hcell hv hcl => ?_)
      refine vx_catch (own := RL) (name := "java/lang/IllegalStateException") (E := tagN 2) E.1.2.2.2.1 [⟨0, 12, 15, 13⟩] ⟨0, 12, 19, 30⟩ [⟨0, 12, 23, 32⟩] hEx (List.forall_mem_cons.mpr ⟨Or.inr ⟨by decide, "java/lang/IllegalArgumentException", E.1.2.2.2.2 _ lk_1, hN.1⟩, fun z hz => nomatch hz⟩) (by decide) (by decide) (E.1.2.2.2.2 _ lk_2) (va_Nw.use (XB_ot _ (List.mem_of_getElem? (i := 1) rfl)) (hX.1 _ (List.mem_of_getElem? (i := 1) rfl))) hcell hv hcl ?_
      refine lv_astore (lv' := [(5, .ref q9), (0, .ref (h 0)), (1, .int p0), (2, .int p1), (3, .int p2), (4, .ref (h 31))]) hx hb dL_follow_19 hl (by decide) rfl (fun ls hl => ?_)
      refine lv_iconst (v := 2) hx hb dL_follow_21 (by decide) ?_
      cases hF
      exact endW E hr hlocks hP hD hS (Nat.le_refl _) (Nat.le_refl _) dL_follow_22
    have hF := if_f h2 hF
    by_cases h3 : t = 3
    · have hF := if_t h3 hF
      subst h3
      refine cwX_x (rest := [.int 0, .ref (h 31)]) E hA hP hD hS hl.1 hG hX (xX2_follow l hst D h cI cJ cZ n p0 p1 p2 st 3 r1 u1 h0 hc) cw_L_34 rfl rfl (Nat.le_of_ble_eq_true rfl) ⟨Nat.le_of_ble_eq_true rfl, Nat.le_of_ble_eq_true rfl⟩ ⟨Nat.le_refl _, Nat.le_refl _⟩ dL_follow_7 (fun ce q9 H locs hP hD hS hcell hv hcl => ?_)
      refine vx_catch (own := RL) (name := "java/util/NoSuchElementException") (E := tagN 3) E.1.2.2.2.1 [⟨0, 12, 15, 13⟩, ⟨0, 12, 19, 30⟩] ⟨0, 12, 23, 32⟩ [] hEx (List.forall_mem_cons.mpr ⟨Or.inr ⟨by decide, "java/lang/IllegalArgumentException", E.1.2.2.2.2 _ lk_1, hN.2.1⟩, List.forall_mem_cons.mpr ⟨Or.inr ⟨by decide, "java/lang/IllegalStateException", E.1.2.2.2.2 _ lk_2, hN.2.2⟩, fun z hz => nomatch hz⟩⟩) (by decide) (by decide) (E.1.2.2.2.2 _ lk_3) (va_Nw.use (XB_ot _ (List.mem_of_getElem? (i := 2) rfl)) (hX.1 _ (List.mem_of_getElem? (i := 2) rfl))) hcell hv hcl ?_
      refine lv_astore (lv' := [(5, .ref q9), (0, .ref (h 0)), (1, .int p0), (2, .int p1), (3, .int p2), (4, .ref (h 31))]) hx hb dL_follow_23 hl (by decide) rfl (fun ls hl => ?_)
      refine lv_iconst (v := 3) hx hb dL_follow_25 (by decide) ?_
      cases hF
      exact endW E hr hlocks hP hD hS (Nat.le_refl _) (Nat.le_refl _) dL_follow_26
    have hF := if_f h3 hF
    cases hF
theorem cw_L_38 : cwd RL 38 RX2 yX2_set cX2_set 4 (some .int) 3 := ⟨tb_V (tb_in 661 (by decide +kernel) (by decide +kernel)) (tb_in 662 (by decide +kernel) (by decide +kernel)) (tb_in 663 (by decide +kernel) (by decide +kernel)) (tb_in 46 (by decide +kernel) (by decide +kernel)) (tb_in 664 (by decide +kernel) (by decide +kernel)), by decide +kernel⟩
def FL_set (n : Nat) (p0 p1 p2 : Int32) (st : St) (oc : Nat → Int64) : Option (Int32 × St × (Nat → Int64)) := btw (FX2_set n p0 p1 p2 st) (fun r u => some (0, u, (vp_updL oc (0 : Int32).toNatClampNeg r.toInt64))) (fun t u => if t = 1 then some (1, u, oc) else if t = 2 then some (2, u, oc) else if t = 3 then some (3, u, oc) else none)
set_option maxHeartbeats 4000000 in
set_option maxRecDepth 100000 in
theorem kL_set (l : Launch) (hst : l.stackTraces = false) (D : va_G) (h : Nat → Nat) (cI cJ cZ : ClassId) (n : Nat) (p0 p1 p2 : Int32) (st : St) (oc : Nat → Int64) (r : Int32) (u : St) (oc1 : Nat → Int64) (hF : FL_set n p0 p1 p2 st oc = some (r, u, oc1)) : Cw l yL_set cL_set 6 [(0, 12, 15, 13), (0, 12, 19, 30), (0, 12, 23, 32)] 8 134 D (tyL cI cJ cZ) (wO h cI cJ cZ) (st, oc) [.ref (h 0), .int p0, .int p1, .int p2, .ref (h 31)] r (u, oc1) := by
  refine body_w (by decide +kernel) (Nat.le_of_ble_eq_true rfl) ?_
  intro p e s m below meth c A ls E hr hlocks hA hEx hG hX hN hP hD hS hl
  have E : Env1 p s m _ c cL_set 6 RL D (tyL cI cJ cZ) := E
  have hl : lv_has ls 6 [(0, .ref (h 0)), (1, .int p0), (2, .int p1), (3, .int p2), (4, .ref (h 31))] := hl
  have hx := E.1.1
  have hb := E.1.2.1
  unfold FL_set at hF
  obtain ⟨t, r1, u1, hc, hF⟩ := btw_some hF
  refine lv_aload hx hb dL_set_0 (lv_at hl 4 rfl) ?_
  refine lv_iconst (v := 0) hx hb dL_set_2 (by decide) ?_
  refine lv_aload_n hx hb dL_set_3 rfl (lv_at hl 0 rfl) ?_
  refine lv_iload_n hx hb dL_set_4 rfl (lv_at hl 1 rfl) ?_
  refine lv_iload_n hx hb dL_set_5 rfl (lv_at hl 2 rfl) ?_
  refine lv_iload_n hx hb dL_set_6 rfl (lv_at hl 3 rfl) ?_
  by_cases h0 : t = 0
  · subst h0
    have hF := if_t rfl hF
    refine cwX_i (rest := [.int 0, .ref (h 31)]) E hA hP hD hS hl.1 (kX2_set l D h cI cJ cZ n p0 p1 p2 st r1 u1 hc) cw_L_38 rfl rfl (Nat.le_of_ble_eq_true rfl) ⟨Nat.le_of_ble_eq_true rfl, Nat.le_of_ble_eq_true rfl⟩ ⟨Nat.zero_le _, Nat.zero_le _⟩ dL_set_7 (fun H locs hP hD hS => ?_)
    refine lv_i2l hx hb dL_set_10 rfl ?_
    refine sa_31 E hP hD hS (by unfold vp_in; decide) dL_set_11 (fun H locs hP hD hS => ?_)
    refine lv_goto (tgt := 27) hx hb dL_set_12 (by decide) ?_
    refine lv_iconst (v := 0) hx hb dL_set_27 (by decide) ?_
    cases hF
    exact endW E hr hlocks hP hD hS (Nat.zero_le _) (Nat.zero_le _) dL_set_28
  · have hF := if_f h0 hF
    by_cases h1 : t = 1
    · have hF := if_t h1 hF
      subst h1
      refine cwX_x (rest := [.int 0, .ref (h 31)]) E hA hP hD hS hl.1 hG hX (xX2_set l hst D h cI cJ cZ n p0 p1 p2 st 1 r1 u1 h0 hc) cw_L_38 rfl rfl (Nat.le_of_ble_eq_true rfl) ⟨Nat.le_of_ble_eq_true rfl, Nat.le_of_ble_eq_true rfl⟩ ⟨Nat.le_refl _, Nat.le_refl _⟩ dL_set_7 (fun ce q9 H locs hP hD hS hcell hv hcl => ?_)
      refine vx_catch (own := RL) (name := "java/lang/IllegalArgumentException") (E := tagN 1) E.1.2.2.2.1 [] ⟨0, 12, 15, 13⟩ [⟨0, 12, 19, 30⟩, ⟨0, 12, 23, 32⟩] hEx (fun z hz => nomatch hz) (by decide) (by decide) (E.1.2.2.2.2 _ lk_1) (va_Nw.use (XB_ot _ (List.mem_of_getElem? (i := 0) rfl)) (hX.1 _ (List.mem_of_getElem? (i := 0) rfl))) hcell hv hcl ?_
      refine lv_astore (lv' := [(5, .ref q9), (0, .ref (h 0)), (1, .int p0), (2, .int p1), (3, .int p2), (4, .ref (h 31))]) hx hb dL_set_15 hl (by decide) rfl (fun ls hl => ?_)
      refine lv_iconst (v := 1) hx hb dL_set_17 (by decide) ?_
      cases hF
      exact endW E hr hlocks hP hD hS (Nat.le_refl _) (Nat.le_refl _) dL_set_18
    have hF := if_f h1 hF
    by_cases h2 : t = 2
    · have hF := if_t h2 hF
      subst h2
      refine cwX_x (rest := [.int 0, .ref (h 31)]) E hA hP hD hS hl.1 hG hX (xX2_set l hst D h cI cJ cZ n p0 p1 p2 st 2 r1 u1 h0 hc) cw_L_38 rfl rfl (Nat.le_of_ble_eq_true rfl) ⟨Nat.le_of_ble_eq_true rfl, Nat.le_of_ble_eq_true rfl⟩ ⟨Nat.le_refl _, Nat.le_refl _⟩ dL_set_7 (fun ce q9 H locs hP hD hS hcell hv hcl => ?_)
      refine vx_catch (own := RL) (name := "java/lang/IllegalStateException") (E := tagN 2) E.1.2.2.2.1 [⟨0, 12, 15, 13⟩] ⟨0, 12, 19, 30⟩ [⟨0, 12, 23, 32⟩] hEx (List.forall_mem_cons.mpr ⟨Or.inr ⟨by decide, "java/lang/IllegalArgumentException", E.1.2.2.2.2 _ lk_1, hN.1⟩, fun z hz => nomatch hz⟩) (by decide) (by decide) (E.1.2.2.2.2 _ lk_2) (va_Nw.use (XB_ot _ (List.mem_of_getElem? (i := 1) rfl)) (hX.1 _ (List.mem_of_getElem? (i := 1) rfl))) hcell hv hcl ?_
      refine lv_astore (lv' := [(5, .ref q9), (0, .ref (h 0)), (1, .int p0), (2, .int p1), (3, .int p2), (4, .ref (h 31))]) hx hb dL_set_19 hl (by decide) rfl (fun ls hl => ?_)
      refine lv_iconst (v := 2) hx hb dL_set_21 (by decide) ?_
      cases hF
      exact endW E hr hlocks hP hD hS (Nat.le_refl _) (Nat.le_refl _) dL_set_22
    have hF := if_f h2 hF
    by_cases h3 : t = 3
    · have hF := if_t h3 hF
      subst h3
      refine cwX_x (rest := [.int 0, .ref (h 31)]) E hA hP hD hS hl.1 hG hX (xX2_set l hst D h cI cJ cZ n p0 p1 p2 st 3 r1 u1 h0 hc) cw_L_38 rfl rfl (Nat.le_of_ble_eq_true rfl) ⟨Nat.le_of_ble_eq_true rfl, Nat.le_of_ble_eq_true rfl⟩ ⟨Nat.le_refl _, Nat.le_refl _⟩ dL_set_7 (fun ce q9 H locs hP hD hS hcell hv hcl => ?_)
      refine vx_catch (own := RL) (name := "java/util/NoSuchElementException") (E := tagN 3) E.1.2.2.2.1 [⟨0, 12, 15, 13⟩, ⟨0, 12, 19, 30⟩] ⟨0, 12, 23, 32⟩ [] hEx (List.forall_mem_cons.mpr ⟨Or.inr ⟨by decide, "java/lang/IllegalArgumentException", E.1.2.2.2.2 _ lk_1, hN.2.1⟩, List.forall_mem_cons.mpr ⟨Or.inr ⟨by decide, "java/lang/IllegalStateException", E.1.2.2.2.2 _ lk_2, hN.2.2⟩, fun z hz => nomatch hz⟩⟩) (by decide) (by decide) (E.1.2.2.2.2 _ lk_3) (va_Nw.use (XB_ot _ (List.mem_of_getElem? (i := 2) rfl)) (hX.1 _ (List.mem_of_getElem? (i := 2) rfl))) hcell hv hcl ?_
      refine lv_astore (lv' := [(5, .ref q9), (0, .ref (h 0)), (1, .int p0), (2, .int p1), (3, .int p2), (4, .ref (h 31))]) hx hb dL_set_23 hl (by decide) rfl (fun ls hl => ?_)
      refine lv_iconst (v := 3) hx hb dL_set_25 (by decide) ?_
      cases hF
      exact endW E hr hlocks hP hD hS (Nat.le_refl _) (Nat.le_refl _) dL_set_26
    have hF := if_f h3 hF
    cases hF
theorem cw_L_41 : cwd RL 41 RX2 yX2_loose cX2_loose 4 (some .int) 2 := ⟨tb_V (tb_in 673 (by decide +kernel) (by decide +kernel)) (tb_in 674 (by decide +kernel) (by decide +kernel)) (tb_in 675 (by decide +kernel) (by decide +kernel)) (tb_in 46 (by decide +kernel) (by decide +kernel)) (tb_in 676 (by decide +kernel) (by decide +kernel)), by decide +kernel⟩
def FL_loose (n : Nat) (p0 p1 : Int32) (st : St) (oc : Nat → Int64) : Option (Int32 × St × (Nat → Int64)) := btw (FX2_loose n p0 p1 st) (fun r u => some (0, u, (vp_updL oc (0 : Int32).toNatClampNeg r.toInt64))) (fun t u => if t = 1 then some (1, u, oc) else none)
set_option maxHeartbeats 4000000 in
set_option maxRecDepth 100000 in
theorem kL_loose (l : Launch) (hst : l.stackTraces = false) (D : va_G) (h : Nat → Nat) (cI cJ cZ : ClassId) (n : Nat) (p0 p1 : Int32) (st : St) (oc : Nat → Int64) (r : Int32) (u : St) (oc1 : Nat → Int64) (hF : FL_loose n p0 p1 st oc = some (r, u, oc1)) : Cw l yL_loose cL_loose 5 [(0, 10, 13, 13)] 8 133 D (tyL cI cJ cZ) (wO h cI cJ cZ) (st, oc) [.ref (h 0), .int p0, .int p1, .ref (h 31)] r (u, oc1) := by
  refine body_w (by decide +kernel) (Nat.le_of_ble_eq_true rfl) ?_
  intro p e s m below meth c A ls E hr hlocks hA hEx hG hX hN hP hD hS hl
  have E : Env1 p s m _ c cL_loose 5 RL D (tyL cI cJ cZ) := E
  have hl : lv_has ls 5 [(0, .ref (h 0)), (1, .int p0), (2, .int p1), (3, .ref (h 31))] := hl
  have hx := E.1.1
  have hb := E.1.2.1
  unfold FL_loose at hF
  obtain ⟨t, r1, u1, hc, hF⟩ := btw_some hF
  refine lv_aload_n hx hb dL_loose_0 rfl (lv_at hl 3 rfl) ?_
  refine lv_iconst (v := 0) hx hb dL_loose_1 (by decide) ?_
  refine lv_aload_n hx hb dL_loose_2 rfl (lv_at hl 0 rfl) ?_
  refine lv_iload_n hx hb dL_loose_3 rfl (lv_at hl 1 rfl) ?_
  refine lv_iload_n hx hb dL_loose_4 rfl (lv_at hl 2 rfl) ?_
  by_cases h0 : t = 0
  · subst h0
    have hF := if_t rfl hF
    refine cwX_i (rest := [.int 0, .ref (h 31)]) E hA hP hD hS hl.1 (kX2_loose l D h cI cJ cZ n p0 p1 st r1 u1 hc) cw_L_41 rfl rfl (Nat.le_of_ble_eq_true rfl) ⟨Nat.le_of_ble_eq_true rfl, Nat.le_of_ble_eq_true rfl⟩ ⟨Nat.zero_le _, Nat.zero_le _⟩ dL_loose_5 (fun H locs hP hD hS => ?_)
    refine lv_i2l hx hb dL_loose_8 rfl ?_
    refine sa_31 E hP hD hS (by unfold vp_in; decide) dL_loose_9 (fun H locs hP hD hS => ?_)
    refine lv_goto (tgt := 17) hx hb dL_loose_10 (by decide) ?_
    refine lv_iconst (v := 0) hx hb dL_loose_17 (by decide) ?_
    cases hF
    exact endW E hr hlocks hP hD hS (Nat.zero_le _) (Nat.zero_le _) dL_loose_18
  · have hF := if_f h0 hF
    by_cases h1 : t = 1
    · have hF := if_t h1 hF
      subst h1
      refine cwX_x (rest := [.int 0, .ref (h 31)]) E hA hP hD hS hl.1 hG hX (xX2_loose l hst D h cI cJ cZ n p0 p1 st 1 r1 u1 h0 hc) cw_L_41 rfl rfl (Nat.le_of_ble_eq_true rfl) ⟨Nat.le_of_ble_eq_true rfl, Nat.le_of_ble_eq_true rfl⟩ ⟨Nat.le_refl _, Nat.le_refl _⟩ dL_loose_5 (fun ce q9 H locs hP hD hS hcell hv hcl => ?_)
      refine vx_catch (own := RL) (name := "java/lang/IllegalArgumentException") (E := tagN 1) E.1.2.2.2.1 [] ⟨0, 10, 13, 13⟩ [] hEx (fun z hz => nomatch hz) (by decide) (by decide) (E.1.2.2.2.2 _ lk_1) (va_Nw.use (XB_ot _ (List.mem_of_getElem? (i := 0) rfl)) (hX.1 _ (List.mem_of_getElem? (i := 0) rfl))) hcell hv hcl ?_
      refine lv_astore (lv' := [(4, .ref q9), (0, .ref (h 0)), (1, .int p0), (2, .int p1), (3, .ref (h 31))]) hx hb dL_loose_13 hl (by decide) rfl (fun ls hl => ?_)
      refine lv_iconst (v := 1) hx hb dL_loose_15 (by decide) ?_
      cases hF
      exact endW E hr hlocks hP hD hS (Nat.le_refl _) (Nat.le_refl _) dL_loose_16
    have hF := if_f h1 hF
    cases hF
theorem cw_L_45 : cwd RL 45 RX2 yX2_take cX2_take 3 (some .boolean) 2 := ⟨tb_V (tb_in 680 (by decide +kernel) (by decide +kernel)) (tb_in 681 (by decide +kernel) (by decide +kernel)) (tb_in 682 (by decide +kernel) (by decide +kernel)) (tb_in 46 (by decide +kernel) (by decide +kernel)) (tb_in 683 (by decide +kernel) (by decide +kernel)), by decide +kernel⟩
def FL_take (n : Nat) (p0 p1 : Int32) (st : St) (oc : Nat → Int64) : Option (Int32 × St × (Nat → Int64)) := btw (FX2_take n p0 p1 st) (fun r u => some (0, u, (vp_updL oc (0 : Int32).toNatClampNeg (if r = 0 then (0 : Int64) else 1)))) (fun t u => if t = 1 then some (1, u, oc) else none)
set_option maxHeartbeats 4000000 in
set_option maxRecDepth 100000 in
theorem kL_take (l : Launch) (hst : l.stackTraces = false) (D : va_G) (h : Nat → Nat) (cI cJ cZ : ClassId) (n : Nat) (p0 p1 : Int32) (st : St) (oc : Nat → Int64) (r : Int32) (u : St) (oc1 : Nat → Int64) (hF : FL_take n p0 p1 st oc = some (r, u, oc1)) : Cw l yL_take cL_take 5 [(0, 17, 20, 13)] 8 132 D (tyL cI cJ cZ) (wO h cI cJ cZ) (st, oc) [.ref (h 0), .int p0, .int p1, .ref (h 31)] r (u, oc1) := by
  refine body_w (by decide +kernel) (Nat.le_of_ble_eq_true rfl) ?_
  intro p e s m below meth c A ls E hr hlocks hA hEx hG hX hN hP hD hS hl
  have E : Env1 p s m _ c cL_take 5 RL D (tyL cI cJ cZ) := E
  have hl : lv_has ls 5 [(0, .ref (h 0)), (1, .int p0), (2, .int p1), (3, .ref (h 31))] := hl
  have hx := E.1.1
  have hb := E.1.2.1
  unfold FL_take at hF
  obtain ⟨t, r1, u1, hc, hF⟩ := btw_some hF
  refine lv_aload_n hx hb dL_take_0 rfl (lv_at hl 3 rfl) ?_
  refine lv_iconst (v := 0) hx hb dL_take_1 (by decide) ?_
  refine lv_aload_n hx hb dL_take_2 rfl (lv_at hl 0 rfl) ?_
  refine lv_iload_n hx hb dL_take_3 rfl (lv_at hl 1 rfl) ?_
  refine lv_iload_n hx hb dL_take_4 rfl (lv_at hl 2 rfl) ?_
  by_cases h0 : t = 0
  · subst h0
    have hF := if_t rfl hF
    refine cwX_i (rest := [.int 0, .ref (h 31)]) E hA hP hD hS hl.1 (kX2_take l D h cI cJ cZ n p0 p1 st r1 u1 hc) cw_L_45 rfl rfl (Nat.le_of_ble_eq_true rfl) ⟨Nat.le_of_ble_eq_true rfl, Nat.le_of_ble_eq_true rfl⟩ ⟨Nat.zero_le _, Nat.zero_le _⟩ dL_take_5 (fun H locs hP hD hS => ?_)
    obtain ⟨w1, ew1⟩ : ∃ z : Int64, z = (if r1 = 0 then (0 : Int64) else 1) := ⟨_, rfl⟩
    have kont : W p l e (rmx 8 132) s m ([.ref (h 0), .int p0, .int p1, .ref (h 31)] : List Value).toArray below meth c H locs 0 0 (vx_MQ below (GQ D (tyL cI cJ cZ) (wO h cI cJ cZ) A r (u, oc1)) (fun _ _ _ => False) ([.ref (h 0), .int p0, .int p1, .ref (h 31)] : List Value).toArray s 1 6 A) (F0 m 16 ls [.long w1, .int 0, .ref (h 31)]) := by
      refine sa_31 E hP hD hS (by unfold vp_in; decide) dL_take_16 (fun H locs hP hD hS => ?_)
      refine lv_goto (tgt := 24) hx hb dL_take_17 (by decide) ?_
      refine lv_iconst (v := 0) hx hb dL_take_24 (by decide) ?_
      rw [ew1] at hP hD
      cases hF
      exact endW E hr hlocks hP hD hS (Nat.zero_le _) (Nat.zero_le _) dL_take_25
    refine lv_if_eq (tgt := 15) hx hb dL_take_8 (by decide) (fun hc1 => ?_) (fun hc1 => ?_)
    · refine lv_lconst (v := w1) hx hb dL_take_15 (by rw [ew1, if_pos hc1]; rfl) ?_
      exact kont
    · refine lv_lconst (v := w1) hx hb dL_take_11 (by rw [ew1, if_neg hc1]; rfl) ?_
      refine lv_goto (tgt := 16) hx hb dL_take_12 (by decide) ?_
      exact kont
  · have hF := if_f h0 hF
    by_cases h1 : t = 1
    · have hF := if_t h1 hF
      subst h1
      refine cwX_x (rest := [.int 0, .ref (h 31)]) E hA hP hD hS hl.1 hG hX (xX2_take l hst D h cI cJ cZ n p0 p1 st 1 r1 u1 h0 hc) cw_L_45 rfl rfl (Nat.le_of_ble_eq_true rfl) ⟨Nat.le_of_ble_eq_true rfl, Nat.le_of_ble_eq_true rfl⟩ ⟨Nat.le_refl _, Nat.le_refl _⟩ dL_take_5 (fun ce q9 H locs hP hD hS hcell hv hcl => ?_)
      refine vx_catch (own := RL) (name := "java/lang/IllegalArgumentException") (E := tagN 1) E.1.2.2.2.1 [] ⟨0, 17, 20, 13⟩ [] hEx (fun z hz => nomatch hz) (by decide) (by decide) (E.1.2.2.2.2 _ lk_1) (va_Nw.use (XB_ot _ (List.mem_of_getElem? (i := 0) rfl)) (hX.1 _ (List.mem_of_getElem? (i := 0) rfl))) hcell hv hcl ?_
      refine lv_astore (lv' := [(4, .ref q9), (0, .ref (h 0)), (1, .int p0), (2, .int p1), (3, .ref (h 31))]) hx hb dL_take_20 hl (by decide) rfl (fun ls hl => ?_)
      refine lv_iconst (v := 1) hx hb dL_take_22 (by decide) ?_
      cases hF
      exact endW E hr hlocks hP hD hS (Nat.le_refl _) (Nat.le_refl _) dL_take_23
    have hF := if_f h1 hF
    cases hF
