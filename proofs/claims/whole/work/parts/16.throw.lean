def thN : List String := ["java/lang/RuntimeException", "java/lang/Exception"]
def tagN (t : Nat) : String := if t = 1 then "java/lang/IllegalArgumentException" else if t = 2 then "java/lang/IllegalStateException" else "java/util/NoSuchElementException"
def XB : List Cond := [.castable "java/lang/IllegalArgumentException" "java/lang/IllegalArgumentException", .castable "java/lang/IllegalStateException" "java/lang/IllegalStateException", .castable "java/util/NoSuchElementException" "java/util/NoSuchElementException", .declares ⟨"java/lang/RuntimeException", "<init>", "()V"⟩, .declares ⟨"java/lang/RuntimeException", "<init>", "(Ljava/lang/String;)V"⟩, .declares ⟨"java/lang/Exception", "<init>", "()V"⟩, .declares ⟨"java/lang/Exception", "<init>", "(Ljava/lang/String;)V"⟩, .declares ⟨"java/lang/Throwable", "<init>", "()V"⟩, .declares ⟨"java/lang/Throwable", "<init>", "(Ljava/lang/String;)V"⟩]
/-- what throwing asks of a state beside the good words -/
def XS (U : State) : Prop := (∀ w ∈ XB, va_Nw w U) ∧ (∃ a, vk_R RX2 38 "pages is not 4 to 64" a U) ∧ (∃ a, vk_R RX2 43 "words is not 8 to 64" a U) ∧ (∃ a, vk_R RX2 173 "there is no such ROOT" a U) ∧ (∃ a, vk_R RX2 49 "refs is not 0 to 31" a U) ∧ (∃ a, vk_R RX2 51 "data is not 0 to 200" a U) ∧ (∃ a, vk_R RX2 177 "the EXACT ROOT has NONE" a U) ∧ (∃ a, vk_R RX2 180 "there is no such REF" a U) ∧ (∃ a, vk_R RX2 83 "there is no such DATA" a U)
def XG (A : Nat → Prop) (U : State) (H : Heap) : Prop := vx_Zq Bundle.tN "UNASSIGNED_STACK" Bundle.steD A U H ∧ vx_Zq Bundle.tN "SUPPRESSED_SENTINEL" Bundle.listD A U H
theorem XB_ot : ∀ w ∈ XB, w.onTables = true := by decide +kernel
theorem XB_warm {s U : State} (hW : s.WarmedH U.vm) (h : ∀ w ∈ XB, va_Nw w s) : ∀ w ∈ XB, va_Nw w U := by
  refine List.forall_mem_cons.mpr ⟨va_Nw.warmC hW (h _ (List.mem_of_getElem? (i := 0) rfl)), ?_⟩
  refine List.forall_mem_cons.mpr ⟨va_Nw.warmC hW (h _ (List.mem_of_getElem? (i := 1) rfl)), ?_⟩
  refine List.forall_mem_cons.mpr ⟨va_Nw.warmC hW (h _ (List.mem_of_getElem? (i := 2) rfl)), ?_⟩
  refine List.forall_mem_cons.mpr ⟨va_Nw.warmD hW (h _ (List.mem_of_getElem? (i := 3) rfl)), ?_⟩
  refine List.forall_mem_cons.mpr ⟨va_Nw.warmD hW (h _ (List.mem_of_getElem? (i := 4) rfl)), ?_⟩
  refine List.forall_mem_cons.mpr ⟨va_Nw.warmD hW (h _ (List.mem_of_getElem? (i := 5) rfl)), ?_⟩
  refine List.forall_mem_cons.mpr ⟨va_Nw.warmD hW (h _ (List.mem_of_getElem? (i := 6) rfl)), ?_⟩
  refine List.forall_mem_cons.mpr ⟨va_Nw.warmD hW (h _ (List.mem_of_getElem? (i := 7) rfl)), ?_⟩
  refine List.forall_mem_cons.mpr ⟨va_Nw.warmD hW (h _ (List.mem_of_getElem? (i := 8) rfl)), ?_⟩
  exact fun _ h => absurd h List.not_mem_nil
theorem XS.warm {s U : State} (hW : s.WarmedH U.vm) (h : XS s) : XS U := by
  obtain ⟨h0, ⟨a0, s0⟩, ⟨a1, s1⟩, ⟨a2, s2⟩, ⟨a3, s3⟩, ⟨a4, s4⟩, ⟨a5, s5⟩, ⟨a6, s6⟩, ⟨a7, s7⟩⟩ := h
  exact ⟨XB_warm hW h0, ⟨a0, vk_R.warm hW s0⟩, ⟨a1, vk_R.warm hW s1⟩, ⟨a2, vk_R.warm hW s2⟩, ⟨a3, vk_R.warm hW s3⟩, ⟨a4, vk_R.warm hW s4⟩, ⟨a5, vk_R.warm hW s5⟩, ⟨a6, vk_R.warm hW s6⟩, ⟨a7, vk_R.warm hW s7⟩⟩
theorem XS.same {s U : State} (hv : U.vm = s.vm) (h : XS s) : XS U := by
  obtain ⟨h0, ⟨a0, s0⟩, ⟨a1, s1⟩, ⟨a2, s2⟩, ⟨a3, s3⟩, ⟨a4, s4⟩, ⟨a5, s5⟩, ⟨a6, s6⟩, ⟨a7, s7⟩⟩ := h
  exact ⟨fun w hw => va_Nw.same (XB_ot w hw) hv.symm (h0 w hw), ⟨a0, vk_R.same hv s0⟩, ⟨a1, vk_R.same hv s1⟩, ⟨a2, vk_R.same hv s2⟩, ⟨a3, vk_R.same hv s3⟩, ⟨a4, vk_R.same hv s4⟩, ⟨a5, vk_R.same hv s5⟩, ⟨a6, vk_R.same hv s6⟩, ⟨a7, vk_R.same hv s7⟩⟩
theorem XG.moved {A : Nat → Prop} {u U : State} {H : Heap} (hvm : u.vm.Alike U.vm) (h : XG A u H) : XG A U H := ⟨vx_Zq.moved hvm h.1, vx_Zq.moved hvm h.2⟩
theorem XG.kept {A : Nat → Prop} {U : State} {H H1 : Heap} (h : XG A U H) (hq : ∀ a : Nat, a < H.size → ¬ A a → H1[a]? = H[a]?) : XG A U H1 := ⟨vx_Zq.kept h.1 hq, vx_Zq.kept h.2 hq⟩
theorem XG.narrow {A B : Nat → Prop} {U : State} {H : Heap} (h : XG A U H) (hAB : ∀ q, B q → A q) : XG B U H := ⟨vx_Zq.narrow h.1 hAB, vx_Zq.narrow h.2 hAB⟩
abbrev rmx (f k : Nat) : Room := { frames := f, cells := 1, slots := 6, locals := k }
def CX (D : va_G) (tys : List (ClassId × FieldType)) (w : St → va_W) (A : Nat → Prop) (t : Nat) (u : St) : String → State → State → Prop :=
  vx_X (fun u' : St => u' = u) (fun E u t' => E = tagN t ∧ va_P D vwCl (w u) t'.heap ∧ va_K D vwCl tys t' ∧ va_D A (w u)) A
def CN (A : Nat → Prop) : Array Value → State → Outcome → State → Prop := va_Qv (fun _ : St => False) (fun _ _ => True) A
def CPx (D : va_G) (tys : List (ClassId × FieldType)) (w : St → va_W) (st : St) (sz : Nat) (av : List Value) : Array Value → State → Prop :=
  va_Pc av (fun U => U.heap.size = sz ∧ va_P D vwCl (w st) U.heap ∧ va_K D vwCl tys U ∧ va_D (fun _ => True) (w st) ∧ XG (va_A (w st) sz) U U.heap ∧ XS U)
/-- the contract of a method that throws: from st, with the arguments av, it throws by the tag t and leaves u -/
def Cx (l : Launch) (y : MethodName) (cc : ByteArray) (n : Nat) (ret : Option FieldType) (f k : Nat) (D : va_G) (tys : List (ClassId × FieldType)) (w : St → va_W) (st : St) (av : List Value) (t : Nat) (u : St) : Prop :=
  ∀ sz : Nat, vx_Met l y (Cond.code y cc n ret :: TB) (rmx f k) (CPx D tys w st sz av) (CN (va_A (w st) sz)) (CX D tys w (va_A (w st) sz) t u) 1 6 (va_A (w st) sz)
theorem cpx_blind {D : va_G} {tys : List (ClassId × FieldType)} {w : St → va_W} {st : St} {sz : Nat} {av : List Value} : FrameBlind (CPx D tys w st sz av) := fun a U g mk q => by
  obtain ⟨q0, q1, qP, qK, qD, qG, qS⟩ := q
  exact ⟨q0, q1, qP, va_K.moved (u := U) (U := U.calling g mk a) (Vm.Alike.refl U.vm) qK, qD, XG.moved (u := U) (U := U.calling g mk a) (Vm.Alike.refl U.vm) qG, XS.same (s := U) (U := U.calling g mk a) rfl qS⟩
theorem tz {v r : Int32} {st u : St} (h : some ((0 : Nat), v, st) = some (0, r, u)) : some (v, st) = some (r, u) := by cases h; rfl
theorem tn {t : Nat} {v r : Int32} {st u : St} (ht : t ≠ 0) : some ((0 : Nat), v, st) ≠ some (t, r, u) := fun h => by cases h; exact ht rfl
theorem tm {t : Nat} {v r : Int32} {st u : St} (ht : t ≠ 0) : some (t, v, st) ≠ some ((0 : Nat), r, u) := fun h => by cases h; exact ht rfl
def btw {α : Type} (x : Option (Nat × Int32 × St)) (k : Int32 → St → Option α) (j : Nat → St → Option α) : Option α := match x with
  | none => none
  | some (t, r, u) => if t = 0 then k r u else j t u
theorem btw_some {α : Type} {x : Option (Nat × Int32 × St)} {k : Int32 → St → Option α} {j : Nat → St → Option α} {o : α} (h : btw x k j = some o) : ∃ t r u, x = some (t, r, u) ∧ (if t = 0 then k r u else j t u) = some o := by
  cases x with
  | none => cases h
  | some q => obtain ⟨t, r, u⟩ := q; exact ⟨t, r, u, rfl, h⟩
def bth (x : Option (Nat × Int32 × St)) (k : Int32 → St → Option (Nat × Int32 × St)) : Option (Nat × Int32 × St) := btw x k (fun t u => some (t, 0, u))
theorem bth_some {x : Option (Nat × Int32 × St)} {k : Int32 → St → Option (Nat × Int32 × St)} {o : Nat × Int32 × St} (h : bth x k = some o) : ∃ t r u, x = some (t, r, u) ∧ (if t = 0 then k r u else some (t, 0, u)) = some o := btw_some h
section BodiesX
variable {l : Launch} {y : MethodName} {cc : ByteArray} {n f k : Nat} {ret : Option FieldType} {D : va_G} {tys : List (ClassId × FieldType)} {w : St → va_W} {st u : St} {av : List Value} {t : Nat}
set_option maxHeartbeats 1000000 in
theorem body_x (hy : plainName y.cls = true) (hav : (lg_sl av).length ≤ n)
    (body : ∀ (p : Program) (e : Env) (s : State) (m : MethodId) (below : List Frame) (meth : Method) (c : Code) (A : Nat → Prop) (ls : Array Slot), Env1 p s m av.toArray c cc n y.cls D tys → meth.sig.returnType = ret → meth.locks = false →
      (∀ q : Nat, s.heap.size ≤ q → A q) → (∀ x ∈ c.exceptionTable.toList, False) → XG A s s.heap → XS s → va_P D vwCl (w st) s.heap → va_D A (w st) → va_S A s.heap s.heap [] → lv_has ls n (lv_args 0 av) →
      W p l e (rmx f k) s m av.toArray below meth c s.heap [] 0 0 (vx_MQ below (CN A) (CX D tys w A t u) av.toArray s 1 6 A) (F0 m 0 ls [])) : Cx l y cc n ret f k D tys w st av t u := by
  intro sz
  refine vx_ofW (cc := cc) (maxL := n) (ret := ret) hy rfl ?_
  intro p e s m args below meth c s₁ B hml hno hv
  obtain ⟨rfl, hsz, hP, hK, hD0, hG, hXS⟩ := hv
  have hts := atoms_spec (ws := Cond.code y cc n ret :: TB) B.pre
  have hown : s.vm.findClass y.cls = some m.cls := findClass_of_methodNamed B.named
  subst hsz
  have hD := hD0.self (sz := s.heap.size)
  have hA : ∀ q : Nat, s.heap.size ≤ q → va_A (w st) s.heap.size q := fun q h => Or.inr h
  have hl := lv_entry av (n := n) hav
  rw [lg_entry_eq]
  exact body p e s m below meth c (va_A (w st) s.heap.size) _ ⟨⟨B.exec, B.bytes, hml, hown, fun w hw => hts w (List.mem_cons_of_mem _ hw)⟩, hK⟩ B.returns B.notSynchronized hA hno hG hXS hP hD va_S.rf hl
end BodiesX
section RowsX
variable {p : Program} {l : Launch} {e : Env} {R : Room} {s : State} {m : MethodId} {args : Array Value} {below : List Frame} {meth : Method} {c : Code} {H : Heap} {locs : List Loc} {pc nL : Nat} {ls : Array Slot} {cc : ByteArray} {own : String} {D : va_G} {tys : List (ClassId × FieldType)} {w : St → va_W} {st u : St} {v r : Int32} {A : Nat → Prop} {rest : List Value} {t : Nat}
variable {C : String} {idx n' f' k' na b : Nat} {y : MethodName} {cc' : ByteArray} {ret : Option FieldType} {As st0 : List Value}
theorem xg_at (hG : XG A s s.heap) (hD : va_D A (w st)) (hS : va_S A s.heap H locs) (hA : ∀ q : Nat, s.heap.size ≤ q → A q) : XG (va_A (w st) H.size) s H := (hG.kept hS.2.1).narrow (fr_all hD hS hA)
set_option maxHeartbeats 1000000 in
theorem callx_s {t1 : Nat} {u1 : St} (E : Env1 p s m args c cc nL own D tys) (hA : ∀ q : Nat, s.heap.size ≤ q → A q) (hno : ∀ x ∈ c.exceptionTable.toList, False) (hG : XG A s s.heap) (hX : XS s) (hlocks : meth.locks = false) (hP : va_P D vwCl (w st) H) (hD : va_D A (w st)) (hS : va_S A s.heap H locs) (hls : ls.size = nL)
    (hM : Cx l y cc' n' ret f' k' D tys w st As t1 u1) (cw : cwt own idx y cc' n' ret na)
    (hn : As.length = na) (hst : st0 = As.reverse ++ rest) (hW : (rest.map fun v => v.category).sum ≤ 8) (hR : f' + 1 ≤ R.frames ∧ 8 + (n' + 11) + k' ≤ R.locals) (hcs : 1 ≤ R.cells ∧ 6 ≤ R.slots) (hdg : decode cc pc = .ok (.invokestatic idx, 3)) (hEq : some (t1, v, u1) = some (t, r, u)) :
    W p l e R s m args below meth c H locs 0 0 (vx_MQ below (CN A) (CX D tys w A t u) args s 1 6 A) (F0 m pc ls st0) := by
  cases hEq
  have hF := fr_all hD hS hA
  refine vx_callv (vx_runS (As := As) (rest := rest) E.1 (hM H.size) (cwS na E.1.2.2.2.2 cw.1 rfl rfl rfl cw.2 hR) ⟨cpx_blind, fun U hU hW => ⟨rfl, by rw [hU], by rw [hU]; exact hP, va_K.moved hW.alike E.2, hD.weaken (fun _ _ _ _ => trivial), by rw [hU]; exact (xg_at hG hD hS hA).moved hW.alike, hX.warm hW⟩⟩ rfl hn hls hst (lv_room hW) hdg (by rw [Nat.zero_add, Nat.zero_add]; exact hcs)) hS (fun q _ h => hF q h) hF (fun q _ h => hF q h) (fun E0 ce q9 u' t1 H1 locs1 ht hvm hpx hB hz hk hS1 hcell hv hcl => ?_) (fun u1 t1 H1 locs1 ht hvm hw hB hz1 hk1 hS1 => hw.elim)
  subst hpx
  obtain ⟨rfl, hP1, hK1, hD1⟩ := hB
  rw [ht] at hP1
  exact vx_out (fun x hx => (hno x hx).elim) hlocks hcell hv hcl (fun t' ht' hal => ⟨u', rfl, ⟨rfl, by rw [ht']; exact hP1, va_K.moved hal E.2, hD1.weaken (fun _ _ _ h => hF _ h)⟩, hS1.F ht'⟩) hS1.2.2 (Nat.le_refl _) (Nat.le_refl _)
set_option maxHeartbeats 1000000 in
theorem callx_v {t1 : Nat} {u1 : St} (E : Env1 p s m args c cc nL own D tys) (hA : ∀ q : Nat, s.heap.size ≤ q → A q) (hno : ∀ x ∈ c.exceptionTable.toList, False) (hG : XG A s s.heap) (hX : XS s) (hlocks : meth.locks = false) (hP : va_P D vwCl (w st) H) (hD : va_D A (w st)) (hS : va_S A s.heap H locs) (hls : ls.size = nL)
    (hM : Cx l y cc' n' ret f' k' D tys w st (.ref b :: As) t1 u1) (cw : cwd own idx C y cc' n' ret na) (q0 : Nat) {ci : Nat} {fs : List Value} {qC : vw_C} (hc : vwCl[ci]? = some qC) (he : (w st)[q0]? = some (b, .inr (ci, fs))) (hC : qC.1 = C)
    (hn : As.length = na) (hst : st0 = As.reverse ++ .ref b :: rest) (hW : (rest.map fun v => v.category).sum ≤ 8) (hR : f' + 1 ≤ R.frames ∧ 8 + (n' + 11) + k' ≤ R.locals) (hcs : 1 ≤ R.cells ∧ 6 ≤ R.slots) (hdg : decode cc pc = .ok (.invokevirtual idx, 3)) (hEq : some (t1, v, u1) = some (t, r, u)) :
    W p l e R s m args below meth c H locs 0 0 (vx_MQ below (CN A) (CX D tys w A t u) args s 1 6 A) (F0 m pc ls st0) := by
  cases hEq
  have hF := fr_all hD hS hA
  refine vx_callv (vx_runV (As := As) (rest := rest) E.1 (hM H.size) (cwV na E.1.2.2.2.2 cw.1 rfl rfl rfl cw.2 hR) ⟨cpx_blind, by rw [← hC]; exact va_recv E.2 hP hc he, fun U hU hW => ⟨rfl, by rw [hU], by rw [hU]; exact hP, va_K.moved hW.alike E.2, hD.weaken (fun _ _ _ _ => trivial), by rw [hU]; exact (xg_at hG hD hS hA).moved hW.alike, hX.warm hW⟩⟩ rfl hn hls hst (lv_room hW) hdg (by rw [Nat.zero_add, Nat.zero_add]; exact hcs)) hS (fun q _ h => hF q h) hF (fun q _ h => hF q h) (fun E0 ce q9 u' t1 H1 locs1 ht hvm hpx hB hz hk hS1 hcell hv hcl => ?_) (fun u1 t1 H1 locs1 ht hvm hw hB hz1 hk1 hS1 => hw.elim)
  subst hpx
  obtain ⟨rfl, hP1, hK1, hD1⟩ := hB
  rw [ht] at hP1
  exact vx_out (fun x hx => (hno x hx).elim) hlocks hcell hv hcl (fun t' ht' hal => ⟨u', rfl, ⟨rfl, by rw [ht']; exact hP1, va_K.moved hal E.2, hD1.weaken (fun _ _ _ h => hF _ h)⟩, hS1.F ht'⟩) hS1.2.2 (Nat.le_refl _) (Nat.le_refl _)

theorem xk_1 : Cond.classLink RX2 36 "java/lang/IllegalArgumentException" ∈ TB := tb_in 470 (by decide +kernel) (by decide +kernel)
theorem xi_1 : Cond.initialized "java/lang/IllegalArgumentException" ∈ TB := tb_in 54 (by decide +kernel) (by decide +kernel)
set_option maxRecDepth 100000 in
theorem xa_1 : ∀ w ∈ (vx_atS RX2 40 "java/lang/IllegalArgumentException" thN).filter goodWord, w ∈ TB := by decide +kernel
set_option maxRecDepth 100000 in
theorem xb_1 : ∀ w ∈ (vx_atS RX2 40 "java/lang/IllegalArgumentException" thN).filter (fun w => !goodWord w), w ∈ XB := by decide +kernel
set_option maxRecDepth 100000 in
theorem xo_1 : ∀ w ∈ Cond.classLink RX2 36 "java/lang/IllegalArgumentException" :: Cond.initialized "java/lang/IllegalArgumentException" :: vx_atS RX2 40 "java/lang/IllegalArgumentException" thN, vx_ot w = true := by decide +kernel
theorem xk_2 : Cond.classLink RX2 175 "java/lang/IllegalStateException" ∈ TB := tb_in 613 (by decide +kernel) (by decide +kernel)
theorem xi_2 : Cond.initialized "java/lang/IllegalStateException" ∈ TB := tb_in 57 (by decide +kernel) (by decide +kernel)
set_option maxRecDepth 100000 in
theorem xa_2 : ∀ w ∈ (vx_atS RX2 179 "java/lang/IllegalStateException" thN).filter goodWord, w ∈ TB := by decide +kernel
set_option maxRecDepth 100000 in
theorem xb_2 : ∀ w ∈ (vx_atS RX2 179 "java/lang/IllegalStateException" thN).filter (fun w => !goodWord w), w ∈ XB := by decide +kernel
set_option maxRecDepth 100000 in
theorem xo_2 : ∀ w ∈ Cond.classLink RX2 175 "java/lang/IllegalStateException" :: Cond.initialized "java/lang/IllegalStateException" :: vx_atS RX2 179 "java/lang/IllegalStateException" thN, vx_ot w = true := by decide +kernel
theorem xk_3 : Cond.classLink RX2 81 "java/util/NoSuchElementException" ∈ TB := tb_in 633 (by decide +kernel) (by decide +kernel)
theorem xi_3 : Cond.initialized "java/util/NoSuchElementException" ∈ TB := tb_in 58 (by decide +kernel) (by decide +kernel)
set_option maxRecDepth 100000 in
theorem xa_3 : ∀ w ∈ ((zn_atoms RX2 85 "java/util/NoSuchElementException" "java/lang/RuntimeException" ["java/lang/Exception"] 13 prog_16_method_4_code).filter vx_no).filter goodWord, w ∈ TB := by decide +kernel
set_option maxRecDepth 100000 in
theorem xb_3 : ∀ w ∈ ((zn_atoms RX2 85 "java/util/NoSuchElementException" "java/lang/RuntimeException" ["java/lang/Exception"] 13 prog_16_method_4_code).filter vx_no).filter (fun w => !goodWord w), w ∈ XB := by decide +kernel
set_option maxRecDepth 100000 in
theorem xo_3 : ∀ w ∈ Cond.classLink RX2 81 "java/util/NoSuchElementException" :: Cond.initialized "java/util/NoSuchElementException" :: (zn_atoms RX2 85 "java/util/NoSuchElementException" "java/lang/RuntimeException" ["java/lang/Exception"] 13 prog_16_method_4_code).filter vx_no, vx_ot w = true := by decide +kernel
set_option maxHeartbeats 4000000 in
theorem thr_38 (E : Env1 p s m args c cc nL RX2 D tys) (hst : l.stackTraces = false) (hA : ∀ q : Nat, s.heap.size ≤ q → A q) (hno : ∀ x ∈ c.exceptionTable.toList, False) (hG : XG A s s.heap) (hX : XS s) (hlocks : meth.locks = false) (hP : va_P D vwCl (w st) H) (hD : va_D A (w st)) (hS : va_S A s.heap H locs) (hls : ls.size = nL) (hf : 6 ≤ R.frames) (hlo : (rest.map fun v => v.category).sum + 82 ≤ R.locals) (hcs : 1 ≤ R.cells ∧ 6 ≤ R.slots) (d0 : decode cc pc = .ok (.new 36, 3)) (d3 : decode cc (pc + 3) = .ok (.dup, 1)) (d4 : decode cc (pc + 4) = .ok (.ldc 38, 2)) (d6 : decode cc (pc + 6) = .ok (.invokespecial 40, 3)) (d9 : decode cc (pc + 9) = .ok (.athrow, 1)) (hF : some ((1 : Nat), v, st) = some (t, r, u)) :
    W p l e R s m args below meth c H locs 0 0 (vx_MQ below (CN A) (CX D tys w A t u) args s 1 6 A) (F0 m pc ls rest) := by
  cases hF
  obtain ⟨sa, hsa⟩ := hX.2.1
  refine vx_throwS (own := RX2) (cls := "java/lang/IllegalArgumentException") (names := thN) (text := "pages is not 4 to 64") (A := A) E.1.1 E.1.2.1 hst E.1.2.2.2.1 (by decide +kernel) (by decide +kernel) (E.1.2.2.2.2 _ xk_1) (E.1.2.2.2.2 _ xi_1) hsa (vx_hat (fun w hw => E.1.2.2.2.2 _ (xa_1 w hw)) xb_1 (fun w hw => va_Nw.use (XB_ot w hw) (hX.1 w hw))) xo_1 hG.1 hG.2 hS (hls.trans E.1.2.2.1.symm) d0 d3 d4 d6 d9 (fun x hx => (hno x hx).elim) hf hlo (by rw [Nat.zero_add]; exact hcs.1) (by rw [Nat.zero_add]; exact hcs.2) hlocks (fun t hal hz hk => ?_) hS.2.2 (Nat.le_refl _) (Nat.le_refl _)
  exact ⟨st, rfl, ⟨rfl, hP.kept (fun k q hq => hk _ (hP k q hq).lt), va_K.moved hal E.2, hD⟩, Nat.le_trans hS.1 hz, fun q h1 h2 => (hk q (Nat.lt_of_lt_of_le h1 hS.1)).trans (hS.2.1 q h1 h2)⟩
set_option maxHeartbeats 4000000 in
theorem thr_43 (E : Env1 p s m args c cc nL RX2 D tys) (hst : l.stackTraces = false) (hA : ∀ q : Nat, s.heap.size ≤ q → A q) (hno : ∀ x ∈ c.exceptionTable.toList, False) (hG : XG A s s.heap) (hX : XS s) (hlocks : meth.locks = false) (hP : va_P D vwCl (w st) H) (hD : va_D A (w st)) (hS : va_S A s.heap H locs) (hls : ls.size = nL) (hf : 6 ≤ R.frames) (hlo : (rest.map fun v => v.category).sum + 82 ≤ R.locals) (hcs : 1 ≤ R.cells ∧ 6 ≤ R.slots) (d0 : decode cc pc = .ok (.new 36, 3)) (d3 : decode cc (pc + 3) = .ok (.dup, 1)) (d4 : decode cc (pc + 4) = .ok (.ldc 43, 2)) (d6 : decode cc (pc + 6) = .ok (.invokespecial 40, 3)) (d9 : decode cc (pc + 9) = .ok (.athrow, 1)) (hF : some ((1 : Nat), v, st) = some (t, r, u)) :
    W p l e R s m args below meth c H locs 0 0 (vx_MQ below (CN A) (CX D tys w A t u) args s 1 6 A) (F0 m pc ls rest) := by
  cases hF
  obtain ⟨sa, hsa⟩ := hX.2.2.1
  refine vx_throwS (own := RX2) (cls := "java/lang/IllegalArgumentException") (names := thN) (text := "words is not 8 to 64") (A := A) E.1.1 E.1.2.1 hst E.1.2.2.2.1 (by decide +kernel) (by decide +kernel) (E.1.2.2.2.2 _ xk_1) (E.1.2.2.2.2 _ xi_1) hsa (vx_hat (fun w hw => E.1.2.2.2.2 _ (xa_1 w hw)) xb_1 (fun w hw => va_Nw.use (XB_ot w hw) (hX.1 w hw))) xo_1 hG.1 hG.2 hS (hls.trans E.1.2.2.1.symm) d0 d3 d4 d6 d9 (fun x hx => (hno x hx).elim) hf hlo (by rw [Nat.zero_add]; exact hcs.1) (by rw [Nat.zero_add]; exact hcs.2) hlocks (fun t hal hz hk => ?_) hS.2.2 (Nat.le_refl _) (Nat.le_refl _)
  exact ⟨st, rfl, ⟨rfl, hP.kept (fun k q hq => hk _ (hP k q hq).lt), va_K.moved hal E.2, hD⟩, Nat.le_trans hS.1 hz, fun q h1 h2 => (hk q (Nat.lt_of_lt_of_le h1 hS.1)).trans (hS.2.1 q h1 h2)⟩
set_option maxHeartbeats 4000000 in
theorem thr_173 (E : Env1 p s m args c cc nL RX2 D tys) (hst : l.stackTraces = false) (hA : ∀ q : Nat, s.heap.size ≤ q → A q) (hno : ∀ x ∈ c.exceptionTable.toList, False) (hG : XG A s s.heap) (hX : XS s) (hlocks : meth.locks = false) (hP : va_P D vwCl (w st) H) (hD : va_D A (w st)) (hS : va_S A s.heap H locs) (hls : ls.size = nL) (hf : 6 ≤ R.frames) (hlo : (rest.map fun v => v.category).sum + 82 ≤ R.locals) (hcs : 1 ≤ R.cells ∧ 6 ≤ R.slots) (d0 : decode cc pc = .ok (.new 36, 3)) (d3 : decode cc (pc + 3) = .ok (.dup, 1)) (d4 : decode cc (pc + 4) = .ok (.ldc 173, 2)) (d6 : decode cc (pc + 6) = .ok (.invokespecial 40, 3)) (d9 : decode cc (pc + 9) = .ok (.athrow, 1)) (hF : some ((1 : Nat), v, st) = some (t, r, u)) :
    W p l e R s m args below meth c H locs 0 0 (vx_MQ below (CN A) (CX D tys w A t u) args s 1 6 A) (F0 m pc ls rest) := by
  cases hF
  obtain ⟨sa, hsa⟩ := hX.2.2.2.1
  refine vx_throwS (own := RX2) (cls := "java/lang/IllegalArgumentException") (names := thN) (text := "there is no such ROOT") (A := A) E.1.1 E.1.2.1 hst E.1.2.2.2.1 (by decide +kernel) (by decide +kernel) (E.1.2.2.2.2 _ xk_1) (E.1.2.2.2.2 _ xi_1) hsa (vx_hat (fun w hw => E.1.2.2.2.2 _ (xa_1 w hw)) xb_1 (fun w hw => va_Nw.use (XB_ot w hw) (hX.1 w hw))) xo_1 hG.1 hG.2 hS (hls.trans E.1.2.2.1.symm) d0 d3 d4 d6 d9 (fun x hx => (hno x hx).elim) hf hlo (by rw [Nat.zero_add]; exact hcs.1) (by rw [Nat.zero_add]; exact hcs.2) hlocks (fun t hal hz hk => ?_) hS.2.2 (Nat.le_refl _) (Nat.le_refl _)
  exact ⟨st, rfl, ⟨rfl, hP.kept (fun k q hq => hk _ (hP k q hq).lt), va_K.moved hal E.2, hD⟩, Nat.le_trans hS.1 hz, fun q h1 h2 => (hk q (Nat.lt_of_lt_of_le h1 hS.1)).trans (hS.2.1 q h1 h2)⟩
set_option maxHeartbeats 4000000 in
theorem thr_49 (E : Env1 p s m args c cc nL RX2 D tys) (hst : l.stackTraces = false) (hA : ∀ q : Nat, s.heap.size ≤ q → A q) (hno : ∀ x ∈ c.exceptionTable.toList, False) (hG : XG A s s.heap) (hX : XS s) (hlocks : meth.locks = false) (hP : va_P D vwCl (w st) H) (hD : va_D A (w st)) (hS : va_S A s.heap H locs) (hls : ls.size = nL) (hf : 6 ≤ R.frames) (hlo : (rest.map fun v => v.category).sum + 82 ≤ R.locals) (hcs : 1 ≤ R.cells ∧ 6 ≤ R.slots) (d0 : decode cc pc = .ok (.new 36, 3)) (d3 : decode cc (pc + 3) = .ok (.dup, 1)) (d4 : decode cc (pc + 4) = .ok (.ldc 49, 2)) (d6 : decode cc (pc + 6) = .ok (.invokespecial 40, 3)) (d9 : decode cc (pc + 9) = .ok (.athrow, 1)) (hF : some ((1 : Nat), v, st) = some (t, r, u)) :
    W p l e R s m args below meth c H locs 0 0 (vx_MQ below (CN A) (CX D tys w A t u) args s 1 6 A) (F0 m pc ls rest) := by
  cases hF
  obtain ⟨sa, hsa⟩ := hX.2.2.2.2.1
  refine vx_throwS (own := RX2) (cls := "java/lang/IllegalArgumentException") (names := thN) (text := "refs is not 0 to 31") (A := A) E.1.1 E.1.2.1 hst E.1.2.2.2.1 (by decide +kernel) (by decide +kernel) (E.1.2.2.2.2 _ xk_1) (E.1.2.2.2.2 _ xi_1) hsa (vx_hat (fun w hw => E.1.2.2.2.2 _ (xa_1 w hw)) xb_1 (fun w hw => va_Nw.use (XB_ot w hw) (hX.1 w hw))) xo_1 hG.1 hG.2 hS (hls.trans E.1.2.2.1.symm) d0 d3 d4 d6 d9 (fun x hx => (hno x hx).elim) hf hlo (by rw [Nat.zero_add]; exact hcs.1) (by rw [Nat.zero_add]; exact hcs.2) hlocks (fun t hal hz hk => ?_) hS.2.2 (Nat.le_refl _) (Nat.le_refl _)
  exact ⟨st, rfl, ⟨rfl, hP.kept (fun k q hq => hk _ (hP k q hq).lt), va_K.moved hal E.2, hD⟩, Nat.le_trans hS.1 hz, fun q h1 h2 => (hk q (Nat.lt_of_lt_of_le h1 hS.1)).trans (hS.2.1 q h1 h2)⟩
set_option maxHeartbeats 4000000 in
theorem thr_51 (E : Env1 p s m args c cc nL RX2 D tys) (hst : l.stackTraces = false) (hA : ∀ q : Nat, s.heap.size ≤ q → A q) (hno : ∀ x ∈ c.exceptionTable.toList, False) (hG : XG A s s.heap) (hX : XS s) (hlocks : meth.locks = false) (hP : va_P D vwCl (w st) H) (hD : va_D A (w st)) (hS : va_S A s.heap H locs) (hls : ls.size = nL) (hf : 6 ≤ R.frames) (hlo : (rest.map fun v => v.category).sum + 82 ≤ R.locals) (hcs : 1 ≤ R.cells ∧ 6 ≤ R.slots) (d0 : decode cc pc = .ok (.new 36, 3)) (d3 : decode cc (pc + 3) = .ok (.dup, 1)) (d4 : decode cc (pc + 4) = .ok (.ldc 51, 2)) (d6 : decode cc (pc + 6) = .ok (.invokespecial 40, 3)) (d9 : decode cc (pc + 9) = .ok (.athrow, 1)) (hF : some ((1 : Nat), v, st) = some (t, r, u)) :
    W p l e R s m args below meth c H locs 0 0 (vx_MQ below (CN A) (CX D tys w A t u) args s 1 6 A) (F0 m pc ls rest) := by
  cases hF
  obtain ⟨sa, hsa⟩ := hX.2.2.2.2.2.1
  refine vx_throwS (own := RX2) (cls := "java/lang/IllegalArgumentException") (names := thN) (text := "data is not 0 to 200") (A := A) E.1.1 E.1.2.1 hst E.1.2.2.2.1 (by decide +kernel) (by decide +kernel) (E.1.2.2.2.2 _ xk_1) (E.1.2.2.2.2 _ xi_1) hsa (vx_hat (fun w hw => E.1.2.2.2.2 _ (xa_1 w hw)) xb_1 (fun w hw => va_Nw.use (XB_ot w hw) (hX.1 w hw))) xo_1 hG.1 hG.2 hS (hls.trans E.1.2.2.1.symm) d0 d3 d4 d6 d9 (fun x hx => (hno x hx).elim) hf hlo (by rw [Nat.zero_add]; exact hcs.1) (by rw [Nat.zero_add]; exact hcs.2) hlocks (fun t hal hz hk => ?_) hS.2.2 (Nat.le_refl _) (Nat.le_refl _)
  exact ⟨st, rfl, ⟨rfl, hP.kept (fun k q hq => hk _ (hP k q hq).lt), va_K.moved hal E.2, hD⟩, Nat.le_trans hS.1 hz, fun q h1 h2 => (hk q (Nat.lt_of_lt_of_le h1 hS.1)).trans (hS.2.1 q h1 h2)⟩
set_option maxHeartbeats 4000000 in
theorem thr_177 (E : Env1 p s m args c cc nL RX2 D tys) (hst : l.stackTraces = false) (hA : ∀ q : Nat, s.heap.size ≤ q → A q) (hno : ∀ x ∈ c.exceptionTable.toList, False) (hG : XG A s s.heap) (hX : XS s) (hlocks : meth.locks = false) (hP : va_P D vwCl (w st) H) (hD : va_D A (w st)) (hS : va_S A s.heap H locs) (hls : ls.size = nL) (hf : 6 ≤ R.frames) (hlo : (rest.map fun v => v.category).sum + 82 ≤ R.locals) (hcs : 1 ≤ R.cells ∧ 6 ≤ R.slots) (d0 : decode cc pc = .ok (.new 175, 3)) (d3 : decode cc (pc + 3) = .ok (.dup, 1)) (d4 : decode cc (pc + 4) = .ok (.ldc 177, 2)) (d6 : decode cc (pc + 6) = .ok (.invokespecial 179, 3)) (d9 : decode cc (pc + 9) = .ok (.athrow, 1)) (hF : some ((2 : Nat), v, st) = some (t, r, u)) :
    W p l e R s m args below meth c H locs 0 0 (vx_MQ below (CN A) (CX D tys w A t u) args s 1 6 A) (F0 m pc ls rest) := by
  cases hF
  obtain ⟨sa, hsa⟩ := hX.2.2.2.2.2.2.1
  refine vx_throwS (own := RX2) (cls := "java/lang/IllegalStateException") (names := thN) (text := "the EXACT ROOT has NONE") (A := A) E.1.1 E.1.2.1 hst E.1.2.2.2.1 (by decide +kernel) (by decide +kernel) (E.1.2.2.2.2 _ xk_2) (E.1.2.2.2.2 _ xi_2) hsa (vx_hat (fun w hw => E.1.2.2.2.2 _ (xa_2 w hw)) xb_2 (fun w hw => va_Nw.use (XB_ot w hw) (hX.1 w hw))) xo_2 hG.1 hG.2 hS (hls.trans E.1.2.2.1.symm) d0 d3 d4 d6 d9 (fun x hx => (hno x hx).elim) hf hlo (by rw [Nat.zero_add]; exact hcs.1) (by rw [Nat.zero_add]; exact hcs.2) hlocks (fun t hal hz hk => ?_) hS.2.2 (Nat.le_refl _) (Nat.le_refl _)
  exact ⟨st, rfl, ⟨rfl, hP.kept (fun k q hq => hk _ (hP k q hq).lt), va_K.moved hal E.2, hD⟩, Nat.le_trans hS.1 hz, fun q h1 h2 => (hk q (Nat.lt_of_lt_of_le h1 hS.1)).trans (hS.2.1 q h1 h2)⟩
set_option maxHeartbeats 4000000 in
theorem thr_180 (E : Env1 p s m args c cc nL RX2 D tys) (hst : l.stackTraces = false) (hA : ∀ q : Nat, s.heap.size ≤ q → A q) (hno : ∀ x ∈ c.exceptionTable.toList, False) (hG : XG A s s.heap) (hX : XS s) (hlocks : meth.locks = false) (hP : va_P D vwCl (w st) H) (hD : va_D A (w st)) (hS : va_S A s.heap H locs) (hls : ls.size = nL) (hf : 6 ≤ R.frames) (hlo : (rest.map fun v => v.category).sum + 82 ≤ R.locals) (hcs : 1 ≤ R.cells ∧ 6 ≤ R.slots) (d0 : decode cc pc = .ok (.new 81, 3)) (d3 : decode cc (pc + 3) = .ok (.dup, 1)) (d4 : decode cc (pc + 4) = .ok (.ldc 180, 2)) (d6 : decode cc (pc + 6) = .ok (.invokespecial 85, 3)) (d9 : decode cc (pc + 9) = .ok (.athrow, 1)) (hF : some ((3 : Nat), v, st) = some (t, r, u)) :
    W p l e R s m args below meth c H locs 0 0 (vx_MQ below (CN A) (CX D tys w A t u) args s 1 6 A) (F0 m pc ls rest) := by
  cases hF
  obtain ⟨sa, hsa⟩ := hX.2.2.2.2.2.2.2.1
  refine zn_throwS (own := RX2) (cls := "java/util/NoSuchElementException") (Y0 := "java/lang/RuntimeException") (names := ["java/lang/Exception"]) (i0 := 13) (nb := prog_16_method_4_code) (text := "there is no such REF") (A := A) E.1.1 E.1.2.1 hst (by decide +kernel) (by decide +kernel) (by decide +kernel) (by decide +kernel) (by decide +kernel) E.1.2.2.2.1 (by decide +kernel) (by decide +kernel) (E.1.2.2.2.2 _ xk_3) (E.1.2.2.2.2 _ xi_3) hsa (vx_hat (fun w hw => E.1.2.2.2.2 _ (xa_3 w hw)) xb_3 (fun w hw => va_Nw.use (XB_ot w hw) (hX.1 w hw))) xo_3 hG.1 hG.2 hS (hls.trans E.1.2.2.1.symm) d0 d3 d4 d6 d9 (fun x hx => (hno x hx).elim) hf hlo (by rw [Nat.zero_add]; exact hcs.1) (by rw [Nat.zero_add]; exact hcs.2) hlocks (fun t hal hz hk => ?_) hS.2.2 (Nat.le_refl _) (Nat.le_refl _)
  exact ⟨st, rfl, ⟨rfl, hP.kept (fun k q hq => hk _ (hP k q hq).lt), va_K.moved hal E.2, hD⟩, Nat.le_trans hS.1 hz, fun q h1 h2 => (hk q (Nat.lt_of_lt_of_le h1 hS.1)).trans (hS.2.1 q h1 h2)⟩
set_option maxHeartbeats 4000000 in
theorem thr_83 (E : Env1 p s m args c cc nL RX2 D tys) (hst : l.stackTraces = false) (hA : ∀ q : Nat, s.heap.size ≤ q → A q) (hno : ∀ x ∈ c.exceptionTable.toList, False) (hG : XG A s s.heap) (hX : XS s) (hlocks : meth.locks = false) (hP : va_P D vwCl (w st) H) (hD : va_D A (w st)) (hS : va_S A s.heap H locs) (hls : ls.size = nL) (hf : 6 ≤ R.frames) (hlo : (rest.map fun v => v.category).sum + 82 ≤ R.locals) (hcs : 1 ≤ R.cells ∧ 6 ≤ R.slots) (d0 : decode cc pc = .ok (.new 81, 3)) (d3 : decode cc (pc + 3) = .ok (.dup, 1)) (d4 : decode cc (pc + 4) = .ok (.ldc 83, 2)) (d6 : decode cc (pc + 6) = .ok (.invokespecial 85, 3)) (d9 : decode cc (pc + 9) = .ok (.athrow, 1)) (hF : some ((3 : Nat), v, st) = some (t, r, u)) :
    W p l e R s m args below meth c H locs 0 0 (vx_MQ below (CN A) (CX D tys w A t u) args s 1 6 A) (F0 m pc ls rest) := by
  cases hF
  obtain ⟨sa, hsa⟩ := hX.2.2.2.2.2.2.2.2
  refine zn_throwS (own := RX2) (cls := "java/util/NoSuchElementException") (Y0 := "java/lang/RuntimeException") (names := ["java/lang/Exception"]) (i0 := 13) (nb := prog_16_method_4_code) (text := "there is no such DATA") (A := A) E.1.1 E.1.2.1 hst (by decide +kernel) (by decide +kernel) (by decide +kernel) (by decide +kernel) (by decide +kernel) E.1.2.2.2.1 (by decide +kernel) (by decide +kernel) (E.1.2.2.2.2 _ xk_3) (E.1.2.2.2.2 _ xi_3) hsa (vx_hat (fun w hw => E.1.2.2.2.2 _ (xa_3 w hw)) xb_3 (fun w hw => va_Nw.use (XB_ot w hw) (hX.1 w hw))) xo_3 hG.1 hG.2 hS (hls.trans E.1.2.2.1.symm) d0 d3 d4 d6 d9 (fun x hx => (hno x hx).elim) hf hlo (by rw [Nat.zero_add]; exact hcs.1) (by rw [Nat.zero_add]; exact hcs.2) hlocks (fun t hal hz hk => ?_) hS.2.2 (Nat.le_refl _) (Nat.le_refl _)
  exact ⟨st, rfl, ⟨rfl, hP.kept (fun k q hq => hk _ (hP k q hq).lt), va_K.moved hal E.2, hD⟩, Nat.le_trans hS.1 hz, fun q h1 h2 => (hk q (Nat.lt_of_lt_of_le h1 hS.1)).trans (hS.2.1 q h1 h2)⟩
end RowsX
