/-! THE BASE: one list of words for all methods, the state as numbers, contracts and rows over any world that is read off a state -/
/-- the good words of the law's tables: every contract's list is its own code, and these -/
def TB : List Cond := lw_tbl.filter goodWord
theorem tb_in {w : Cond} (i : Nat) (h : lw_tbl[i]? = some w) (hg : goodWord w = true) : w ∈ TB := List.mem_filter.mpr ⟨List.mem_of_getElem? h, hg⟩
theorem tb_gd {w : Cond} (h : w ∈ TB) : w ∈ TB ∧ ((w.onTables && w.keeps) = true ∨ ∃ ty, w = .arrayClass ty) := ⟨h, good_of_word (List.mem_filter.mp h).2⟩
theorem tb_code {y : MethodName} {cc : ByteArray} {n : Nat} {ret : Option FieldType} (h : Cond.code y cc n ret ∈ TB) : GoodIn TB (Cond.code y cc n ret :: TB) := fun w hw => (List.mem_cons.mp hw).elim (fun e => by rw [e]; exact tb_gd h) (fun h => tb_gd h)
theorem tb_V {own C : String} {idx n : Nat} {y : MethodName} {cc : ByteArray} {ret : Option FieldType} (h1 : Cond.methodLink own idx y ∈ TB) (h2 : Cond.instanceMethod y ∈ TB) (h3 : Cond.selects C y y ∈ TB) (h4 : Cond.initialized C ∈ TB) (h5 : Cond.code y cc n ret ∈ TB) : GoodIn TB (wsV own idx C y (Cond.code y cc n ret :: TB)) := fun w hw => by
  rcases List.mem_append.mp hw with h | h
  · rcases List.mem_cons.mp h with e | h
    · rw [e]; exact tb_gd h1
    · rcases List.mem_cons.mp h with e | h
      · rw [e]; exact tb_gd h2
      · rcases List.mem_cons.mp h with e | h
        · rw [e]; exact tb_gd h3
        · rcases List.mem_cons.mp h with e | h
          · rw [e]; exact tb_gd h4
          · cases h
  · exact tb_code h5 w h
theorem tb_S {own : String} {idx n : Nat} {y : MethodName} {cc : ByteArray} {ret : Option FieldType} (h1 : Cond.methodLink own idx y ∈ TB) (h2 : Cond.static y ∈ TB) (h4 : Cond.initialized own ∈ TB) (h5 : Cond.code y cc n ret ∈ TB) : GoodIn TB (wsS own idx y (Cond.code y cc n ret :: TB)) := fun w hw => by
  rcases List.mem_append.mp hw with h | h
  · rcases List.mem_cons.mp h with e | h
    · rw [e]; exact tb_gd h1
    · rcases List.mem_cons.mp h with e | h
      · rw [e]; exact tb_gd h2
      · rcases List.mem_cons.mp h with e | h
        · rw [e]; exact tb_gd h4
        · cases h
  · exact tb_code h5 w h
/-- numbers of a state: of each cell its whole numbers by place; the long array's -/
abbrev St : Type := (Nat → Nat → Int32) × (Nat → Int64)
def pt (s : St) (c k : Nat) (v : Int32) : St := (fun i => if i = c then upd (s.1 i) k v else s.1 i, s.2)
def pf (s : St) (c : Nat) (f : Nat → Int32) : St := (fun i => if i = c then f else s.1 i, s.2)
def pg (s : St) (k : Nat) (v : Int64) : St := (s.1, vp_updL s.2 k v)
def ph (s : St) (f : Nat → Int64) : St := (s.1, f)
/-- a place in range, or nothing -/
def gd {α : Type} (i : Int32) (n : Nat) (k : Option α) : Option α := if i < 0 ∨ n ≤ i.toNatClampNeg then none else k
theorem gd_some {α : Type} {i : Int32} {n : Nat} {k : Option α} {o : α} (h : gd i n k = some o) : vp_in i n ∧ k = some o := by
  unfold gd at h
  split at h
  · cases h
  · exact ⟨by assumption, h⟩
/-- a divisor, or nothing -/
def dz {α : Type} (y : Int32) (k : Option α) : Option α := if y = 0 then none else k
theorem dz_some {α : Type} {y : Int32} {k : Option α} {o : α} (h : dz y k = some o) : ¬ y = 0 ∧ k = some o := by
  unfold dz at h
  split at h
  · cases h
  · exact ⟨by assumption, h⟩
/-- a truth, or nothing -/
def gz {α : Type} (y : Int32) (k : Option α) : Option α := if y = 0 ∨ y = 1 then k else none
theorem gz_some {α : Type} {y : Int32} {k : Option α} {o : α} (h : gz y k = some o) : narrow .boolean (.int y) = .int y ∧ k = some o := by
  unfold gz at h
  split at h
  · rename_i h1
    refine ⟨?_, h⟩
    rcases h1 with e | e <;> (rw [e]; rfl)
  · cases h
/-- one behind the other -/
def bd {α : Type} (x : Option (Int32 × St)) (k : Int32 → St → Option α) : Option α := match x with
  | none => none
  | some (r, u) => k r u
theorem bd_some {α : Type} {x : Option (Int32 × St)} {k : Int32 → St → Option α} {o : α} (h : bd x k = some o) : ∃ r u, x = some (r, u) ∧ k r u = some o := by
  cases x with
  | none => cases h
  | some q => obtain ⟨r, u⟩ := q; exact ⟨r, u, rfl, h⟩
def be {α β : Type} (x : Option β) (k : β → Option α) : Option α := match x with
  | none => none
  | some q => k q
theorem be_some {α β : Type} {x : Option β} {k : β → Option α} {o : α} (h : be x k = some o) : ∃ q, x = some q ∧ k q = some o := by
  cases x with
  | none => cases h
  | some q => exact ⟨q, rfl, h⟩
theorem if_t {α : Type} {c : Prop} [Decidable c] {a b : α} {o : α} (hc : c) (h : (if c then a else b) = o) : a = o := by rw [if_pos hc] at h; exact h
theorem if_f {α : Type} {c : Prop} [Decidable c] {a b : α} {o : α} (hc : ¬ c) (h : (if c then a else b) = o) : b = o := by rw [if_neg hc] at h; exact h
/-- what holds all through a method's body -/
def Env1 (p : Program) (s : State) (m : MethodId) (args : Array Value) (c : Code) (cc : ByteArray) (nL : Nat) (own : String) (D : va_G) (tys : List (ClassId × FieldType)) : Prop :=
  CallFix p m c cc nL s args TB own ∧ va_K D vwCl tys s
/-- what a method's caller finds -/
def CQ (D : va_G) (tys : List (ClassId × FieldType)) (w : St → va_W) (A : Nat → Prop) (r : Int32) (u : St) : Array Value → State → Outcome → State → Prop :=
  va_Qi (fun (r' : Int32) (u' : St) => r' = r ∧ u' = u) (fun u t => va_P D vwCl (w u) t.heap ∧ va_K D vwCl tys t ∧ va_D A (w u)) A
def CQv (D : va_G) (tys : List (ClassId × FieldType)) (w : St → va_W) (A : Nat → Prop) (u : St) : Array Value → State → Outcome → State → Prop :=
  va_Qv (fun (u' : St) => u' = u) (fun u t => va_P D vwCl (w u) t.heap ∧ va_K D vwCl tys t ∧ va_D A (w u)) A
def CP (D : va_G) (tys : List (ClassId × FieldType)) (w : St → va_W) (st : St) (sz : Nat) (av : List Value) : Array Value → State → Prop :=
  va_Pc av (fun U => U.heap.size = sz ∧ va_P D vwCl (w st) U.heap ∧ va_K D vwCl tys U ∧ va_D (fun _ => True) (w st))
abbrev rm (f k : Nat) : Room := { frames := f, cells := 0, slots := 0, locals := k }
/-- the contract of a method that answers an int: from st, with the arguments av, it answers r and leaves u -/
def Ci (l : Launch) (y : MethodName) (cc : ByteArray) (n : Nat) (ret : Option FieldType) (f k : Nat) (D : va_G) (tys : List (ClassId × FieldType)) (w : St → va_W) (st : St) (av : List Value) (r : Int32) (u : St) : Prop :=
  ∀ sz : Nat, Met l y (Cond.code y cc n ret :: TB) (rm f k) (CP D tys w st sz av) (CQ D tys w (va_A (w st) sz) r u) 0 0 (va_A (w st) sz)
def Cv (l : Launch) (y : MethodName) (cc : ByteArray) (n : Nat) (f k : Nat) (D : va_G) (tys : List (ClassId × FieldType)) (w : St → va_W) (st : St) (av : List Value) (u : St) : Prop :=
  ∀ sz : Nat, Met l y (Cond.code y cc n none :: TB) (rm f k) (CP D tys w st sz av) (CQv D tys w (va_A (w st) sz) u) 0 0 (va_A (w st) sz)
theorem cp_blind {D : va_G} {tys : List (ClassId × FieldType)} {w : St → va_W} {st : St} {sz : Nat} {av : List Value} : FrameBlind (CP D tys w st sz av) := fun a U g mk q => by
  obtain ⟨q0, q1, qP, qK, qD⟩ := q
  exact ⟨q0, q1, qP, va_K.moved (u := U) (U := U.calling g mk a) (Vm.Alike.refl U.vm) qK, qD⟩
section Bodies
variable {l : Launch} {y : MethodName} {cc : ByteArray} {n f k : Nat} {ret : Option FieldType} {D : va_G} {tys : List (ClassId × FieldType)} {w : St → va_W} {st u : St} {av : List Value} {r : Int32}
set_option maxHeartbeats 1000000 in
theorem body_i (hy : plainName y.cls = true) (hav : (lg_sl av).length ≤ n)
    (body : ∀ (p : Program) (e : Env) (s : State) (m : MethodId) (below : List Frame) (meth : Method) (c : Code) (A : Nat → Prop) (ls : Array Slot), Env1 p s m av.toArray c cc n y.cls D tys → meth.sig.returnType = ret → meth.locks = false →
      (∀ q : Nat, s.heap.size ≤ q → A q) → va_P D vwCl (w st) s.heap → va_D A (w st) → va_S A s.heap s.heap [] → lv_has ls n (lv_args 0 av) →
      W p l e (rm f k) s m av.toArray below meth c s.heap [] 0 0 (MQ below (CQ D tys w A r u) av.toArray s 0 0 A) (F0 m 0 ls [])) : Ci l y cc n ret f k D tys w st av r u := by
  intro sz
  refine Met.ofW (cc := cc) (maxL := n) (ret := ret) hy rfl ?_
  intro p e s m args below meth c s₁ B hml hv
  obtain ⟨rfl, hsz, hP, hK, hD0⟩ := hv
  have hts := atoms_spec (ws := Cond.code y cc n ret :: TB) B.pre
  have hown : s.vm.findClass y.cls = some m.cls := findClass_of_methodNamed B.named
  subst hsz
  have hD := hD0.self (sz := s.heap.size)
  have hA : ∀ q : Nat, s.heap.size ≤ q → va_A (w st) s.heap.size q := fun q h => Or.inr h
  have hl := lv_entry av (n := n) hav
  rw [lg_entry_eq]
  exact body p e s m below meth c (va_A (w st) s.heap.size) _ ⟨⟨B.exec, B.bytes, hml, hown, fun w hw => hts w (List.mem_cons_of_mem _ hw)⟩, hK⟩ B.returns B.notSynchronized hA hP hD va_S.rf hl
set_option maxHeartbeats 1000000 in
theorem body_v (hy : plainName y.cls = true) (hav : (lg_sl av).length ≤ n)
    (body : ∀ (p : Program) (e : Env) (s : State) (m : MethodId) (below : List Frame) (meth : Method) (c : Code) (A : Nat → Prop) (ls : Array Slot), Env1 p s m av.toArray c cc n y.cls D tys → meth.sig.returnType = none → meth.locks = false →
      (∀ q : Nat, s.heap.size ≤ q → A q) → va_P D vwCl (w st) s.heap → va_D A (w st) → va_S A s.heap s.heap [] → lv_has ls n (lv_args 0 av) →
      W p l e (rm f k) s m av.toArray below meth c s.heap [] 0 0 (MQ below (CQv D tys w A u) av.toArray s 0 0 A) (F0 m 0 ls [])) : Cv l y cc n f k D tys w st av u := by
  intro sz
  refine Met.ofW (cc := cc) (maxL := n) (ret := none) hy rfl ?_
  intro p e s m args below meth c s₁ B hml hv
  obtain ⟨rfl, hsz, hP, hK, hD0⟩ := hv
  have hts := atoms_spec (ws := Cond.code y cc n none :: TB) B.pre
  have hown : s.vm.findClass y.cls = some m.cls := findClass_of_methodNamed B.named
  subst hsz
  have hD := hD0.self (sz := s.heap.size)
  have hA : ∀ q : Nat, s.heap.size ≤ q → va_A (w st) s.heap.size q := fun q h => Or.inr h
  have hl := lv_entry av (n := n) hav
  rw [lg_entry_eq]
  exact body p e s m below meth c (va_A (w st) s.heap.size) _ ⟨⟨B.exec, B.bytes, hml, hown, fun w hw => hts w (List.mem_cons_of_mem _ hw)⟩, hK⟩ B.returns B.notSynchronized hA hP hD va_S.rf hl
end Bodies
section Ends1
variable {p : Program} {l : Launch} {e : Env} {R : Room} {s : State} {m : MethodId} {args : Array Value} {below : List Frame} {meth : Method} {c : Code} {H : Heap} {locs : List Loc} {pc nL : Nat} {ls : Array Slot} {cc : ByteArray} {own : String} {D : va_G} {tys : List (ClassId × FieldType)} {w : St → va_W} {u : St} {r : Int32} {A : Nat → Prop}
theorem end_i (E : Env1 p s m args c cc nL own D tys) (hr : meth.sig.returnType = some .int) (hlocks : meth.locks = false) (hP : va_P D vwCl (w u) H) (hD : va_D A (w u)) (hS : va_S A s.heap H locs) (hdg : decode cc pc = .ok (.ireturn, 1)) :
    W p l e R s m args below meth c H locs 0 0 (MQ below (CQ D tys w A r u) args s 0 0 A) (F0 m pc ls [.int r]) :=
  W.iret (v := r) E.1.1 E.1.2.1 hr (fun t ht hW => ⟨⟨r, u, rfl, ⟨rfl, rfl⟩, by rw [ht]; exact hP, va_K.moved hW.alike E.2, hD⟩, hS.F ht⟩) hS.2.2 hdg hlocks
theorem end_z (E : Env1 p s m args c cc nL own D tys) (hr : meth.sig.returnType = some .boolean) (hlocks : meth.locks = false) (hn : narrow .boolean (.int r) = .int r) (hP : va_P D vwCl (w u) H) (hD : va_D A (w u)) (hS : va_S A s.heap H locs) (hdg : decode cc pc = .ok (.ireturn, 1)) :
    W p l e R s m args below meth c H locs 0 0 (MQ below (CQ D tys w A r u) args s 0 0 A) (F0 m pc ls [.int r]) :=
  W.zret (v := r) E.1.1 E.1.2.1 hr hn (fun t ht hW => ⟨⟨r, u, rfl, ⟨rfl, rfl⟩, by rw [ht]; exact hP, va_K.moved hW.alike E.2, hD⟩, hS.F ht⟩) hS.2.2 hdg hlocks
theorem end_v (E : Env1 p s m args c cc nL own D tys) (hr : meth.sig.returnType = none) (hlocks : meth.locks = false) (hP : va_P D vwCl (w u) H) (hD : va_D A (w u)) (hS : va_S A s.heap H locs) (hdg : decode cc pc = .ok (.return_, 1)) :
    W p l e R s m args below meth c H locs 0 0 (MQ below (CQv D tys w A u) args s 0 0 A) (F0 m pc ls []) :=
  W.vret E.1.1 E.1.2.1 hr (fun t ht hW => ⟨⟨u, rfl, rfl, by rw [ht]; exact hP, va_K.moved hW.alike E.2, hD⟩, hS.F ht⟩) hS.2.2 hdg hlocks
end Ends1
section Calls1
variable {p : Program} {l : Launch} {e : Env} {R : Room} {s : State} {m : MethodId} {args : Array Value} {below : List Frame} {meth : Method} {c : Code} {H H0 : Heap} {locs : List Loc} {cells slots pc nL : Nat} {ls : Array Slot} {cc : ByteArray} {own : String} {D : va_G} {tys : List (ClassId × FieldType)} {w : St → va_W} {st u : St} {r : Int32} {A : Nat → Prop} {Q : State → Prop} {rest : List Value}
variable {C : String} {idx n' f' k' na b : Nat} {y : MethodName} {cc' : ByteArray} {ret : Option FieldType} {As st0 : List Value}
/-- how a call names its callee: the words, and the descriptor -/
def cwd (own : String) (idx : Nat) (C : String) (y : MethodName) (cc' : ByteArray) (n' : Nat) (ret : Option FieldType) (na : Nat) : Prop :=
  GoodIn TB (wsV own idx C y (Cond.code y cc' n' ret :: TB)) ∧ (y.cls = C ∧ y.cls ≠ "java/lang/invoke/MethodHandle" ∧ y.cls ≠ "java/lang/invoke/VarHandle" ∧ (parseMethodDescriptor y.desc).map (fun d => d.parameters.length) = some na)
def cwt (own : String) (idx : Nat) (y : MethodName) (cc' : ByteArray) (n' : Nat) (ret : Option FieldType) (na : Nat) : Prop :=
  GoodIn TB (wsS own idx y (Cond.code y cc' n' ret :: TB)) ∧ (y.cls = own ∧ y.cls ≠ "java/lang/invoke/MethodHandle" ∧ y.cls ≠ "java/lang/invoke/VarHandle" ∧ (parseMethodDescriptor y.desc).map (fun d => d.parameters.length) = some na)
theorem fr_all {H0 H : Heap} (hD : va_D A (w st)) (hS : va_S A H0 H locs) (hA : ∀ q : Nat, H0.size ≤ q → A q) : ∀ q, va_A (w st) H.size q → A q := fun q h => by
  rcases h with ⟨k, e, hk⟩ | h
  · exact hD.2 k _ hk
  · exact hA q (Nat.le_trans hS.1 h)
set_option maxHeartbeats 1000000 in
theorem call_i (E : Env1 p s m args c cc nL own D tys) (hA : ∀ q : Nat, s.heap.size ≤ q → A q) (hP : va_P D vwCl (w st) H) (hD : va_D A (w st)) (hS : va_S A s.heap H locs) (hls : ls.size = nL)
    (hM : Ci l y cc' n' ret f' k' D tys w st (.ref b :: As) r u) (cw : cwd own idx C y cc' n' ret na) (q0 : Nat) {ci : Nat} {fs : List Value} {qC : vw_C} (hc : vwCl[ci]? = some qC) (he : (w st)[q0]? = some (b, .inr (ci, fs))) (hC : qC.1 = C)
    (hn : As.length = na) (hst : st0 = As.reverse ++ .ref b :: rest) (hW : (rest.map fun v => v.category).sum ≤ 8) (hR : f' + 1 ≤ R.frames ∧ 8 + (n' + 11) + k' ≤ R.locals) (hcs : cells ≤ R.cells ∧ slots ≤ R.slots) (hdg : decode cc pc = .ok (.invokevirtual idx, 3))
    (kk : ∀ (H1 : Heap) (locs1 : List Loc), va_P D vwCl (w u) H1 → va_D A (w u) → va_S A s.heap H1 locs1 → W p l e R s m args below meth c H1 locs1 cells slots Q (F0 m (pc + 3) ls (.int r :: rest))) :
    W p l e R s m args below meth c H locs cells slots Q (F0 m pc ls st0) := by
  have hF := fr_all hD hS hA
  refine va_calli (va_runV (As := As) (rest := rest) E.1 (hM H.size) (cwV na E.1.2.2.2.2 cw.1 rfl rfl rfl cw.2 hR) ⟨cp_blind, by rw [← hC]; exact va_recv E.2 hP hc he, fun U hU hW => ⟨rfl, by rw [hU], by rw [hU]; exact hP, va_K.moved hW.alike E.2, hD.weaken (fun _ _ _ _ => trivial)⟩⟩ rfl hn hls hst (lv_room hW) hdg hcs) hS (fun q _ h => hF q h) hF (fun r1 u1 t H1 locs1 ht hvm hw hB hz1 hk1 hS1 => ?_)
  obtain ⟨rfl, rfl⟩ := hw
  obtain ⟨hP1, hK1, hD1⟩ := hB
  rw [ht] at hP1
  exact kk H1 locs1 hP1 (hD1.weaken (fun _ _ _ h => hF _ h)) hS1
set_option maxHeartbeats 1000000 in
theorem call_v (E : Env1 p s m args c cc nL own D tys) (hA : ∀ q : Nat, s.heap.size ≤ q → A q) (hP : va_P D vwCl (w st) H) (hD : va_D A (w st)) (hS : va_S A s.heap H locs) (hls : ls.size = nL)
    (hM : Cv l y cc' n' f' k' D tys w st (.ref b :: As) u) (cw : cwd own idx C y cc' n' none na) (q0 : Nat) {ci : Nat} {fs : List Value} {qC : vw_C} (hc : vwCl[ci]? = some qC) (he : (w st)[q0]? = some (b, .inr (ci, fs))) (hC : qC.1 = C)
    (hn : As.length = na) (hst : st0 = As.reverse ++ .ref b :: rest) (hW : (rest.map fun v => v.category).sum ≤ 8) (hR : f' + 1 ≤ R.frames ∧ 8 + (n' + 11) + k' ≤ R.locals) (hcs : cells ≤ R.cells ∧ slots ≤ R.slots) (hdg : decode cc pc = .ok (.invokevirtual idx, 3))
    (kk : ∀ (H1 : Heap) (locs1 : List Loc), va_P D vwCl (w u) H1 → va_D A (w u) → va_S A s.heap H1 locs1 → W p l e R s m args below meth c H1 locs1 cells slots Q (F0 m (pc + 3) ls rest)) :
    W p l e R s m args below meth c H locs cells slots Q (F0 m pc ls st0) := by
  have hF := fr_all hD hS hA
  refine va_callv (va_runV (As := As) (rest := rest) E.1 (hM H.size) (cwV na E.1.2.2.2.2 cw.1 rfl rfl rfl cw.2 hR) ⟨cp_blind, by rw [← hC]; exact va_recv E.2 hP hc he, fun U hU hW => ⟨rfl, by rw [hU], by rw [hU]; exact hP, va_K.moved hW.alike E.2, hD.weaken (fun _ _ _ _ => trivial)⟩⟩ rfl hn hls hst (lv_room hW) hdg hcs) hS (fun q _ h => hF q h) hF (fun u1 t H1 locs1 ht hvm hw hB hz1 hk1 hS1 => ?_)
  subst hw
  obtain ⟨hP1, hK1, hD1⟩ := hB
  rw [ht] at hP1
  exact kk H1 locs1 hP1 (hD1.weaken (fun _ _ _ h => hF _ h)) hS1
set_option maxHeartbeats 1000000 in
theorem calls_i (E : Env1 p s m args c cc nL own D tys) (hA : ∀ q : Nat, s.heap.size ≤ q → A q) (hP : va_P D vwCl (w st) H) (hD : va_D A (w st)) (hS : va_S A s.heap H locs) (hls : ls.size = nL)
    (hM : Ci l y cc' n' ret f' k' D tys w st As r u) (cw : cwt own idx y cc' n' ret na)
    (hn : As.length = na) (hst : st0 = As.reverse ++ rest) (hW : (rest.map fun v => v.category).sum ≤ 8) (hR : f' + 1 ≤ R.frames ∧ 8 + (n' + 11) + k' ≤ R.locals) (hcs : cells ≤ R.cells ∧ slots ≤ R.slots) (hdg : decode cc pc = .ok (.invokestatic idx, 3))
    (kk : ∀ (H1 : Heap) (locs1 : List Loc), va_P D vwCl (w u) H1 → va_D A (w u) → va_S A s.heap H1 locs1 → W p l e R s m args below meth c H1 locs1 cells slots Q (F0 m (pc + 3) ls (.int r :: rest))) :
    W p l e R s m args below meth c H locs cells slots Q (F0 m pc ls st0) := by
  have hF := fr_all hD hS hA
  refine va_calli (va_runS (As := As) (rest := rest) E.1 (hM H.size) (cwS na E.1.2.2.2.2 cw.1 rfl rfl rfl cw.2 hR) ⟨cp_blind, fun U hU hW => ⟨rfl, by rw [hU], by rw [hU]; exact hP, va_K.moved hW.alike E.2, hD.weaken (fun _ _ _ _ => trivial)⟩⟩ rfl hn hls hst (lv_room hW) hdg hcs) hS (fun q _ h => hF q h) hF (fun r1 u1 t H1 locs1 ht hvm hw hB hz1 hk1 hS1 => ?_)
  obtain ⟨rfl, rfl⟩ := hw
  obtain ⟨hP1, hK1, hD1⟩ := hB
  rw [ht] at hP1
  exact kk H1 locs1 hP1 (hD1.weaken (fun _ _ _ h => hF _ h)) hS1
set_option maxHeartbeats 1000000 in
theorem calls_v (E : Env1 p s m args c cc nL own D tys) (hA : ∀ q : Nat, s.heap.size ≤ q → A q) (hP : va_P D vwCl (w st) H) (hD : va_D A (w st)) (hS : va_S A s.heap H locs) (hls : ls.size = nL)
    (hM : Cv l y cc' n' f' k' D tys w st As u) (cw : cwt own idx y cc' n' none na)
    (hn : As.length = na) (hst : st0 = As.reverse ++ rest) (hW : (rest.map fun v => v.category).sum ≤ 8) (hR : f' + 1 ≤ R.frames ∧ 8 + (n' + 11) + k' ≤ R.locals) (hcs : cells ≤ R.cells ∧ slots ≤ R.slots) (hdg : decode cc pc = .ok (.invokestatic idx, 3))
    (kk : ∀ (H1 : Heap) (locs1 : List Loc), va_P D vwCl (w u) H1 → va_D A (w u) → va_S A s.heap H1 locs1 → W p l e R s m args below meth c H1 locs1 cells slots Q (F0 m (pc + 3) ls rest)) :
    W p l e R s m args below meth c H locs cells slots Q (F0 m pc ls st0) := by
  have hF := fr_all hD hS hA
  refine va_callv (va_runS (As := As) (rest := rest) E.1 (hM H.size) (cwS na E.1.2.2.2.2 cw.1 rfl rfl rfl cw.2 hR) ⟨cp_blind, fun U hU hW => ⟨rfl, by rw [hU], by rw [hU]; exact hP, va_K.moved hW.alike E.2, hD.weaken (fun _ _ _ _ => trivial)⟩⟩ rfl hn hls hst (lv_room hW) hdg hcs) hS (fun q _ h => hF q h) hF (fun u1 t H1 locs1 ht hvm hw hB hz1 hk1 hS1 => ?_)
  subst hw
  obtain ⟨hP1, hK1, hD1⟩ := hB
  rw [ht] at hP1
  exact kk H1 locs1 hP1 (hD1.weaken (fun _ _ _ h => hF _ h)) hS1
end Calls1
section Ends2
variable {p : Program} {l : Launch} {e : Env} {R : Room} {s : State} {m : MethodId} {args : Array Value} {below : List Frame} {meth : Method} {c : Code} {H : Heap} {locs : List Loc} {pc nL cells slots : Nat} {ls : Array Slot} {cc : ByteArray} {own : String} {D : va_G} {tys : List (ClassId × FieldType)} {w : St → va_W} {st u : St} {v r : Int32} {A : Nat → Prop} {Q : State → Prop} {rest : List Value}
theorem endI (E : Env1 p s m args c cc nL own D tys) (hr : meth.sig.returnType = some .int) (hlocks : meth.locks = false) (hP : va_P D vwCl (w st) H) (hD : va_D A (w st)) (hS : va_S A s.heap H locs) (hdg : decode cc pc = .ok (.ireturn, 1)) (hF : some (v, st) = some (r, u)) :
    W p l e R s m args below meth c H locs 0 0 (MQ below (CQ D tys w A r u) args s 0 0 A) (F0 m pc ls [.int v]) := by
  cases hF; exact end_i E hr hlocks hP hD hS hdg
theorem endZ (E : Env1 p s m args c cc nL own D tys) (hr : meth.sig.returnType = some .boolean) (hlocks : meth.locks = false) (hP : va_P D vwCl (w st) H) (hD : va_D A (w st)) (hS : va_S A s.heap H locs) (hdg : decode cc pc = .ok (.ireturn, 1)) (hF : gz v (some (v, st)) = some (r, u)) :
    W p l e R s m args below meth c H locs 0 0 (MQ below (CQ D tys w A r u) args s 0 0 A) (F0 m pc ls [.int v]) := by
  obtain ⟨hn, hF⟩ := gz_some hF
  cases hF; exact end_z E hr hlocks hn hP hD hS hdg
theorem endZ0 (E : Env1 p s m args c cc nL own D tys) (hr : meth.sig.returnType = some .boolean) (hlocks : meth.locks = false) (hP : va_P D vwCl (w st) H) (hD : va_D A (w st)) (hS : va_S A s.heap H locs) (hdg : decode cc pc = .ok (.ireturn, 1)) (hn : narrow .boolean (.int v) = .int v) (hF : some (v, st) = some (r, u)) :
    W p l e R s m args below meth c H locs 0 0 (MQ below (CQ D tys w A r u) args s 0 0 A) (F0 m pc ls [.int v]) := by
  cases hF; exact end_z E hr hlocks hn hP hD hS hdg
theorem endV (E : Env1 p s m args c cc nL own D tys) (hr : meth.sig.returnType = none) (hlocks : meth.locks = false) (hP : va_P D vwCl (w st) H) (hD : va_D A (w st)) (hS : va_S A s.heap H locs) (hdg : decode cc pc = .ok (.return_, 1)) (hF : some (v, st) = some (r, u)) :
    W p l e R s m args below meth c H locs 0 0 (MQ below (CQv D tys w A u) args s 0 0 A) (F0 m pc ls []) := by
  cases hF; exact end_v E hr hlocks hP hD hS hdg
theorem topE {a b : Int32} (e1 : a = b) (kk : W p l e R s m args below meth c H locs cells slots Q (F0 m pc ls (.int b :: rest))) : W p l e R s m args below meth c H locs cells slots Q (F0 m pc ls (.int a :: rest)) := by
  rw [e1]; exact kk
theorem dia {g : JFrame} {jpc : Nat} {v1 : Int32} (k : W p l e R s m args below meth c H locs cells slots Q (F0 m jpc ls (.int v1 :: rest))) (b : W p l e R s m args below meth c H locs cells slots Q (F0 m jpc ls (.int v1 :: rest)) → W p l e R s m args below meth c H locs cells slots Q g) : W p l e R s m args below meth c H locs cells slots Q g := b k
end Ends2
