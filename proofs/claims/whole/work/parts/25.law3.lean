/-! THE CLAIM OUT OF ONE WALK OF THE LAW'S BODY. Your part is whole_start (and what it stands on); all else here is the same for every law, but numbers. -/
def R_law : String := "LooseHeapLaw"
def lw_P (b : Addr) (xs : List Int32) (args : Array Value) (s : State) : Prop := args = #[.ref b] ∧ s.IntsAt b xs ∧ xs.length ≤ 2048 ∧ (Jvm.Cond.and given_1 narrow_1).before args s = true
def lw_Q (_ : Array Value) (s : State) (o : Outcome) (t : State) : Prop := o = .returned (some (.int 1)) ∧ Framed s o t [] 1064 59830
def lw_Z (below : List Frame) (a : Array Value) (s : State) : State → Prop := fun t => ∃ o, t.status = .running ∧ Ended t below o ∧ lw_Q a s o t
/-- the law's own end, with 1 on the stack, nothing written that was there before, its room as the claim has it -/
theorem lw_ret {p : Program} {l : Launch} {e : Env} {s : State} {m : MethodId} {below : List Frame} {meth : Method} {c : Code} {b : Nat} (hx : p.tables.exec = Jvm.exec) (hb : c.code = code) (hr : meth.sig.returnType = ret) (hlocks : meth.locks = false) {pc : Nat} {H : Heap} {ls : Array Slot} (hdg : decode code pc = .ok (.ireturn, 1)) : W p l e room_1 s m #[Value.ref b] below meth c H [] 1064 59830 (lw_Z below #[Value.ref b] s) (F0 m pc ls [.int 1]) := by
  intro T hT X
  obtain ⟨fs, hret, hrun, hended, hW, hframe⟩ := X.leave (v := some (.int 1)) (hlocks := hlocks) (fun h => by rw [hr] at h; cases h)
  have hmeth' : T.vm.method? m = some meth := X.method'
  refine ⟨T.setFrames fs, ?_, .returned (some (.int 1)), hrun, hended, rfl, ⟨_, rfl⟩, hW, hframe⟩
  jvm_step X.here [X.here.top, hx, hb, hdg, hmeth', hr, ret, narrow_b1]
  (try refine ⟨rfl, ?_⟩); (try refine ⟨rfl, ?_⟩)
  first | (intro acts; rw [hret _ acts rfl rfl rfl]) | rw [hret _ _ rfl rfl rfl]
  exact Steps.refl _
/-- what holds at the law's entry: the machine, the code, the tables' words (any of lw_tbl by 'hts w (by decide +kernel)'), the script of L ints xs at the cell b, what the Statement gives of the start (any of its parts by flat_of_before) -/
def lw_At (p : Program) (s : State) (m : MethodId) (meth : Method) (c : Code) (b L : Nat) (xs : Nat → Int32) : Prop :=
  p.tables.exec = Jvm.exec ∧ c.code = code ∧ meth.sig.returnType = ret ∧ c.maxLocals = 7 ∧ s.vm.findClass R_law = some m.cls ∧ (∀ w ∈ lw_tbl, w.before #[Value.ref b] s = true) ∧ va_X b L xs s s.heap ∧ b < s.heap.size ∧ meth.locks = false ∧ (Jvm.Cond.and given_1 narrow_1).before #[Value.ref b] s = true

/-- one turn of the law, in numbers -/
def LStp (n : Nat) (i : Nat) (xs : Nat → Int32) (q : SL) : Option SL := if (xs i &&& 15) = (0 : Int32) then A_law_0 n i xs q.1 q.2.1 q.2.2 else if (xs i &&& 15) = (1 : Int32) then A_law_1 n i xs q.1 q.2.1 q.2.2 else if (xs i &&& 15) = (2 : Int32) then A_law_2 n i xs q.1 q.2.1 q.2.2 else if (xs i &&& 15) = (3 : Int32) then A_law_3 n i xs q.1 q.2.1 q.2.2 else if (xs i &&& 15) = (4 : Int32) then A_law_4 n i xs q.1 q.2.1 q.2.2 else if (xs i &&& 15) = (5 : Int32) then A_law_5 n i xs q.1 q.2.1 q.2.2 else if (xs i &&& 15) = (6 : Int32) then A_law_6 n i xs q.1 q.2.1 q.2.2 else if (xs i &&& 15) = (7 : Int32) then A_law_7 n i xs q.1 q.2.1 q.2.2 else if (xs i &&& 15) = (8 : Int32) then A_law_8 n i xs q.1 q.2.1 q.2.2 else if (xs i &&& 15) = (9 : Int32) then A_law_9 n i xs q.1 q.2.1 q.2.2 else if (xs i &&& 15) = (10 : Int32) then A_law_10 n i xs q.1 q.2.1 q.2.2 else if (xs i &&& 15) = (11 : Int32) then A_law_11 n i xs q.1 q.2.1 q.2.2 else if (xs i &&& 15) = (12 : Int32) then A_law_12 n i xs q.1 q.2.1 q.2.2 else if (xs i &&& 15) = (13 : Int32) then A_law_13 n i xs q.1 q.2.1 q.2.2 else if (xs i &&& 15) = (14 : Int32) then A_law_14 n i xs q.1 q.2.1 q.2.2 else some q
def LRun (n : Nat) (xs : Nat → Int32) : Nat → Nat → SL → Option SL
  | 0 => fun _ q => some q
  | k + 1 => fun i q => be (LStp n i xs q) (fun q1 => LRun n xs k (i + 4) q1)
set_option maxHeartbeats 4000000 in
set_option maxRecDepth 100000 in
theorem law_sw {l : Launch} {D : va_G} {h : Nat → Nat} {cI cJ cZ : ClassId} {p : Program} {e : Env} {s : State} {m : MethodId} {args : Array Value} {below : List Frame} {meth : Method} {c : Code} {A : Nat → Prop} {Q : State → Prop} {b L : Nat} {xs : Nat → Int32} (hst : l.stackTraces = false) (hL : L ≤ 2048) (E : Env1 p s m args c cL_law 7 RL D (tyL cI cJ cZ)) (hA : ∀ q : Nat, s.heap.size ≤ q → A q) (hG : XG A s s.heap) (hX : XS s) (hN : XN s) (hSc : va_X b L xs s s.heap) (hbl : b < s.heap.size) (hbA : ¬ A b) (n i cl sl : Nat) (hi : i + 4 ≤ L) (hcl : cl + 1 ≤ 1064) (hsl : sl + 6 ≤ 59830) (sx sm : St) (oc : Nat → Int64) (q : SL) (H : Heap) (locs : List Loc) (ls : Array Slot) (hP : va_P D vwCl (wLw h cI cJ cZ (sx, sm, oc)) H) (hD : va_D A (wLw h cI cJ cZ (sx, sm, oc))) (hS : va_S A s.heap H locs) (hl : lv_has ls 7 [(0, .ref b), (1, .ref (h 0)), (2, .ref (h 14)), (3, .ref (h 31)), (4, .int (nI i))]) (hF : LStp n i xs (sx, sm, oc) = some q) (kx : ∀ (H1 : Heap) (locs1 : List Loc) (ls1 : Array Slot) (c1 s1 : Nat), c1 ≤ cl + 1 → s1 ≤ sl + 6 → va_P D vwCl (wLw h cI cJ cZ q) H1 → va_D A (wLw h cI cJ cZ q) → va_S A s.heap H1 locs1 → lv_has ls1 7 [(0, .ref b), (1, .ref (h 0)), (2, .ref (h 14)), (3, .ref (h 31)), (4, .int (nI i))] → W p l e room_1 s m args below meth c H1 locs1 c1 s1 Q (F0 m 856 ls1 [])) : W p l e room_1 s m args below meth c H locs cl sl Q (F0 m 32 ls []) := by
  have hx := E.1.1
  have hb := E.1.2.1
  unfold LStp at hF
  refine lv_aload_n hx hb dL_law_32 rfl (lv_at hl 0 rfl) ?_
  refine lv_iload hx hb dL_law_33 (lv_at hl 4 rfl) ?_
  refine lsd i E hSc hbl hbA hS rfl (by omega) hL dL_law_35 ?_
  refine lv_bipush (v := 15) hx hb dL_law_36 (by decide) ?_
  refine lv_iand hx hb dL_law_38 ?_
  by_cases hk0 : (xs i &&& 15) = (0 : Int32)
  · have hF := if_t hk0 hF
    refine lv_tableIn (tgt := 112) hx hb dL_law_39 (by rw [hk0]; decide) (by rw [hk0]; decide) (by rw [hk0]; rfl) (by decide) ?_
    exact a_law_0 hst hL E hA hG hX hN hSc hbl hbA n i cl sl hi hcl hsl sx sm oc q H locs ls hP hD hS hl hF kx
  have hF := if_f hk0 hF
  by_cases hk1 : (xs i &&& 15) = (1 : Int32)
  · have hF := if_t hk1 hF
    refine lv_tableIn (tgt := 160) hx hb dL_law_39 (by rw [hk1]; decide) (by rw [hk1]; decide) (by rw [hk1]; rfl) (by decide) ?_
    exact a_law_1 hst hL E hA hG hX hN hSc hbl hbA n i cl sl hi hcl hsl sx sm oc q H locs ls hP hD hS hl hF kx
  have hF := if_f hk1 hF
  by_cases hk2 : (xs i &&& 15) = (2 : Int32)
  · have hF := if_t hk2 hF
    refine lv_tableIn (tgt := 247) hx hb dL_law_39 (by rw [hk2]; decide) (by rw [hk2]; decide) (by rw [hk2]; rfl) (by decide) ?_
    exact a_law_2 hst hL E hA hG hX hN hSc hbl hbA n i cl sl hi hcl hsl sx sm oc q H locs ls hP hD hS hl hF kx
  have hF := if_f hk2 hF
  by_cases hk3 : (xs i &&& 15) = (3 : Int32)
  · have hF := if_t hk3 hF
    refine lv_tableIn (tgt := 295) hx hb dL_law_39 (by rw [hk3]; decide) (by rw [hk3]; decide) (by rw [hk3]; rfl) (by decide) ?_
    exact a_law_3 hst hL E hA hG hX hN hSc hbl hbA n i cl sl hi hcl hsl sx sm oc q H locs ls hP hD hS hl hF kx
  have hF := if_f hk3 hF
  by_cases hk4 : (xs i &&& 15) = (4 : Int32)
  · have hF := if_t hk4 hF
    refine lv_tableIn (tgt := 331) hx hb dL_law_39 (by rw [hk4]; decide) (by rw [hk4]; decide) (by rw [hk4]; rfl) (by decide) ?_
    exact a_law_4 hst hL E hA hG hX hN hSc hbl hbA n i cl sl hi hcl hsl sx sm oc q H locs ls hP hD hS hl hF kx
  have hF := if_f hk4 hF
  by_cases hk5 : (xs i &&& 15) = (5 : Int32)
  · have hF := if_t hk5 hF
    refine lv_tableIn (tgt := 391) hx hb dL_law_39 (by rw [hk5]; decide) (by rw [hk5]; decide) (by rw [hk5]; rfl) (by decide) ?_
    exact a_law_5 hst hL E hA hG hX hN hSc hbl hbA n i cl sl hi hcl hsl sx sm oc q H locs ls hP hD hS hl hF kx
  have hF := if_f hk5 hF
  by_cases hk6 : (xs i &&& 15) = (6 : Int32)
  · have hF := if_t hk6 hF
    refine lv_tableIn (tgt := 471) hx hb dL_law_39 (by rw [hk6]; decide) (by rw [hk6]; decide) (by rw [hk6]; rfl) (by decide) ?_
    exact a_law_6 hst hL E hA hG hX hN hSc hbl hbA n i cl sl hi hcl hsl sx sm oc q H locs ls hP hD hS hl hF kx
  have hF := if_f hk6 hF
  by_cases hk7 : (xs i &&& 15) = (7 : Int32)
  · have hF := if_t hk7 hF
    refine lv_tableIn (tgt := 551) hx hb dL_law_39 (by rw [hk7]; decide) (by rw [hk7]; decide) (by rw [hk7]; rfl) (by decide) ?_
    exact a_law_7 hst hL E hA hG hX hN hSc hbl hbA n i cl sl hi hcl hsl sx sm oc q H locs ls hP hD hS hl hF kx
  have hF := if_f hk7 hF
  by_cases hk8 : (xs i &&& 15) = (8 : Int32)
  · have hF := if_t hk8 hF
    refine lv_tableIn (tgt := 619) hx hb dL_law_39 (by rw [hk8]; decide) (by rw [hk8]; decide) (by rw [hk8]; rfl) (by decide) ?_
    exact a_law_8 hst hL E hA hG hX hN hSc hbl hbA n i cl sl hi hcl hsl sx sm oc q H locs ls hP hD hS hl hF kx
  have hF := if_f hk8 hF
  by_cases hk9 : (xs i &&& 15) = (9 : Int32)
  · have hF := if_t hk9 hF
    refine lv_tableIn (tgt := 694) hx hb dL_law_39 (by rw [hk9]; decide) (by rw [hk9]; decide) (by rw [hk9]; rfl) (by decide) ?_
    exact a_law_9 hst hL E hA hG hX hN hSc hbl hbA n i cl sl hi hcl hsl sx sm oc q H locs ls hP hD hS hl hF kx
  have hF := if_f hk9 hF
  by_cases hk10 : (xs i &&& 15) = (10 : Int32)
  · have hF := if_t hk10 hF
    refine lv_tableIn (tgt := 707) hx hb dL_law_39 (by rw [hk10]; decide) (by rw [hk10]; decide) (by rw [hk10]; rfl) (by decide) ?_
    exact a_law_10 hst hL E hA hG hX hN hSc hbl hbA n i cl sl hi hcl hsl sx sm oc q H locs ls hP hD hS hl hF kx
  have hF := if_f hk10 hF
  by_cases hk11 : (xs i &&& 15) = (11 : Int32)
  · have hF := if_t hk11 hF
    refine lv_tableIn (tgt := 732) hx hb dL_law_39 (by rw [hk11]; decide) (by rw [hk11]; decide) (by rw [hk11]; rfl) (by decide) ?_
    exact a_law_11 hst hL E hA hG hX hN hSc hbl hbA n i cl sl hi hcl hsl sx sm oc q H locs ls hP hD hS hl hF kx
  have hF := if_f hk11 hF
  by_cases hk12 : (xs i &&& 15) = (12 : Int32)
  · have hF := if_t hk12 hF
    refine lv_tableIn (tgt := 757) hx hb dL_law_39 (by rw [hk12]; decide) (by rw [hk12]; decide) (by rw [hk12]; rfl) (by decide) ?_
    exact a_law_12 hst hL E hA hG hX hN hSc hbl hbA n i cl sl hi hcl hsl sx sm oc q H locs ls hP hD hS hl hF kx
  have hF := if_f hk12 hF
  by_cases hk13 : (xs i &&& 15) = (13 : Int32)
  · have hF := if_t hk13 hF
    refine lv_tableIn (tgt := 794) hx hb dL_law_39 (by rw [hk13]; decide) (by rw [hk13]; decide) (by rw [hk13]; rfl) (by decide) ?_
    exact a_law_13 hst hL E hA hG hX hN hSc hbl hbA n i cl sl hi hcl hsl sx sm oc q H locs ls hP hD hS hl hF kx
  have hF := if_f hk13 hF
  by_cases hk14 : (xs i &&& 15) = (14 : Int32)
  · have hF := if_t hk14 hF
    refine lv_tableIn (tgt := 831) hx hb dL_law_39 (by rw [hk14]; decide) (by rw [hk14]; decide) (by rw [hk14]; rfl) (by decide) ?_
    exact a_law_14 hst hL E hA hG hX hN hSc hbl hbA n i cl sl hi hcl hsl sx sm oc q H locs ls hP hD hS hl hF kx
  have hF := if_f hk14 hF
  cases hF
  refine lv_tableOut (tgt := 856) hx hb dL_law_39 (sw_out14 hk0 hk1 hk2 hk3 hk4 hk5 hk6 hk7 hk8 hk9 hk10 hk11 hk12 hk13 hk14) (by decide) ?_
  exact kx _ _ _ cl sl (by omega) (by omega) hP hD hS hl
theorem l4_lt {L i : Nat} (hL : L ≤ 2048) (h : L < i + 4) (hi : i ≤ L) : nI L - (4 : Int32) < nI i := by
  have h1 : (nI L - nI 4).toInt = (L : Int) - 4 := pk_sub_toInt (by omega) (by omega)
  rw [Int32.lt_iff_toInt_lt, nI_toInt (show i < 2 ^ 31 by omega), show nI L - (4 : Int32) = nI L - nI 4 from rfl, h1]; omega
theorem l4_ge {L i : Nat} (hL : L ≤ 2048) (h : i + 4 ≤ L) : ¬ nI L - (4 : Int32) < nI i := by
  have h1 : (nI L - nI 4).toInt = (L : Int) - 4 := pk_sub_toInt (by omega) (by omega)
  rw [Int32.lt_iff_toInt_lt, nI_toInt (show i < 2 ^ 31 by omega), show nI L - (4 : Int32) = nI L - nI 4 from rfl, h1]; omega
set_option maxHeartbeats 4000000 in
set_option maxRecDepth 100000 in
theorem law_loop {l : Launch} {D : va_G} {h : Nat → Nat} {cI cJ cZ : ClassId} {p : Program} {e : Env} {s : State} {m : MethodId} {below : List Frame} {meth : Method} {c : Code} {b L n : Nat} {xs : Nat → Int32} {qf : SL} (hst : l.stackTraces = false) (hL : L ≤ 2048) (E : Env1 p s m #[Value.ref b] c cL_law 7 RL D (tyL cI cJ cZ)) (hr : meth.sig.returnType = ret) (hlocks : meth.locks = false) (hG : XG (fun q : Nat => s.heap.size ≤ q) s s.heap) (hX : XS s) (hN : XN s) (hSc : va_X b L xs s s.heap) (hbl : b < s.heap.size) (hbA : ¬ (fun q : Nat => s.heap.size ≤ q) b) :
    ∀ (k i cl sl : Nat), i + 4 * k ≤ L → L < i + 4 * k + 4 → cl + k ≤ 1064 → sl + 6 * k ≤ 59830 → ∀ (q : SL) (H : Heap) (locs : List Loc) (ls : Array Slot), va_P D vwCl (wLw h cI cJ cZ q) H → va_D (fun q : Nat => s.heap.size ≤ q) (wLw h cI cJ cZ q) → va_S (fun q : Nat => s.heap.size ≤ q) s.heap H locs → lv_has ls 7 [(0, .ref b), (1, .ref (h 0)), (2, .ref (h 14)), (3, .ref (h 31)), (4, .int (nI i))] → LRun n xs k i q = some qf →
      W p l e room_1 s m #[Value.ref b] below meth c H locs cl sl (lw_Z below #[Value.ref b] s) (F0 m 23 ls []) := by
  have hx := E.1.1
  have hb := E.1.2.1
  have hA : ∀ q : Nat, s.heap.size ≤ q → (fun q : Nat => s.heap.size ≤ q) q := fun _ h => h
  intro k
  induction k with
  | zero =>
    intro i cl sl h1 h2 h3 h4 q H locs ls hP hD hS hl hF
    refine lv_iload hx hb dL_law_23 (lv_at hl 4 rfl) ?_
    refine lv_aload_n hx hb dL_law_25 rfl (lv_at hl 0 rfl) ?_
    refine va_slen hx hb hSc hbl hbA hS dL_law_26 ?_
    refine lv_iconst (v := 4) hx hb dL_law_27 (by decide) ?_
    refine lv_isub hx hb dL_law_28 ?_
    refine lv_icmp_gt (tgt := 862) hx hb dL_law_29 (by decide) (fun hc => ?_) (fun hc => ?_)
    · refine lv_iconst (v := 1) hx hb dL_law_862 (by decide) ?_
      refine va_forget hS.2.2 ?_
      refine W.widen (k := 1064) (n := 59830) (by omega) (by omega) ?_
      exact lw_ret hx hb hr hlocks dL_law_863
    · exact absurd (l4_lt hL (by omega) (by omega)) hc
  | succ k ih =>
    intro i cl sl h1 h2 h3 h4 q H locs ls hP hD hS hl hF
    refine lv_iload hx hb dL_law_23 (lv_at hl 4 rfl) ?_
    refine lv_aload_n hx hb dL_law_25 rfl (lv_at hl 0 rfl) ?_
    refine va_slen hx hb hSc hbl hbA hS dL_law_26 ?_
    refine lv_iconst (v := 4) hx hb dL_law_27 (by decide) ?_
    refine lv_isub hx hb dL_law_28 ?_
    refine lv_icmp_gt (tgt := 862) hx hb dL_law_29 (by decide) (fun hc => ?_) (fun hc => ?_)
    · exact absurd hc (l4_ge hL (by omega))
    · obtain ⟨sx, sm, oc⟩ := q
      obtain ⟨q1, hq1, hF1⟩ := be_some hF
      refine law_sw hst hL E hA hG hX hN hSc hbl hbA n i cl sl (by omega) (by omega) (by omega) sx sm oc q1 H locs ls hP hD hS hl hq1 (fun H locs ls c1 s1 hc1 hs1 hP hD hS hl => ?_)
      refine lv_iinc (v := nI (i + 4)) (lv' := [(4, .int (nI (i + 4))), (0, .ref b), (1, .ref (h 0)), (2, .ref (h 14)), (3, .ref (h 31))]) hx hb dL_law_856 hl (k := 4) rfl (nI_add i 4) (by decide) rfl (fun ls hl => ?_)
      refine lv_goto (tgt := 23) hx hb dL_law_859 (by decide) ?_
      exact ih (i + 4) c1 s1 (by omega) (by omega) (by omega) (by omega) q1 _ _ _ hP hD hS (lv_sub hl [1, 2, 3, 4, 0] rfl) hF1
theorem arK {args : Array Value} {s : State} {ty : FieldType} (h : (Cond.arrayClass ty).before args s = true) : ∃ cA : ClassId, ArrOfT s cA ty ∧ s.vm.findClass ("[" ++ ty.toString) = some cA := by
  obtain ⟨cA, kA, comp, h1, h2, h3⟩ := Cond.arrayClass_spec h
  exact ⟨cA, fun n z => ⟨fun k h => (by cases h), kA, h2, comp, h3⟩, h1⟩
theorem lw_str {own tx : String} {k : Nat} {args : Array Value} {s : State} (h1 : (Cond.stringRef own k tx).before args s = true) (h2 : (Cond.exactly (Term.string own k) "java/lang/String").before args s = true) : ∃ a, vk_R own k tx a s := by
  obtain ⟨a, c, cell, kc, he, -⟩ := Cond.exactly_spec h2
  exact ⟨a, vk_R.of h1 he⟩
set_option maxHeartbeats 4000000 in
set_option maxRecDepth 100000 in
theorem st_XS {p : Program} {s : State} {m : MethodId} {meth : Method} {c : Code} {b L : Nat} {xs : Nat → Int32} (C0 : lw_At p s m meth c b L xs) : XS s := by
  obtain ⟨hx, hb, hr, hml, hown, hts, hX, hbl, hlocks, hgv⟩ := id C0
  have hgs := flat_of_before _ hgv
  exact ⟨List.forall_mem_cons.mpr ⟨va_Nw.of (by decide +kernel) (hts _ (List.mem_of_getElem? (i := 472) (by decide +kernel))), List.forall_mem_cons.mpr ⟨va_Nw.of (by decide +kernel) (hts _ (List.mem_of_getElem? (i := 615) (by decide +kernel))), List.forall_mem_cons.mpr ⟨va_Nw.of (by decide +kernel) (hts _ (List.mem_of_getElem? (i := 635) (by decide +kernel))), List.forall_mem_cons.mpr ⟨va_Nw.of (by decide +kernel) (hts _ (List.mem_of_getElem? (i := 473) (by decide +kernel))), List.forall_mem_cons.mpr ⟨va_Nw.of (by decide +kernel) (hts _ (List.mem_of_getElem? (i := 474) (by decide +kernel))), List.forall_mem_cons.mpr ⟨va_Nw.of (by decide +kernel) (hts _ (List.mem_of_getElem? (i := 475) (by decide +kernel))), List.forall_mem_cons.mpr ⟨va_Nw.of (by decide +kernel) (hts _ (List.mem_of_getElem? (i := 476) (by decide +kernel))), List.forall_mem_cons.mpr ⟨va_Nw.of (by decide +kernel) (hts _ (List.mem_of_getElem? (i := 477) (by decide +kernel))), List.forall_mem_cons.mpr ⟨va_Nw.of (by decide +kernel) (hts _ (List.mem_of_getElem? (i := 478) (by decide +kernel))), fun _ h => absurd h List.not_mem_nil⟩⟩⟩⟩⟩⟩⟩⟩⟩, (lw_str (hts (Cond.stringRef RX2 38 "pages is not 4 to 64") (List.mem_of_getElem? (i := 511) (by decide +kernel))) (hgs (Cond.exactly (Term.string "LooseHeap" 38) "java/lang/String") (by decide +kernel))), (lw_str (hts (Cond.stringRef RX2 43 "words is not 8 to 64") (List.mem_of_getElem? (i := 538) (by decide +kernel))) (hgs (Cond.exactly (Term.string "LooseHeap" 43) "java/lang/String") (by decide +kernel))), (lw_str (hts (Cond.stringRef RX2 173 "there is no such ROOT") (List.mem_of_getElem? (i := 549) (by decide +kernel))) (hgs (Cond.exactly (Term.string "LooseHeap" 173) "java/lang/String") (by decide +kernel))), (lw_str (hts (Cond.stringRef RX2 49 "refs is not 0 to 31") (List.mem_of_getElem? (i := 550) (by decide +kernel))) (hgs (Cond.exactly (Term.string "LooseHeap" 49) "java/lang/String") (by decide +kernel))), (lw_str (hts (Cond.stringRef RX2 51 "data is not 0 to 200") (List.mem_of_getElem? (i := 551) (by decide +kernel))) (hgs (Cond.exactly (Term.string "LooseHeap" 51) "java/lang/String") (by decide +kernel))), (lw_str (hts (Cond.stringRef RX2 177 "the EXACT ROOT has NONE") (List.mem_of_getElem? (i := 622) (by decide +kernel))) (hgs (Cond.exactly (Term.string "LooseHeap" 177) "java/lang/String") (by decide +kernel))), (lw_str (hts (Cond.stringRef RX2 180 "there is no such REF") (List.mem_of_getElem? (i := 642) (by decide +kernel))) (hgs (Cond.exactly (Term.string "LooseHeap" 180) "java/lang/String") (by decide +kernel))), (lw_str (hts (Cond.stringRef RX2 83 "there is no such DATA") (List.mem_of_getElem? (i := 665) (by decide +kernel))) (hgs (Cond.exactly (Term.string "LooseHeap" 83) "java/lang/String") (by decide +kernel)))⟩
set_option maxHeartbeats 4000000 in
set_option maxRecDepth 100000 in
theorem st_XN {p : Program} {s : State} {m : MethodId} {meth : Method} {c : Code} {b L : Nat} {xs : Nat → Int32} (C0 : lw_At p s m meth c b L xs) : XN s := by
  obtain ⟨hx, hb, hr, hml, hown, hts, hX, hbl, hlocks, hgv⟩ := id C0
  have hgs := flat_of_before _ hgv
  exact ⟨va_Nc.of (hgs (Cond.not (.castable "java/lang/IllegalStateException" "java/lang/IllegalArgumentException")) (by decide +kernel)), va_Nc.of (hgs (Cond.not (.castable "java/util/NoSuchElementException" "java/lang/IllegalArgumentException")) (by decide +kernel)), va_Nc.of (hgs (Cond.not (.castable "java/util/NoSuchElementException" "java/lang/IllegalStateException")) (by decide +kernel))⟩
set_option maxHeartbeats 4000000 in
set_option maxRecDepth 100000 in
theorem st_XG {p : Program} {s : State} {m : MethodId} {meth : Method} {c : Code} {b L : Nat} {xs : Nat → Int32} (C0 : lw_At p s m meth c b L xs) : XG (fun q : Nat => s.heap.size ≤ q) s s.heap := by
  obtain ⟨hx, hb, hr, hml, hown, hts, hX, hbl, hlocks, hgv⟩ := id C0
  have hgs := flat_of_before _ hgv
  exact ⟨vx_Zqof (hts (Cond.laysStatic Bundle.tN "UNASSIGNED_STACK" Bundle.steD) (List.mem_of_getElem? (i := 497) (by decide +kernel))) (hts (Cond.initialized Bundle.tN) (List.mem_of_getElem? (i := 51) (by decide +kernel))) (hgs (Cond.isRef (.static Bundle.tN "UNASSIGNED_STACK" Bundle.steD)) (by decide +kernel)) (fun a h => Nat.not_le.mpr h), vx_Zqof (hts (Cond.laysStatic Bundle.tN "SUPPRESSED_SENTINEL" Bundle.listD) (List.mem_of_getElem? (i := 499) (by decide +kernel))) (hts (Cond.initialized Bundle.tN) (List.mem_of_getElem? (i := 51) (by decide +kernel))) (hgs (Cond.isRef (.static Bundle.tN "SUPPRESSED_SENTINEL" Bundle.listD)) (by decide +kernel)) (fun a h => Nat.not_le.mpr h)⟩
set_option maxHeartbeats 4000000 in
set_option maxRecDepth 100000 in
theorem st_K {p : Program} {s : State} {m : MethodId} {meth : Method} {c : Code} {b L : Nat} {xs : Nat → Int32} (C0 : lw_At p s m meth c b L xs) : ∃ (D : va_G) (cI cJ cZ : ClassId), va_K D vwCl (tyL cI cJ cZ) s := by
  obtain ⟨hx, hb, hr, hml, hown, hts, hX, hbl, hlocks, hgv⟩ := id C0
  have htb : ∀ w ∈ TB, w.before #[Value.ref b] s = true := fun w hw => hts w (List.mem_filter.mp hw).1
  obtain ⟨c0, i0, hKn0⟩ := u_known (C := RX0) (T := TX0) (N := 18) (n := 18) htb inX0 (hts (.instantiable RX0 18) (List.mem_of_getElem? (i := 99) (by decide +kernel)))
  obtain ⟨c1, i1, hKn1⟩ := u_known (C := RX1) (T := TX1) (N := 7) (n := 7) htb inX1 (hts (.instantiable RX1 7) (List.mem_of_getElem? (i := 69) (by decide +kernel)))
  obtain ⟨c2, i2, hKn2⟩ := u_known (C := RX2) (T := TX2) (N := 4) (n := 4) htb inX2 (hts (.instantiable RX2 4) (List.mem_of_getElem? (i := 61) (by decide +kernel)))
  obtain ⟨c3, i3, hKn3⟩ := u_known (C := RX3) (T := TX3) (N := 27) (n := 27) htb inX3 (hts (.instantiable RX3 27) (List.mem_of_getElem? (i := 689) (by decide +kernel)))
  obtain ⟨cI, aI, nI_⟩ := arK (htb _ ar_I)
  obtain ⟨cJ, aJ, nJ_⟩ := arK (htb _ ar_J)
  obtain ⟨cZ, aZ, nZ_⟩ := arK (htb _ ar_Z)
  refine ⟨(fun k => if k = 0 then c0 else if k = 1 then c1 else if k = 2 then c2 else c3, fun k => if k = 0 then i0 else if k = 1 then i1 else if k = 2 then i2 else i3), cI, cJ, cZ, ?_, ?_⟩
  · intro k q hq
    match k, hq with
    | 0, hq => cases hq; exact hKn0
    | 1, hq => cases hq; exact hKn1
    | 2, hq => cases hq; exact hKn2
    | 3, hq => cases hq; exact hKn3
    | k + 4, hq => simp [vwCl] at hq
  · intro k q hq
    match k, hq with
    | 0, hq => cases hq; exact ⟨aI, nI_⟩
    | 1, hq => cases hq; exact ⟨aJ, nJ_⟩
    | 2, hq => cases hq; exact ⟨aZ, nZ_⟩
    | k + 3, hq => simp [tyL] at hq
