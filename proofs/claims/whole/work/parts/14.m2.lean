-- LooseHeapModel.goes
def LX3_goes_207 : Nat → Int32 → Int32 → Int32 → Int32 → Int32 → Int32 → Int32 → Int32 → St → Option (Int32 × Int32 × Int32 × Int32 × Int32 × Int32 × Int32 × Int32 × St)
  | 0 => fun _ _ _ _ _ _ _ _ _ => none
  | n + 1 => fun x1 x2 x3 x4 x5 x6 x7 x8 st => (if x6 ≤ x8 then some (x1, x2, x3, x4, x5, x6, x7, x8, st) else gd (x5 + x8) 9000 ((if x7 ≤ x8 then gd x2 9000 (LX3_goes_207 n x1 (x2 + (1 : Int32)) x3 x4 x5 x6 x7 (x8 + (1 : Int32)) (pt st 22 x2.toNatClampNeg (st.1 22 (x5 + x8).toNatClampNeg))) else (if (st.1 22 (x5 + x8).toNatClampNeg) = (-1 : Int32) then gd x2 9000 (LX3_goes_207 n x1 (x2 + (1 : Int32)) x3 x4 x5 x6 x7 (x8 + (1 : Int32)) (pt st 22 x2.toNatClampNeg (st.1 22 (x5 + x8).toNatClampNeg))) else gd (st.1 22 (x5 + x8).toNatClampNeg) 4200 (gd x2 9000 (LX3_goes_207 n x1 (x2 + (1 : Int32)) x3 x4 x5 x6 x7 (x8 + (1 : Int32)) (pt st 22 x2.toNatClampNeg (st.1 30 (st.1 22 (x5 + x8).toNatClampNeg).toNatClampNeg))))))))
set_option maxHeartbeats 4000000 in
set_option maxRecDepth 100000 in
theorem lX3_goes_207 {l : Launch} {D : va_G} {h : Nat → Nat} {cI cJ cZ : ClassId} {p : Program} {e : Env} {s : State} {m : MethodId} {args : Array Value} {below : List Frame} {meth : Method} {c : Code} {A : Nat → Prop} {Q : State → Prop} (E : Env1 p s m args c cX3_goes 10 RX3 D (tyL cI cJ cZ)) (hA : ∀ q : Nat, s.heap.size ≤ q → A q) : ∀ (n : Nat) (x1 x2 x3 x4 x5 x6 x7 x8 : Int32) (st : St) (H : Heap) (locs : List Loc) (ls : Array Slot) (q : Int32 × Int32 × Int32 × Int32 × Int32 × Int32 × Int32 × Int32 × St), va_P D vwCl (wM h cI cJ cZ st) H → va_D A (wM h cI cJ cZ st) → va_S A s.heap H locs → lv_has ls 10 [(0, .ref (h 14)), (1, .int x1), (2, .int x2), (3, .int x3), (4, .int x4), (5, .int x5), (6, .int x6), (7, .int x7), (8, .int x8)] → LX3_goes_207 n x1 x2 x3 x4 x5 x6 x7 x8 st = some q → (∀ (H : Heap) (locs : List Loc) (ls : Array Slot) (y1 y2 y3 y4 y5 y6 y7 y8 : Int32) (u1 : St), q = (y1, y2, y3, y4, y5, y6, y7, y8, u1) → va_P D vwCl (wM h cI cJ cZ u1) H → va_D A (wM h cI cJ cZ u1) → va_S A s.heap H locs → lv_has ls 10 [(0, .ref (h 14)), (1, .int y1), (2, .int y2), (3, .int y3), (4, .int y4), (5, .int y5), (6, .int y6), (7, .int y7), (8, .int y8)] → W p l e (rm 0 0) s m args below meth c H locs 0 0 Q (F0 m 266 ls [])) → W p l e (rm 0 0) s m args below meth c H locs 0 0 Q (F0 m 207 ls []) := by
  have hx := E.1.1
  have hb := E.1.2.1
  have hml := E.1.2.2.1
  intro n
  induction n with
  | zero => intro x1 x2 x3 x4 x5 x6 x7 x8 st H locs ls q hP hD hS hl hF; simp only [LX3_goes_207] at hF; cases hF
  | succ n ih =>
    intro x1 x2 x3 x4 x5 x6 x7 x8 st H locs ls q hP hD hS hl hF kx
    simp only [LX3_goes_207] at hF
    refine lv_iload hx hb dX3_goes_207 (lv_at hl 8 rfl) ?_
    refine lv_iload hx hb dX3_goes_209 (lv_at hl 6 rfl) ?_
    refine lv_icmp_ge (tgt := 266) hx hb dX3_goes_211 (by decide) (fun hc => ?_) (fun hc => ?_)
    · have hF := if_t hc hF
      exact kx _ _ _ _ _ _ _ _ _ _ _ _ (Option.some.inj hF).symm hP hD hS (lv_sub hl [0, 1, 2, 3, 4, 5, 6, 7, 8] rfl)
    · have hF := if_f hc hF
      refine lv_aload_n hx hb dX3_goes_214 rfl (lv_at hl 0 rfl) ?_
      refine g_14_12 E hP dX3_goes_215 ?_
      refine lv_iload hx hb dX3_goes_218 (lv_at hl 5 rfl) ?_
      refine lv_iload hx hb dX3_goes_220 (lv_at hl 8 rfl) ?_
      refine lv_iadd hx hb dX3_goes_222 ?_
      obtain ⟨hi11, hF⟩ := gd_some hF
      refine la_22 E hP hi11 dX3_goes_223 ?_
      refine lv_istore (lv' := [(9, .int (st.1 22 (x5 + x8).toNatClampNeg)), (0, .ref (h 14)), (1, .int x1), (2, .int x2), (3, .int x3), (4, .int x4), (5, .int x5), (6, .int x6), (7, .int x7), (8, .int x8)]) hx hb dX3_goes_224 hl (by decide) rfl (fun ls hl => ?_)
      refine lv_aload_n hx hb dX3_goes_226 rfl (lv_at hl 1 rfl) ?_
      refine g_14_12 E hP dX3_goes_227 ?_
      refine lv_iload_n hx hb dX3_goes_230 rfl (lv_at hl 3 rfl) ?_
      refine lv_iload hx hb dX3_goes_231 (lv_at hl 9 rfl) ?_
      refine lv_iload hx hb dX3_goes_233 (lv_at hl 8 rfl) ?_
      refine lv_icmp_ge (tgt := 254) hx hb dX3_goes_235 (by decide) (fun hc => ?_) (fun hc => ?_)
      · have hF := if_t hc hF
        refine lv_iload hx hb dX3_goes_254 (lv_at hl 0 rfl) ?_
        obtain ⟨hi12, hF⟩ := gd_some hF
        refine sa_22 E hP hD hS hi12 dX3_goes_256 (fun H locs hP hD hS => ?_)
        refine lv_iinc (v := (x2 + (1 : Int32))) (lv' := [(2, .int (x2 + (1 : Int32))), (9, .int (st.1 22 (x5 + x8).toNatClampNeg)), (0, .ref (h 14)), (1, .int x1), (3, .int x3), (4, .int x4), (5, .int x5), (6, .int x6), (7, .int x7), (8, .int x8)]) hx hb dX3_goes_257 hl (k := 3) rfl rfl (by decide) rfl (fun ls hl => ?_)
        refine lv_iinc (v := (x8 + (1 : Int32))) (lv' := [(8, .int (x8 + (1 : Int32))), (2, .int (x2 + (1 : Int32))), (9, .int (st.1 22 (x5 + x8).toNatClampNeg)), (0, .ref (h 14)), (1, .int x1), (3, .int x3), (4, .int x4), (5, .int x5), (6, .int x6), (7, .int x7)]) hx hb dX3_goes_260 hl (k := 9) rfl rfl (by decide) rfl (fun ls hl => ?_)
        refine lv_goto (tgt := 207) hx hb dX3_goes_263 (by decide) ?_
        exact ih _ _ _ _ _ _ _ _ _ _ _ _ _ hP hD hS (lv_sub hl [3, 4, 1, 5, 6, 7, 8, 9, 0] rfl) hF kx
      · have hF := if_f hc hF
        refine lv_iload hx hb dX3_goes_238 (lv_at hl 0 rfl) ?_
        refine lv_iconst (v := (-1)) hx hb dX3_goes_240 (by decide) ?_
        refine lv_icmp_eq (tgt := 254) hx hb dX3_goes_241 (by decide) (fun hc => ?_) (fun hc => ?_)
        · have hF := if_t hc hF
          refine lv_iload hx hb dX3_goes_254 (lv_at hl 0 rfl) ?_
          obtain ⟨hi13, hF⟩ := gd_some hF
          refine sa_22 E hP hD hS hi13 dX3_goes_256 (fun H locs hP hD hS => ?_)
          refine lv_iinc (v := (x2 + (1 : Int32))) (lv' := [(2, .int (x2 + (1 : Int32))), (9, .int (st.1 22 (x5 + x8).toNatClampNeg)), (0, .ref (h 14)), (1, .int x1), (3, .int x3), (4, .int x4), (5, .int x5), (6, .int x6), (7, .int x7), (8, .int x8)]) hx hb dX3_goes_257 hl (k := 3) rfl rfl (by decide) rfl (fun ls hl => ?_)
          refine lv_iinc (v := (x8 + (1 : Int32))) (lv' := [(8, .int (x8 + (1 : Int32))), (2, .int (x2 + (1 : Int32))), (9, .int (st.1 22 (x5 + x8).toNatClampNeg)), (0, .ref (h 14)), (1, .int x1), (3, .int x3), (4, .int x4), (5, .int x5), (6, .int x6), (7, .int x7)]) hx hb dX3_goes_260 hl (k := 9) rfl rfl (by decide) rfl (fun ls hl => ?_)
          refine lv_goto (tgt := 207) hx hb dX3_goes_263 (by decide) ?_
          exact ih _ _ _ _ _ _ _ _ _ _ _ _ _ hP hD hS (lv_sub hl [3, 4, 1, 5, 6, 7, 8, 9, 0] rfl) hF kx
        · have hF := if_f hc hF
          refine lv_aload_n hx hb dX3_goes_244 rfl (lv_at hl 1 rfl) ?_
          refine g_14_26 E hP dX3_goes_245 ?_
          refine lv_iload hx hb dX3_goes_248 (lv_at hl 0 rfl) ?_
          obtain ⟨hi14, hF⟩ := gd_some hF
          refine la_30 E hP hi14 dX3_goes_250 ?_
          refine lv_goto (tgt := 256) hx hb dX3_goes_251 (by decide) ?_
          obtain ⟨hi15, hF⟩ := gd_some hF
          refine sa_22 E hP hD hS hi15 dX3_goes_256 (fun H locs hP hD hS => ?_)
          refine lv_iinc (v := (x2 + (1 : Int32))) (lv' := [(2, .int (x2 + (1 : Int32))), (9, .int (st.1 22 (x5 + x8).toNatClampNeg)), (0, .ref (h 14)), (1, .int x1), (3, .int x3), (4, .int x4), (5, .int x5), (6, .int x6), (7, .int x7), (8, .int x8)]) hx hb dX3_goes_257 hl (k := 3) rfl rfl (by decide) rfl (fun ls hl => ?_)
          refine lv_iinc (v := (x8 + (1 : Int32))) (lv' := [(8, .int (x8 + (1 : Int32))), (2, .int (x2 + (1 : Int32))), (9, .int (st.1 22 (x5 + x8).toNatClampNeg)), (0, .ref (h 14)), (1, .int x1), (3, .int x3), (4, .int x4), (5, .int x5), (6, .int x6), (7, .int x7)]) hx hb dX3_goes_260 hl (k := 9) rfl rfl (by decide) rfl (fun ls hl => ?_)
          refine lv_goto (tgt := 207) hx hb dX3_goes_263 (by decide) ?_
          exact ih _ _ _ _ _ _ _ _ _ _ _ _ _ hP hD hS (lv_sub hl [3, 4, 1, 5, 6, 7, 8, 9, 0] rfl) hF kx
def LX3_goes_106 : Nat → Int32 → Int32 → Int32 → St → Option (Int32 × St)
  | 0 => fun _ _ _ _ => none
  | n + 1 => fun x1 x2 x3 st => (if (st.1 14 7) ≤ x3 then some ((0 : Int32), (pt (pt st 14 7 x1) 14 13 x2)) else gd x3 4200 ((if (st.1 30 x3.toNatClampNeg) = (-1 : Int32) then LX3_goes_106 n x1 x2 (x3 + (1 : Int32)) st else gd x3 4200 (gd x3 4200 (gd x3 4200 (gd x3 4200 (gd x3 4200 (gd (st.1 30 x3.toNatClampNeg) 4200 (gd (st.1 30 x3.toNatClampNeg) 4200 (gd (st.1 30 x3.toNatClampNeg) 4200 (gd (st.1 30 x3.toNatClampNeg) 4200 (be (LX3_goes_207 n x1 x2 x3 (st.1 30 x3.toNatClampNeg) (st.1 21 x3.toNatClampNeg) ((st.1 19 x3.toNatClampNeg) + (st.1 20 x3.toNatClampNeg)) (st.1 19 x3.toNatClampNeg) (0 : Int32) (pt (pt (pt (pt st 18 (st.1 30 x3.toNatClampNeg).toNatClampNeg (st.1 27 x3.toNatClampNeg)) 19 (st.1 30 x3.toNatClampNeg).toNatClampNeg (st.1 19 x3.toNatClampNeg)) 20 (st.1 30 x3.toNatClampNeg).toNatClampNeg (((st.1 19 x3.toNatClampNeg) + (st.1 20 x3.toNatClampNeg)) - (st.1 19 x3.toNatClampNeg))) 21 (st.1 30 x3.toNatClampNeg).toNatClampNeg x2)) (fun (y18, y19, y20, y21, y22, y23, y24, y25, u26) => LX3_goes_106 n y18 y19 (y20 + (1 : Int32)) u26)))))))))))))
set_option maxHeartbeats 4000000 in
set_option maxRecDepth 100000 in
theorem lX3_goes_106 {l : Launch} {D : va_G} {h : Nat → Nat} {cI cJ cZ : ClassId} {p : Program} {e : Env} {s : State} {m : MethodId} {args : Array Value} {below : List Frame} {meth : Method} {c : Code} {A : Nat → Prop} {r : Int32} {u : St} (E : Env1 p s m args c cX3_goes 10 RX3 D (tyL cI cJ cZ)) (hr : meth.sig.returnType = none) (hlocks : meth.locks = false) (hA : ∀ q : Nat, s.heap.size ≤ q → A q) : ∀ (n : Nat) (x1 x2 x3 : Int32) (st : St) (H : Heap) (locs : List Loc) (ls : Array Slot), va_P D vwCl (wM h cI cJ cZ st) H → va_D A (wM h cI cJ cZ st) → va_S A s.heap H locs → lv_has ls 10 [(0, .ref (h 14)), (1, .int x1), (2, .int x2), (3, .int x3)] → LX3_goes_106 n x1 x2 x3 st = some (r, u) → W p l e (rm 0 0) s m args below meth c H locs 0 0 (MQ below (CQv D (tyL cI cJ cZ) (wM h cI cJ cZ) A u) args s 0 0 A) (F0 m 106 ls []) := by
  have hx := E.1.1
  have hb := E.1.2.1
  have hml := E.1.2.2.1
  intro n
  induction n with
  | zero => intro x1 x2 x3 st H locs ls hP hD hS hl hF; simp only [LX3_goes_106] at hF; cases hF
  | succ n ih =>
    intro x1 x2 x3 st H locs ls hP hD hS hl hF
    simp only [LX3_goes_106] at hF
    refine lv_iload_n hx hb dX3_goes_106 rfl (lv_at hl 3 rfl) ?_
    refine lv_aload_n hx hb dX3_goes_107 rfl (lv_at hl 0 rfl) ?_
    refine g_14_7 E hP dX3_goes_108 ?_
    refine lv_icmp_ge (tgt := 272) hx hb dX3_goes_111 (by decide) (fun hc => ?_) (fun hc => ?_)
    · have hF := if_t hc hF
      refine lv_aload_n hx hb dX3_goes_272 rfl (lv_at hl 0 rfl) ?_
      refine lv_iload_n hx hb dX3_goes_273 rfl (lv_at hl 1 rfl) ?_
      refine s_14_7 E hP hD hS dX3_goes_274 (fun H locs hP hD hS => ?_)
      refine lv_aload_n hx hb dX3_goes_277 rfl (lv_at hl 0 rfl) ?_
      refine lv_iload_n hx hb dX3_goes_278 rfl (lv_at hl 2 rfl) ?_
      refine s_14_13 E hP hD hS dX3_goes_279 (fun H locs hP hD hS => ?_)
      exact endV E hr hlocks hP hD hS dX3_goes_282 hF
    · have hF := if_f hc hF
      refine lv_aload_n hx hb dX3_goes_114 rfl (lv_at hl 0 rfl) ?_
      refine g_14_26 E hP dX3_goes_115 ?_
      refine lv_iload_n hx hb dX3_goes_118 rfl (lv_at hl 3 rfl) ?_
      obtain ⟨hi1, hF⟩ := gd_some hF
      refine la_30 E hP hi1 dX3_goes_119 ?_
      refine lv_istore (lv' := [(4, .int (st.1 30 x3.toNatClampNeg)), (0, .ref (h 14)), (1, .int x1), (2, .int x2), (3, .int x3)]) hx hb dX3_goes_120 hl (by decide) rfl (fun ls hl => ?_)
      refine lv_iload hx hb dX3_goes_122 (lv_at hl 0 rfl) ?_
      refine lv_iconst (v := (-1)) hx hb dX3_goes_124 (by decide) ?_
      refine lv_icmp_ne (tgt := 131) hx hb dX3_goes_125 (by decide) (fun hc => ?_) (fun hc => ?_)
      · have hF := if_f hc hF
        refine lv_aload_n hx hb dX3_goes_131 rfl (lv_at hl 1 rfl) ?_
        refine g_14_11 E hP dX3_goes_132 ?_
        refine lv_iload_n hx hb dX3_goes_135 rfl (lv_at hl 4 rfl) ?_
        obtain ⟨hi2, hF⟩ := gd_some hF
        refine la_21 E hP hi2 dX3_goes_136 ?_
        refine lv_istore (lv' := [(5, .int (st.1 21 x3.toNatClampNeg)), (4, .int (st.1 30 x3.toNatClampNeg)), (0, .ref (h 14)), (1, .int x1), (2, .int x2), (3, .int x3)]) hx hb dX3_goes_137 hl (by decide) rfl (fun ls hl => ?_)
        refine lv_aload_n hx hb dX3_goes_139 rfl (lv_at hl 2 rfl) ?_
        refine g_14_9 E hP dX3_goes_140 ?_
        refine lv_iload_n hx hb dX3_goes_143 rfl (lv_at hl 5 rfl) ?_
        obtain ⟨hi3, hF⟩ := gd_some hF
        refine la_19 E hP hi3 dX3_goes_144 ?_
        refine lv_aload_n hx hb dX3_goes_145 rfl (lv_at hl 2 rfl) ?_
        refine g_14_10 E hP dX3_goes_146 ?_
        refine lv_iload_n hx hb dX3_goes_149 rfl (lv_at hl 5 rfl) ?_
        obtain ⟨hi4, hF⟩ := gd_some hF
        refine la_20 E hP hi4 dX3_goes_150 ?_
        refine lv_iadd hx hb dX3_goes_151 ?_
        refine lv_istore (lv' := [(6, .int ((st.1 19 x3.toNatClampNeg) + (st.1 20 x3.toNatClampNeg))), (5, .int (st.1 21 x3.toNatClampNeg)), (4, .int (st.1 30 x3.toNatClampNeg)), (0, .ref (h 14)), (1, .int x1), (2, .int x2), (3, .int x3)]) hx hb dX3_goes_152 hl (by decide) rfl (fun ls hl => ?_)
        refine lv_aload_n hx hb dX3_goes_154 rfl (lv_at hl 3 rfl) ?_
        refine g_14_9 E hP dX3_goes_155 ?_
        refine lv_iload_n hx hb dX3_goes_158 rfl (lv_at hl 6 rfl) ?_
        obtain ⟨hi5, hF⟩ := gd_some hF
        refine la_19 E hP hi5 dX3_goes_159 ?_
        refine lv_istore (lv' := [(7, .int (st.1 19 x3.toNatClampNeg)), (6, .int ((st.1 19 x3.toNatClampNeg) + (st.1 20 x3.toNatClampNeg))), (5, .int (st.1 21 x3.toNatClampNeg)), (4, .int (st.1 30 x3.toNatClampNeg)), (0, .ref (h 14)), (1, .int x1), (2, .int x2), (3, .int x3)]) hx hb dX3_goes_160 hl (by decide) rfl (fun ls hl => ?_)
        refine lv_aload_n hx hb dX3_goes_162 rfl (lv_at hl 4 rfl) ?_
        refine g_14_8 E hP dX3_goes_163 ?_
        refine lv_iload hx hb dX3_goes_166 (lv_at hl 3 rfl) ?_
        refine lv_aload_n hx hb dX3_goes_168 rfl (lv_at hl 4 rfl) ?_
        refine g_14_19 E hP dX3_goes_169 ?_
        refine lv_iload_n hx hb dX3_goes_172 rfl (lv_at hl 7 rfl) ?_
        obtain ⟨hi6, hF⟩ := gd_some hF
        refine la_27 E hP hi6 dX3_goes_173 ?_
        obtain ⟨hi7, hF⟩ := gd_some hF
        refine sa_18 E hP hD hS hi7 dX3_goes_174 (fun H locs hP hD hS => ?_)
        refine lv_aload_n hx hb dX3_goes_175 rfl (lv_at hl 4 rfl) ?_
        refine g_14_9 E hP dX3_goes_176 ?_
        refine lv_iload hx hb dX3_goes_179 (lv_at hl 3 rfl) ?_
        refine lv_iload hx hb dX3_goes_181 (lv_at hl 0 rfl) ?_
        obtain ⟨hi8, hF⟩ := gd_some hF
        refine sa_19 E hP hD hS hi8 dX3_goes_183 (fun H locs hP hD hS => ?_)
        refine lv_aload_n hx hb dX3_goes_184 rfl (lv_at hl 4 rfl) ?_
        refine g_14_10 E hP dX3_goes_185 ?_
        refine lv_iload hx hb dX3_goes_188 (lv_at hl 3 rfl) ?_
        refine lv_iload hx hb dX3_goes_190 (lv_at hl 1 rfl) ?_
        refine lv_iload hx hb dX3_goes_192 (lv_at hl 0 rfl) ?_
        refine lv_isub hx hb dX3_goes_194 ?_
        obtain ⟨hi9, hF⟩ := gd_some hF
        refine sa_20 E hP hD hS hi9 dX3_goes_195 (fun H locs hP hD hS => ?_)
        refine lv_aload_n hx hb dX3_goes_196 rfl (lv_at hl 4 rfl) ?_
        refine g_14_11 E hP dX3_goes_197 ?_
        refine lv_iload hx hb dX3_goes_200 (lv_at hl 3 rfl) ?_
        refine lv_iload_n hx hb dX3_goes_202 rfl (lv_at hl 6 rfl) ?_
        obtain ⟨hi10, hF⟩ := gd_some hF
        refine sa_21 E hP hD hS hi10 dX3_goes_203 (fun H locs hP hD hS => ?_)
        refine lv_iconst (v := 0) hx hb dX3_goes_204 (by decide) ?_
        refine lv_istore (lv' := [(8, .int (0 : Int32)), (7, .int (st.1 19 x3.toNatClampNeg)), (6, .int ((st.1 19 x3.toNatClampNeg) + (st.1 20 x3.toNatClampNeg))), (5, .int (st.1 21 x3.toNatClampNeg)), (4, .int (st.1 30 x3.toNatClampNeg)), (0, .ref (h 14)), (1, .int x1), (2, .int x2), (3, .int x3)]) hx hb dX3_goes_205 hl (by decide) rfl (fun ls hl => ?_)
        obtain ⟨q16, hq17, hF⟩ := be_some hF
        refine lX3_goes_207 E hA n x1 x2 x3 (st.1 30 x3.toNatClampNeg) (st.1 21 x3.toNatClampNeg) ((st.1 19 x3.toNatClampNeg) + (st.1 20 x3.toNatClampNeg)) (st.1 19 x3.toNatClampNeg) (0 : Int32) (pt (pt (pt (pt st 18 (st.1 30 x3.toNatClampNeg).toNatClampNeg (st.1 27 x3.toNatClampNeg)) 19 (st.1 30 x3.toNatClampNeg).toNatClampNeg (st.1 19 x3.toNatClampNeg)) 20 (st.1 30 x3.toNatClampNeg).toNatClampNeg (((st.1 19 x3.toNatClampNeg) + (st.1 20 x3.toNatClampNeg)) - (st.1 19 x3.toNatClampNeg))) 21 (st.1 30 x3.toNatClampNeg).toNatClampNeg x2) _ _ _ _ hP hD hS (lv_sub hl [5, 6, 7, 8, 4, 3, 2, 1, 0] rfl) hq17 (fun H locs ls y18 y19 y20 y21 y22 y23 y24 y25 u26 he hP hD hS hl => ?_)
        subst he
        refine lv_iinc (v := (y20 + (1 : Int32))) (lv' := [(3, .int (y20 + (1 : Int32))), (0, .ref (h 14)), (1, .int y18), (2, .int y19), (4, .int y21), (5, .int y22), (6, .int y23), (7, .int y24), (8, .int y25)]) hx hb dX3_goes_266 hl (k := 3) rfl rfl (by decide) rfl (fun ls hl => ?_)
        refine lv_goto (tgt := 106) hx hb dX3_goes_269 (by decide) ?_
        exact ih _ _ _ _ _ _ _ hP hD hS (lv_sub hl [1, 2, 3, 0] rfl) hF
      · have hF := if_t hc hF
        refine lv_goto (tgt := 266) hx hb dX3_goes_128 (by decide) ?_
        refine lv_iinc (v := (x3 + (1 : Int32))) (lv' := [(3, .int (x3 + (1 : Int32))), (4, .int (st.1 30 x3.toNatClampNeg)), (0, .ref (h 14)), (1, .int x1), (2, .int x2)]) hx hb dX3_goes_266 hl (k := 4) rfl rfl (by decide) rfl (fun ls hl => ?_)
        refine lv_goto (tgt := 106) hx hb dX3_goes_269 (by decide) ?_
        exact ih _ _ _ _ _ _ _ hP hD hS (lv_sub hl [2, 3, 4, 0] rfl) hF
def LX3_goes_59 : Nat → Int32 → Int32 → St → Option (Int32 × St)
  | 0 => fun _ _ _ => none
  | n + 1 => fun x1 x2 st => (if (32 : Int32) ≤ x2 then LX3_goes_106 n x1 (0 : Int32) (0 : Int32) st else gd x2 32 ((if (st.1 23 x2.toNatClampNeg) = (-1 : Int32) then gd x2 32 (LX3_goes_59 n x1 (x2 + (1 : Int32)) (pt st 23 x2.toNatClampNeg (-1 : Int32))) else gd x2 32 (gd (st.1 23 x2.toNatClampNeg) 4200 (gd x2 32 (LX3_goes_59 n x1 (x2 + (1 : Int32)) (pt st 23 x2.toNatClampNeg (st.1 30 (st.1 23 x2.toNatClampNeg).toNatClampNeg))))))))
set_option maxHeartbeats 4000000 in
set_option maxRecDepth 100000 in
theorem lX3_goes_59 {l : Launch} {D : va_G} {h : Nat → Nat} {cI cJ cZ : ClassId} {p : Program} {e : Env} {s : State} {m : MethodId} {args : Array Value} {below : List Frame} {meth : Method} {c : Code} {A : Nat → Prop} {r : Int32} {u : St} (E : Env1 p s m args c cX3_goes 10 RX3 D (tyL cI cJ cZ)) (hr : meth.sig.returnType = none) (hlocks : meth.locks = false) (hA : ∀ q : Nat, s.heap.size ≤ q → A q) : ∀ (n : Nat) (x1 x2 : Int32) (st : St) (H : Heap) (locs : List Loc) (ls : Array Slot), va_P D vwCl (wM h cI cJ cZ st) H → va_D A (wM h cI cJ cZ st) → va_S A s.heap H locs → lv_has ls 10 [(0, .ref (h 14)), (1, .int x1), (2, .int x2)] → LX3_goes_59 n x1 x2 st = some (r, u) → W p l e (rm 0 0) s m args below meth c H locs 0 0 (MQ below (CQv D (tyL cI cJ cZ) (wM h cI cJ cZ) A u) args s 0 0 A) (F0 m 59 ls []) := by
  have hx := E.1.1
  have hb := E.1.2.1
  have hml := E.1.2.2.1
  intro n
  induction n with
  | zero => intro x1 x2 st H locs ls hP hD hS hl hF; simp only [LX3_goes_59] at hF; cases hF
  | succ n ih =>
    intro x1 x2 st H locs ls hP hD hS hl hF
    simp only [LX3_goes_59] at hF
    refine lv_iload_n hx hb dX3_goes_59 rfl (lv_at hl 2 rfl) ?_
    refine lv_bipush (v := 32) hx hb dX3_goes_60 (by decide) ?_
    refine lv_icmp_ge (tgt := 102) hx hb dX3_goes_62 (by decide) (fun hc => ?_) (fun hc => ?_)
    · have hF := if_t hc hF
      refine lv_iconst (v := 0) hx hb dX3_goes_102 (by decide) ?_
      refine lv_istore_n (lv' := [(2, .int (0 : Int32)), (0, .ref (h 14)), (1, .int x1)]) hx hb dX3_goes_103 rfl hl (by decide) rfl (fun ls hl => ?_)
      refine lv_iconst (v := 0) hx hb dX3_goes_104 (by decide) ?_
      refine lv_istore_n (lv' := [(3, .int (0 : Int32)), (2, .int (0 : Int32)), (0, .ref (h 14)), (1, .int x1)]) hx hb dX3_goes_105 rfl hl (by decide) rfl (fun ls hl => ?_)
      exact lX3_goes_106 E hr hlocks hA n x1 (0 : Int32) (0 : Int32) st _ _ _ hP hD hS (lv_sub hl [2, 3, 1, 0] rfl) hF
    · have hF := if_f hc hF
      refine lv_aload_n hx hb dX3_goes_65 rfl (lv_at hl 0 rfl) ?_
      refine g_14_14 E hP dX3_goes_66 ?_
      refine lv_iload_n hx hb dX3_goes_69 rfl (lv_at hl 2 rfl) ?_
      refine lv_aload_n hx hb dX3_goes_70 rfl (lv_at hl 0 rfl) ?_
      refine g_14_14 E hP dX3_goes_71 ?_
      refine lv_iload_n hx hb dX3_goes_74 rfl (lv_at hl 2 rfl) ?_
      obtain ⟨hi27, hF⟩ := gd_some hF
      refine la_23 E hP hi27 dX3_goes_75 ?_
      refine lv_iconst (v := (-1)) hx hb dX3_goes_76 (by decide) ?_
      refine lv_icmp_ne (tgt := 84) hx hb dX3_goes_77 (by decide) (fun hc => ?_) (fun hc => ?_)
      · have hF := if_f hc hF
        refine lv_aload_n hx hb dX3_goes_84 rfl (lv_at hl 0 rfl) ?_
        refine g_14_26 E hP dX3_goes_85 ?_
        refine lv_aload_n hx hb dX3_goes_88 rfl (lv_at hl 0 rfl) ?_
        refine g_14_14 E hP dX3_goes_89 ?_
        refine lv_iload_n hx hb dX3_goes_92 rfl (lv_at hl 2 rfl) ?_
        obtain ⟨hi28, hF⟩ := gd_some hF
        refine la_23 E hP hi28 dX3_goes_93 ?_
        obtain ⟨hi29, hF⟩ := gd_some hF
        refine la_30 E hP hi29 dX3_goes_94 ?_
        obtain ⟨hi30, hF⟩ := gd_some hF
        refine sa_23 E hP hD hS hi30 dX3_goes_95 (fun H locs hP hD hS => ?_)
        refine lv_iinc (v := (x2 + (1 : Int32))) (lv' := [(2, .int (x2 + (1 : Int32))), (0, .ref (h 14)), (1, .int x1)]) hx hb dX3_goes_96 hl (k := 2) rfl rfl (by decide) rfl (fun ls hl => ?_)
        refine lv_goto (tgt := 59) hx hb dX3_goes_99 (by decide) ?_
        exact ih _ _ _ _ _ _ hP hD hS (lv_sub hl [1, 2, 0] rfl) hF
      · have hF := if_t hc hF
        refine lv_iconst (v := (-1)) hx hb dX3_goes_80 (by decide) ?_
        refine lv_goto (tgt := 95) hx hb dX3_goes_81 (by decide) ?_
        obtain ⟨hi31, hF⟩ := gd_some hF
        refine sa_23 E hP hD hS hi31 dX3_goes_95 (fun H locs hP hD hS => ?_)
        refine lv_iinc (v := (x2 + (1 : Int32))) (lv' := [(2, .int (x2 + (1 : Int32))), (0, .ref (h 14)), (1, .int x1)]) hx hb dX3_goes_96 hl (k := 2) rfl rfl (by decide) rfl (fun ls hl => ?_)
        refine lv_goto (tgt := 59) hx hb dX3_goes_99 (by decide) ?_
        exact ih _ _ _ _ _ _ hP hD hS (lv_sub hl [1, 2, 0] rfl) hF
def LX3_goes_4 : Nat → Int32 → Int32 → St → Option (Int32 × St)
  | 0 => fun _ _ _ => none
  | n + 1 => fun x1 x2 st => (if (st.1 14 7) ≤ x2 then LX3_goes_59 n x1 (0 : Int32) st else gd x2 4200 ((if (st.1 27 x2.toNatClampNeg) = (-1 : Int32) then gd x2 4200 (gd x2 4200 ((if ((pt st 30 x2.toNatClampNeg (-1 : Int32)).1 27 x2.toNatClampNeg) = (-1 : Int32) then LX3_goes_4 n (x1 + (0 : Int32)) (x2 + (1 : Int32)) (pt st 30 x2.toNatClampNeg (-1 : Int32)) else LX3_goes_4 n (x1 + (1 : Int32)) (x2 + (1 : Int32)) (pt st 30 x2.toNatClampNeg (-1 : Int32))))) else gd x2 4200 (gd x2 4200 ((if ((pt st 30 x2.toNatClampNeg x1).1 27 x2.toNatClampNeg) = (-1 : Int32) then LX3_goes_4 n (x1 + (0 : Int32)) (x2 + (1 : Int32)) (pt st 30 x2.toNatClampNeg x1) else LX3_goes_4 n (x1 + (1 : Int32)) (x2 + (1 : Int32)) (pt st 30 x2.toNatClampNeg x1)))))))
set_option maxHeartbeats 4000000 in
set_option maxRecDepth 100000 in
theorem lX3_goes_4 {l : Launch} {D : va_G} {h : Nat → Nat} {cI cJ cZ : ClassId} {p : Program} {e : Env} {s : State} {m : MethodId} {args : Array Value} {below : List Frame} {meth : Method} {c : Code} {A : Nat → Prop} {r : Int32} {u : St} (E : Env1 p s m args c cX3_goes 10 RX3 D (tyL cI cJ cZ)) (hr : meth.sig.returnType = none) (hlocks : meth.locks = false) (hA : ∀ q : Nat, s.heap.size ≤ q → A q) : ∀ (n : Nat) (x1 x2 : Int32) (st : St) (H : Heap) (locs : List Loc) (ls : Array Slot), va_P D vwCl (wM h cI cJ cZ st) H → va_D A (wM h cI cJ cZ st) → va_S A s.heap H locs → lv_has ls 10 [(0, .ref (h 14)), (1, .int x1), (2, .int x2)] → LX3_goes_4 n x1 x2 st = some (r, u) → W p l e (rm 0 0) s m args below meth c H locs 0 0 (MQ below (CQv D (tyL cI cJ cZ) (wM h cI cJ cZ) A u) args s 0 0 A) (F0 m 4 ls []) := by
  have hx := E.1.1
  have hb := E.1.2.1
  have hml := E.1.2.2.1
  intro n
  induction n with
  | zero => intro x1 x2 st H locs ls hP hD hS hl hF; simp only [LX3_goes_4] at hF; cases hF
  | succ n ih =>
    intro x1 x2 st H locs ls hP hD hS hl hF
    simp only [LX3_goes_4] at hF
    refine lv_iload_n hx hb dX3_goes_4 rfl (lv_at hl 2 rfl) ?_
    refine lv_aload_n hx hb dX3_goes_5 rfl (lv_at hl 0 rfl) ?_
    refine g_14_7 E hP dX3_goes_6 ?_
    refine lv_icmp_ge (tgt := 57) hx hb dX3_goes_9 (by decide) (fun hc => ?_) (fun hc => ?_)
    · have hF := if_t hc hF
      refine lv_iconst (v := 0) hx hb dX3_goes_57 (by decide) ?_
      refine lv_istore_n (lv' := [(2, .int (0 : Int32)), (0, .ref (h 14)), (1, .int x1)]) hx hb dX3_goes_58 rfl hl (by decide) rfl (fun ls hl => ?_)
      exact lX3_goes_59 E hr hlocks hA n x1 (0 : Int32) st _ _ _ hP hD hS (lv_sub hl [1, 2, 0] rfl) hF
    · have hF := if_f hc hF
      refine lv_aload_n hx hb dX3_goes_12 rfl (lv_at hl 0 rfl) ?_
      refine g_14_26 E hP dX3_goes_13 ?_
      refine lv_iload_n hx hb dX3_goes_16 rfl (lv_at hl 2 rfl) ?_
      refine lv_aload_n hx hb dX3_goes_17 rfl (lv_at hl 0 rfl) ?_
      refine g_14_19 E hP dX3_goes_18 ?_
      refine lv_iload_n hx hb dX3_goes_21 rfl (lv_at hl 2 rfl) ?_
      obtain ⟨hi32, hF⟩ := gd_some hF
      refine la_27 E hP hi32 dX3_goes_22 ?_
      refine lv_iconst (v := (-1)) hx hb dX3_goes_23 (by decide) ?_
      refine lv_icmp_ne (tgt := 31) hx hb dX3_goes_24 (by decide) (fun hc => ?_) (fun hc => ?_)
      · have hF := if_f hc hF
        refine lv_iload_n hx hb dX3_goes_31 rfl (lv_at hl 1 rfl) ?_
        obtain ⟨hi33, hF⟩ := gd_some hF
        refine sa_30 E hP hD hS hi33 dX3_goes_32 (fun H locs hP hD hS => ?_)
        refine lv_iload_n hx hb dX3_goes_33 rfl (lv_at hl 1 rfl) ?_
        refine lv_aload_n hx hb dX3_goes_34 rfl (lv_at hl 0 rfl) ?_
        refine g_14_19 E hP dX3_goes_35 ?_
        refine lv_iload_n hx hb dX3_goes_38 rfl (lv_at hl 2 rfl) ?_
        obtain ⟨hi34, hF⟩ := gd_some hF
        refine la_27 E hP hi34 dX3_goes_39 ?_
        refine lv_iconst (v := (-1)) hx hb dX3_goes_40 (by decide) ?_
        refine lv_icmp_ne (tgt := 48) hx hb dX3_goes_41 (by decide) (fun hc => ?_) (fun hc => ?_)
        · have hF := if_f hc hF
          refine lv_iconst (v := 1) hx hb dX3_goes_48 (by decide) ?_
          refine lv_iadd hx hb dX3_goes_49 ?_
          refine lv_istore_n (lv' := [(1, .int (x1 + (1 : Int32))), (0, .ref (h 14)), (2, .int x2)]) hx hb dX3_goes_50 rfl hl (by decide) rfl (fun ls hl => ?_)
          refine lv_iinc (v := (x2 + (1 : Int32))) (lv' := [(2, .int (x2 + (1 : Int32))), (1, .int (x1 + (1 : Int32))), (0, .ref (h 14))]) hx hb dX3_goes_51 hl (k := 2) rfl rfl (by decide) rfl (fun ls hl => ?_)
          refine lv_goto (tgt := 4) hx hb dX3_goes_54 (by decide) ?_
          exact ih _ _ _ _ _ _ hP hD hS (lv_sub hl [2, 1, 0] rfl) hF
        · have hF := if_t hc hF
          refine lv_iconst (v := 0) hx hb dX3_goes_44 (by decide) ?_
          refine lv_goto (tgt := 49) hx hb dX3_goes_45 (by decide) ?_
          refine lv_iadd hx hb dX3_goes_49 ?_
          refine lv_istore_n (lv' := [(1, .int (x1 + (0 : Int32))), (0, .ref (h 14)), (2, .int x2)]) hx hb dX3_goes_50 rfl hl (by decide) rfl (fun ls hl => ?_)
          refine lv_iinc (v := (x2 + (1 : Int32))) (lv' := [(2, .int (x2 + (1 : Int32))), (1, .int (x1 + (0 : Int32))), (0, .ref (h 14))]) hx hb dX3_goes_51 hl (k := 2) rfl rfl (by decide) rfl (fun ls hl => ?_)
          refine lv_goto (tgt := 4) hx hb dX3_goes_54 (by decide) ?_
          exact ih _ _ _ _ _ _ hP hD hS (lv_sub hl [2, 1, 0] rfl) hF
      · have hF := if_t hc hF
        refine lv_iconst (v := (-1)) hx hb dX3_goes_27 (by decide) ?_
        refine lv_goto (tgt := 32) hx hb dX3_goes_28 (by decide) ?_
        obtain ⟨hi35, hF⟩ := gd_some hF
        refine sa_30 E hP hD hS hi35 dX3_goes_32 (fun H locs hP hD hS => ?_)
        refine lv_iload_n hx hb dX3_goes_33 rfl (lv_at hl 1 rfl) ?_
        refine lv_aload_n hx hb dX3_goes_34 rfl (lv_at hl 0 rfl) ?_
        refine g_14_19 E hP dX3_goes_35 ?_
        refine lv_iload_n hx hb dX3_goes_38 rfl (lv_at hl 2 rfl) ?_
        obtain ⟨hi36, hF⟩ := gd_some hF
        refine la_27 E hP hi36 dX3_goes_39 ?_
        refine lv_iconst (v := (-1)) hx hb dX3_goes_40 (by decide) ?_
        refine lv_icmp_ne (tgt := 48) hx hb dX3_goes_41 (by decide) (fun hc => ?_) (fun hc => ?_)
        · have hF := if_f hc hF
          refine lv_iconst (v := 1) hx hb dX3_goes_48 (by decide) ?_
          refine lv_iadd hx hb dX3_goes_49 ?_
          refine lv_istore_n (lv' := [(1, .int (x1 + (1 : Int32))), (0, .ref (h 14)), (2, .int x2)]) hx hb dX3_goes_50 rfl hl (by decide) rfl (fun ls hl => ?_)
          refine lv_iinc (v := (x2 + (1 : Int32))) (lv' := [(2, .int (x2 + (1 : Int32))), (1, .int (x1 + (1 : Int32))), (0, .ref (h 14))]) hx hb dX3_goes_51 hl (k := 2) rfl rfl (by decide) rfl (fun ls hl => ?_)
          refine lv_goto (tgt := 4) hx hb dX3_goes_54 (by decide) ?_
          exact ih _ _ _ _ _ _ hP hD hS (lv_sub hl [2, 1, 0] rfl) hF
        · have hF := if_t hc hF
          refine lv_iconst (v := 0) hx hb dX3_goes_44 (by decide) ?_
          refine lv_goto (tgt := 49) hx hb dX3_goes_45 (by decide) ?_
          refine lv_iadd hx hb dX3_goes_49 ?_
          refine lv_istore_n (lv' := [(1, .int (x1 + (0 : Int32))), (0, .ref (h 14)), (2, .int x2)]) hx hb dX3_goes_50 rfl hl (by decide) rfl (fun ls hl => ?_)
          refine lv_iinc (v := (x2 + (1 : Int32))) (lv' := [(2, .int (x2 + (1 : Int32))), (1, .int (x1 + (0 : Int32))), (0, .ref (h 14))]) hx hb dX3_goes_51 hl (k := 2) rfl rfl (by decide) rfl (fun ls hl => ?_)
          refine lv_goto (tgt := 4) hx hb dX3_goes_54 (by decide) ?_
          exact ih _ _ _ _ _ _ hP hD hS (lv_sub hl [2, 1, 0] rfl) hF
def FX3_goes (n : Nat) (st : St) : Option (Int32 × St) := LX3_goes_4 n (0 : Int32) (0 : Int32) st
set_option maxHeartbeats 4000000 in
set_option maxRecDepth 100000 in
theorem kX3_goes (l : Launch) (D : va_G) (h : Nat → Nat) (cI cJ cZ : ClassId) (n : Nat) (st : St) (r : Int32) (u : St) (hF : FX3_goes n  st = some (r, u)) : Cv l yX3_goes cX3_goes 10 0 0 D (tyL cI cJ cZ) (wM h cI cJ cZ) st [.ref (h 14)] u := by
  refine body_v (by decide +kernel) (Nat.le_of_ble_eq_true rfl) ?_
  intro p e s m below meth c A ls E hr hlocks hA hP hD hS hl
  have E : Env1 p s m _ c cX3_goes 10 RX3 D (tyL cI cJ cZ) := E
  have hl : lv_has ls 10 [(0, .ref (h 14))] := hl
  have hx := E.1.1
  have hb := E.1.2.1
  have hml := E.1.2.2.1
  unfold FX3_goes at hF
  refine lv_iconst (v := 0) hx hb dX3_goes_0 (by decide) ?_
  refine lv_istore_n (lv' := [(1, .int (0 : Int32)), (0, .ref (h 14))]) hx hb dX3_goes_1 rfl hl (by decide) rfl (fun ls hl => ?_)
  refine lv_iconst (v := 0) hx hb dX3_goes_2 (by decide) ?_
  refine lv_istore_n (lv' := [(2, .int (0 : Int32)), (1, .int (0 : Int32)), (0, .ref (h 14))]) hx hb dX3_goes_3 rfl hl (by decide) rfl (fun ls hl => ?_)
  exact lX3_goes_4 E hr hlocks hA n (0 : Int32) (0 : Int32) st _ _ _ hP hD hS (lv_sub hl [2, 1, 0] rfl) hF
theorem cw_X3_141 : cwd RX3 141 RX3 yX3_rows cX3_rows 3 (some .boolean) 0 := ⟨tb_V (tb_in 804 (by decide +kernel) (by decide +kernel)) (tb_in 806 (by decide +kernel) (by decide +kernel)) (tb_in 31 (by decide +kernel) (by decide +kernel)) (tb_in 50 (by decide +kernel) (by decide +kernel)) (tb_in 807 (by decide +kernel) (by decide +kernel)), by decide +kernel⟩
theorem cw_X3_144 : cwd RX3 144 RX3 yX3_goes cX3_goes 10 none 0 := ⟨tb_V (tb_in 836 (by decide +kernel) (by decide +kernel)) (tb_in 838 (by decide +kernel) (by decide +kernel)) (tb_in 39 (by decide +kernel) (by decide +kernel)) (tb_in 50 (by decide +kernel) (by decide +kernel)) (tb_in 839 (by decide +kernel) (by decide +kernel)), by decide +kernel⟩
-- LooseHeapModel.collected
def LX3_collected_218 : Nat → Int32 → St → Option (Int32 × St)
  | 0 => fun _ _ => none
  | n + 1 => fun x1 st => (if (st.1 14 1) ≤ x1 then bd (FX3_goes n  (pt st 14 6 (st.1 14 22))) (fun r11 u12 => some ((1 : Int32), u12)) else gd x1 64 ((if (st.1 29 x1.toNatClampNeg) ≤ 0 then gd x1 64 ((if (st.1 15 x1.toNatClampNeg) = 0 then LX3_collected_218 n (x1 + (1 : Int32)) st else gd x1 64 ((if (st.1 28 x1.toNatClampNeg) = 0 then gd x1 64 (gd x1 64 (gd (12 : Int32) 13 (gd (12 : Int32) 13 (LX3_collected_218 n (x1 + (1 : Int32)) (pt (pt (pt st 15 x1.toNatClampNeg (0 : Int32)) 16 x1.toNatClampNeg (0 : Int32)) 25 (12 : Int32).toNatClampNeg (((pt (pt st 15 x1.toNatClampNeg (0 : Int32)) 16 x1.toNatClampNeg (0 : Int32)).1 25 (12 : Int32).toNatClampNeg) + (1 : Int32))))))) else LX3_collected_218 n (x1 + (1 : Int32)) st)))) else gd x1 64 (gd x1 64 (gd x1 64 (LX3_collected_218 n (x1 + (1 : Int32)) (pt (pt st 15 x1.toNatClampNeg (1 : Int32)) 16 x1.toNatClampNeg (((pt st 15 x1.toNatClampNeg (1 : Int32)).1 29 x1.toNatClampNeg) - (1 : Int32)))))))))
set_option maxHeartbeats 4000000 in
set_option maxRecDepth 100000 in
theorem lX3_collected_218 {l : Launch} {D : va_G} {h : Nat → Nat} {cI cJ cZ : ClassId} {p : Program} {e : Env} {s : State} {m : MethodId} {args : Array Value} {below : List Frame} {meth : Method} {c : Code} {A : Nat → Prop} {r : Int32} {u : St} (E : Env1 p s m args c cX3_collected 4 RX3 D (tyL cI cJ cZ)) (hr : meth.sig.returnType = some .boolean) (hlocks : meth.locks = false) (hA : ∀ q : Nat, s.heap.size ≤ q → A q) : ∀ (n : Nat) (x1 : Int32) (st : St) (H : Heap) (locs : List Loc) (ls : Array Slot), va_P D vwCl (wM h cI cJ cZ st) H → va_D A (wM h cI cJ cZ st) → va_S A s.heap H locs → lv_has ls 4 [(0, .ref (h 14)), (1, .int x1)] → LX3_collected_218 n x1 st = some (r, u) → W p l e (rm 4 86) s m args below meth c H locs 0 0 (MQ below (CQ D (tyL cI cJ cZ) (wM h cI cJ cZ) A r u) args s 0 0 A) (F0 m 218 ls []) := by
  have hx := E.1.1
  have hb := E.1.2.1
  have hml := E.1.2.2.1
  intro n
  induction n with
  | zero => intro x1 st H locs ls hP hD hS hl hF; simp only [LX3_collected_218] at hF; cases hF
  | succ n ih =>
    intro x1 st H locs ls hP hD hS hl hF
    simp only [LX3_collected_218] at hF
    refine lv_iload_n hx hb dX3_collected_218 rfl (lv_at hl 1 rfl) ?_
    refine lv_aload_n hx hb dX3_collected_219 rfl (lv_at hl 0 rfl) ?_
    refine g_14_1 E hP dX3_collected_220 ?_
    refine lv_icmp_ge (tgt := 308) hx hb dX3_collected_223 (by decide) (fun hc => ?_) (fun hc => ?_)
    · have hF := if_t hc hF
      refine lv_aload_n hx hb dX3_collected_308 rfl (lv_at hl 0 rfl) ?_
      refine lv_aload_n hx hb dX3_collected_309 rfl (lv_at hl 0 rfl) ?_
      refine g_14_22 E hP dX3_collected_310 ?_
      refine s_14_6 E hP hD hS dX3_collected_313 (fun H locs hP hD hS => ?_)
      refine lv_aload_n hx hb dX3_collected_316 rfl (lv_at hl 0 rfl) ?_
      obtain ⟨r11, u12, hc13, hF⟩ := bd_some hF
      refine call_v (rest := []) E hA hP hD hS hl.1 (kX3_goes l D h cI cJ cZ n  (pt st 14 6 (st.1 14 22)) r11 u12 hc13) cw_X3_144 0 rfl rfl rfl rfl rfl (Nat.le_of_ble_eq_true rfl) ⟨Nat.le_of_ble_eq_true rfl, Nat.le_of_ble_eq_true rfl⟩ ⟨Nat.zero_le _, Nat.zero_le _⟩ dX3_collected_317 (fun H locs hP hD hS => ?_)
      refine lv_iconst (v := 1) hx hb dX3_collected_320 (by decide) ?_
      exact endZ0 E hr hlocks hP hD hS dX3_collected_321 rfl hF
    · have hF := if_f hc hF
      refine lv_aload_n hx hb dX3_collected_226 rfl (lv_at hl 0 rfl) ?_
      refine g_14_21 E hP dX3_collected_227 ?_
      refine lv_iload_n hx hb dX3_collected_230 rfl (lv_at hl 1 rfl) ?_
      obtain ⟨hi14, hF⟩ := gd_some hF
      refine la_29 E hP hi14 dX3_collected_231 ?_
      refine lv_if_le (tgt := 259) hx hb dX3_collected_232 (by decide) (fun hc => ?_) (fun hc => ?_)
      · have hF := if_t hc hF
        refine lv_aload_n hx hb dX3_collected_259 rfl (lv_at hl 0 rfl) ?_
        refine g_14_3 E hP dX3_collected_260 ?_
        refine lv_iload_n hx hb dX3_collected_263 rfl (lv_at hl 1 rfl) ?_
        obtain ⟨hi15, hF⟩ := gd_some hF
        refine la_15 E hP hi15 dX3_collected_264 ?_
        refine lv_if_eq (tgt := 302) hx hb dX3_collected_265 (by decide) (fun hc => ?_) (fun hc => ?_)
        · have hF := if_t hc hF
          refine lv_iinc (v := (x1 + (1 : Int32))) (lv' := [(1, .int (x1 + (1 : Int32))), (0, .ref (h 14))]) hx hb dX3_collected_302 hl (k := 1) rfl rfl (by decide) rfl (fun ls hl => ?_)
          refine lv_goto (tgt := 218) hx hb dX3_collected_305 (by decide) ?_
          exact ih _ _ _ _ _ hP hD hS (lv_sub hl [1, 0] rfl) hF
        · have hF := if_f hc hF
          refine lv_aload_n hx hb dX3_collected_268 rfl (lv_at hl 0 rfl) ?_
          refine g_14_20 E hP dX3_collected_269 ?_
          refine lv_iload_n hx hb dX3_collected_272 rfl (lv_at hl 1 rfl) ?_
          obtain ⟨hi16, hF⟩ := gd_some hF
          refine la_28 E hP hi16 dX3_collected_273 ?_
          refine lv_if_ne (tgt := 302) hx hb dX3_collected_274 (by decide) (fun hc => ?_) (fun hc => ?_)
          · have hF := if_f hc hF
            refine lv_iinc (v := (x1 + (1 : Int32))) (lv' := [(1, .int (x1 + (1 : Int32))), (0, .ref (h 14))]) hx hb dX3_collected_302 hl (k := 1) rfl rfl (by decide) rfl (fun ls hl => ?_)
            refine lv_goto (tgt := 218) hx hb dX3_collected_305 (by decide) ?_
            exact ih _ _ _ _ _ hP hD hS (lv_sub hl [1, 0] rfl) hF
          · have hF := if_t hc hF
            refine lv_aload_n hx hb dX3_collected_277 rfl (lv_at hl 0 rfl) ?_
            refine g_14_3 E hP dX3_collected_278 ?_
            refine lv_iload_n hx hb dX3_collected_281 rfl (lv_at hl 1 rfl) ?_
            refine lv_iconst (v := 0) hx hb dX3_collected_282 (by decide) ?_
            obtain ⟨hi17, hF⟩ := gd_some hF
            refine sa_15 E hP hD hS hi17 dX3_collected_283 (fun H locs hP hD hS => ?_)
            refine lv_aload_n hx hb dX3_collected_284 rfl (lv_at hl 0 rfl) ?_
            refine g_14_4 E hP dX3_collected_285 ?_
            refine lv_iload_n hx hb dX3_collected_288 rfl (lv_at hl 1 rfl) ?_
            refine lv_iconst (v := 0) hx hb dX3_collected_289 (by decide) ?_
            obtain ⟨hi18, hF⟩ := gd_some hF
            refine sa_16 E hP hD hS hi18 dX3_collected_290 (fun H locs hP hD hS => ?_)
            refine lv_aload_n hx hb dX3_collected_291 rfl (lv_at hl 0 rfl) ?_
            refine g_14_16 E hP dX3_collected_292 ?_
            refine lv_bipush (v := 12) hx hb dX3_collected_295 (by decide) ?_
            refine lv_dup2_11 hx hb dX3_collected_297 rfl rfl ?_
            obtain ⟨hi19, hF⟩ := gd_some hF
            refine la_25 E hP hi19 dX3_collected_298 ?_
            refine lv_iconst (v := 1) hx hb dX3_collected_299 (by decide) ?_
            refine lv_iadd hx hb dX3_collected_300 ?_
            obtain ⟨hi20, hF⟩ := gd_some hF
            refine sa_25 E hP hD hS hi20 dX3_collected_301 (fun H locs hP hD hS => ?_)
            refine lv_iinc (v := (x1 + (1 : Int32))) (lv' := [(1, .int (x1 + (1 : Int32))), (0, .ref (h 14))]) hx hb dX3_collected_302 hl (k := 1) rfl rfl (by decide) rfl (fun ls hl => ?_)
            refine lv_goto (tgt := 218) hx hb dX3_collected_305 (by decide) ?_
            exact ih _ _ _ _ _ hP hD hS (lv_sub hl [1, 0] rfl) hF
      · have hF := if_f hc hF
        refine lv_aload_n hx hb dX3_collected_235 rfl (lv_at hl 0 rfl) ?_
        refine g_14_3 E hP dX3_collected_236 ?_
        refine lv_iload_n hx hb dX3_collected_239 rfl (lv_at hl 1 rfl) ?_
        refine lv_iconst (v := 1) hx hb dX3_collected_240 (by decide) ?_
        obtain ⟨hi21, hF⟩ := gd_some hF
        refine sa_15 E hP hD hS hi21 dX3_collected_241 (fun H locs hP hD hS => ?_)
        refine lv_aload_n hx hb dX3_collected_242 rfl (lv_at hl 0 rfl) ?_
        refine g_14_4 E hP dX3_collected_243 ?_
        refine lv_iload_n hx hb dX3_collected_246 rfl (lv_at hl 1 rfl) ?_
        refine lv_aload_n hx hb dX3_collected_247 rfl (lv_at hl 0 rfl) ?_
        refine g_14_21 E hP dX3_collected_248 ?_
        refine lv_iload_n hx hb dX3_collected_251 rfl (lv_at hl 1 rfl) ?_
        obtain ⟨hi22, hF⟩ := gd_some hF
        refine la_29 E hP hi22 dX3_collected_252 ?_
        refine lv_iconst (v := 1) hx hb dX3_collected_253 (by decide) ?_
        refine lv_isub hx hb dX3_collected_254 ?_
        obtain ⟨hi23, hF⟩ := gd_some hF
        refine sa_16 E hP hD hS hi23 dX3_collected_255 (fun H locs hP hD hS => ?_)
        refine lv_goto (tgt := 302) hx hb dX3_collected_256 (by decide) ?_
        refine lv_iinc (v := (x1 + (1 : Int32))) (lv' := [(1, .int (x1 + (1 : Int32))), (0, .ref (h 14))]) hx hb dX3_collected_302 hl (k := 1) rfl rfl (by decide) rfl (fun ls hl => ?_)
        refine lv_goto (tgt := 218) hx hb dX3_collected_305 (by decide) ?_
        exact ih _ _ _ _ _ hP hD hS (lv_sub hl [1, 0] rfl) hF
def LX3_collected_153 : Nat → Int32 → Int32 → Int32 → St → Option (Int32 × Int32 × Int32 × St)
  | 0 => fun _ _ _ _ => none
  | n + 1 => fun x1 x2 x3 st => (if (st.1 14 1) ≤ x3 then some (x1, x2, x3, st) else gd x1 4200 (bd (FX3_isLong n (st.1 26 x1.toNatClampNeg) st) (fun r28 u29 => (if r28 = 0 then some (x1, x2, x3, u29) else (if x3 = x2 then gd x3 64 (LX3_collected_153 n x1 x2 (x3 + (1 : Int32)) (pt u29 28 x3.toNatClampNeg (vp_nar .boolean (1 : Int32)))) else gd x3 64 ((if (u29.1 15 x3.toNatClampNeg) = (3 : Int32) then gd x3 64 (LX3_collected_153 n x1 x2 (x3 + (1 : Int32)) (pt u29 28 x3.toNatClampNeg (vp_nar .boolean (1 : Int32)))) else some (x1, x2, x3, u29))))))))
set_option maxHeartbeats 4000000 in
set_option maxRecDepth 100000 in
theorem lX3_collected_153 {l : Launch} {D : va_G} {h : Nat → Nat} {cI cJ cZ : ClassId} {p : Program} {e : Env} {s : State} {m : MethodId} {args : Array Value} {below : List Frame} {meth : Method} {c : Code} {A : Nat → Prop} {Q : State → Prop} (E : Env1 p s m args c cX3_collected 4 RX3 D (tyL cI cJ cZ)) (hA : ∀ q : Nat, s.heap.size ≤ q → A q) : ∀ (n : Nat) (x1 x2 x3 : Int32) (st : St) (H : Heap) (locs : List Loc) (ls : Array Slot) (q : Int32 × Int32 × Int32 × St), va_P D vwCl (wM h cI cJ cZ st) H → va_D A (wM h cI cJ cZ st) → va_S A s.heap H locs → lv_has ls 4 [(0, .ref (h 14)), (1, .int x1), (2, .int x2), (3, .int x3)] → LX3_collected_153 n x1 x2 x3 st = some q → (∀ (H : Heap) (locs : List Loc) (ls : Array Slot) (y1 y2 y3 : Int32) (u1 : St), q = (y1, y2, y3, u1) → va_P D vwCl (wM h cI cJ cZ u1) H → va_D A (wM h cI cJ cZ u1) → va_S A s.heap H locs → lv_has ls 4 [(0, .ref (h 14)), (1, .int y1), (2, .int y2), (3, .int y3)] → W p l e (rm 4 86) s m args below meth c H locs 0 0 Q (F0 m 202 ls [])) → W p l e (rm 4 86) s m args below meth c H locs 0 0 Q (F0 m 153 ls []) := by
  have hx := E.1.1
  have hb := E.1.2.1
  have hml := E.1.2.2.1
  intro n
  induction n with
  | zero => intro x1 x2 x3 st H locs ls q hP hD hS hl hF; simp only [LX3_collected_153] at hF; cases hF
  | succ n ih =>
    intro x1 x2 x3 st H locs ls q hP hD hS hl hF kx
    simp only [LX3_collected_153] at hF
    refine lv_iload_n hx hb dX3_collected_153 rfl (lv_at hl 3 rfl) ?_
    refine lv_aload_n hx hb dX3_collected_154 rfl (lv_at hl 0 rfl) ?_
    refine g_14_1 E hP dX3_collected_155 ?_
    refine lv_icmp_ge (tgt := 202) hx hb dX3_collected_158 (by decide) (fun hc => ?_) (fun hc => ?_)
    · have hF := if_t hc hF
      exact kx _ _ _ _ _ _ _ (Option.some.inj hF).symm hP hD hS (lv_sub hl [0, 1, 2, 3] rfl)
    · have hF := if_f hc hF
      refine lv_aload_n hx hb dX3_collected_161 rfl (lv_at hl 0 rfl) ?_
      refine lv_aload_n hx hb dX3_collected_162 rfl (lv_at hl 0 rfl) ?_
      refine g_14_17 E hP dX3_collected_163 ?_
      refine lv_iload_n hx hb dX3_collected_166 rfl (lv_at hl 1 rfl) ?_
      obtain ⟨hi27, hF⟩ := gd_some hF
      refine la_26 E hP hi27 dX3_collected_167 ?_
      obtain ⟨r28, u29, hc30, hF⟩ := bd_some hF
      refine call_i (rest := []) E hA hP hD hS hl.1 (kX3_isLong l D h cI cJ cZ n (st.1 26 x1.toNatClampNeg) st r28 u29 hc30) cw_X3_113 0 rfl rfl rfl rfl rfl (Nat.le_of_ble_eq_true rfl) ⟨Nat.le_of_ble_eq_true rfl, Nat.le_of_ble_eq_true rfl⟩ ⟨Nat.zero_le _, Nat.zero_le _⟩ dX3_collected_168 (fun H locs hP hD hS => ?_)
      refine lv_if_eq (tgt := 202) hx hb dX3_collected_171 (by decide) (fun hc => ?_) (fun hc => ?_)
      · have hF := if_t hc hF
        exact kx _ _ _ _ _ _ _ (Option.some.inj hF).symm hP hD hS (lv_sub hl [0, 1, 2, 3] rfl)
      · have hF := if_f hc hF
        refine lv_iload_n hx hb dX3_collected_174 rfl (lv_at hl 3 rfl) ?_
        refine lv_iload_n hx hb dX3_collected_175 rfl (lv_at hl 2 rfl) ?_
        refine lv_icmp_eq (tgt := 189) hx hb dX3_collected_176 (by decide) (fun hc => ?_) (fun hc => ?_)
        · have hF := if_t hc hF
          refine lv_aload_n hx hb dX3_collected_189 rfl (lv_at hl 0 rfl) ?_
          refine g_14_20 E hP dX3_collected_190 ?_
          refine lv_iload_n hx hb dX3_collected_193 rfl (lv_at hl 3 rfl) ?_
          refine lv_iconst (v := 1) hx hb dX3_collected_194 (by decide) ?_
          obtain ⟨hi31, hF⟩ := gd_some hF
          refine sa_28 E hP hD hS hi31 dX3_collected_195 (fun H locs hP hD hS => ?_)
          refine lv_iinc (v := (x3 + (1 : Int32))) (lv' := [(3, .int (x3 + (1 : Int32))), (0, .ref (h 14)), (1, .int x1), (2, .int x2)]) hx hb dX3_collected_196 hl (k := 3) rfl rfl (by decide) rfl (fun ls hl => ?_)
          refine lv_goto (tgt := 153) hx hb dX3_collected_199 (by decide) ?_
          exact ih _ _ _ _ _ _ _ _ hP hD hS (lv_sub hl [1, 2, 3, 0] rfl) hF kx
        · have hF := if_f hc hF
          refine lv_aload_n hx hb dX3_collected_179 rfl (lv_at hl 0 rfl) ?_
          refine g_14_3 E hP dX3_collected_180 ?_
          refine lv_iload_n hx hb dX3_collected_183 rfl (lv_at hl 3 rfl) ?_
          obtain ⟨hi32, hF⟩ := gd_some hF
          refine la_15 E hP hi32 dX3_collected_184 ?_
          refine lv_iconst (v := 3) hx hb dX3_collected_185 (by decide) ?_
          refine lv_icmp_ne (tgt := 202) hx hb dX3_collected_186 (by decide) (fun hc => ?_) (fun hc => ?_)
          · have hF := if_f hc hF
            exact kx _ _ _ _ _ _ _ (Option.some.inj hF).symm hP hD hS (lv_sub hl [0, 1, 2, 3] rfl)
          · have hF := if_t hc hF
            refine lv_aload_n hx hb dX3_collected_189 rfl (lv_at hl 0 rfl) ?_
            refine g_14_20 E hP dX3_collected_190 ?_
            refine lv_iload_n hx hb dX3_collected_193 rfl (lv_at hl 3 rfl) ?_
            refine lv_iconst (v := 1) hx hb dX3_collected_194 (by decide) ?_
            obtain ⟨hi33, hF⟩ := gd_some hF
            refine sa_28 E hP hD hS hi33 dX3_collected_195 (fun H locs hP hD hS => ?_)
            refine lv_iinc (v := (x3 + (1 : Int32))) (lv' := [(3, .int (x3 + (1 : Int32))), (0, .ref (h 14)), (1, .int x1), (2, .int x2)]) hx hb dX3_collected_196 hl (k := 3) rfl rfl (by decide) rfl (fun ls hl => ?_)
            refine lv_goto (tgt := 153) hx hb dX3_collected_199 (by decide) ?_
            exact ih _ _ _ _ _ _ _ _ hP hD hS (lv_sub hl [1, 2, 3, 0] rfl) hF kx
def LX3_collected_126 : Nat → Int32 → St → Option (Int32 × St)
  | 0 => fun _ _ => none
  | n + 1 => fun x1 st => (if (st.1 14 18) ≤ x1 then gd (12 : Int32) 13 (LX3_collected_218 n (0 : Int32) (pt st 25 (12 : Int32).toNatClampNeg (0 : Int32))) else gd x1 4200 (gd (st.1 26 x1.toNatClampNeg) 4200 (dz (st.1 14 2) (be (LX3_collected_153 n x1 ((st.1 18 (st.1 26 x1.toNatClampNeg).toNatClampNeg) / (st.1 14 2)) ((st.1 18 (st.1 26 x1.toNatClampNeg).toNatClampNeg) / (st.1 14 2)) st) (fun (y36, y37, y38, u39) => LX3_collected_126 n (y36 + (1 : Int32)) u39)))))
set_option maxHeartbeats 4000000 in
set_option maxRecDepth 100000 in
theorem lX3_collected_126 {l : Launch} {D : va_G} {h : Nat → Nat} {cI cJ cZ : ClassId} {p : Program} {e : Env} {s : State} {m : MethodId} {args : Array Value} {below : List Frame} {meth : Method} {c : Code} {A : Nat → Prop} {r : Int32} {u : St} (E : Env1 p s m args c cX3_collected 4 RX3 D (tyL cI cJ cZ)) (hr : meth.sig.returnType = some .boolean) (hlocks : meth.locks = false) (hA : ∀ q : Nat, s.heap.size ≤ q → A q) : ∀ (n : Nat) (x1 : Int32) (st : St) (H : Heap) (locs : List Loc) (ls : Array Slot), va_P D vwCl (wM h cI cJ cZ st) H → va_D A (wM h cI cJ cZ st) → va_S A s.heap H locs → lv_has ls 4 [(0, .ref (h 14)), (1, .int x1)] → LX3_collected_126 n x1 st = some (r, u) → W p l e (rm 4 86) s m args below meth c H locs 0 0 (MQ below (CQ D (tyL cI cJ cZ) (wM h cI cJ cZ) A r u) args s 0 0 A) (F0 m 126 ls []) := by
  have hx := E.1.1
  have hb := E.1.2.1
  have hml := E.1.2.2.1
  intro n
  induction n with
  | zero => intro x1 st H locs ls hP hD hS hl hF; simp only [LX3_collected_126] at hF; cases hF
  | succ n ih =>
    intro x1 st H locs ls hP hD hS hl hF
    simp only [LX3_collected_126] at hF
    refine lv_iload_n hx hb dX3_collected_126 rfl (lv_at hl 1 rfl) ?_
    refine lv_aload_n hx hb dX3_collected_127 rfl (lv_at hl 0 rfl) ?_
    refine g_14_18 E hP dX3_collected_128 ?_
    refine lv_icmp_ge (tgt := 208) hx hb dX3_collected_131 (by decide) (fun hc => ?_) (fun hc => ?_)
    · have hF := if_t hc hF
      refine lv_aload_n hx hb dX3_collected_208 rfl (lv_at hl 0 rfl) ?_
      refine g_14_16 E hP dX3_collected_209 ?_
      refine lv_bipush (v := 12) hx hb dX3_collected_212 (by decide) ?_
      refine lv_iconst (v := 0) hx hb dX3_collected_214 (by decide) ?_
      obtain ⟨hi10, hF⟩ := gd_some hF
      refine sa_25 E hP hD hS hi10 dX3_collected_215 (fun H locs hP hD hS => ?_)
      refine lv_iconst (v := 0) hx hb dX3_collected_216 (by decide) ?_
      refine lv_istore_n (lv' := [(1, .int (0 : Int32)), (0, .ref (h 14))]) hx hb dX3_collected_217 rfl hl (by decide) rfl (fun ls hl => ?_)
      exact lX3_collected_218 E hr hlocks hA n (0 : Int32) (pt st 25 (12 : Int32).toNatClampNeg (0 : Int32)) _ _ _ hP hD hS (lv_sub hl [1, 0] rfl) hF
    · have hF := if_f hc hF
      refine lv_aload_n hx hb dX3_collected_134 rfl (lv_at hl 0 rfl) ?_
      refine g_14_8 E hP dX3_collected_135 ?_
      refine lv_aload_n hx hb dX3_collected_138 rfl (lv_at hl 0 rfl) ?_
      refine g_14_17 E hP dX3_collected_139 ?_
      refine lv_iload_n hx hb dX3_collected_142 rfl (lv_at hl 1 rfl) ?_
      obtain ⟨hi24, hF⟩ := gd_some hF
      refine la_26 E hP hi24 dX3_collected_143 ?_
      obtain ⟨hi25, hF⟩ := gd_some hF
      refine la_18 E hP hi25 dX3_collected_144 ?_
      refine lv_aload_n hx hb dX3_collected_145 rfl (lv_at hl 0 rfl) ?_
      refine g_14_2 E hP dX3_collected_146 ?_
      obtain ⟨hz26, hF⟩ := dz_some hF
      refine lv_idiv hx hb dX3_collected_149 hz26 ?_
      refine lv_istore_n (lv' := [(2, .int ((st.1 18 (st.1 26 x1.toNatClampNeg).toNatClampNeg) / (st.1 14 2))), (0, .ref (h 14)), (1, .int x1)]) hx hb dX3_collected_150 rfl hl (by decide) rfl (fun ls hl => ?_)
      refine lv_iload_n hx hb dX3_collected_151 rfl (lv_at hl 0 rfl) ?_
      refine lv_istore_n (lv' := [(3, .int ((st.1 18 (st.1 26 x1.toNatClampNeg).toNatClampNeg) / (st.1 14 2))), (2, .int ((st.1 18 (st.1 26 x1.toNatClampNeg).toNatClampNeg) / (st.1 14 2))), (0, .ref (h 14)), (1, .int x1)]) hx hb dX3_collected_152 rfl hl (by decide) rfl (fun ls hl => ?_)
      obtain ⟨q34, hq35, hF⟩ := be_some hF
      refine lX3_collected_153 E hA n x1 ((st.1 18 (st.1 26 x1.toNatClampNeg).toNatClampNeg) / (st.1 14 2)) ((st.1 18 (st.1 26 x1.toNatClampNeg).toNatClampNeg) / (st.1 14 2)) st _ _ _ _ hP hD hS (lv_sub hl [2, 3, 1, 0] rfl) hq35 (fun H locs ls y36 y37 y38 u39 he hP hD hS hl => ?_)
      subst he
      refine lv_iinc (v := (y36 + (1 : Int32))) (lv' := [(1, .int (y36 + (1 : Int32))), (0, .ref (h 14)), (2, .int y37), (3, .int y38)]) hx hb dX3_collected_202 hl (k := 1) rfl rfl (by decide) rfl (fun ls hl => ?_)
      refine lv_goto (tgt := 126) hx hb dX3_collected_205 (by decide) ?_
      exact ih _ _ _ _ _ hP hD hS (lv_sub hl [1, 0] rfl) hF
def LX3_collected_74 : Nat → Int32 → St → Option (Int32 × St)
  | 0 => fun _ _ => none
  | n + 1 => fun x1 st => (if (st.1 14 1) ≤ x1 then LX3_collected_126 n (0 : Int32) st else gd x1 64 (gd x1 64 (gd (8 : Int32) 13 (gd x1 64 ((if ((pt st 17 x1.toNatClampNeg (vp_nar .boolean (st.1 28 x1.toNatClampNeg))).1 28 x1.toNatClampNeg) = 0 then gd (8 : Int32) 13 (LX3_collected_74 n (x1 + (1 : Int32)) (pt (pt st 17 x1.toNatClampNeg (vp_nar .boolean (st.1 28 x1.toNatClampNeg))) 25 (8 : Int32).toNatClampNeg (((pt st 17 x1.toNatClampNeg (vp_nar .boolean (st.1 28 x1.toNatClampNeg))).1 25 (8 : Int32).toNatClampNeg) + (0 : Int32)))) else gd (8 : Int32) 13 (LX3_collected_74 n (x1 + (1 : Int32)) (pt (pt st 17 x1.toNatClampNeg (vp_nar .boolean (st.1 28 x1.toNatClampNeg))) 25 (8 : Int32).toNatClampNeg (((pt st 17 x1.toNatClampNeg (vp_nar .boolean (st.1 28 x1.toNatClampNeg))).1 25 (8 : Int32).toNatClampNeg) + (1 : Int32))))))))))
set_option maxHeartbeats 4000000 in
set_option maxRecDepth 100000 in
theorem lX3_collected_74 {l : Launch} {D : va_G} {h : Nat → Nat} {cI cJ cZ : ClassId} {p : Program} {e : Env} {s : State} {m : MethodId} {args : Array Value} {below : List Frame} {meth : Method} {c : Code} {A : Nat → Prop} {r : Int32} {u : St} (E : Env1 p s m args c cX3_collected 4 RX3 D (tyL cI cJ cZ)) (hr : meth.sig.returnType = some .boolean) (hlocks : meth.locks = false) (hA : ∀ q : Nat, s.heap.size ≤ q → A q) : ∀ (n : Nat) (x1 : Int32) (st : St) (H : Heap) (locs : List Loc) (ls : Array Slot), va_P D vwCl (wM h cI cJ cZ st) H → va_D A (wM h cI cJ cZ st) → va_S A s.heap H locs → lv_has ls 4 [(0, .ref (h 14)), (1, .int x1)] → LX3_collected_74 n x1 st = some (r, u) → W p l e (rm 4 86) s m args below meth c H locs 0 0 (MQ below (CQ D (tyL cI cJ cZ) (wM h cI cJ cZ) A r u) args s 0 0 A) (F0 m 74 ls []) := by
  have hx := E.1.1
  have hb := E.1.2.1
  have hml := E.1.2.2.1
  intro n
  induction n with
  | zero => intro x1 st H locs ls hP hD hS hl hF; simp only [LX3_collected_74] at hF; cases hF
  | succ n ih =>
    intro x1 st H locs ls hP hD hS hl hF
    simp only [LX3_collected_74] at hF
    refine lv_iload_n hx hb dX3_collected_74 rfl (lv_at hl 1 rfl) ?_
    refine lv_aload_n hx hb dX3_collected_75 rfl (lv_at hl 0 rfl) ?_
    refine g_14_1 E hP dX3_collected_76 ?_
    refine lv_icmp_ge (tgt := 124) hx hb dX3_collected_79 (by decide) (fun hc => ?_) (fun hc => ?_)
    · have hF := if_t hc hF
      refine lv_iconst (v := 0) hx hb dX3_collected_124 (by decide) ?_
      refine lv_istore_n (lv' := [(1, .int (0 : Int32)), (0, .ref (h 14))]) hx hb dX3_collected_125 rfl hl (by decide) rfl (fun ls hl => ?_)
      exact lX3_collected_126 E hr hlocks hA n (0 : Int32) st _ _ _ hP hD hS (lv_sub hl [1, 0] rfl) hF
    · have hF := if_f hc hF
      refine lv_aload_n hx hb dX3_collected_82 rfl (lv_at hl 0 rfl) ?_
      refine g_14_5 E hP dX3_collected_83 ?_
      refine lv_iload_n hx hb dX3_collected_86 rfl (lv_at hl 1 rfl) ?_
      refine lv_aload_n hx hb dX3_collected_87 rfl (lv_at hl 0 rfl) ?_
      refine g_14_20 E hP dX3_collected_88 ?_
      refine lv_iload_n hx hb dX3_collected_91 rfl (lv_at hl 1 rfl) ?_
      obtain ⟨hi40, hF⟩ := gd_some hF
      refine la_28 E hP hi40 dX3_collected_92 ?_
      obtain ⟨hi41, hF⟩ := gd_some hF
      refine sa_17 E hP hD hS hi41 dX3_collected_93 (fun H locs hP hD hS => ?_)
      refine lv_aload_n hx hb dX3_collected_94 rfl (lv_at hl 0 rfl) ?_
      refine g_14_16 E hP dX3_collected_95 ?_
      refine lv_bipush (v := 8) hx hb dX3_collected_98 (by decide) ?_
      refine lv_dup2_11 hx hb dX3_collected_100 rfl rfl ?_
      obtain ⟨hi42, hF⟩ := gd_some hF
      refine la_25 E hP hi42 dX3_collected_101 ?_
      refine lv_aload_n hx hb dX3_collected_102 rfl (lv_at hl 0 rfl) ?_
      refine g_14_20 E hP dX3_collected_103 ?_
      refine lv_iload_n hx hb dX3_collected_106 rfl (lv_at hl 1 rfl) ?_
      obtain ⟨hi43, hF⟩ := gd_some hF
      refine la_28 E hP hi43 dX3_collected_107 ?_
      refine lv_if_eq (tgt := 115) hx hb dX3_collected_108 (by decide) (fun hc => ?_) (fun hc => ?_)
      · have hF := if_t hc hF
        refine lv_iconst (v := 0) hx hb dX3_collected_115 (by decide) ?_
        refine lv_iadd hx hb dX3_collected_116 ?_
        obtain ⟨hi44, hF⟩ := gd_some hF
        refine sa_25 E hP hD hS hi44 dX3_collected_117 (fun H locs hP hD hS => ?_)
        refine lv_iinc (v := (x1 + (1 : Int32))) (lv' := [(1, .int (x1 + (1 : Int32))), (0, .ref (h 14))]) hx hb dX3_collected_118 hl (k := 1) rfl rfl (by decide) rfl (fun ls hl => ?_)
        refine lv_goto (tgt := 74) hx hb dX3_collected_121 (by decide) ?_
        exact ih _ _ _ _ _ hP hD hS (lv_sub hl [1, 0] rfl) hF
      · have hF := if_f hc hF
        refine lv_iconst (v := 1) hx hb dX3_collected_111 (by decide) ?_
        refine lv_goto (tgt := 116) hx hb dX3_collected_112 (by decide) ?_
        refine lv_iadd hx hb dX3_collected_116 ?_
        obtain ⟨hi45, hF⟩ := gd_some hF
        refine sa_25 E hP hD hS hi45 dX3_collected_117 (fun H locs hP hD hS => ?_)
        refine lv_iinc (v := (x1 + (1 : Int32))) (lv' := [(1, .int (x1 + (1 : Int32))), (0, .ref (h 14))]) hx hb dX3_collected_118 hl (k := 1) rfl rfl (by decide) rfl (fun ls hl => ?_)
        refine lv_goto (tgt := 74) hx hb dX3_collected_121 (by decide) ?_
        exact ih _ _ _ _ _ hP hD hS (lv_sub hl [1, 0] rfl) hF
def FX3_collected (n : Nat) (st : St) : Option (Int32 × St) := bd (FX3_rows n  st) (fun r1 u2 => (if r1 = 0 then gd (7 : Int32) 13 (gd (7 : Int32) 13 (some ((0 : Int32), (pt u2 25 (7 : Int32).toNatClampNeg ((u2.1 25 (7 : Int32).toNatClampNeg) + (1 : Int32)))))) else gd (6 : Int32) 13 (gd (6 : Int32) 13 (gd (9 : Int32) 13 (gd (10 : Int32) 13 (gd (11 : Int32) 13 (gd (8 : Int32) 13 (LX3_collected_74 n (0 : Int32) (pt (pt (pt (pt (pt u2 25 (6 : Int32).toNatClampNeg ((u2.1 25 (6 : Int32).toNatClampNeg) + (1 : Int32))) 25 (9 : Int32).toNatClampNeg ((pt u2 25 (6 : Int32).toNatClampNeg ((u2.1 25 (6 : Int32).toNatClampNeg) + (1 : Int32))).1 14 18)) 25 (10 : Int32).toNatClampNeg ((pt (pt u2 25 (6 : Int32).toNatClampNeg ((u2.1 25 (6 : Int32).toNatClampNeg) + (1 : Int32))) 25 (9 : Int32).toNatClampNeg ((pt u2 25 (6 : Int32).toNatClampNeg ((u2.1 25 (6 : Int32).toNatClampNeg) + (1 : Int32))).1 14 18)).1 14 25)) 25 (11 : Int32).toNatClampNeg ((pt (pt (pt u2 25 (6 : Int32).toNatClampNeg ((u2.1 25 (6 : Int32).toNatClampNeg) + (1 : Int32))) 25 (9 : Int32).toNatClampNeg ((pt u2 25 (6 : Int32).toNatClampNeg ((u2.1 25 (6 : Int32).toNatClampNeg) + (1 : Int32))).1 14 18)) 25 (10 : Int32).toNatClampNeg ((pt (pt u2 25 (6 : Int32).toNatClampNeg ((u2.1 25 (6 : Int32).toNatClampNeg) + (1 : Int32))) 25 (9 : Int32).toNatClampNeg ((pt u2 25 (6 : Int32).toNatClampNeg ((u2.1 25 (6 : Int32).toNatClampNeg) + (1 : Int32))).1 14 18)).1 14 25)).1 14 24)) 25 (8 : Int32).toNatClampNeg (0 : Int32))))))))))
set_option maxHeartbeats 4000000 in
set_option maxRecDepth 100000 in
theorem kX3_collected (l : Launch) (D : va_G) (h : Nat → Nat) (cI cJ cZ : ClassId) (n : Nat) (st : St) (r : Int32) (u : St) (hF : FX3_collected n  st = some (r, u)) : Ci l yX3_collected cX3_collected 4 (some .boolean) 4 86 D (tyL cI cJ cZ) (wM h cI cJ cZ) st [.ref (h 14)] r u := by
  refine body_i (by decide +kernel) (Nat.le_of_ble_eq_true rfl) ?_
  intro p e s m below meth c A ls E hr hlocks hA hP hD hS hl
  have E : Env1 p s m _ c cX3_collected 4 RX3 D (tyL cI cJ cZ) := E
  have hl : lv_has ls 4 [(0, .ref (h 14))] := hl
  have hx := E.1.1
  have hb := E.1.2.1
  have hml := E.1.2.2.1
  unfold FX3_collected at hF
  refine lv_aload_n hx hb dX3_collected_0 rfl (lv_at hl 0 rfl) ?_
  obtain ⟨r1, u2, hc3, hF⟩ := bd_some hF
  refine call_i (rest := []) E hA hP hD hS hl.1 (kX3_rows l D h cI cJ cZ n  st r1 u2 hc3) cw_X3_141 0 rfl rfl rfl rfl rfl (Nat.le_of_ble_eq_true rfl) ⟨Nat.le_of_ble_eq_true rfl, Nat.le_of_ble_eq_true rfl⟩ ⟨Nat.zero_le _, Nat.zero_le _⟩ dX3_collected_1 (fun H locs hP hD hS => ?_)
  refine lv_if_ne (tgt := 20) hx hb dX3_collected_4 (by decide) (fun hc => ?_) (fun hc => ?_)
  · have hF := if_f hc hF
    refine lv_aload_n hx hb dX3_collected_20 rfl (lv_at hl 0 rfl) ?_
    refine g_14_16 E hP dX3_collected_21 ?_
    refine lv_bipush (v := 6) hx hb dX3_collected_24 (by decide) ?_
    refine lv_dup2_11 hx hb dX3_collected_26 rfl rfl ?_
    obtain ⟨hi4, hF⟩ := gd_some hF
    refine la_25 E hP hi4 dX3_collected_27 ?_
    refine lv_iconst (v := 1) hx hb dX3_collected_28 (by decide) ?_
    refine lv_iadd hx hb dX3_collected_29 ?_
    obtain ⟨hi5, hF⟩ := gd_some hF
    refine sa_25 E hP hD hS hi5 dX3_collected_30 (fun H locs hP hD hS => ?_)
    refine lv_aload_n hx hb dX3_collected_31 rfl (lv_at hl 0 rfl) ?_
    refine g_14_16 E hP dX3_collected_32 ?_
    refine lv_bipush (v := 9) hx hb dX3_collected_35 (by decide) ?_
    refine lv_aload_n hx hb dX3_collected_37 rfl (lv_at hl 0 rfl) ?_
    refine g_14_18 E hP dX3_collected_38 ?_
    obtain ⟨hi6, hF⟩ := gd_some hF
    refine sa_25 E hP hD hS hi6 dX3_collected_41 (fun H locs hP hD hS => ?_)
    refine lv_aload_n hx hb dX3_collected_42 rfl (lv_at hl 0 rfl) ?_
    refine g_14_16 E hP dX3_collected_43 ?_
    refine lv_bipush (v := 10) hx hb dX3_collected_46 (by decide) ?_
    refine lv_aload_n hx hb dX3_collected_48 rfl (lv_at hl 0 rfl) ?_
    refine g_14_25 E hP dX3_collected_49 ?_
    obtain ⟨hi7, hF⟩ := gd_some hF
    refine sa_25 E hP hD hS hi7 dX3_collected_52 (fun H locs hP hD hS => ?_)
    refine lv_aload_n hx hb dX3_collected_53 rfl (lv_at hl 0 rfl) ?_
    refine g_14_16 E hP dX3_collected_54 ?_
    refine lv_bipush (v := 11) hx hb dX3_collected_57 (by decide) ?_
    refine lv_aload_n hx hb dX3_collected_59 rfl (lv_at hl 0 rfl) ?_
    refine g_14_24 E hP dX3_collected_60 ?_
    obtain ⟨hi8, hF⟩ := gd_some hF
    refine sa_25 E hP hD hS hi8 dX3_collected_63 (fun H locs hP hD hS => ?_)
    refine lv_aload_n hx hb dX3_collected_64 rfl (lv_at hl 0 rfl) ?_
    refine g_14_16 E hP dX3_collected_65 ?_
    refine lv_bipush (v := 8) hx hb dX3_collected_68 (by decide) ?_
    refine lv_iconst (v := 0) hx hb dX3_collected_70 (by decide) ?_
    obtain ⟨hi9, hF⟩ := gd_some hF
    refine sa_25 E hP hD hS hi9 dX3_collected_71 (fun H locs hP hD hS => ?_)
    refine lv_iconst (v := 0) hx hb dX3_collected_72 (by decide) ?_
    refine lv_istore_n (lv' := [(1, .int (0 : Int32)), (0, .ref (h 14))]) hx hb dX3_collected_73 rfl hl (by decide) rfl (fun ls hl => ?_)
    exact lX3_collected_74 E hr hlocks hA n (0 : Int32) (pt (pt (pt (pt (pt u2 25 (6 : Int32).toNatClampNeg ((u2.1 25 (6 : Int32).toNatClampNeg) + (1 : Int32))) 25 (9 : Int32).toNatClampNeg ((pt u2 25 (6 : Int32).toNatClampNeg ((u2.1 25 (6 : Int32).toNatClampNeg) + (1 : Int32))).1 14 18)) 25 (10 : Int32).toNatClampNeg ((pt (pt u2 25 (6 : Int32).toNatClampNeg ((u2.1 25 (6 : Int32).toNatClampNeg) + (1 : Int32))) 25 (9 : Int32).toNatClampNeg ((pt u2 25 (6 : Int32).toNatClampNeg ((u2.1 25 (6 : Int32).toNatClampNeg) + (1 : Int32))).1 14 18)).1 14 25)) 25 (11 : Int32).toNatClampNeg ((pt (pt (pt u2 25 (6 : Int32).toNatClampNeg ((u2.1 25 (6 : Int32).toNatClampNeg) + (1 : Int32))) 25 (9 : Int32).toNatClampNeg ((pt u2 25 (6 : Int32).toNatClampNeg ((u2.1 25 (6 : Int32).toNatClampNeg) + (1 : Int32))).1 14 18)) 25 (10 : Int32).toNatClampNeg ((pt (pt u2 25 (6 : Int32).toNatClampNeg ((u2.1 25 (6 : Int32).toNatClampNeg) + (1 : Int32))) 25 (9 : Int32).toNatClampNeg ((pt u2 25 (6 : Int32).toNatClampNeg ((u2.1 25 (6 : Int32).toNatClampNeg) + (1 : Int32))).1 14 18)).1 14 25)).1 14 24)) 25 (8 : Int32).toNatClampNeg (0 : Int32)) _ _ _ hP hD hS (lv_sub hl [1, 0] rfl) hF
  · have hF := if_t hc hF
    refine lv_aload_n hx hb dX3_collected_7 rfl (lv_at hl 0 rfl) ?_
    refine g_14_16 E hP dX3_collected_8 ?_
    refine lv_bipush (v := 7) hx hb dX3_collected_11 (by decide) ?_
    refine lv_dup2_11 hx hb dX3_collected_13 rfl rfl ?_
    obtain ⟨hi46, hF⟩ := gd_some hF
    refine la_25 E hP hi46 dX3_collected_14 ?_
    refine lv_iconst (v := 1) hx hb dX3_collected_15 (by decide) ?_
    refine lv_iadd hx hb dX3_collected_16 ?_
    obtain ⟨hi47, hF⟩ := gd_some hF
    refine sa_25 E hP hD hS hi47 dX3_collected_17 (fun H locs hP hD hS => ?_)
    refine lv_iconst (v := 0) hx hb dX3_collected_18 (by decide) ?_
    exact endZ0 E hr hlocks hP hD hS dX3_collected_19 rfl hF
theorem cw_X3_96 : cwt RX3 96 yX3_isRoot cX3_isRoot 1 (some .boolean) 1 := ⟨tb_S (tb_in 788 (by decide +kernel) (by decide +kernel)) (tb_in 789 (by decide +kernel) (by decide +kernel)) (tb_in 50 (by decide +kernel) (by decide +kernel)) (tb_in 790 (by decide +kernel) (by decide +kernel)), by decide +kernel⟩
theorem cw_X3_100 : cwd RX3 100 RX3 yX3_laid cX3_laid 8 (some .int) 1 := ⟨tb_V (tb_in 791 (by decide +kernel) (by decide +kernel)) (tb_in 793 (by decide +kernel) (by decide +kernel)) (tb_in 28 (by decide +kernel) (by decide +kernel)) (tb_in 50 (by decide +kernel) (by decide +kernel)) (tb_in 794 (by decide +kernel) (by decide +kernel)), by decide +kernel⟩
theorem cw_X3_103 : cwd RX3 103 RX3 yX3_collected cX3_collected 4 (some .boolean) 0 := ⟨tb_V (tb_in 800 (by decide +kernel) (by decide +kernel)) (tb_in 802 (by decide +kernel) (by decide +kernel)) (tb_in 30 (by decide +kernel) (by decide +kernel)) (tb_in 50 (by decide +kernel) (by decide +kernel)) (tb_in 803 (by decide +kernel) (by decide +kernel)), by decide +kernel⟩
-- LooseHeapModel.make
def LX3_make_140 : Nat → Int32 → Int32 → Int32 → Int32 → Int32 → Int32 → St → Option (Int32 × St)
  | 0 => fun _ _ _ _ _ _ _ => none
  | n + 1 => fun x1 x2 x3 x4 x5 x6 st => (if (x2 + x3) ≤ x6 then gd x1 32 (some ((1 : Int32), (pt st 23 x1.toNatClampNeg x5))) else (if x2 ≤ x6 then gd (st.1 14 13) 9000 (LX3_make_140 n x1 x2 x3 x4 x5 (x6 + (1 : Int32)) (pt (pt st 22 (st.1 14 13).toNatClampNeg (0 : Int32)) 14 13 (((pt st 22 (st.1 14 13).toNatClampNeg (0 : Int32)).1 14 13) + (1 : Int32)))) else gd (st.1 14 13) 9000 (LX3_make_140 n x1 x2 x3 x4 x5 (x6 + (1 : Int32)) (pt (pt st 22 (st.1 14 13).toNatClampNeg (-1 : Int32)) 14 13 (((pt st 22 (st.1 14 13).toNatClampNeg (-1 : Int32)).1 14 13) + (1 : Int32))))))
set_option maxHeartbeats 4000000 in
set_option maxRecDepth 100000 in
theorem lX3_make_140 {l : Launch} {D : va_G} {h : Nat → Nat} {cI cJ cZ : ClassId} {p : Program} {e : Env} {s : State} {m : MethodId} {args : Array Value} {below : List Frame} {meth : Method} {c : Code} {A : Nat → Prop} {r : Int32} {u : St} (E : Env1 p s m args c cX3_make 7 RX3 D (tyL cI cJ cZ)) (hr : meth.sig.returnType = some .boolean) (hlocks : meth.locks = false) (hA : ∀ q : Nat, s.heap.size ≤ q → A q) : ∀ (n : Nat) (x1 x2 x3 x4 x5 x6 : Int32) (st : St) (H : Heap) (locs : List Loc) (ls : Array Slot), va_P D vwCl (wM h cI cJ cZ st) H → va_D A (wM h cI cJ cZ st) → va_S A s.heap H locs → lv_has ls 7 [(0, .ref (h 14)), (1, .int x1), (2, .int x2), (3, .int x3), (4, .int x4), (5, .int x5), (6, .int x6)] → LX3_make_140 n x1 x2 x3 x4 x5 x6 st = some (r, u) → W p l e (rm 5 109) s m args below meth c H locs 0 0 (MQ below (CQ D (tyL cI cJ cZ) (wM h cI cJ cZ) A r u) args s 0 0 A) (F0 m 140 ls []) := by
  have hx := E.1.1
  have hb := E.1.2.1
  have hml := E.1.2.2.1
  intro n
  induction n with
  | zero => intro x1 x2 x3 x4 x5 x6 st H locs ls hP hD hS hl hF; simp only [LX3_make_140] at hF; cases hF
  | succ n ih =>
    intro x1 x2 x3 x4 x5 x6 st H locs ls hP hD hS hl hF
    simp only [LX3_make_140] at hF
    refine lv_iload hx hb dX3_make_140 (lv_at hl 6 rfl) ?_
    refine lv_iload_n hx hb dX3_make_142 rfl (lv_at hl 2 rfl) ?_
    refine lv_iload_n hx hb dX3_make_143 rfl (lv_at hl 3 rfl) ?_
    refine lv_iadd hx hb dX3_make_144 ?_
    refine lv_icmp_ge (tgt := 184) hx hb dX3_make_145 (by decide) (fun hc => ?_) (fun hc => ?_)
    · have hF := if_t hc hF
      refine lv_aload_n hx hb dX3_make_184 rfl (lv_at hl 0 rfl) ?_
      refine g_14_14 E hP dX3_make_185 ?_
      refine lv_iload_n hx hb dX3_make_188 rfl (lv_at hl 1 rfl) ?_
      refine lv_iload hx hb dX3_make_189 (lv_at hl 5 rfl) ?_
      obtain ⟨hi11, hF⟩ := gd_some hF
      refine sa_23 E hP hD hS hi11 dX3_make_191 (fun H locs hP hD hS => ?_)
      refine lv_iconst (v := 1) hx hb dX3_make_192 (by decide) ?_
      exact endZ0 E hr hlocks hP hD hS dX3_make_193 rfl hF
    · have hF := if_f hc hF
      refine lv_aload_n hx hb dX3_make_148 rfl (lv_at hl 0 rfl) ?_
      refine g_14_12 E hP dX3_make_149 ?_
      refine lv_aload_n hx hb dX3_make_152 rfl (lv_at hl 0 rfl) ?_
      refine g_14_13 E hP dX3_make_153 ?_
      refine lv_iload hx hb dX3_make_156 (lv_at hl 6 rfl) ?_
      refine lv_iload_n hx hb dX3_make_158 rfl (lv_at hl 2 rfl) ?_
      refine lv_icmp_ge (tgt := 166) hx hb dX3_make_159 (by decide) (fun hc => ?_) (fun hc => ?_)
      · have hF := if_t hc hF
        refine lv_iconst (v := 0) hx hb dX3_make_166 (by decide) ?_
        obtain ⟨hi12, hF⟩ := gd_some hF
        refine sa_22 E hP hD hS hi12 dX3_make_167 (fun H locs hP hD hS => ?_)
        refine lv_aload_n hx hb dX3_make_168 rfl (lv_at hl 0 rfl) ?_
        refine lv_dup hx hb dX3_make_169 rfl ?_
        refine g_14_13 E hP dX3_make_170 ?_
        refine lv_iconst (v := 1) hx hb dX3_make_173 (by decide) ?_
        refine lv_iadd hx hb dX3_make_174 ?_
        refine s_14_13 E hP hD hS dX3_make_175 (fun H locs hP hD hS => ?_)
        refine lv_iinc (v := (x6 + (1 : Int32))) (lv' := [(6, .int (x6 + (1 : Int32))), (0, .ref (h 14)), (1, .int x1), (2, .int x2), (3, .int x3), (4, .int x4), (5, .int x5)]) hx hb dX3_make_178 hl (k := 6) rfl rfl (by decide) rfl (fun ls hl => ?_)
        refine lv_goto (tgt := 140) hx hb dX3_make_181 (by decide) ?_
        exact ih _ _ _ _ _ _ _ _ _ _ hP hD hS (lv_sub hl [1, 2, 3, 4, 5, 6, 0] rfl) hF
      · have hF := if_f hc hF
        refine lv_iconst (v := (-1)) hx hb dX3_make_162 (by decide) ?_
        refine lv_goto (tgt := 167) hx hb dX3_make_163 (by decide) ?_
        obtain ⟨hi13, hF⟩ := gd_some hF
        refine sa_22 E hP hD hS hi13 dX3_make_167 (fun H locs hP hD hS => ?_)
        refine lv_aload_n hx hb dX3_make_168 rfl (lv_at hl 0 rfl) ?_
        refine lv_dup hx hb dX3_make_169 rfl ?_
        refine g_14_13 E hP dX3_make_170 ?_
        refine lv_iconst (v := 1) hx hb dX3_make_173 (by decide) ?_
        refine lv_iadd hx hb dX3_make_174 ?_
        refine s_14_13 E hP hD hS dX3_make_175 (fun H locs hP hD hS => ?_)
        refine lv_iinc (v := (x6 + (1 : Int32))) (lv' := [(6, .int (x6 + (1 : Int32))), (0, .ref (h 14)), (1, .int x1), (2, .int x2), (3, .int x3), (4, .int x4), (5, .int x5)]) hx hb dX3_make_178 hl (k := 6) rfl rfl (by decide) rfl (fun ls hl => ?_)
        refine lv_goto (tgt := 140) hx hb dX3_make_181 (by decide) ?_
        exact ih _ _ _ _ _ _ _ _ _ _ hP hD hS (lv_sub hl [1, 2, 3, 4, 5, 6, 0] rfl) hF
def JX3_make_77 (n : Nat) (x1 x2 x3 x4 : Int32) (st : St) : Option (Int32 × St) := (if x4 = (-1 : Int32) then some ((0 : Int32), st) else gd (st.1 14 7) 4200 (gd (st.1 14 7) 4200 (gd (st.1 14 7) 4200 (gd (st.1 14 7) 4200 (LX3_make_140 n x1 x2 x3 x4 (st.1 14 7) (0 : Int32) (pt (pt (pt (pt (pt st 14 7 ((st.1 14 7) + (1 : Int32))) 18 (st.1 14 7).toNatClampNeg x4) 19 (st.1 14 7).toNatClampNeg x2) 20 (st.1 14 7).toNatClampNeg x3) 21 (st.1 14 7).toNatClampNeg ((pt (pt (pt (pt st 14 7 ((st.1 14 7) + (1 : Int32))) 18 (st.1 14 7).toNatClampNeg x4) 19 (st.1 14 7).toNatClampNeg x2) 20 (st.1 14 7).toNatClampNeg x3).1 14 13)))))))
set_option maxHeartbeats 4000000 in
set_option maxRecDepth 100000 in
theorem jX3_make_77 {l : Launch} {D : va_G} {h : Nat → Nat} {cI cJ cZ : ClassId} {p : Program} {e : Env} {s : State} {m : MethodId} {args : Array Value} {below : List Frame} {meth : Method} {c : Code} {A : Nat → Prop} {r : Int32} {u : St} (E : Env1 p s m args c cX3_make 7 RX3 D (tyL cI cJ cZ)) (hr : meth.sig.returnType = some .boolean) (hlocks : meth.locks = false) (hA : ∀ q : Nat, s.heap.size ≤ q → A q) (n : Nat) (x1 x2 x3 x4 : Int32) (st : St) (H : Heap) (locs : List Loc) (ls : Array Slot) (hP : va_P D vwCl (wM h cI cJ cZ st) H) (hD : va_D A (wM h cI cJ cZ st)) (hS : va_S A s.heap H locs) (hl : lv_has ls 7 [(0, .ref (h 14)), (1, .int x1), (2, .int x2), (3, .int x3), (4, .int x4)]) (hF : JX3_make_77 n x1 x2 x3 x4 st = some (r, u)) : W p l e (rm 5 109) s m args below meth c H locs 0 0 (MQ below (CQ D (tyL cI cJ cZ) (wM h cI cJ cZ) A r u) args s 0 0 A) (F0 m 77 ls []) := by
  have hx := E.1.1
  have hb := E.1.2.1
  have hml := E.1.2.2.1
  unfold JX3_make_77 at hF
  refine lv_iload hx hb dX3_make_77 (lv_at hl 4 rfl) ?_
  refine lv_iconst (v := (-1)) hx hb dX3_make_79 (by decide) ?_
  refine lv_icmp_ne (tgt := 85) hx hb dX3_make_80 (by decide) (fun hc => ?_) (fun hc => ?_)
  · have hF := if_f hc hF
    refine lv_aload_n hx hb dX3_make_85 rfl (lv_at hl 0 rfl) ?_
    refine g_14_7 E hP dX3_make_86 ?_
    refine lv_istore (lv' := [(5, .int (st.1 14 7)), (0, .ref (h 14)), (1, .int x1), (2, .int x2), (3, .int x3), (4, .int x4)]) hx hb dX3_make_89 hl (by decide) rfl (fun ls hl => ?_)
    refine lv_aload_n hx hb dX3_make_91 rfl (lv_at hl 1 rfl) ?_
    refine lv_dup hx hb dX3_make_92 rfl ?_
    refine g_14_7 E hP dX3_make_93 ?_
    refine lv_iconst (v := 1) hx hb dX3_make_96 (by decide) ?_
    refine lv_iadd hx hb dX3_make_97 ?_
    refine s_14_7 E hP hD hS dX3_make_98 (fun H locs hP hD hS => ?_)
    refine lv_aload_n hx hb dX3_make_101 rfl (lv_at hl 1 rfl) ?_
    refine g_14_8 E hP dX3_make_102 ?_
    refine lv_iload hx hb dX3_make_105 (lv_at hl 0 rfl) ?_
    refine lv_iload hx hb dX3_make_107 (lv_at hl 5 rfl) ?_
    obtain ⟨hi7, hF⟩ := gd_some hF
    refine sa_18 E hP hD hS hi7 dX3_make_109 (fun H locs hP hD hS => ?_)
    refine lv_aload_n hx hb dX3_make_110 rfl (lv_at hl 1 rfl) ?_
    refine g_14_9 E hP dX3_make_111 ?_
    refine lv_iload hx hb dX3_make_114 (lv_at hl 0 rfl) ?_
    refine lv_iload_n hx hb dX3_make_116 rfl (lv_at hl 3 rfl) ?_
    obtain ⟨hi8, hF⟩ := gd_some hF
    refine sa_19 E hP hD hS hi8 dX3_make_117 (fun H locs hP hD hS => ?_)
    refine lv_aload_n hx hb dX3_make_118 rfl (lv_at hl 1 rfl) ?_
    refine g_14_10 E hP dX3_make_119 ?_
    refine lv_iload hx hb dX3_make_122 (lv_at hl 0 rfl) ?_
    refine lv_iload_n hx hb dX3_make_124 rfl (lv_at hl 4 rfl) ?_
    obtain ⟨hi9, hF⟩ := gd_some hF
    refine sa_20 E hP hD hS hi9 dX3_make_125 (fun H locs hP hD hS => ?_)
    refine lv_aload_n hx hb dX3_make_126 rfl (lv_at hl 1 rfl) ?_
    refine g_14_11 E hP dX3_make_127 ?_
    refine lv_iload hx hb dX3_make_130 (lv_at hl 0 rfl) ?_
    refine lv_aload_n hx hb dX3_make_132 rfl (lv_at hl 1 rfl) ?_
    refine g_14_13 E hP dX3_make_133 ?_
    obtain ⟨hi10, hF⟩ := gd_some hF
    refine sa_21 E hP hD hS hi10 dX3_make_136 (fun H locs hP hD hS => ?_)
    refine lv_iconst (v := 0) hx hb dX3_make_137 (by decide) ?_
    refine lv_istore (lv' := [(6, .int (0 : Int32)), (5, .int (st.1 14 7)), (0, .ref (h 14)), (1, .int x1), (2, .int x2), (3, .int x3), (4, .int x4)]) hx hb dX3_make_138 hl (by decide) rfl (fun ls hl => ?_)
    exact lX3_make_140 E hr hlocks hA n x1 x2 x3 x4 (st.1 14 7) (0 : Int32) (pt (pt (pt (pt (pt st 14 7 ((st.1 14 7) + (1 : Int32))) 18 (st.1 14 7).toNatClampNeg x4) 19 (st.1 14 7).toNatClampNeg x2) 20 (st.1 14 7).toNatClampNeg x3) 21 (st.1 14 7).toNatClampNeg ((pt (pt (pt (pt st 14 7 ((st.1 14 7) + (1 : Int32))) 18 (st.1 14 7).toNatClampNeg x4) 19 (st.1 14 7).toNatClampNeg x2) 20 (st.1 14 7).toNatClampNeg x3).1 14 13)) _ _ _ hP hD hS (lv_sub hl [2, 3, 4, 5, 6, 1, 0] rfl) hF
  · have hF := if_t hc hF
    refine lv_iconst (v := 0) hx hb dX3_make_83 (by decide) ?_
    exact endZ0 E hr hlocks hP hD hS dX3_make_84 rfl hF
def FX3_make (n : Nat) (x1 x2 x3 : Int32) (st : St) : Option (Int32 × St) := bd (FX3_isRoot n x1 (pt st 14 0 (0 : Int32))) (fun r1 u2 => (if r1 = 0 then some ((0 : Int32), (pt u2 14 0 (1 : Int32))) else (if x2 < 0 then some ((0 : Int32), (pt u2 14 0 (1 : Int32))) else (if (31 : Int32) < x2 then some ((0 : Int32), (pt u2 14 0 (1 : Int32))) else (if x3 < 0 then some ((0 : Int32), (pt u2 14 0 (1 : Int32))) else (if x3 ≤ (200 : Int32) then bd (FX3_laid n (((1 : Int32) + x2) + x3) u2) (fun r4 u5 => (if r4 = (-1 : Int32) then bd (FX3_collected n  u5) (fun r14 u15 => (if r14 = 0 then some ((0 : Int32), u15) else bd (FX3_laid n (((1 : Int32) + x2) + x3) u15) (fun r17 u18 => JX3_make_77 n x1 x2 x3 r17 u18))) else JX3_make_77 n x1 x2 x3 r4 u5)) else some ((0 : Int32), (pt u2 14 0 (1 : Int32)))))))))
set_option maxHeartbeats 4000000 in
set_option maxRecDepth 100000 in
theorem kX3_make (l : Launch) (D : va_G) (h : Nat → Nat) (cI cJ cZ : ClassId) (n : Nat) (x1 x2 x3 : Int32) (st : St) (r : Int32) (u : St) (hF : FX3_make n x1 x2 x3 st = some (r, u)) : Ci l yX3_make cX3_make 7 (some .boolean) 5 109 D (tyL cI cJ cZ) (wM h cI cJ cZ) st [.ref (h 14), .int x1, .int x2, .int x3] r u := by
  refine body_i (by decide +kernel) (Nat.le_of_ble_eq_true rfl) ?_
  intro p e s m below meth c A ls E hr hlocks hA hP hD hS hl
  have E : Env1 p s m _ c cX3_make 7 RX3 D (tyL cI cJ cZ) := E
  have hl : lv_has ls 7 [(0, .ref (h 14)), (1, .int x1), (2, .int x2), (3, .int x3)] := hl
  have hx := E.1.1
  have hb := E.1.2.1
  have hml := E.1.2.2.1
  unfold FX3_make at hF
  refine lv_aload_n hx hb dX3_make_0 rfl (lv_at hl 0 rfl) ?_
  refine lv_iconst (v := 0) hx hb dX3_make_1 (by decide) ?_
  refine s_14_0 E hP hD hS dX3_make_2 (fun H locs hP hD hS => ?_)
  refine lv_iload_n hx hb dX3_make_5 rfl (lv_at hl 1 rfl) ?_
  obtain ⟨r1, u2, hc3, hF⟩ := bd_some hF
  refine calls_i (rest := []) E hA hP hD hS hl.1 (kX3_isRoot l D h cI cJ cZ n x1 (pt st 14 0 (0 : Int32)) r1 u2 hc3) cw_X3_96 rfl rfl (Nat.le_of_ble_eq_true rfl) ⟨Nat.le_of_ble_eq_true rfl, Nat.le_of_ble_eq_true rfl⟩ ⟨Nat.zero_le _, Nat.zero_le _⟩ dX3_make_6 (fun H locs hP hD hS => ?_)
  refine lv_if_eq (tgt := 33) hx hb dX3_make_9 (by decide) (fun hc => ?_) (fun hc => ?_)
  · have hF := if_t hc hF
    refine lv_aload_n hx hb dX3_make_33 rfl (lv_at hl 0 rfl) ?_
    refine lv_iconst (v := 1) hx hb dX3_make_34 (by decide) ?_
    refine s_14_0 E hP hD hS dX3_make_35 (fun H locs hP hD hS => ?_)
    refine lv_iconst (v := 0) hx hb dX3_make_38 (by decide) ?_
    exact endZ0 E hr hlocks hP hD hS dX3_make_39 rfl hF
  · have hF := if_f hc hF
    refine lv_iload_n hx hb dX3_make_12 rfl (lv_at hl 2 rfl) ?_
    refine lv_if_lt (tgt := 33) hx hb dX3_make_13 (by decide) (fun hc => ?_) (fun hc => ?_)
    · have hF := if_t hc hF
      refine lv_aload_n hx hb dX3_make_33 rfl (lv_at hl 0 rfl) ?_
      refine lv_iconst (v := 1) hx hb dX3_make_34 (by decide) ?_
      refine s_14_0 E hP hD hS dX3_make_35 (fun H locs hP hD hS => ?_)
      refine lv_iconst (v := 0) hx hb dX3_make_38 (by decide) ?_
      exact endZ0 E hr hlocks hP hD hS dX3_make_39 rfl hF
    · have hF := if_f hc hF
      refine lv_iload_n hx hb dX3_make_16 rfl (lv_at hl 2 rfl) ?_
      refine lv_bipush (v := 31) hx hb dX3_make_17 (by decide) ?_
      refine lv_icmp_gt (tgt := 33) hx hb dX3_make_19 (by decide) (fun hc => ?_) (fun hc => ?_)
      · have hF := if_t hc hF
        refine lv_aload_n hx hb dX3_make_33 rfl (lv_at hl 0 rfl) ?_
        refine lv_iconst (v := 1) hx hb dX3_make_34 (by decide) ?_
        refine s_14_0 E hP hD hS dX3_make_35 (fun H locs hP hD hS => ?_)
        refine lv_iconst (v := 0) hx hb dX3_make_38 (by decide) ?_
        exact endZ0 E hr hlocks hP hD hS dX3_make_39 rfl hF
      · have hF := if_f hc hF
        refine lv_iload_n hx hb dX3_make_22 rfl (lv_at hl 3 rfl) ?_
        refine lv_if_lt (tgt := 33) hx hb dX3_make_23 (by decide) (fun hc => ?_) (fun hc => ?_)
        · have hF := if_t hc hF
          refine lv_aload_n hx hb dX3_make_33 rfl (lv_at hl 0 rfl) ?_
          refine lv_iconst (v := 1) hx hb dX3_make_34 (by decide) ?_
          refine s_14_0 E hP hD hS dX3_make_35 (fun H locs hP hD hS => ?_)
          refine lv_iconst (v := 0) hx hb dX3_make_38 (by decide) ?_
          exact endZ0 E hr hlocks hP hD hS dX3_make_39 rfl hF
        · have hF := if_f hc hF
          refine lv_iload_n hx hb dX3_make_26 rfl (lv_at hl 3 rfl) ?_
          refine lv_sipush (v := 200) hx hb dX3_make_27 (by decide) ?_
          refine lv_icmp_le (tgt := 40) hx hb dX3_make_30 (by decide) (fun hc => ?_) (fun hc => ?_)
          · have hF := if_t hc hF
            refine lv_aload_n hx hb dX3_make_40 rfl (lv_at hl 0 rfl) ?_
            refine lv_iconst (v := 1) hx hb dX3_make_41 (by decide) ?_
            refine lv_iload_n hx hb dX3_make_42 rfl (lv_at hl 2 rfl) ?_
            refine lv_iadd hx hb dX3_make_43 ?_
            refine lv_iload_n hx hb dX3_make_44 rfl (lv_at hl 3 rfl) ?_
            refine lv_iadd hx hb dX3_make_45 ?_
            obtain ⟨r4, u5, hc6, hF⟩ := bd_some hF
            refine call_i (rest := []) E hA hP hD hS hl.1 (kX3_laid l D h cI cJ cZ n (((1 : Int32) + x2) + x3) u2 r4 u5 hc6) cw_X3_100 0 rfl rfl rfl rfl rfl (Nat.le_of_ble_eq_true rfl) ⟨Nat.le_of_ble_eq_true rfl, Nat.le_of_ble_eq_true rfl⟩ ⟨Nat.zero_le _, Nat.zero_le _⟩ dX3_make_46 (fun H locs hP hD hS => ?_)
            refine lv_istore (lv' := [(4, .int r4), (0, .ref (h 14)), (1, .int x1), (2, .int x2), (3, .int x3)]) hx hb dX3_make_49 hl (by decide) rfl (fun ls hl => ?_)
            refine lv_iload hx hb dX3_make_51 (lv_at hl 0 rfl) ?_
            refine lv_iconst (v := (-1)) hx hb dX3_make_53 (by decide) ?_
            refine lv_icmp_ne (tgt := 77) hx hb dX3_make_54 (by decide) (fun hc => ?_) (fun hc => ?_)
            · have hF := if_f hc hF
              exact jX3_make_77 E hr hlocks hA n x1 x2 x3 r4 u5 _ _ _ hP hD hS (lv_sub hl [1, 2, 3, 4, 0] rfl) hF
            · have hF := if_t hc hF
              refine lv_aload_n hx hb dX3_make_57 rfl (lv_at hl 1 rfl) ?_
              obtain ⟨r14, u15, hc16, hF⟩ := bd_some hF
              refine call_i (rest := []) E hA hP hD hS hl.1 (kX3_collected l D h cI cJ cZ n  u5 r14 u15 hc16) cw_X3_103 0 rfl rfl rfl rfl rfl (Nat.le_of_ble_eq_true rfl) ⟨Nat.le_of_ble_eq_true rfl, Nat.le_of_ble_eq_true rfl⟩ ⟨Nat.zero_le _, Nat.zero_le _⟩ dX3_make_58 (fun H locs hP hD hS => ?_)
              refine lv_if_ne (tgt := 66) hx hb dX3_make_61 (by decide) (fun hc => ?_) (fun hc => ?_)
              · have hF := if_f hc hF
                refine lv_aload_n hx hb dX3_make_66 rfl (lv_at hl 1 rfl) ?_
                refine lv_iconst (v := 1) hx hb dX3_make_67 (by decide) ?_
                refine lv_iload_n hx hb dX3_make_68 rfl (lv_at hl 3 rfl) ?_
                refine lv_iadd hx hb dX3_make_69 ?_
                refine lv_iload_n hx hb dX3_make_70 rfl (lv_at hl 4 rfl) ?_
                refine lv_iadd hx hb dX3_make_71 ?_
                obtain ⟨r17, u18, hc19, hF⟩ := bd_some hF
                refine call_i (rest := []) E hA hP hD hS hl.1 (kX3_laid l D h cI cJ cZ n (((1 : Int32) + x2) + x3) u15 r17 u18 hc19) cw_X3_100 0 rfl rfl rfl rfl rfl (Nat.le_of_ble_eq_true rfl) ⟨Nat.le_of_ble_eq_true rfl, Nat.le_of_ble_eq_true rfl⟩ ⟨Nat.zero_le _, Nat.zero_le _⟩ dX3_make_72 (fun H locs hP hD hS => ?_)
                refine lv_istore (lv' := [(4, .int r17), (0, .ref (h 14)), (1, .int x1), (2, .int x2), (3, .int x3)]) hx hb dX3_make_75 hl (by decide) rfl (fun ls hl => ?_)
                exact jX3_make_77 E hr hlocks hA n x1 x2 x3 r17 u18 _ _ _ hP hD hS (lv_sub hl [1, 2, 3, 4, 0] rfl) hF
              · have hF := if_t hc hF
                refine lv_iconst (v := 0) hx hb dX3_make_64 (by decide) ?_
                exact endZ0 E hr hlocks hP hD hS dX3_make_65 rfl hF
          · have hF := if_f hc hF
            refine lv_aload_n hx hb dX3_make_33 rfl (lv_at hl 0 rfl) ?_
            refine lv_iconst (v := 1) hx hb dX3_make_34 (by decide) ?_
            refine s_14_0 E hP hD hS dX3_make_35 (fun H locs hP hD hS => ?_)
            refine lv_iconst (v := 0) hx hb dX3_make_38 (by decide) ?_
            exact endZ0 E hr hlocks hP hD hS dX3_make_39 rfl hF
-- LooseHeapModel.collect
def FX3_collect (n : Nat) (st : St) : Option (Int32 × St) := bd (FX3_collected n  (pt st 14 0 (0 : Int32))) (fun r1 u2 => (if r1 = 0 then some ((-1 : Int32), u2) else bd (FX3_used n  u2) (fun r4 u5 => some (r4, u5))))
set_option maxHeartbeats 4000000 in
set_option maxRecDepth 100000 in
theorem kX3_collect (l : Launch) (D : va_G) (h : Nat → Nat) (cI cJ cZ : ClassId) (n : Nat) (st : St) (r : Int32) (u : St) (hF : FX3_collect n  st = some (r, u)) : Ci l yX3_collect cX3_collect 1 (some .int) 5 109 D (tyL cI cJ cZ) (wM h cI cJ cZ) st [.ref (h 14)] r u := by
  refine body_i (by decide +kernel) (Nat.le_of_ble_eq_true rfl) ?_
  intro p e s m below meth c A ls E hr hlocks hA hP hD hS hl
  have E : Env1 p s m _ c cX3_collect 1 RX3 D (tyL cI cJ cZ) := E
  have hl : lv_has ls 1 [(0, .ref (h 14))] := hl
  have hx := E.1.1
  have hb := E.1.2.1
  have hml := E.1.2.2.1
  unfold FX3_collect at hF
  refine lv_aload_n hx hb dX3_collect_0 rfl (lv_at hl 0 rfl) ?_
  refine lv_iconst (v := 0) hx hb dX3_collect_1 (by decide) ?_
  refine s_14_0 E hP hD hS dX3_collect_2 (fun H locs hP hD hS => ?_)
  refine lv_aload_n hx hb dX3_collect_5 rfl (lv_at hl 0 rfl) ?_
  obtain ⟨r1, u2, hc3, hF⟩ := bd_some hF
  refine call_i (rest := []) E hA hP hD hS hl.1 (kX3_collected l D h cI cJ cZ n  (pt st 14 0 (0 : Int32)) r1 u2 hc3) cw_X3_103 0 rfl rfl rfl rfl rfl (Nat.le_of_ble_eq_true rfl) ⟨Nat.le_of_ble_eq_true rfl, Nat.le_of_ble_eq_true rfl⟩ ⟨Nat.zero_le _, Nat.zero_le _⟩ dX3_collect_6 (fun H locs hP hD hS => ?_)
  refine lv_if_eq (tgt := 19) hx hb dX3_collect_9 (by decide) (fun hc => ?_) (fun hc => ?_)
  · have hF := if_t hc hF
    refine lv_iconst (v := (-1)) hx hb dX3_collect_19 (by decide) ?_
    exact endI E hr hlocks hP hD hS dX3_collect_20 hF
  · have hF := if_f hc hF
    refine lv_aload_n hx hb dX3_collect_12 rfl (lv_at hl 0 rfl) ?_
    obtain ⟨r4, u5, hc6, hF⟩ := bd_some hF
    refine call_i (rest := []) E hA hP hD hS hl.1 (kX3_used l D h cI cJ cZ n  u2 r4 u5 hc6) cw_X3_86 0 rfl rfl rfl rfl rfl (Nat.le_of_ble_eq_true rfl) ⟨Nat.le_of_ble_eq_true rfl, Nat.le_of_ble_eq_true rfl⟩ ⟨Nat.zero_le _, Nat.zero_le _⟩ dX3_collect_13 (fun H locs hP hD hS => ?_)
    refine lv_goto (tgt := 20) hx hb dX3_collect_16 (by decide) ?_
    exact endI E hr hlocks hP hD hS dX3_collect_20 hF
-- LooseHeapModel.addressOf
def FX3_addressOf (n : Nat) (x1 : Int32) (st : St) : Option (Int32 × St) := be ((if x1 = (-1 : Int32) then some (-1 : Int32) else gd x1 4200 (some (st.1 18 x1.toNatClampNeg)))) (fun v2 => some (v2, st))
set_option maxHeartbeats 4000000 in
set_option maxRecDepth 100000 in
theorem kX3_addressOf (l : Launch) (D : va_G) (h : Nat → Nat) (cI cJ cZ : ClassId) (n : Nat) (x1 : Int32) (st : St) (r : Int32) (u : St) (hF : FX3_addressOf n x1 st = some (r, u)) : Ci l yX3_addressOf cX3_addressOf 2 (some .int) 0 0 D (tyL cI cJ cZ) (wM h cI cJ cZ) st [.ref (h 14), .int x1] r u := by
  refine body_i (by decide +kernel) (Nat.le_of_ble_eq_true rfl) ?_
  intro p e s m below meth c A ls E hr hlocks hA hP hD hS hl
  have E : Env1 p s m _ c cX3_addressOf 2 RX3 D (tyL cI cJ cZ) := E
  have hl : lv_has ls 2 [(0, .ref (h 14)), (1, .int x1)] := hl
  have hx := E.1.1
  have hb := E.1.2.1
  have hml := E.1.2.2.1
  unfold FX3_addressOf at hF
  refine lv_iload_n hx hb dX3_addressOf_0 rfl (lv_at hl 1 rfl) ?_
  refine lv_iconst (v := (-1)) hx hb dX3_addressOf_1 (by decide) ?_
  obtain ⟨v2, hv, hF⟩ := be_some hF
  refine dia (jpc := 15) (v1 := v2) (rest := []) (ls := ls) ?_ (fun kont => ?_)
  · skip
    exact endI E hr hlocks hP hD hS dX3_addressOf_15 hF
  · skip
    refine lv_icmp_ne (tgt := 9) hx hb dX3_addressOf_2 (by decide) (fun hc => ?_) (fun hc => ?_)
    · have hv := if_f hc hv
      refine lv_aload_n hx hb dX3_addressOf_9 rfl (lv_at hl 0 rfl) ?_
      refine g_14_8 E hP dX3_addressOf_10 ?_
      refine lv_iload_n hx hb dX3_addressOf_13 rfl (lv_at hl 1 rfl) ?_
      obtain ⟨hi3, hv⟩ := gd_some hv
      refine la_18 E hP hi3 dX3_addressOf_14 ?_
      exact topE (Option.some.inj hv) kont
    · have hv := if_t hc hv
      refine lv_iconst (v := (-1)) hx hb dX3_addressOf_5 (by decide) ?_
      refine lv_goto (tgt := 15) hx hb dX3_addressOf_6 (by decide) ?_
      exact topE (Option.some.inj hv) kont
-- LooseHeapModel.copy
def FX3_copy (n : Nat) (x1 x2 : Int32) (st : St) : Option (Int32 × St) := bd (FX3_isRoot n x1 (pt st 14 0 (0 : Int32))) (fun r1 u2 => (if r1 = 0 then some ((0 : Int32), (pt u2 14 0 (1 : Int32))) else bd (FX3_isRoot n x2 u2) (fun r4 u5 => (if r4 = 0 then some ((0 : Int32), (pt u5 14 0 (1 : Int32))) else gd x1 32 (gd x2 32 (some ((0 : Int32), (pt u5 23 x2.toNatClampNeg (u5.1 23 x1.toNatClampNeg)))))))))
set_option maxHeartbeats 4000000 in
set_option maxRecDepth 100000 in
theorem kX3_copy (l : Launch) (D : va_G) (h : Nat → Nat) (cI cJ cZ : ClassId) (n : Nat) (x1 x2 : Int32) (st : St) (r : Int32) (u : St) (hF : FX3_copy n x1 x2 st = some (r, u)) : Cv l yX3_copy cX3_copy 3 1 20 D (tyL cI cJ cZ) (wM h cI cJ cZ) st [.ref (h 14), .int x1, .int x2] u := by
  refine body_v (by decide +kernel) (Nat.le_of_ble_eq_true rfl) ?_
  intro p e s m below meth c A ls E hr hlocks hA hP hD hS hl
  have E : Env1 p s m _ c cX3_copy 3 RX3 D (tyL cI cJ cZ) := E
  have hl : lv_has ls 3 [(0, .ref (h 14)), (1, .int x1), (2, .int x2)] := hl
  have hx := E.1.1
  have hb := E.1.2.1
  have hml := E.1.2.2.1
  unfold FX3_copy at hF
  refine lv_aload_n hx hb dX3_copy_0 rfl (lv_at hl 0 rfl) ?_
  refine lv_iconst (v := 0) hx hb dX3_copy_1 (by decide) ?_
  refine s_14_0 E hP hD hS dX3_copy_2 (fun H locs hP hD hS => ?_)
  refine lv_iload_n hx hb dX3_copy_5 rfl (lv_at hl 1 rfl) ?_
  obtain ⟨r1, u2, hc3, hF⟩ := bd_some hF
  refine calls_i (rest := []) E hA hP hD hS hl.1 (kX3_isRoot l D h cI cJ cZ n x1 (pt st 14 0 (0 : Int32)) r1 u2 hc3) cw_X3_96 rfl rfl (Nat.le_of_ble_eq_true rfl) ⟨Nat.le_of_ble_eq_true rfl, Nat.le_of_ble_eq_true rfl⟩ ⟨Nat.zero_le _, Nat.zero_le _⟩ dX3_copy_6 (fun H locs hP hD hS => ?_)
  refine lv_if_eq (tgt := 19) hx hb dX3_copy_9 (by decide) (fun hc => ?_) (fun hc => ?_)
  · have hF := if_t hc hF
    refine lv_aload_n hx hb dX3_copy_19 rfl (lv_at hl 0 rfl) ?_
    refine lv_iconst (v := 1) hx hb dX3_copy_20 (by decide) ?_
    refine s_14_0 E hP hD hS dX3_copy_21 (fun H locs hP hD hS => ?_)
    exact endV E hr hlocks hP hD hS dX3_copy_24 hF
  · have hF := if_f hc hF
    refine lv_iload_n hx hb dX3_copy_12 rfl (lv_at hl 2 rfl) ?_
    obtain ⟨r4, u5, hc6, hF⟩ := bd_some hF
    refine calls_i (rest := []) E hA hP hD hS hl.1 (kX3_isRoot l D h cI cJ cZ n x2 u2 r4 u5 hc6) cw_X3_96 rfl rfl (Nat.le_of_ble_eq_true rfl) ⟨Nat.le_of_ble_eq_true rfl, Nat.le_of_ble_eq_true rfl⟩ ⟨Nat.zero_le _, Nat.zero_le _⟩ dX3_copy_13 (fun H locs hP hD hS => ?_)
    refine lv_if_ne (tgt := 25) hx hb dX3_copy_16 (by decide) (fun hc => ?_) (fun hc => ?_)
    · have hF := if_f hc hF
      refine lv_aload_n hx hb dX3_copy_25 rfl (lv_at hl 0 rfl) ?_
      refine g_14_14 E hP dX3_copy_26 ?_
      refine lv_iload_n hx hb dX3_copy_29 rfl (lv_at hl 2 rfl) ?_
      refine lv_aload_n hx hb dX3_copy_30 rfl (lv_at hl 0 rfl) ?_
      refine g_14_14 E hP dX3_copy_31 ?_
      refine lv_iload_n hx hb dX3_copy_34 rfl (lv_at hl 1 rfl) ?_
      obtain ⟨hi7, hF⟩ := gd_some hF
      refine la_23 E hP hi7 dX3_copy_35 ?_
      obtain ⟨hi8, hF⟩ := gd_some hF
      refine sa_23 E hP hD hS hi8 dX3_copy_36 (fun H locs hP hD hS => ?_)
      exact endV E hr hlocks hP hD hS dX3_copy_37 hF
    · have hF := if_t hc hF
      refine lv_aload_n hx hb dX3_copy_19 rfl (lv_at hl 0 rfl) ?_
      refine lv_iconst (v := 1) hx hb dX3_copy_20 (by decide) ?_
      refine s_14_0 E hP hD hS dX3_copy_21 (fun H locs hP hD hS => ?_)
      exact endV E hr hlocks hP hD hS dX3_copy_24 hF
-- LooseHeapModel.drop
def FX3_drop (n : Nat) (x1 : Int32) (st : St) : Option (Int32 × St) := bd (FX3_isRoot n x1 (pt st 14 0 (0 : Int32))) (fun r1 u2 => (if r1 = 0 then some ((0 : Int32), (pt u2 14 0 (1 : Int32))) else gd x1 32 (some ((0 : Int32), (pt u2 23 x1.toNatClampNeg (-1 : Int32))))))
set_option maxHeartbeats 4000000 in
set_option maxRecDepth 100000 in
theorem kX3_drop (l : Launch) (D : va_G) (h : Nat → Nat) (cI cJ cZ : ClassId) (n : Nat) (x1 : Int32) (st : St) (r : Int32) (u : St) (hF : FX3_drop n x1 st = some (r, u)) : Cv l yX3_drop cX3_drop 2 1 20 D (tyL cI cJ cZ) (wM h cI cJ cZ) st [.ref (h 14), .int x1] u := by
  refine body_v (by decide +kernel) (Nat.le_of_ble_eq_true rfl) ?_
  intro p e s m below meth c A ls E hr hlocks hA hP hD hS hl
  have E : Env1 p s m _ c cX3_drop 2 RX3 D (tyL cI cJ cZ) := E
  have hl : lv_has ls 2 [(0, .ref (h 14)), (1, .int x1)] := hl
  have hx := E.1.1
  have hb := E.1.2.1
  have hml := E.1.2.2.1
  unfold FX3_drop at hF
  refine lv_aload_n hx hb dX3_drop_0 rfl (lv_at hl 0 rfl) ?_
  refine lv_iconst (v := 0) hx hb dX3_drop_1 (by decide) ?_
  refine s_14_0 E hP hD hS dX3_drop_2 (fun H locs hP hD hS => ?_)
  refine lv_iload_n hx hb dX3_drop_5 rfl (lv_at hl 1 rfl) ?_
  obtain ⟨r1, u2, hc3, hF⟩ := bd_some hF
  refine calls_i (rest := []) E hA hP hD hS hl.1 (kX3_isRoot l D h cI cJ cZ n x1 (pt st 14 0 (0 : Int32)) r1 u2 hc3) cw_X3_96 rfl rfl (Nat.le_of_ble_eq_true rfl) ⟨Nat.le_of_ble_eq_true rfl, Nat.le_of_ble_eq_true rfl⟩ ⟨Nat.zero_le _, Nat.zero_le _⟩ dX3_drop_6 (fun H locs hP hD hS => ?_)
  refine lv_if_ne (tgt := 18) hx hb dX3_drop_9 (by decide) (fun hc => ?_) (fun hc => ?_)
  · have hF := if_f hc hF
    refine lv_aload_n hx hb dX3_drop_18 rfl (lv_at hl 0 rfl) ?_
    refine g_14_14 E hP dX3_drop_19 ?_
    refine lv_iload_n hx hb dX3_drop_22 rfl (lv_at hl 1 rfl) ?_
    refine lv_iconst (v := (-1)) hx hb dX3_drop_23 (by decide) ?_
    obtain ⟨hi4, hF⟩ := gd_some hF
    refine sa_23 E hP hD hS hi4 dX3_drop_24 (fun H locs hP hD hS => ?_)
    exact endV E hr hlocks hP hD hS dX3_drop_25 hF
  · have hF := if_t hc hF
    refine lv_aload_n hx hb dX3_drop_12 rfl (lv_at hl 0 rfl) ?_
    refine lv_iconst (v := 1) hx hb dX3_drop_13 (by decide) ?_
    refine s_14_0 E hP hD hS dX3_drop_14 (fun H locs hP hD hS => ?_)
    exact endV E hr hlocks hP hD hS dX3_drop_17 hF
-- LooseHeapModel.wrong
def FX3_wrong (n : Nat) (x1 x2 x3 : Int32) (st : St) : Option (Int32 × St) := bd (FX3_isRoot n x1 st) (fun r1 u2 => (if r1 = 0 then some ((1 : Int32), u2) else bd (FX3_isRoot n x3 u2) (fun r4 u5 => (if r4 = 0 then some ((1 : Int32), u5) else gd x1 32 ((if (u5.1 23 x1.toNatClampNeg) = (-1 : Int32) then some ((2 : Int32), u5) else be ((if x2 < 0 then some (3 : Int32) else gd x1 32 (gd (u5.1 23 x1.toNatClampNeg) 4200 ((if x2 < (u5.1 19 (u5.1 23 x1.toNatClampNeg).toNatClampNeg) then some (0 : Int32) else some (3 : Int32)))))) (fun v10 => some (v10, u5))))))))
set_option maxHeartbeats 4000000 in
set_option maxRecDepth 100000 in
theorem kX3_wrong (l : Launch) (D : va_G) (h : Nat → Nat) (cI cJ cZ : ClassId) (n : Nat) (x1 x2 x3 : Int32) (st : St) (r : Int32) (u : St) (hF : FX3_wrong n x1 x2 x3 st = some (r, u)) : Ci l yX3_wrong cX3_wrong 4 (some .int) 1 20 D (tyL cI cJ cZ) (wM h cI cJ cZ) st [.ref (h 14), .int x1, .int x2, .int x3] r u := by
  refine body_i (by decide +kernel) (Nat.le_of_ble_eq_true rfl) ?_
  intro p e s m below meth c A ls E hr hlocks hA hP hD hS hl
  have E : Env1 p s m _ c cX3_wrong 4 RX3 D (tyL cI cJ cZ) := E
  have hl : lv_has ls 4 [(0, .ref (h 14)), (1, .int x1), (2, .int x2), (3, .int x3)] := hl
  have hx := E.1.1
  have hb := E.1.2.1
  have hml := E.1.2.2.1
  unfold FX3_wrong at hF
  refine lv_iload_n hx hb dX3_wrong_0 rfl (lv_at hl 1 rfl) ?_
  obtain ⟨r1, u2, hc3, hF⟩ := bd_some hF
  refine calls_i (rest := []) E hA hP hD hS hl.1 (kX3_isRoot l D h cI cJ cZ n x1 st r1 u2 hc3) cw_X3_96 rfl rfl (Nat.le_of_ble_eq_true rfl) ⟨Nat.le_of_ble_eq_true rfl, Nat.le_of_ble_eq_true rfl⟩ ⟨Nat.zero_le _, Nat.zero_le _⟩ dX3_wrong_1 (fun H locs hP hD hS => ?_)
  refine lv_if_eq (tgt := 14) hx hb dX3_wrong_4 (by decide) (fun hc => ?_) (fun hc => ?_)
  · have hF := if_t hc hF
    refine lv_iconst (v := 1) hx hb dX3_wrong_14 (by decide) ?_
    exact endI E hr hlocks hP hD hS dX3_wrong_15 hF
  · have hF := if_f hc hF
    refine lv_iload_n hx hb dX3_wrong_7 rfl (lv_at hl 3 rfl) ?_
    obtain ⟨r4, u5, hc6, hF⟩ := bd_some hF
    refine calls_i (rest := []) E hA hP hD hS hl.1 (kX3_isRoot l D h cI cJ cZ n x3 u2 r4 u5 hc6) cw_X3_96 rfl rfl (Nat.le_of_ble_eq_true rfl) ⟨Nat.le_of_ble_eq_true rfl, Nat.le_of_ble_eq_true rfl⟩ ⟨Nat.zero_le _, Nat.zero_le _⟩ dX3_wrong_8 (fun H locs hP hD hS => ?_)
    refine lv_if_ne (tgt := 16) hx hb dX3_wrong_11 (by decide) (fun hc => ?_) (fun hc => ?_)
    · have hF := if_f hc hF
      refine lv_aload_n hx hb dX3_wrong_16 rfl (lv_at hl 0 rfl) ?_
      refine g_14_14 E hP dX3_wrong_17 ?_
      refine lv_iload_n hx hb dX3_wrong_20 rfl (lv_at hl 1 rfl) ?_
      obtain ⟨hi7, hF⟩ := gd_some hF
      refine la_23 E hP hi7 dX3_wrong_21 ?_
      refine lv_iconst (v := (-1)) hx hb dX3_wrong_22 (by decide) ?_
      refine lv_icmp_ne (tgt := 28) hx hb dX3_wrong_23 (by decide) (fun hc => ?_) (fun hc => ?_)
      · have hF := if_f hc hF
        refine lv_iload_n hx hb dX3_wrong_28 rfl (lv_at hl 2 rfl) ?_
        obtain ⟨v10, hv, hF⟩ := be_some hF
        refine dia (jpc := 52) (v1 := v10) (rest := []) (ls := ls) ?_ (fun kont => ?_)
        · skip
          exact endI E hr hlocks hP hD hS dX3_wrong_52 hF
        · skip
          refine lv_if_lt (tgt := 47) hx hb dX3_wrong_29 (by decide) (fun hc => ?_) (fun hc => ?_)
          · have hv := if_t hc hv
            refine lv_iconst (v := 3) hx hb dX3_wrong_47 (by decide) ?_
            refine lv_goto (tgt := 52) hx hb dX3_wrong_48 (by decide) ?_
            exact topE (Option.some.inj hv) kont
          · have hv := if_f hc hv
            refine lv_iload_n hx hb dX3_wrong_32 rfl (lv_at hl 2 rfl) ?_
            refine lv_aload_n hx hb dX3_wrong_33 rfl (lv_at hl 0 rfl) ?_
            refine g_14_9 E hP dX3_wrong_34 ?_
            refine lv_aload_n hx hb dX3_wrong_37 rfl (lv_at hl 0 rfl) ?_
            refine g_14_14 E hP dX3_wrong_38 ?_
            refine lv_iload_n hx hb dX3_wrong_41 rfl (lv_at hl 1 rfl) ?_
            obtain ⟨hi11, hv⟩ := gd_some hv
            refine la_23 E hP hi11 dX3_wrong_42 ?_
            obtain ⟨hi12, hv⟩ := gd_some hv
            refine la_19 E hP hi12 dX3_wrong_43 ?_
            refine lv_icmp_lt (tgt := 51) hx hb dX3_wrong_44 (by decide) (fun hc => ?_) (fun hc => ?_)
            · have hv := if_t hc hv
              refine lv_iconst (v := 0) hx hb dX3_wrong_51 (by decide) ?_
              exact topE (Option.some.inj hv) kont
            · have hv := if_f hc hv
              refine lv_iconst (v := 3) hx hb dX3_wrong_47 (by decide) ?_
              refine lv_goto (tgt := 52) hx hb dX3_wrong_48 (by decide) ?_
              exact topE (Option.some.inj hv) kont
      · have hF := if_t hc hF
        refine lv_iconst (v := 2) hx hb dX3_wrong_26 (by decide) ?_
        exact endI E hr hlocks hP hD hS dX3_wrong_27 hF
    · have hF := if_t hc hF
      refine lv_iconst (v := 1) hx hb dX3_wrong_14 (by decide) ?_
      exact endI E hr hlocks hP hD hS dX3_wrong_15 hF
theorem cw_X3_147 : cwd RX3 147 RX3 yX3_wrong cX3_wrong 4 (some .int) 3 := ⟨tb_V (tb_in 856 (by decide +kernel) (by decide +kernel)) (tb_in 858 (by decide +kernel) (by decide +kernel)) (tb_in 40 (by decide +kernel) (by decide +kernel)) (tb_in 50 (by decide +kernel) (by decide +kernel)) (tb_in 859 (by decide +kernel) (by decide +kernel)), by decide +kernel⟩
-- LooseHeapModel.link
def FX3_link (n : Nat) (x1 x2 x3 : Int32) (st : St) : Option (Int32 × St) := bd (FX3_wrong n x1 x2 x3 st) (fun r1 u2 => (if ((pt u2 14 0 r1).1 14 0) = 0 then gd x1 32 (gd ((pt u2 14 0 r1).1 23 x1.toNatClampNeg) 4200 (gd x3 32 (gd (((pt u2 14 0 r1).1 21 ((pt u2 14 0 r1).1 23 x1.toNatClampNeg).toNatClampNeg) + x2) 9000 (some ((0 : Int32), (pt (pt u2 14 0 r1) 22 (((pt u2 14 0 r1).1 21 ((pt u2 14 0 r1).1 23 x1.toNatClampNeg).toNatClampNeg) + x2).toNatClampNeg ((pt u2 14 0 r1).1 23 x3.toNatClampNeg))))))) else some ((0 : Int32), (pt u2 14 0 r1))))
set_option maxHeartbeats 4000000 in
set_option maxRecDepth 100000 in
theorem kX3_link (l : Launch) (D : va_G) (h : Nat → Nat) (cI cJ cZ : ClassId) (n : Nat) (x1 x2 x3 : Int32) (st : St) (r : Int32) (u : St) (hF : FX3_link n x1 x2 x3 st = some (r, u)) : Cv l yX3_link cX3_link 4 2 43 D (tyL cI cJ cZ) (wM h cI cJ cZ) st [.ref (h 14), .int x1, .int x2, .int x3] u := by
  refine body_v (by decide +kernel) (Nat.le_of_ble_eq_true rfl) ?_
  intro p e s m below meth c A ls E hr hlocks hA hP hD hS hl
  have E : Env1 p s m _ c cX3_link 4 RX3 D (tyL cI cJ cZ) := E
  have hl : lv_has ls 4 [(0, .ref (h 14)), (1, .int x1), (2, .int x2), (3, .int x3)] := hl
  have hx := E.1.1
  have hb := E.1.2.1
  have hml := E.1.2.2.1
  unfold FX3_link at hF
  refine lv_aload_n hx hb dX3_link_0 rfl (lv_at hl 0 rfl) ?_
  refine lv_aload_n hx hb dX3_link_1 rfl (lv_at hl 0 rfl) ?_
  refine lv_iload_n hx hb dX3_link_2 rfl (lv_at hl 1 rfl) ?_
  refine lv_iload_n hx hb dX3_link_3 rfl (lv_at hl 2 rfl) ?_
  refine lv_iload_n hx hb dX3_link_4 rfl (lv_at hl 3 rfl) ?_
  obtain ⟨r1, u2, hc3, hF⟩ := bd_some hF
  refine call_i (rest := [.ref (h 14)]) E hA hP hD hS hl.1 (kX3_wrong l D h cI cJ cZ n x1 x2 x3 st r1 u2 hc3) cw_X3_147 0 rfl rfl rfl rfl rfl (Nat.le_of_ble_eq_true rfl) ⟨Nat.le_of_ble_eq_true rfl, Nat.le_of_ble_eq_true rfl⟩ ⟨Nat.zero_le _, Nat.zero_le _⟩ dX3_link_5 (fun H locs hP hD hS => ?_)
  refine s_14_0 E hP hD hS dX3_link_8 (fun H locs hP hD hS => ?_)
  refine lv_aload_n hx hb dX3_link_11 rfl (lv_at hl 0 rfl) ?_
  refine g_14_0 E hP dX3_link_12 ?_
  refine lv_if_ne (tgt := 42) hx hb dX3_link_15 (by decide) (fun hc => ?_) (fun hc => ?_)
  · have hF := if_f hc hF
    exact endV E hr hlocks hP hD hS dX3_link_42 hF
  · have hF := if_t hc hF
    refine lv_aload_n hx hb dX3_link_18 rfl (lv_at hl 0 rfl) ?_
    refine g_14_12 E hP dX3_link_19 ?_
    refine lv_aload_n hx hb dX3_link_22 rfl (lv_at hl 0 rfl) ?_
    refine g_14_11 E hP dX3_link_23 ?_
    refine lv_aload_n hx hb dX3_link_26 rfl (lv_at hl 0 rfl) ?_
    refine g_14_14 E hP dX3_link_27 ?_
    refine lv_iload_n hx hb dX3_link_30 rfl (lv_at hl 1 rfl) ?_
    obtain ⟨hi4, hF⟩ := gd_some hF
    refine la_23 E hP hi4 dX3_link_31 ?_
    obtain ⟨hi5, hF⟩ := gd_some hF
    refine la_21 E hP hi5 dX3_link_32 ?_
    refine lv_iload_n hx hb dX3_link_33 rfl (lv_at hl 2 rfl) ?_
    refine lv_iadd hx hb dX3_link_34 ?_
    refine lv_aload_n hx hb dX3_link_35 rfl (lv_at hl 0 rfl) ?_
    refine g_14_14 E hP dX3_link_36 ?_
    refine lv_iload_n hx hb dX3_link_39 rfl (lv_at hl 3 rfl) ?_
    obtain ⟨hi6, hF⟩ := gd_some hF
    refine la_23 E hP hi6 dX3_link_40 ?_
    obtain ⟨hi7, hF⟩ := gd_some hF
    refine sa_22 E hP hD hS hi7 dX3_link_41 (fun H locs hP hD hS => ?_)
    exact endV E hr hlocks hP hD hS dX3_link_42 hF
theorem cw_X3_151 : cwd RX3 151 RX3 yX3_addressOf cX3_addressOf 2 (some .int) 1 := ⟨tb_V (tb_in 864 (by decide +kernel) (by decide +kernel)) (tb_in 866 (by decide +kernel) (by decide +kernel)) (tb_in 41 (by decide +kernel) (by decide +kernel)) (tb_in 50 (by decide +kernel) (by decide +kernel)) (tb_in 867 (by decide +kernel) (by decide +kernel)), by decide +kernel⟩
-- LooseHeapModel.follow
def FX3_follow (n : Nat) (x1 x2 x3 : Int32) (st : St) : Option (Int32 × St) := bd (FX3_wrong n x1 x2 x3 st) (fun r1 u2 => (if ((pt u2 14 0 r1).1 14 0) ≤ 0 then gd x1 32 (gd ((pt u2 14 0 r1).1 23 x1.toNatClampNeg) 4200 (gd (((pt u2 14 0 r1).1 21 ((pt u2 14 0 r1).1 23 x1.toNatClampNeg).toNatClampNeg) + x2) 9000 (gd x3 32 (gd x3 32 (bd (FX3_addressOf n ((pt (pt u2 14 0 r1) 23 x3.toNatClampNeg ((pt u2 14 0 r1).1 22 (((pt u2 14 0 r1).1 21 ((pt u2 14 0 r1).1 23 x1.toNatClampNeg).toNatClampNeg) + x2).toNatClampNeg)).1 23 x3.toNatClampNeg) (pt (pt u2 14 0 r1) 23 x3.toNatClampNeg ((pt u2 14 0 r1).1 22 (((pt u2 14 0 r1).1 21 ((pt u2 14 0 r1).1 23 x1.toNatClampNeg).toNatClampNeg) + x2).toNatClampNeg))) (fun r9 u10 => some (r9, u10))))))) else some ((0 : Int32), (pt u2 14 0 r1))))
set_option maxHeartbeats 4000000 in
set_option maxRecDepth 100000 in
theorem kX3_follow (l : Launch) (D : va_G) (h : Nat → Nat) (cI cJ cZ : ClassId) (n : Nat) (x1 x2 x3 : Int32) (st : St) (r : Int32) (u : St) (hF : FX3_follow n x1 x2 x3 st = some (r, u)) : Ci l yX3_follow cX3_follow 4 (some .int) 2 43 D (tyL cI cJ cZ) (wM h cI cJ cZ) st [.ref (h 14), .int x1, .int x2, .int x3] r u := by
  refine body_i (by decide +kernel) (Nat.le_of_ble_eq_true rfl) ?_
  intro p e s m below meth c A ls E hr hlocks hA hP hD hS hl
  have E : Env1 p s m _ c cX3_follow 4 RX3 D (tyL cI cJ cZ) := E
  have hl : lv_has ls 4 [(0, .ref (h 14)), (1, .int x1), (2, .int x2), (3, .int x3)] := hl
  have hx := E.1.1
  have hb := E.1.2.1
  have hml := E.1.2.2.1
  unfold FX3_follow at hF
  refine lv_aload_n hx hb dX3_follow_0 rfl (lv_at hl 0 rfl) ?_
  refine lv_aload_n hx hb dX3_follow_1 rfl (lv_at hl 0 rfl) ?_
  refine lv_iload_n hx hb dX3_follow_2 rfl (lv_at hl 1 rfl) ?_
  refine lv_iload_n hx hb dX3_follow_3 rfl (lv_at hl 2 rfl) ?_
  refine lv_iload_n hx hb dX3_follow_4 rfl (lv_at hl 3 rfl) ?_
  obtain ⟨r1, u2, hc3, hF⟩ := bd_some hF
  refine call_i (rest := [.ref (h 14)]) E hA hP hD hS hl.1 (kX3_wrong l D h cI cJ cZ n x1 x2 x3 st r1 u2 hc3) cw_X3_147 0 rfl rfl rfl rfl rfl (Nat.le_of_ble_eq_true rfl) ⟨Nat.le_of_ble_eq_true rfl, Nat.le_of_ble_eq_true rfl⟩ ⟨Nat.zero_le _, Nat.zero_le _⟩ dX3_follow_5 (fun H locs hP hD hS => ?_)
  refine s_14_0 E hP hD hS dX3_follow_8 (fun H locs hP hD hS => ?_)
  refine lv_aload_n hx hb dX3_follow_11 rfl (lv_at hl 0 rfl) ?_
  refine g_14_0 E hP dX3_follow_12 ?_
  refine lv_if_le (tgt := 20) hx hb dX3_follow_15 (by decide) (fun hc => ?_) (fun hc => ?_)
  · have hF := if_t hc hF
    refine lv_aload_n hx hb dX3_follow_20 rfl (lv_at hl 0 rfl) ?_
    refine g_14_14 E hP dX3_follow_21 ?_
    refine lv_iload_n hx hb dX3_follow_24 rfl (lv_at hl 3 rfl) ?_
    refine lv_aload_n hx hb dX3_follow_25 rfl (lv_at hl 0 rfl) ?_
    refine g_14_12 E hP dX3_follow_26 ?_
    refine lv_aload_n hx hb dX3_follow_29 rfl (lv_at hl 0 rfl) ?_
    refine g_14_11 E hP dX3_follow_30 ?_
    refine lv_aload_n hx hb dX3_follow_33 rfl (lv_at hl 0 rfl) ?_
    refine g_14_14 E hP dX3_follow_34 ?_
    refine lv_iload_n hx hb dX3_follow_37 rfl (lv_at hl 1 rfl) ?_
    obtain ⟨hi4, hF⟩ := gd_some hF
    refine la_23 E hP hi4 dX3_follow_38 ?_
    obtain ⟨hi5, hF⟩ := gd_some hF
    refine la_21 E hP hi5 dX3_follow_39 ?_
    refine lv_iload_n hx hb dX3_follow_40 rfl (lv_at hl 2 rfl) ?_
    refine lv_iadd hx hb dX3_follow_41 ?_
    obtain ⟨hi6, hF⟩ := gd_some hF
    refine la_22 E hP hi6 dX3_follow_42 ?_
    obtain ⟨hi7, hF⟩ := gd_some hF
    refine sa_23 E hP hD hS hi7 dX3_follow_43 (fun H locs hP hD hS => ?_)
    refine lv_aload_n hx hb dX3_follow_44 rfl (lv_at hl 0 rfl) ?_
    refine lv_aload_n hx hb dX3_follow_45 rfl (lv_at hl 0 rfl) ?_
    refine g_14_14 E hP dX3_follow_46 ?_
    refine lv_iload_n hx hb dX3_follow_49 rfl (lv_at hl 3 rfl) ?_
    obtain ⟨hi8, hF⟩ := gd_some hF
    refine la_23 E hP hi8 dX3_follow_50 ?_
    obtain ⟨r9, u10, hc11, hF⟩ := bd_some hF
    refine call_i (rest := []) E hA hP hD hS hl.1 (kX3_addressOf l D h cI cJ cZ n ((pt (pt u2 14 0 r1) 23 x3.toNatClampNeg ((pt u2 14 0 r1).1 22 (((pt u2 14 0 r1).1 21 ((pt u2 14 0 r1).1 23 x1.toNatClampNeg).toNatClampNeg) + x2).toNatClampNeg)).1 23 x3.toNatClampNeg) (pt (pt u2 14 0 r1) 23 x3.toNatClampNeg ((pt u2 14 0 r1).1 22 (((pt u2 14 0 r1).1 21 ((pt u2 14 0 r1).1 23 x1.toNatClampNeg).toNatClampNeg) + x2).toNatClampNeg)) r9 u10 hc11) cw_X3_151 0 rfl rfl rfl rfl rfl (Nat.le_of_ble_eq_true rfl) ⟨Nat.le_of_ble_eq_true rfl, Nat.le_of_ble_eq_true rfl⟩ ⟨Nat.zero_le _, Nat.zero_le _⟩ dX3_follow_51 (fun H locs hP hD hS => ?_)
    exact endI E hr hlocks hP hD hS dX3_follow_54 hF
  · have hF := if_f hc hF
    refine lv_iconst (v := 0) hx hb dX3_follow_18 (by decide) ?_
    exact endI E hr hlocks hP hD hS dX3_follow_19 hF
theorem cw_X3_154 : cwd RX3 154 RX3 yX3_throwing cX3_throwing 2 (some .int) 1 := ⟨tb_V (tb_in 872 (by decide +kernel) (by decide +kernel)) (tb_in 874 (by decide +kernel) (by decide +kernel)) (tb_in 42 (by decide +kernel) (by decide +kernel)) (tb_in 50 (by decide +kernel) (by decide +kernel)) (tb_in 875 (by decide +kernel) (by decide +kernel)), by decide +kernel⟩
-- LooseHeapModel.set
def FX3_set (n : Nat) (x1 x2 x3 : Int32) (st : St) : Option (Int32 × St) := bd (FX3_isRoot n x1 (pt st 14 0 (0 : Int32))) (fun r1 u2 => (if r1 = 0 then bd (FX3_throwing n (1 : Int32) u2) (fun r22 u23 => some (r22, u23)) else gd x1 32 ((if (u2.1 23 x1.toNatClampNeg) = (-1 : Int32) then bd (FX3_throwing n (2 : Int32) u2) (fun r19 u20 => some (r19, u20)) else gd x1 32 ((if x2 < 0 then bd (FX3_throwing n (3 : Int32) u2) (fun r6 u7 => some (r6, u7)) else gd (u2.1 23 x1.toNatClampNeg) 4200 ((if x2 < (u2.1 20 (u2.1 23 x1.toNatClampNeg).toNatClampNeg) then gd (u2.1 23 x1.toNatClampNeg) 4200 (gd (u2.1 23 x1.toNatClampNeg) 4200 (gd (((u2.1 21 (u2.1 23 x1.toNatClampNeg).toNatClampNeg) + (u2.1 19 (u2.1 23 x1.toNatClampNeg).toNatClampNeg)) + x2) 9000 (gd (u2.1 23 x1.toNatClampNeg) 4200 (gd (u2.1 23 x1.toNatClampNeg) 4200 (gd (((u2.1 21 (u2.1 23 x1.toNatClampNeg).toNatClampNeg) + (u2.1 19 (u2.1 23 x1.toNatClampNeg).toNatClampNeg)) + x2) 9000 (some ((u2.1 22 (((u2.1 21 (u2.1 23 x1.toNatClampNeg).toNatClampNeg) + (u2.1 19 (u2.1 23 x1.toNatClampNeg).toNatClampNeg)) + x2).toNatClampNeg), (pt u2 22 (((u2.1 21 (u2.1 23 x1.toNatClampNeg).toNatClampNeg) + (u2.1 19 (u2.1 23 x1.toNatClampNeg).toNatClampNeg)) + x2).toNatClampNeg x3)))))))) else bd (FX3_throwing n (3 : Int32) u2) (fun r16 u17 => some (r16, u17))))))))))
set_option maxHeartbeats 4000000 in
set_option maxRecDepth 100000 in
theorem kX3_set (l : Launch) (D : va_G) (h : Nat → Nat) (cI cJ cZ : ClassId) (n : Nat) (x1 x2 x3 : Int32) (st : St) (r : Int32) (u : St) (hF : FX3_set n x1 x2 x3 st = some (r, u)) : Ci l yX3_set cX3_set 6 (some .int) 1 21 D (tyL cI cJ cZ) (wM h cI cJ cZ) st [.ref (h 14), .int x1, .int x2, .int x3] r u := by
  refine body_i (by decide +kernel) (Nat.le_of_ble_eq_true rfl) ?_
  intro p e s m below meth c A ls E hr hlocks hA hP hD hS hl
  have E : Env1 p s m _ c cX3_set 6 RX3 D (tyL cI cJ cZ) := E
  have hl : lv_has ls 6 [(0, .ref (h 14)), (1, .int x1), (2, .int x2), (3, .int x3)] := hl
  have hx := E.1.1
  have hb := E.1.2.1
  have hml := E.1.2.2.1
  unfold FX3_set at hF
  refine lv_aload_n hx hb dX3_set_0 rfl (lv_at hl 0 rfl) ?_
  refine lv_iconst (v := 0) hx hb dX3_set_1 (by decide) ?_
  refine s_14_0 E hP hD hS dX3_set_2 (fun H locs hP hD hS => ?_)
  refine lv_iload_n hx hb dX3_set_5 rfl (lv_at hl 1 rfl) ?_
  obtain ⟨r1, u2, hc3, hF⟩ := bd_some hF
  refine calls_i (rest := []) E hA hP hD hS hl.1 (kX3_isRoot l D h cI cJ cZ n x1 (pt st 14 0 (0 : Int32)) r1 u2 hc3) cw_X3_96 rfl rfl (Nat.le_of_ble_eq_true rfl) ⟨Nat.le_of_ble_eq_true rfl, Nat.le_of_ble_eq_true rfl⟩ ⟨Nat.zero_le _, Nat.zero_le _⟩ dX3_set_6 (fun H locs hP hD hS => ?_)
  refine lv_if_ne (tgt := 18) hx hb dX3_set_9 (by decide) (fun hc => ?_) (fun hc => ?_)
  · have hF := if_f hc hF
    refine lv_aload_n hx hb dX3_set_18 rfl (lv_at hl 0 rfl) ?_
    refine g_14_14 E hP dX3_set_19 ?_
    refine lv_iload_n hx hb dX3_set_22 rfl (lv_at hl 1 rfl) ?_
    obtain ⟨hi4, hF⟩ := gd_some hF
    refine la_23 E hP hi4 dX3_set_23 ?_
    refine lv_iconst (v := (-1)) hx hb dX3_set_24 (by decide) ?_
    refine lv_icmp_ne (tgt := 34) hx hb dX3_set_25 (by decide) (fun hc => ?_) (fun hc => ?_)
    · have hF := if_f hc hF
      refine lv_aload_n hx hb dX3_set_34 rfl (lv_at hl 0 rfl) ?_
      refine g_14_14 E hP dX3_set_35 ?_
      refine lv_iload_n hx hb dX3_set_38 rfl (lv_at hl 1 rfl) ?_
      obtain ⟨hi5, hF⟩ := gd_some hF
      refine la_23 E hP hi5 dX3_set_39 ?_
      refine lv_istore (lv' := [(4, .int (u2.1 23 x1.toNatClampNeg)), (0, .ref (h 14)), (1, .int x1), (2, .int x2), (3, .int x3)]) hx hb dX3_set_40 hl (by decide) rfl (fun ls hl => ?_)
      refine lv_iload_n hx hb dX3_set_42 rfl (lv_at hl 3 rfl) ?_
      refine lv_if_lt (tgt := 57) hx hb dX3_set_43 (by decide) (fun hc => ?_) (fun hc => ?_)
      · have hF := if_t hc hF
        refine lv_aload_n hx hb dX3_set_57 rfl (lv_at hl 1 rfl) ?_
        refine lv_iconst (v := 3) hx hb dX3_set_58 (by decide) ?_
        obtain ⟨r6, u7, hc8, hF⟩ := bd_some hF
        refine call_i (rest := []) E hA hP hD hS hl.1 (kX3_throwing l D h cI cJ cZ n (3 : Int32) u2 r6 u7 hc8) cw_X3_154 0 rfl rfl rfl rfl rfl (Nat.le_of_ble_eq_true rfl) ⟨Nat.le_of_ble_eq_true rfl, Nat.le_of_ble_eq_true rfl⟩ ⟨Nat.zero_le _, Nat.zero_le _⟩ dX3_set_59 (fun H locs hP hD hS => ?_)
        exact endI E hr hlocks hP hD hS dX3_set_62 hF
      · have hF := if_f hc hF
        refine lv_iload_n hx hb dX3_set_46 rfl (lv_at hl 3 rfl) ?_
        refine lv_aload_n hx hb dX3_set_47 rfl (lv_at hl 1 rfl) ?_
        refine g_14_10 E hP dX3_set_48 ?_
        refine lv_iload hx hb dX3_set_51 (lv_at hl 0 rfl) ?_
        obtain ⟨hi9, hF⟩ := gd_some hF
        refine la_20 E hP hi9 dX3_set_53 ?_
        refine lv_icmp_lt (tgt := 63) hx hb dX3_set_54 (by decide) (fun hc => ?_) (fun hc => ?_)
        · have hF := if_t hc hF
          refine lv_aload_n hx hb dX3_set_63 rfl (lv_at hl 1 rfl) ?_
          refine g_14_12 E hP dX3_set_64 ?_
          refine lv_aload_n hx hb dX3_set_67 rfl (lv_at hl 1 rfl) ?_
          refine g_14_11 E hP dX3_set_68 ?_
          refine lv_iload hx hb dX3_set_71 (lv_at hl 0 rfl) ?_
          obtain ⟨hi10, hF⟩ := gd_some hF
          refine la_21 E hP hi10 dX3_set_73 ?_
          refine lv_aload_n hx hb dX3_set_74 rfl (lv_at hl 1 rfl) ?_
          refine g_14_9 E hP dX3_set_75 ?_
          refine lv_iload hx hb dX3_set_78 (lv_at hl 0 rfl) ?_
          obtain ⟨hi11, hF⟩ := gd_some hF
          refine la_19 E hP hi11 dX3_set_80 ?_
          refine lv_iadd hx hb dX3_set_81 ?_
          refine lv_iload_n hx hb dX3_set_82 rfl (lv_at hl 3 rfl) ?_
          refine lv_iadd hx hb dX3_set_83 ?_
          obtain ⟨hi12, hF⟩ := gd_some hF
          refine la_22 E hP hi12 dX3_set_84 ?_
          refine lv_istore (lv' := [(5, .int (u2.1 22 (((u2.1 21 (u2.1 23 x1.toNatClampNeg).toNatClampNeg) + (u2.1 19 (u2.1 23 x1.toNatClampNeg).toNatClampNeg)) + x2).toNatClampNeg)), (4, .int (u2.1 23 x1.toNatClampNeg)), (0, .ref (h 14)), (1, .int x1), (2, .int x2), (3, .int x3)]) hx hb dX3_set_85 hl (by decide) rfl (fun ls hl => ?_)
          refine lv_aload_n hx hb dX3_set_87 rfl (lv_at hl 2 rfl) ?_
          refine g_14_12 E hP dX3_set_88 ?_
          refine lv_aload_n hx hb dX3_set_91 rfl (lv_at hl 2 rfl) ?_
          refine g_14_11 E hP dX3_set_92 ?_
          refine lv_iload hx hb dX3_set_95 (lv_at hl 1 rfl) ?_
          obtain ⟨hi13, hF⟩ := gd_some hF
          refine la_21 E hP hi13 dX3_set_97 ?_
          refine lv_aload_n hx hb dX3_set_98 rfl (lv_at hl 2 rfl) ?_
          refine g_14_9 E hP dX3_set_99 ?_
          refine lv_iload hx hb dX3_set_102 (lv_at hl 1 rfl) ?_
          obtain ⟨hi14, hF⟩ := gd_some hF
          refine la_19 E hP hi14 dX3_set_104 ?_
          refine lv_iadd hx hb dX3_set_105 ?_
          refine lv_iload_n hx hb dX3_set_106 rfl (lv_at hl 4 rfl) ?_
          refine lv_iadd hx hb dX3_set_107 ?_
          refine lv_iload_n hx hb dX3_set_108 rfl (lv_at hl 5 rfl) ?_
          obtain ⟨hi15, hF⟩ := gd_some hF
          refine sa_22 E hP hD hS hi15 dX3_set_109 (fun H locs hP hD hS => ?_)
          refine lv_iload hx hb dX3_set_110 (lv_at hl 0 rfl) ?_
          exact endI E hr hlocks hP hD hS dX3_set_112 hF
        · have hF := if_f hc hF
          refine lv_aload_n hx hb dX3_set_57 rfl (lv_at hl 1 rfl) ?_
          refine lv_iconst (v := 3) hx hb dX3_set_58 (by decide) ?_
          obtain ⟨r16, u17, hc18, hF⟩ := bd_some hF
          refine call_i (rest := []) E hA hP hD hS hl.1 (kX3_throwing l D h cI cJ cZ n (3 : Int32) u2 r16 u17 hc18) cw_X3_154 0 rfl rfl rfl rfl rfl (Nat.le_of_ble_eq_true rfl) ⟨Nat.le_of_ble_eq_true rfl, Nat.le_of_ble_eq_true rfl⟩ ⟨Nat.zero_le _, Nat.zero_le _⟩ dX3_set_59 (fun H locs hP hD hS => ?_)
          exact endI E hr hlocks hP hD hS dX3_set_62 hF
    · have hF := if_t hc hF
      refine lv_aload_n hx hb dX3_set_28 rfl (lv_at hl 0 rfl) ?_
      refine lv_iconst (v := 2) hx hb dX3_set_29 (by decide) ?_
      obtain ⟨r19, u20, hc21, hF⟩ := bd_some hF
      refine call_i (rest := []) E hA hP hD hS hl.1 (kX3_throwing l D h cI cJ cZ n (2 : Int32) u2 r19 u20 hc21) cw_X3_154 0 rfl rfl rfl rfl rfl (Nat.le_of_ble_eq_true rfl) ⟨Nat.le_of_ble_eq_true rfl, Nat.le_of_ble_eq_true rfl⟩ ⟨Nat.zero_le _, Nat.zero_le _⟩ dX3_set_30 (fun H locs hP hD hS => ?_)
      exact endI E hr hlocks hP hD hS dX3_set_33 hF
  · have hF := if_t hc hF
    refine lv_aload_n hx hb dX3_set_12 rfl (lv_at hl 0 rfl) ?_
    refine lv_iconst (v := 1) hx hb dX3_set_13 (by decide) ?_
    obtain ⟨r22, u23, hc24, hF⟩ := bd_some hF
    refine call_i (rest := []) E hA hP hD hS hl.1 (kX3_throwing l D h cI cJ cZ n (1 : Int32) u2 r22 u23 hc24) cw_X3_154 0 rfl rfl rfl rfl rfl (Nat.le_of_ble_eq_true rfl) ⟨Nat.le_of_ble_eq_true rfl, Nat.le_of_ble_eq_true rfl⟩ ⟨Nat.zero_le _, Nat.zero_le _⟩ dX3_set_14 (fun H locs hP hD hS => ?_)
    exact endI E hr hlocks hP hD hS dX3_set_17 hF
-- LooseHeapModel.loose
def FX3_loose (n : Nat) (x1 x2 : Int32) (st : St) : Option (Int32 × St) := bd (FX3_isRoot n x1 (pt st 14 0 (0 : Int32))) (fun r1 u2 => (if r1 = 0 then bd (FX3_throwing n (1 : Int32) u2) (fun r6 u7 => some (r6, u7)) else gd x1 32 (gd x1 32 (some ((u2.1 24 x1.toNatClampNeg), (pt u2 24 x1.toNatClampNeg x2))))))
set_option maxHeartbeats 4000000 in
set_option maxRecDepth 100000 in
theorem kX3_loose (l : Launch) (D : va_G) (h : Nat → Nat) (cI cJ cZ : ClassId) (n : Nat) (x1 x2 : Int32) (st : St) (r : Int32) (u : St) (hF : FX3_loose n x1 x2 st = some (r, u)) : Ci l yX3_loose cX3_loose 4 (some .int) 1 21 D (tyL cI cJ cZ) (wM h cI cJ cZ) st [.ref (h 14), .int x1, .int x2] r u := by
  refine body_i (by decide +kernel) (Nat.le_of_ble_eq_true rfl) ?_
  intro p e s m below meth c A ls E hr hlocks hA hP hD hS hl
  have E : Env1 p s m _ c cX3_loose 4 RX3 D (tyL cI cJ cZ) := E
  have hl : lv_has ls 4 [(0, .ref (h 14)), (1, .int x1), (2, .int x2)] := hl
  have hx := E.1.1
  have hb := E.1.2.1
  have hml := E.1.2.2.1
  unfold FX3_loose at hF
  refine lv_aload_n hx hb dX3_loose_0 rfl (lv_at hl 0 rfl) ?_
  refine lv_iconst (v := 0) hx hb dX3_loose_1 (by decide) ?_
  refine s_14_0 E hP hD hS dX3_loose_2 (fun H locs hP hD hS => ?_)
  refine lv_iload_n hx hb dX3_loose_5 rfl (lv_at hl 1 rfl) ?_
  obtain ⟨r1, u2, hc3, hF⟩ := bd_some hF
  refine calls_i (rest := []) E hA hP hD hS hl.1 (kX3_isRoot l D h cI cJ cZ n x1 (pt st 14 0 (0 : Int32)) r1 u2 hc3) cw_X3_96 rfl rfl (Nat.le_of_ble_eq_true rfl) ⟨Nat.le_of_ble_eq_true rfl, Nat.le_of_ble_eq_true rfl⟩ ⟨Nat.zero_le _, Nat.zero_le _⟩ dX3_loose_6 (fun H locs hP hD hS => ?_)
  refine lv_if_ne (tgt := 18) hx hb dX3_loose_9 (by decide) (fun hc => ?_) (fun hc => ?_)
  · have hF := if_f hc hF
    refine lv_aload_n hx hb dX3_loose_18 rfl (lv_at hl 0 rfl) ?_
    refine g_14_15 E hP dX3_loose_19 ?_
    refine lv_iload_n hx hb dX3_loose_22 rfl (lv_at hl 1 rfl) ?_
    obtain ⟨hi4, hF⟩ := gd_some hF
    refine la_24 E hP hi4 dX3_loose_23 ?_
    refine lv_istore_n (lv' := [(3, .int (u2.1 24 x1.toNatClampNeg)), (0, .ref (h 14)), (1, .int x1), (2, .int x2)]) hx hb dX3_loose_24 rfl hl (by decide) rfl (fun ls hl => ?_)
    refine lv_aload_n hx hb dX3_loose_25 rfl (lv_at hl 1 rfl) ?_
    refine g_14_15 E hP dX3_loose_26 ?_
    refine lv_iload_n hx hb dX3_loose_29 rfl (lv_at hl 2 rfl) ?_
    refine lv_iload_n hx hb dX3_loose_30 rfl (lv_at hl 3 rfl) ?_
    obtain ⟨hi5, hF⟩ := gd_some hF
    refine sa_24 E hP hD hS hi5 dX3_loose_31 (fun H locs hP hD hS => ?_)
    refine lv_iload_n hx hb dX3_loose_32 rfl (lv_at hl 0 rfl) ?_
    exact endI E hr hlocks hP hD hS dX3_loose_33 hF
  · have hF := if_t hc hF
    refine lv_aload_n hx hb dX3_loose_12 rfl (lv_at hl 0 rfl) ?_
    refine lv_iconst (v := 1) hx hb dX3_loose_13 (by decide) ?_
    obtain ⟨r6, u7, hc8, hF⟩ := bd_some hF
    refine call_i (rest := []) E hA hP hD hS hl.1 (kX3_throwing l D h cI cJ cZ n (1 : Int32) u2 r6 u7 hc8) cw_X3_154 0 rfl rfl rfl rfl rfl (Nat.le_of_ble_eq_true rfl) ⟨Nat.le_of_ble_eq_true rfl, Nat.le_of_ble_eq_true rfl⟩ ⟨Nat.zero_le _, Nat.zero_le _⟩ dX3_loose_14 (fun H locs hP hD hS => ?_)
    exact endI E hr hlocks hP hD hS dX3_loose_17 hF
-- LooseHeapModel.take
def FX3_take (n : Nat) (x1 x2 : Int32) (st : St) : Option (Int32 × St) := bd (FX3_isRoot n x2 (pt st 14 0 (0 : Int32))) (fun r1 u2 => (if r1 = 0 then some ((0 : Int32), (pt u2 14 0 (1 : Int32))) else (if 0 ≤ x1 then bd (FX3_at n x1 u2) (fun r4 u5 => (if r4 = (-1 : Int32) then be (some ((if r4 = (-1 : Int32) then (0 : Int32) else (1 : Int32)))) (fun v7 => gz v7 (some (v7, u5))) else gd x2 32 (be (some ((if r4 = (-1 : Int32) then (0 : Int32) else (1 : Int32)))) (fun v9 => gz v9 (some (v9, (pt u5 23 x2.toNatClampNeg r4))))))) else (if (-1 : Int32) = (-1 : Int32) then be (some ((if (-1 : Int32) = (-1 : Int32) then (0 : Int32) else (1 : Int32)))) (fun v10 => gz v10 (some (v10, u2))) else gd x2 32 (be (some ((if (-1 : Int32) = (-1 : Int32) then (0 : Int32) else (1 : Int32)))) (fun v12 => gz v12 (some (v12, (pt u2 23 x2.toNatClampNeg (-1 : Int32))))))))))
set_option maxHeartbeats 4000000 in
set_option maxRecDepth 100000 in
theorem kX3_take (l : Launch) (D : va_G) (h : Nat → Nat) (cI cJ cZ : ClassId) (n : Nat) (x1 x2 : Int32) (st : St) (r : Int32) (u : St) (hF : FX3_take n x1 x2 st = some (r, u)) : Ci l yX3_take cX3_take 4 (some .boolean) 1 22 D (tyL cI cJ cZ) (wM h cI cJ cZ) st [.ref (h 14), .int x1, .int x2] r u := by
  refine body_i (by decide +kernel) (Nat.le_of_ble_eq_true rfl) ?_
  intro p e s m below meth c A ls E hr hlocks hA hP hD hS hl
  have E : Env1 p s m _ c cX3_take 4 RX3 D (tyL cI cJ cZ) := E
  have hl : lv_has ls 4 [(0, .ref (h 14)), (1, .int x1), (2, .int x2)] := hl
  have hx := E.1.1
  have hb := E.1.2.1
  have hml := E.1.2.2.1
  unfold FX3_take at hF
  refine lv_aload_n hx hb dX3_take_0 rfl (lv_at hl 0 rfl) ?_
  refine lv_iconst (v := 0) hx hb dX3_take_1 (by decide) ?_
  refine s_14_0 E hP hD hS dX3_take_2 (fun H locs hP hD hS => ?_)
  refine lv_iload_n hx hb dX3_take_5 rfl (lv_at hl 2 rfl) ?_
  obtain ⟨r1, u2, hc3, hF⟩ := bd_some hF
  refine calls_i (rest := []) E hA hP hD hS hl.1 (kX3_isRoot l D h cI cJ cZ n x2 (pt st 14 0 (0 : Int32)) r1 u2 hc3) cw_X3_96 rfl rfl (Nat.le_of_ble_eq_true rfl) ⟨Nat.le_of_ble_eq_true rfl, Nat.le_of_ble_eq_true rfl⟩ ⟨Nat.zero_le _, Nat.zero_le _⟩ dX3_take_6 (fun H locs hP hD hS => ?_)
  refine lv_if_ne (tgt := 19) hx hb dX3_take_9 (by decide) (fun hc => ?_) (fun hc => ?_)
  · have hF := if_f hc hF
    refine lv_iload_n hx hb dX3_take_19 rfl (lv_at hl 1 rfl) ?_
    refine lv_if_ge (tgt := 27) hx hb dX3_take_20 (by decide) (fun hc => ?_) (fun hc => ?_)
    · have hF := if_t hc hF
      refine lv_aload_n hx hb dX3_take_27 rfl (lv_at hl 0 rfl) ?_
      refine lv_iload_n hx hb dX3_take_28 rfl (lv_at hl 1 rfl) ?_
      obtain ⟨r4, u5, hc6, hF⟩ := bd_some hF
      refine call_i (rest := []) E hA hP hD hS hl.1 (kX3_at l D h cI cJ cZ n x1 u2 r4 u5 hc6) cw_X3_135 0 rfl rfl rfl rfl rfl (Nat.le_of_ble_eq_true rfl) ⟨Nat.le_of_ble_eq_true rfl, Nat.le_of_ble_eq_true rfl⟩ ⟨Nat.zero_le _, Nat.zero_le _⟩ dX3_take_29 (fun H locs hP hD hS => ?_)
      refine lv_istore_n (lv' := [(3, .int r4), (0, .ref (h 14)), (1, .int x1), (2, .int x2)]) hx hb dX3_take_32 rfl hl (by decide) rfl (fun ls hl => ?_)
      refine lv_iload_n hx hb dX3_take_33 rfl (lv_at hl 0 rfl) ?_
      refine lv_iconst (v := (-1)) hx hb dX3_take_34 (by decide) ?_
      refine lv_icmp_eq (tgt := 45) hx hb dX3_take_35 (by decide) (fun hc => ?_) (fun hc => ?_)
      · have hF := if_t hc hF
        refine lv_iload_n hx hb dX3_take_45 rfl (lv_at hl 0 rfl) ?_
        refine lv_iconst (v := (-1)) hx hb dX3_take_46 (by decide) ?_
        obtain ⟨v7, hv, hF⟩ := be_some hF
        have hv := Option.some.inj hv
        refine dia (jpc := 55) (v1 := v7) (rest := []) (ls := ls) ?_ (fun kont => ?_)
        · skip
          exact endZ E hr hlocks hP hD hS dX3_take_55 hF
        · skip
          refine lv_icmp_eq (tgt := 54) hx hb dX3_take_47 (by decide) (fun hc => ?_) (fun hc => ?_)
          · have hv := if_t hc hv
            refine lv_iconst (v := 0) hx hb dX3_take_54 (by decide) ?_
            exact topE hv kont
          · have hv := if_f hc hv
            refine lv_iconst (v := 1) hx hb dX3_take_50 (by decide) ?_
            refine lv_goto (tgt := 55) hx hb dX3_take_51 (by decide) ?_
            exact topE hv kont
      · have hF := if_f hc hF
        refine lv_aload_n hx hb dX3_take_38 rfl (lv_at hl 1 rfl) ?_
        refine g_14_14 E hP dX3_take_39 ?_
        refine lv_iload_n hx hb dX3_take_42 rfl (lv_at hl 3 rfl) ?_
        refine lv_iload_n hx hb dX3_take_43 rfl (lv_at hl 0 rfl) ?_
        obtain ⟨hi8, hF⟩ := gd_some hF
        refine sa_23 E hP hD hS hi8 dX3_take_44 (fun H locs hP hD hS => ?_)
        refine lv_iload_n hx hb dX3_take_45 rfl (lv_at hl 0 rfl) ?_
        refine lv_iconst (v := (-1)) hx hb dX3_take_46 (by decide) ?_
        obtain ⟨v9, hv, hF⟩ := be_some hF
        have hv := Option.some.inj hv
        refine dia (jpc := 55) (v1 := v9) (rest := []) (ls := ls) ?_ (fun kont => ?_)
        · skip
          exact endZ E hr hlocks hP hD hS dX3_take_55 hF
        · skip
          refine lv_icmp_eq (tgt := 54) hx hb dX3_take_47 (by decide) (fun hc => ?_) (fun hc => ?_)
          · have hv := if_t hc hv
            refine lv_iconst (v := 0) hx hb dX3_take_54 (by decide) ?_
            exact topE hv kont
          · have hv := if_f hc hv
            refine lv_iconst (v := 1) hx hb dX3_take_50 (by decide) ?_
            refine lv_goto (tgt := 55) hx hb dX3_take_51 (by decide) ?_
            exact topE hv kont
    · have hF := if_f hc hF
      refine lv_iconst (v := (-1)) hx hb dX3_take_23 (by decide) ?_
      refine lv_goto (tgt := 32) hx hb dX3_take_24 (by decide) ?_
      refine lv_istore_n (lv' := [(3, .int (-1 : Int32)), (0, .ref (h 14)), (1, .int x1), (2, .int x2)]) hx hb dX3_take_32 rfl hl (by decide) rfl (fun ls hl => ?_)
      refine lv_iload_n hx hb dX3_take_33 rfl (lv_at hl 0 rfl) ?_
      refine lv_iconst (v := (-1)) hx hb dX3_take_34 (by decide) ?_
      refine lv_icmp_eq (tgt := 45) hx hb dX3_take_35 (by decide) (fun hc => ?_) (fun hc => ?_)
      · have hF := if_t hc hF
        refine lv_iload_n hx hb dX3_take_45 rfl (lv_at hl 0 rfl) ?_
        refine lv_iconst (v := (-1)) hx hb dX3_take_46 (by decide) ?_
        obtain ⟨v10, hv, hF⟩ := be_some hF
        have hv := Option.some.inj hv
        refine dia (jpc := 55) (v1 := v10) (rest := []) (ls := ls) ?_ (fun kont => ?_)
        · skip
          exact endZ E hr hlocks hP hD hS dX3_take_55 hF
        · skip
          refine lv_icmp_eq (tgt := 54) hx hb dX3_take_47 (by decide) (fun hc => ?_) (fun hc => ?_)
          · have hv := if_t hc hv
            refine lv_iconst (v := 0) hx hb dX3_take_54 (by decide) ?_
            exact topE hv kont
          · have hv := if_f hc hv
            refine lv_iconst (v := 1) hx hb dX3_take_50 (by decide) ?_
            refine lv_goto (tgt := 55) hx hb dX3_take_51 (by decide) ?_
            exact topE hv kont
      · have hF := if_f hc hF
        refine lv_aload_n hx hb dX3_take_38 rfl (lv_at hl 1 rfl) ?_
        refine g_14_14 E hP dX3_take_39 ?_
        refine lv_iload_n hx hb dX3_take_42 rfl (lv_at hl 3 rfl) ?_
        refine lv_iload_n hx hb dX3_take_43 rfl (lv_at hl 0 rfl) ?_
        obtain ⟨hi11, hF⟩ := gd_some hF
        refine sa_23 E hP hD hS hi11 dX3_take_44 (fun H locs hP hD hS => ?_)
        refine lv_iload_n hx hb dX3_take_45 rfl (lv_at hl 0 rfl) ?_
        refine lv_iconst (v := (-1)) hx hb dX3_take_46 (by decide) ?_
        obtain ⟨v12, hv, hF⟩ := be_some hF
        have hv := Option.some.inj hv
        refine dia (jpc := 55) (v1 := v12) (rest := []) (ls := ls) ?_ (fun kont => ?_)
        · skip
          exact endZ E hr hlocks hP hD hS dX3_take_55 hF
        · skip
          refine lv_icmp_eq (tgt := 54) hx hb dX3_take_47 (by decide) (fun hc => ?_) (fun hc => ?_)
          · have hv := if_t hc hv
            refine lv_iconst (v := 0) hx hb dX3_take_54 (by decide) ?_
            exact topE hv kont
          · have hv := if_f hc hv
            refine lv_iconst (v := 1) hx hb dX3_take_50 (by decide) ?_
            refine lv_goto (tgt := 55) hx hb dX3_take_51 (by decide) ?_
            exact topE hv kont
  · have hF := if_t hc hF
    refine lv_aload_n hx hb dX3_take_12 rfl (lv_at hl 0 rfl) ?_
    refine lv_iconst (v := 1) hx hb dX3_take_13 (by decide) ?_
    refine s_14_0 E hP hD hS dX3_take_14 (fun H locs hP hD hS => ?_)
    refine lv_iconst (v := 0) hx hb dX3_take_17 (by decide) ?_
    exact endZ0 E hr hlocks hP hD hS dX3_take_18 rfl hF
-- LooseHeapModel.root
def FX3_root (n : Nat) (x1 : Int32) (st : St) : Option (Int32 × St) := bd (FX3_isRoot n x1 (pt st 14 0 (0 : Int32))) (fun r1 u2 => (if r1 = 0 then some ((-1 : Int32), u2) else gd x1 32 (bd (FX3_addressOf n (u2.1 23 x1.toNatClampNeg) u2) (fun r5 u6 => some (r5, u6)))))
set_option maxHeartbeats 4000000 in
set_option maxRecDepth 100000 in
theorem kX3_root (l : Launch) (D : va_G) (h : Nat → Nat) (cI cJ cZ : ClassId) (n : Nat) (x1 : Int32) (st : St) (r : Int32) (u : St) (hF : FX3_root n x1 st = some (r, u)) : Ci l yX3_root cX3_root 2 (some .int) 1 21 D (tyL cI cJ cZ) (wM h cI cJ cZ) st [.ref (h 14), .int x1] r u := by
  refine body_i (by decide +kernel) (Nat.le_of_ble_eq_true rfl) ?_
  intro p e s m below meth c A ls E hr hlocks hA hP hD hS hl
  have E : Env1 p s m _ c cX3_root 2 RX3 D (tyL cI cJ cZ) := E
  have hl : lv_has ls 2 [(0, .ref (h 14)), (1, .int x1)] := hl
  have hx := E.1.1
  have hb := E.1.2.1
  have hml := E.1.2.2.1
  unfold FX3_root at hF
  refine lv_aload_n hx hb dX3_root_0 rfl (lv_at hl 0 rfl) ?_
  refine lv_iconst (v := 0) hx hb dX3_root_1 (by decide) ?_
  refine s_14_0 E hP hD hS dX3_root_2 (fun H locs hP hD hS => ?_)
  refine lv_iload_n hx hb dX3_root_5 rfl (lv_at hl 1 rfl) ?_
  obtain ⟨r1, u2, hc3, hF⟩ := bd_some hF
  refine calls_i (rest := []) E hA hP hD hS hl.1 (kX3_isRoot l D h cI cJ cZ n x1 (pt st 14 0 (0 : Int32)) r1 u2 hc3) cw_X3_96 rfl rfl (Nat.le_of_ble_eq_true rfl) ⟨Nat.le_of_ble_eq_true rfl, Nat.le_of_ble_eq_true rfl⟩ ⟨Nat.zero_le _, Nat.zero_le _⟩ dX3_root_6 (fun H locs hP hD hS => ?_)
  refine lv_if_eq (tgt := 25) hx hb dX3_root_9 (by decide) (fun hc => ?_) (fun hc => ?_)
  · have hF := if_t hc hF
    refine lv_iconst (v := (-1)) hx hb dX3_root_25 (by decide) ?_
    exact endI E hr hlocks hP hD hS dX3_root_26 hF
  · have hF := if_f hc hF
    refine lv_aload_n hx hb dX3_root_12 rfl (lv_at hl 0 rfl) ?_
    refine lv_aload_n hx hb dX3_root_13 rfl (lv_at hl 0 rfl) ?_
    refine g_14_14 E hP dX3_root_14 ?_
    refine lv_iload_n hx hb dX3_root_17 rfl (lv_at hl 1 rfl) ?_
    obtain ⟨hi4, hF⟩ := gd_some hF
    refine la_23 E hP hi4 dX3_root_18 ?_
    obtain ⟨r5, u6, hc7, hF⟩ := bd_some hF
    refine call_i (rest := []) E hA hP hD hS hl.1 (kX3_addressOf l D h cI cJ cZ n (u2.1 23 x1.toNatClampNeg) u2 r5 u6 hc7) cw_X3_151 0 rfl rfl rfl rfl rfl (Nat.le_of_ble_eq_true rfl) ⟨Nat.le_of_ble_eq_true rfl, Nat.le_of_ble_eq_true rfl⟩ ⟨Nat.zero_le _, Nat.zero_le _⟩ dX3_root_19 (fun H locs hP hD hS => ?_)
    refine lv_goto (tgt := 26) hx hb dX3_root_22 (by decide) ?_
    exact endI E hr hlocks hP hD hS dX3_root_26 hF
-- LooseHeapModel.word
def LX3_word_7 : Nat → Int32 → Int32 → St → Option (Int32 × St)
  | 0 => fun _ _ _ => none
  | n + 1 => fun x1 x2 st => (if (st.1 14 7) ≤ x2 then some ((0 : Int32), st) else gd x2 4200 ((if x1 < 0 then LX3_word_7 n x1 (x2 + (1 : Int32)) st else (if (x1 - (st.1 18 x2.toNatClampNeg)) < 0 then LX3_word_7 n x1 (x2 + (1 : Int32)) st else bd (FX3_sizeOf n x2 st) (fun r2 u3 => (if (x1 - (st.1 18 x2.toNatClampNeg)) < r2 then (if (x1 - (st.1 18 x2.toNatClampNeg)) = 0 then gd x2 4200 (gd x2 4200 (some ((((256 : Int32) * (u3.1 19 x2.toNatClampNeg)) + (u3.1 20 x2.toNatClampNeg)), u3))) else gd x2 4200 (gd (((u3.1 21 x2.toNatClampNeg) + (x1 - (st.1 18 x2.toNatClampNeg))) - (1 : Int32)) 9000 (gd x2 4200 ((if (u3.1 19 x2.toNatClampNeg) < (x1 - (st.1 18 x2.toNatClampNeg)) then some ((u3.1 22 (((u3.1 21 x2.toNatClampNeg) + (x1 - (st.1 18 x2.toNatClampNeg))) - (1 : Int32)).toNatClampNeg), u3) else bd (FX3_addressOf n (u3.1 22 (((u3.1 21 x2.toNatClampNeg) + (x1 - (st.1 18 x2.toNatClampNeg))) - (1 : Int32)).toNatClampNeg) u3) (fun r8 u9 => some (r8, u9))))))) else LX3_word_7 n x1 (x2 + (1 : Int32)) u3))))))
set_option maxHeartbeats 4000000 in
set_option maxRecDepth 100000 in
theorem lX3_word_7 {l : Launch} {D : va_G} {h : Nat → Nat} {cI cJ cZ : ClassId} {p : Program} {e : Env} {s : State} {m : MethodId} {args : Array Value} {below : List Frame} {meth : Method} {c : Code} {A : Nat → Prop} {r : Int32} {u : St} (E : Env1 p s m args c cX3_word 5 RX3 D (tyL cI cJ cZ)) (hr : meth.sig.returnType = some .int) (hlocks : meth.locks = false) (hA : ∀ q : Nat, s.heap.size ≤ q → A q) : ∀ (n : Nat) (x1 x2 : Int32) (st : St) (H : Heap) (locs : List Loc) (ls : Array Slot), va_P D vwCl (wM h cI cJ cZ st) H → va_D A (wM h cI cJ cZ st) → va_S A s.heap H locs → lv_has ls 5 [(0, .ref (h 14)), (1, .int x1), (2, .int x2)] → LX3_word_7 n x1 x2 st = some (r, u) → W p l e (rm 1 21) s m args below meth c H locs 0 0 (MQ below (CQ D (tyL cI cJ cZ) (wM h cI cJ cZ) A r u) args s 0 0 A) (F0 m 7 ls []) := by
  have hx := E.1.1
  have hb := E.1.2.1
  have hml := E.1.2.2.1
  intro n
  induction n with
  | zero => intro x1 x2 st H locs ls hP hD hS hl hF; simp only [LX3_word_7] at hF; cases hF
  | succ n ih =>
    intro x1 x2 st H locs ls hP hD hS hl hF
    simp only [LX3_word_7] at hF
    refine lv_iload_n hx hb dX3_word_7 rfl (lv_at hl 2 rfl) ?_
    refine lv_aload_n hx hb dX3_word_8 rfl (lv_at hl 0 rfl) ?_
    refine g_14_7 E hP dX3_word_9 ?_
    refine lv_icmp_ge (tgt := 111) hx hb dX3_word_12 (by decide) (fun hc => ?_) (fun hc => ?_)
    · have hF := if_t hc hF
      refine lv_iconst (v := 0) hx hb dX3_word_111 (by decide) ?_
      exact endI E hr hlocks hP hD hS dX3_word_112 hF
    · have hF := if_f hc hF
      refine lv_iload_n hx hb dX3_word_15 rfl (lv_at hl 1 rfl) ?_
      refine lv_aload_n hx hb dX3_word_16 rfl (lv_at hl 0 rfl) ?_
      refine g_14_8 E hP dX3_word_17 ?_
      refine lv_iload_n hx hb dX3_word_20 rfl (lv_at hl 2 rfl) ?_
      obtain ⟨hi1, hF⟩ := gd_some hF
      refine la_18 E hP hi1 dX3_word_21 ?_
      refine lv_isub hx hb dX3_word_22 ?_
      refine lv_istore_n (lv' := [(3, .int (x1 - (st.1 18 x2.toNatClampNeg))), (0, .ref (h 14)), (1, .int x1), (2, .int x2)]) hx hb dX3_word_23 rfl hl (by decide) rfl (fun ls hl => ?_)
      refine lv_iload_n hx hb dX3_word_24 rfl (lv_at hl 2 rfl) ?_
      refine lv_if_lt (tgt := 105) hx hb dX3_word_25 (by decide) (fun hc => ?_) (fun hc => ?_)
      · have hF := if_t hc hF
        refine lv_iinc (v := (x2 + (1 : Int32))) (lv' := [(2, .int (x2 + (1 : Int32))), (3, .int (x1 - (st.1 18 x2.toNatClampNeg))), (0, .ref (h 14)), (1, .int x1)]) hx hb dX3_word_105 hl (k := 3) rfl rfl (by decide) rfl (fun ls hl => ?_)
        refine lv_goto (tgt := 7) hx hb dX3_word_108 (by decide) ?_
        exact ih _ _ _ _ _ _ hP hD hS (lv_sub hl [2, 3, 0] rfl) hF
      · have hF := if_f hc hF
        refine lv_iload_n hx hb dX3_word_28 rfl (lv_at hl 0 rfl) ?_
        refine lv_if_lt (tgt := 105) hx hb dX3_word_29 (by decide) (fun hc => ?_) (fun hc => ?_)
        · have hF := if_t hc hF
          refine lv_iinc (v := (x2 + (1 : Int32))) (lv' := [(2, .int (x2 + (1 : Int32))), (3, .int (x1 - (st.1 18 x2.toNatClampNeg))), (0, .ref (h 14)), (1, .int x1)]) hx hb dX3_word_105 hl (k := 3) rfl rfl (by decide) rfl (fun ls hl => ?_)
          refine lv_goto (tgt := 7) hx hb dX3_word_108 (by decide) ?_
          exact ih _ _ _ _ _ _ hP hD hS (lv_sub hl [2, 3, 0] rfl) hF
        · have hF := if_f hc hF
          refine lv_iload_n hx hb dX3_word_32 rfl (lv_at hl 0 rfl) ?_
          refine lv_aload_n hx hb dX3_word_33 rfl (lv_at hl 1 rfl) ?_
          refine lv_iload_n hx hb dX3_word_34 rfl (lv_at hl 3 rfl) ?_
          obtain ⟨r2, u3, hc4, hF⟩ := bd_some hF
          refine call_i (rest := [.int (x1 - (st.1 18 x2.toNatClampNeg))]) E hA hP hD hS hl.1 (kX3_sizeOf l D h cI cJ cZ n x2 st r2 u3 hc4) cw_X3_82 0 rfl rfl rfl rfl rfl (Nat.le_of_ble_eq_true rfl) ⟨Nat.le_of_ble_eq_true rfl, Nat.le_of_ble_eq_true rfl⟩ ⟨Nat.zero_le _, Nat.zero_le _⟩ dX3_word_35 (fun H locs hP hD hS => ?_)
          refine lv_icmp_lt (tgt := 44) hx hb dX3_word_38 (by decide) (fun hc => ?_) (fun hc => ?_)
          · have hF := if_t hc hF
            refine lv_iload_n hx hb dX3_word_44 rfl (lv_at hl 0 rfl) ?_
            refine lv_if_ne (tgt := 66) hx hb dX3_word_45 (by decide) (fun hc => ?_) (fun hc => ?_)
            · have hF := if_f hc hF
              refine lv_aload_n hx hb dX3_word_66 rfl (lv_at hl 1 rfl) ?_
              refine g_14_12 E hP dX3_word_67 ?_
              refine lv_aload_n hx hb dX3_word_70 rfl (lv_at hl 1 rfl) ?_
              refine g_14_11 E hP dX3_word_71 ?_
              refine lv_iload_n hx hb dX3_word_74 rfl (lv_at hl 3 rfl) ?_
              obtain ⟨hi5, hF⟩ := gd_some hF
              refine la_21 E hP hi5 dX3_word_75 ?_
              refine lv_iload_n hx hb dX3_word_76 rfl (lv_at hl 0 rfl) ?_
              refine lv_iadd hx hb dX3_word_77 ?_
              refine lv_iconst (v := 1) hx hb dX3_word_78 (by decide) ?_
              refine lv_isub hx hb dX3_word_79 ?_
              obtain ⟨hi6, hF⟩ := gd_some hF
              refine la_22 E hP hi6 dX3_word_80 ?_
              refine lv_istore (lv' := [(4, .int (u3.1 22 (((u3.1 21 x2.toNatClampNeg) + (x1 - (st.1 18 x2.toNatClampNeg))) - (1 : Int32)).toNatClampNeg)), (3, .int (x1 - (st.1 18 x2.toNatClampNeg))), (0, .ref (h 14)), (1, .int x1), (2, .int x2)]) hx hb dX3_word_81 hl (by decide) rfl (fun ls hl => ?_)
              refine lv_iload_n hx hb dX3_word_83 rfl (lv_at hl 1 rfl) ?_
              refine lv_aload_n hx hb dX3_word_84 rfl (lv_at hl 2 rfl) ?_
              refine g_14_9 E hP dX3_word_85 ?_
              refine lv_iload_n hx hb dX3_word_88 rfl (lv_at hl 4 rfl) ?_
              obtain ⟨hi7, hF⟩ := gd_some hF
              refine la_19 E hP hi7 dX3_word_89 ?_
              refine lv_icmp_gt (tgt := 102) hx hb dX3_word_90 (by decide) (fun hc => ?_) (fun hc => ?_)
              · have hF := if_t hc hF
                refine lv_iload hx hb dX3_word_102 (lv_at hl 0 rfl) ?_
                exact endI E hr hlocks hP hD hS dX3_word_104 hF
              · have hF := if_f hc hF
                refine lv_aload_n hx hb dX3_word_93 rfl (lv_at hl 2 rfl) ?_
                refine lv_iload hx hb dX3_word_94 (lv_at hl 0 rfl) ?_
                obtain ⟨r8, u9, hc10, hF⟩ := bd_some hF
                refine call_i (rest := []) E hA hP hD hS hl.1 (kX3_addressOf l D h cI cJ cZ n (u3.1 22 (((u3.1 21 x2.toNatClampNeg) + (x1 - (st.1 18 x2.toNatClampNeg))) - (1 : Int32)).toNatClampNeg) u3 r8 u9 hc10) cw_X3_151 0 rfl rfl rfl rfl rfl (Nat.le_of_ble_eq_true rfl) ⟨Nat.le_of_ble_eq_true rfl, Nat.le_of_ble_eq_true rfl⟩ ⟨Nat.zero_le _, Nat.zero_le _⟩ dX3_word_96 (fun H locs hP hD hS => ?_)
                refine lv_goto (tgt := 104) hx hb dX3_word_99 (by decide) ?_
                exact endI E hr hlocks hP hD hS dX3_word_104 hF
            · have hF := if_t hc hF
              refine lv_sipush (v := 256) hx hb dX3_word_48 (by decide) ?_
              refine lv_aload_n hx hb dX3_word_51 rfl (lv_at hl 1 rfl) ?_
              refine g_14_9 E hP dX3_word_52 ?_
              refine lv_iload_n hx hb dX3_word_55 rfl (lv_at hl 3 rfl) ?_
              obtain ⟨hi11, hF⟩ := gd_some hF
              refine la_19 E hP hi11 dX3_word_56 ?_
              refine lv_imul hx hb dX3_word_57 ?_
              refine lv_aload_n hx hb dX3_word_58 rfl (lv_at hl 1 rfl) ?_
              refine g_14_10 E hP dX3_word_59 ?_
              refine lv_iload_n hx hb dX3_word_62 rfl (lv_at hl 3 rfl) ?_
              obtain ⟨hi12, hF⟩ := gd_some hF
              refine la_20 E hP hi12 dX3_word_63 ?_
              refine lv_iadd hx hb dX3_word_64 ?_
              exact endI E hr hlocks hP hD hS dX3_word_65 hF
          · have hF := if_f hc hF
            refine lv_goto (tgt := 105) hx hb dX3_word_41 (by decide) ?_
            refine lv_iinc (v := (x2 + (1 : Int32))) (lv' := [(2, .int (x2 + (1 : Int32))), (3, .int (x1 - (st.1 18 x2.toNatClampNeg))), (0, .ref (h 14)), (1, .int x1)]) hx hb dX3_word_105 hl (k := 3) rfl rfl (by decide) rfl (fun ls hl => ?_)
            refine lv_goto (tgt := 7) hx hb dX3_word_108 (by decide) ?_
            exact ih _ _ _ _ _ _ hP hD hS (lv_sub hl [2, 3, 0] rfl) hF
def FX3_word (n : Nat) (x1 : Int32) (st : St) : Option (Int32 × St) := LX3_word_7 n x1 (0 : Int32) (pt st 14 0 (0 : Int32))
set_option maxHeartbeats 4000000 in
set_option maxRecDepth 100000 in
theorem kX3_word (l : Launch) (D : va_G) (h : Nat → Nat) (cI cJ cZ : ClassId) (n : Nat) (x1 : Int32) (st : St) (r : Int32) (u : St) (hF : FX3_word n x1 st = some (r, u)) : Ci l yX3_word cX3_word 5 (some .int) 1 21 D (tyL cI cJ cZ) (wM h cI cJ cZ) st [.ref (h 14), .int x1] r u := by
  refine body_i (by decide +kernel) (Nat.le_of_ble_eq_true rfl) ?_
  intro p e s m below meth c A ls E hr hlocks hA hP hD hS hl
  have E : Env1 p s m _ c cX3_word 5 RX3 D (tyL cI cJ cZ) := E
  have hl : lv_has ls 5 [(0, .ref (h 14)), (1, .int x1)] := hl
  have hx := E.1.1
  have hb := E.1.2.1
  have hml := E.1.2.2.1
  unfold FX3_word at hF
  refine lv_aload_n hx hb dX3_word_0 rfl (lv_at hl 0 rfl) ?_
  refine lv_iconst (v := 0) hx hb dX3_word_1 (by decide) ?_
  refine s_14_0 E hP hD hS dX3_word_2 (fun H locs hP hD hS => ?_)
  refine lv_iconst (v := 0) hx hb dX3_word_5 (by decide) ?_
  refine lv_istore_n (lv' := [(2, .int (0 : Int32)), (0, .ref (h 14)), (1, .int x1)]) hx hb dX3_word_6 rfl hl (by decide) rfl (fun ls hl => ?_)
  exact lX3_word_7 E hr hlocks hA n x1 (0 : Int32) (pt st 14 0 (0 : Int32)) _ _ _ hP hD hS (lv_sub hl [1, 2, 0] rfl) hF
-- LooseHeapModel.object
def FX3_object (n : Nat) (x1 x2 : Int32) (st : St) : Option (Int32 × St) := (if 0 ≤ x1 then bd (FX3_at n x1 (pt st 14 0 (0 : Int32))) (fun r1 u2 => (if r1 = (-1 : Int32) then some ((-1 : Int32), u2) else (if x2 = 0 then gd r1 4200 (some ((u2.1 19 r1.toNatClampNeg), u2)) else (if x2 = (1 : Int32) then gd r1 4200 (some ((u2.1 20 r1.toNatClampNeg), u2)) else (if x2 = (2 : Int32) then bd (FX3_sizeOf n r1 u2) (fun r4 u5 => some (r4, u5)) else some ((-1 : Int32), u2)))))) else (if (-1 : Int32) = (-1 : Int32) then some ((-1 : Int32), (pt st 14 0 (0 : Int32))) else (if x2 = 0 then gd (-1 : Int32) 4200 (some (((pt st 14 0 (0 : Int32)).1 19 (-1 : Int32).toNatClampNeg), (pt st 14 0 (0 : Int32)))) else (if x2 = (1 : Int32) then gd (-1 : Int32) 4200 (some (((pt st 14 0 (0 : Int32)).1 20 (-1 : Int32).toNatClampNeg), (pt st 14 0 (0 : Int32)))) else (if x2 = (2 : Int32) then bd (FX3_sizeOf n (-1 : Int32) (pt st 14 0 (0 : Int32))) (fun r9 u10 => some (r9, u10)) else some ((-1 : Int32), (pt st 14 0 (0 : Int32))))))))
set_option maxHeartbeats 4000000 in
set_option maxRecDepth 100000 in
theorem kX3_object (l : Launch) (D : va_G) (h : Nat → Nat) (cI cJ cZ : ClassId) (n : Nat) (x1 x2 : Int32) (st : St) (r : Int32) (u : St) (hF : FX3_object n x1 x2 st = some (r, u)) : Ci l yX3_object cX3_object 4 (some .int) 1 22 D (tyL cI cJ cZ) (wM h cI cJ cZ) st [.ref (h 14), .int x1, .int x2] r u := by
  refine body_i (by decide +kernel) (Nat.le_of_ble_eq_true rfl) ?_
  intro p e s m below meth c A ls E hr hlocks hA hP hD hS hl
  have E : Env1 p s m _ c cX3_object 4 RX3 D (tyL cI cJ cZ) := E
  have hl : lv_has ls 4 [(0, .ref (h 14)), (1, .int x1), (2, .int x2)] := hl
  have hx := E.1.1
  have hb := E.1.2.1
  have hml := E.1.2.2.1
  unfold FX3_object at hF
  refine lv_aload_n hx hb dX3_object_0 rfl (lv_at hl 0 rfl) ?_
  refine lv_iconst (v := 0) hx hb dX3_object_1 (by decide) ?_
  refine s_14_0 E hP hD hS dX3_object_2 (fun H locs hP hD hS => ?_)
  refine lv_iload_n hx hb dX3_object_5 rfl (lv_at hl 1 rfl) ?_
  refine lv_if_ge (tgt := 13) hx hb dX3_object_6 (by decide) (fun hc => ?_) (fun hc => ?_)
  · have hF := if_t hc hF
    refine lv_aload_n hx hb dX3_object_13 rfl (lv_at hl 0 rfl) ?_
    refine lv_iload_n hx hb dX3_object_14 rfl (lv_at hl 1 rfl) ?_
    obtain ⟨r1, u2, hc3, hF⟩ := bd_some hF
    refine call_i (rest := []) E hA hP hD hS hl.1 (kX3_at l D h cI cJ cZ n x1 (pt st 14 0 (0 : Int32)) r1 u2 hc3) cw_X3_135 0 rfl rfl rfl rfl rfl (Nat.le_of_ble_eq_true rfl) ⟨Nat.le_of_ble_eq_true rfl, Nat.le_of_ble_eq_true rfl⟩ ⟨Nat.zero_le _, Nat.zero_le _⟩ dX3_object_15 (fun H locs hP hD hS => ?_)
    refine lv_istore_n (lv' := [(3, .int r1), (0, .ref (h 14)), (1, .int x1), (2, .int x2)]) hx hb dX3_object_18 rfl hl (by decide) rfl (fun ls hl => ?_)
    refine lv_iload_n hx hb dX3_object_19 rfl (lv_at hl 0 rfl) ?_
    refine lv_iconst (v := (-1)) hx hb dX3_object_20 (by decide) ?_
    refine lv_icmp_ne (tgt := 26) hx hb dX3_object_21 (by decide) (fun hc => ?_) (fun hc => ?_)
    · have hF := if_f hc hF
      refine lv_iload_n hx hb dX3_object_26 rfl (lv_at hl 3 rfl) ?_
      refine lv_if_ne (tgt := 39) hx hb dX3_object_27 (by decide) (fun hc => ?_) (fun hc => ?_)
      · have hF := if_f hc hF
        refine lv_iload_n hx hb dX3_object_39 rfl (lv_at hl 3 rfl) ?_
        refine lv_iconst (v := 1) hx hb dX3_object_40 (by decide) ?_
        refine lv_icmp_ne (tgt := 53) hx hb dX3_object_41 (by decide) (fun hc => ?_) (fun hc => ?_)
        · have hF := if_f hc hF
          refine lv_iload_n hx hb dX3_object_53 rfl (lv_at hl 3 rfl) ?_
          refine lv_iconst (v := 2) hx hb dX3_object_54 (by decide) ?_
          refine lv_icmp_ne (tgt := 66) hx hb dX3_object_55 (by decide) (fun hc => ?_) (fun hc => ?_)
          · have hF := if_f hc hF
            refine lv_iconst (v := (-1)) hx hb dX3_object_66 (by decide) ?_
            exact endI E hr hlocks hP hD hS dX3_object_67 hF
          · have hF := if_t hc hF
            refine lv_aload_n hx hb dX3_object_58 rfl (lv_at hl 1 rfl) ?_
            refine lv_iload_n hx hb dX3_object_59 rfl (lv_at hl 0 rfl) ?_
            obtain ⟨r4, u5, hc6, hF⟩ := bd_some hF
            refine call_i (rest := []) E hA hP hD hS hl.1 (kX3_sizeOf l D h cI cJ cZ n r1 u2 r4 u5 hc6) cw_X3_82 0 rfl rfl rfl rfl rfl (Nat.le_of_ble_eq_true rfl) ⟨Nat.le_of_ble_eq_true rfl, Nat.le_of_ble_eq_true rfl⟩ ⟨Nat.zero_le _, Nat.zero_le _⟩ dX3_object_60 (fun H locs hP hD hS => ?_)
            refine lv_goto (tgt := 67) hx hb dX3_object_63 (by decide) ?_
            exact endI E hr hlocks hP hD hS dX3_object_67 hF
        · have hF := if_t hc hF
          refine lv_aload_n hx hb dX3_object_44 rfl (lv_at hl 1 rfl) ?_
          refine g_14_10 E hP dX3_object_45 ?_
          refine lv_iload_n hx hb dX3_object_48 rfl (lv_at hl 0 rfl) ?_
          obtain ⟨hi7, hF⟩ := gd_some hF
          refine la_20 E hP hi7 dX3_object_49 ?_
          refine lv_goto (tgt := 67) hx hb dX3_object_50 (by decide) ?_
          exact endI E hr hlocks hP hD hS dX3_object_67 hF
      · have hF := if_t hc hF
        refine lv_aload_n hx hb dX3_object_30 rfl (lv_at hl 1 rfl) ?_
        refine g_14_9 E hP dX3_object_31 ?_
        refine lv_iload_n hx hb dX3_object_34 rfl (lv_at hl 0 rfl) ?_
        obtain ⟨hi8, hF⟩ := gd_some hF
        refine la_19 E hP hi8 dX3_object_35 ?_
        refine lv_goto (tgt := 67) hx hb dX3_object_36 (by decide) ?_
        exact endI E hr hlocks hP hD hS dX3_object_67 hF
    · have hF := if_t hc hF
      refine lv_iconst (v := (-1)) hx hb dX3_object_24 (by decide) ?_
      exact endI E hr hlocks hP hD hS dX3_object_25 hF
  · have hF := if_f hc hF
    refine lv_iconst (v := (-1)) hx hb dX3_object_9 (by decide) ?_
    refine lv_goto (tgt := 18) hx hb dX3_object_10 (by decide) ?_
    refine lv_istore_n (lv' := [(3, .int (-1 : Int32)), (0, .ref (h 14)), (1, .int x1), (2, .int x2)]) hx hb dX3_object_18 rfl hl (by decide) rfl (fun ls hl => ?_)
    refine lv_iload_n hx hb dX3_object_19 rfl (lv_at hl 0 rfl) ?_
    refine lv_iconst (v := (-1)) hx hb dX3_object_20 (by decide) ?_
    refine lv_icmp_ne (tgt := 26) hx hb dX3_object_21 (by decide) (fun hc => ?_) (fun hc => ?_)
    · have hF := if_f hc hF
      refine lv_iload_n hx hb dX3_object_26 rfl (lv_at hl 3 rfl) ?_
      refine lv_if_ne (tgt := 39) hx hb dX3_object_27 (by decide) (fun hc => ?_) (fun hc => ?_)
      · have hF := if_f hc hF
        refine lv_iload_n hx hb dX3_object_39 rfl (lv_at hl 3 rfl) ?_
        refine lv_iconst (v := 1) hx hb dX3_object_40 (by decide) ?_
        refine lv_icmp_ne (tgt := 53) hx hb dX3_object_41 (by decide) (fun hc => ?_) (fun hc => ?_)
        · have hF := if_f hc hF
          refine lv_iload_n hx hb dX3_object_53 rfl (lv_at hl 3 rfl) ?_
          refine lv_iconst (v := 2) hx hb dX3_object_54 (by decide) ?_
          refine lv_icmp_ne (tgt := 66) hx hb dX3_object_55 (by decide) (fun hc => ?_) (fun hc => ?_)
          · have hF := if_f hc hF
            refine lv_iconst (v := (-1)) hx hb dX3_object_66 (by decide) ?_
            exact endI E hr hlocks hP hD hS dX3_object_67 hF
          · have hF := if_t hc hF
            refine lv_aload_n hx hb dX3_object_58 rfl (lv_at hl 1 rfl) ?_
            refine lv_iload_n hx hb dX3_object_59 rfl (lv_at hl 0 rfl) ?_
            obtain ⟨r9, u10, hc11, hF⟩ := bd_some hF
            refine call_i (rest := []) E hA hP hD hS hl.1 (kX3_sizeOf l D h cI cJ cZ n (-1 : Int32) (pt st 14 0 (0 : Int32)) r9 u10 hc11) cw_X3_82 0 rfl rfl rfl rfl rfl (Nat.le_of_ble_eq_true rfl) ⟨Nat.le_of_ble_eq_true rfl, Nat.le_of_ble_eq_true rfl⟩ ⟨Nat.zero_le _, Nat.zero_le _⟩ dX3_object_60 (fun H locs hP hD hS => ?_)
            refine lv_goto (tgt := 67) hx hb dX3_object_63 (by decide) ?_
            exact endI E hr hlocks hP hD hS dX3_object_67 hF
        · have hF := if_t hc hF
          refine lv_aload_n hx hb dX3_object_44 rfl (lv_at hl 1 rfl) ?_
          refine g_14_10 E hP dX3_object_45 ?_
          refine lv_iload_n hx hb dX3_object_48 rfl (lv_at hl 0 rfl) ?_
          obtain ⟨hi12, hF⟩ := gd_some hF
          refine la_20 E hP hi12 dX3_object_49 ?_
          refine lv_goto (tgt := 67) hx hb dX3_object_50 (by decide) ?_
          exact endI E hr hlocks hP hD hS dX3_object_67 hF
      · have hF := if_t hc hF
        refine lv_aload_n hx hb dX3_object_30 rfl (lv_at hl 1 rfl) ?_
        refine g_14_9 E hP dX3_object_31 ?_
        refine lv_iload_n hx hb dX3_object_34 rfl (lv_at hl 0 rfl) ?_
        obtain ⟨hi13, hF⟩ := gd_some hF
        refine la_19 E hP hi13 dX3_object_35 ?_
        refine lv_goto (tgt := 67) hx hb dX3_object_36 (by decide) ?_
        exact endI E hr hlocks hP hD hS dX3_object_67 hF
    · have hF := if_t hc hF
      refine lv_iconst (v := (-1)) hx hb dX3_object_24 (by decide) ?_
      exact endI E hr hlocks hP hD hS dX3_object_25 hF
-- LooseHeapModel.beginningIn
def LX3_beginningIn_4 : Nat → Int32 → Int32 → Int32 → St → Option (Int32 × St)
  | 0 => fun _ _ _ _ => none
  | n + 1 => fun x1 x2 x3 st => (if (st.1 14 7) ≤ x3 then some (x2, st) else gd x3 4200 (dz (st.1 14 2) ((if ((st.1 18 x3.toNatClampNeg) / (st.1 14 2)) = x1 then LX3_beginningIn_4 n x1 (x2 + (1 : Int32)) (x3 + (1 : Int32)) st else LX3_beginningIn_4 n x1 (x2 + (0 : Int32)) (x3 + (1 : Int32)) st))))
set_option maxHeartbeats 4000000 in
set_option maxRecDepth 100000 in
theorem lX3_beginningIn_4 {l : Launch} {D : va_G} {h : Nat → Nat} {cI cJ cZ : ClassId} {p : Program} {e : Env} {s : State} {m : MethodId} {args : Array Value} {below : List Frame} {meth : Method} {c : Code} {A : Nat → Prop} {r : Int32} {u : St} (E : Env1 p s m args c cX3_beginningIn 4 RX3 D (tyL cI cJ cZ)) (hr : meth.sig.returnType = some .int) (hlocks : meth.locks = false) (hA : ∀ q : Nat, s.heap.size ≤ q → A q) : ∀ (n : Nat) (x1 x2 x3 : Int32) (st : St) (H : Heap) (locs : List Loc) (ls : Array Slot), va_P D vwCl (wM h cI cJ cZ st) H → va_D A (wM h cI cJ cZ st) → va_S A s.heap H locs → lv_has ls 4 [(0, .ref (h 14)), (1, .int x1), (2, .int x2), (3, .int x3)] → LX3_beginningIn_4 n x1 x2 x3 st = some (r, u) → W p l e (rm 0 0) s m args below meth c H locs 0 0 (MQ below (CQ D (tyL cI cJ cZ) (wM h cI cJ cZ) A r u) args s 0 0 A) (F0 m 4 ls []) := by
  have hx := E.1.1
  have hb := E.1.2.1
  have hml := E.1.2.2.1
  intro n
  induction n with
  | zero => intro x1 x2 x3 st H locs ls hP hD hS hl hF; simp only [LX3_beginningIn_4] at hF; cases hF
  | succ n ih =>
    intro x1 x2 x3 st H locs ls hP hD hS hl hF
    simp only [LX3_beginningIn_4] at hF
    refine lv_iload_n hx hb dX3_beginningIn_4 rfl (lv_at hl 3 rfl) ?_
    refine lv_aload_n hx hb dX3_beginningIn_5 rfl (lv_at hl 0 rfl) ?_
    refine g_14_7 E hP dX3_beginningIn_6 ?_
    refine lv_icmp_ge (tgt := 41) hx hb dX3_beginningIn_9 (by decide) (fun hc => ?_) (fun hc => ?_)
    · have hF := if_t hc hF
      refine lv_iload_n hx hb dX3_beginningIn_41 rfl (lv_at hl 2 rfl) ?_
      exact endI E hr hlocks hP hD hS dX3_beginningIn_42 hF
    · have hF := if_f hc hF
      refine lv_iload_n hx hb dX3_beginningIn_12 rfl (lv_at hl 2 rfl) ?_
      refine lv_aload_n hx hb dX3_beginningIn_13 rfl (lv_at hl 0 rfl) ?_
      refine g_14_8 E hP dX3_beginningIn_14 ?_
      refine lv_iload_n hx hb dX3_beginningIn_17 rfl (lv_at hl 3 rfl) ?_
      obtain ⟨hi1, hF⟩ := gd_some hF
      refine la_18 E hP hi1 dX3_beginningIn_18 ?_
      refine lv_aload_n hx hb dX3_beginningIn_19 rfl (lv_at hl 0 rfl) ?_
      refine g_14_2 E hP dX3_beginningIn_20 ?_
      obtain ⟨hz2, hF⟩ := dz_some hF
      refine lv_idiv hx hb dX3_beginningIn_23 hz2 ?_
      refine lv_iload_n hx hb dX3_beginningIn_24 rfl (lv_at hl 1 rfl) ?_
      refine lv_icmp_ne (tgt := 32) hx hb dX3_beginningIn_25 (by decide) (fun hc => ?_) (fun hc => ?_)
      · have hF := if_f hc hF
        refine lv_iconst (v := 0) hx hb dX3_beginningIn_32 (by decide) ?_
        refine lv_iadd hx hb dX3_beginningIn_33 ?_
        refine lv_istore_n (lv' := [(2, .int (x2 + (0 : Int32))), (0, .ref (h 14)), (1, .int x1), (3, .int x3)]) hx hb dX3_beginningIn_34 rfl hl (by decide) rfl (fun ls hl => ?_)
        refine lv_iinc (v := (x3 + (1 : Int32))) (lv' := [(3, .int (x3 + (1 : Int32))), (2, .int (x2 + (0 : Int32))), (0, .ref (h 14)), (1, .int x1)]) hx hb dX3_beginningIn_35 hl (k := 3) rfl rfl (by decide) rfl (fun ls hl => ?_)
        refine lv_goto (tgt := 4) hx hb dX3_beginningIn_38 (by decide) ?_
        exact ih _ _ _ _ _ _ _ hP hD hS (lv_sub hl [2, 3, 1, 0] rfl) hF
      · have hF := if_t hc hF
        refine lv_iconst (v := 1) hx hb dX3_beginningIn_28 (by decide) ?_
        refine lv_goto (tgt := 33) hx hb dX3_beginningIn_29 (by decide) ?_
        refine lv_iadd hx hb dX3_beginningIn_33 ?_
        refine lv_istore_n (lv' := [(2, .int (x2 + (1 : Int32))), (0, .ref (h 14)), (1, .int x1), (3, .int x3)]) hx hb dX3_beginningIn_34 rfl hl (by decide) rfl (fun ls hl => ?_)
        refine lv_iinc (v := (x3 + (1 : Int32))) (lv' := [(3, .int (x3 + (1 : Int32))), (2, .int (x2 + (1 : Int32))), (0, .ref (h 14)), (1, .int x1)]) hx hb dX3_beginningIn_35 hl (k := 3) rfl rfl (by decide) rfl (fun ls hl => ?_)
        refine lv_goto (tgt := 4) hx hb dX3_beginningIn_38 (by decide) ?_
        exact ih _ _ _ _ _ _ _ hP hD hS (lv_sub hl [2, 3, 1, 0] rfl) hF
def FX3_beginningIn (n : Nat) (x1 : Int32) (st : St) : Option (Int32 × St) := LX3_beginningIn_4 n x1 (0 : Int32) (0 : Int32) st
set_option maxHeartbeats 4000000 in
set_option maxRecDepth 100000 in
theorem kX3_beginningIn (l : Launch) (D : va_G) (h : Nat → Nat) (cI cJ cZ : ClassId) (n : Nat) (x1 : Int32) (st : St) (r : Int32) (u : St) (hF : FX3_beginningIn n x1 st = some (r, u)) : Ci l yX3_beginningIn cX3_beginningIn 4 (some .int) 0 0 D (tyL cI cJ cZ) (wM h cI cJ cZ) st [.ref (h 14), .int x1] r u := by
  refine body_i (by decide +kernel) (Nat.le_of_ble_eq_true rfl) ?_
  intro p e s m below meth c A ls E hr hlocks hA hP hD hS hl
  have E : Env1 p s m _ c cX3_beginningIn 4 RX3 D (tyL cI cJ cZ) := E
  have hl : lv_has ls 4 [(0, .ref (h 14)), (1, .int x1)] := hl
  have hx := E.1.1
  have hb := E.1.2.1
  have hml := E.1.2.2.1
  unfold FX3_beginningIn at hF
  refine lv_iconst (v := 0) hx hb dX3_beginningIn_0 (by decide) ?_
  refine lv_istore_n (lv' := [(2, .int (0 : Int32)), (0, .ref (h 14)), (1, .int x1)]) hx hb dX3_beginningIn_1 rfl hl (by decide) rfl (fun ls hl => ?_)
  refine lv_iconst (v := 0) hx hb dX3_beginningIn_2 (by decide) ?_
  refine lv_istore_n (lv' := [(3, .int (0 : Int32)), (2, .int (0 : Int32)), (0, .ref (h 14)), (1, .int x1)]) hx hb dX3_beginningIn_3 rfl hl (by decide) rfl (fun ls hl => ?_)
  exact lX3_beginningIn_4 E hr hlocks hA n x1 (0 : Int32) (0 : Int32) st _ _ _ hP hD hS (lv_sub hl [2, 3, 1, 0] rfl) hF
theorem cw_X3_157 : cwd RX3 157 RX3 yX3_beginningIn cX3_beginningIn 4 (some .int) 1 := ⟨tb_V (tb_in 900 (by decide +kernel) (by decide +kernel)) (tb_in 902 (by decide +kernel) (by decide +kernel)) (tb_in 43 (by decide +kernel) (by decide +kernel)) (tb_in 50 (by decide +kernel) (by decide +kernel)) (tb_in 903 (by decide +kernel) (by decide +kernel)), by decide +kernel⟩
-- LooseHeapModel.page
def FX3_page (n : Nat) (x1 x2 : Int32) (st : St) : Option (Int32 × St) := (if x1 < 0 then some ((-1 : Int32), (pt st 14 0 (0 : Int32))) else (if x1 < ((pt st 14 0 (0 : Int32)).1 14 1) then (if x2 = (0 : Int32) then gd x1 64 (some (((pt st 14 0 (0 : Int32)).1 15 x1.toNatClampNeg), (pt st 14 0 (0 : Int32)))) else (if x2 = (1 : Int32) then gd x1 64 (some (((pt st 14 0 (0 : Int32)).1 16 x1.toNatClampNeg), (pt st 14 0 (0 : Int32)))) else (if x2 = (2 : Int32) then bd (FX3_beginningIn n x1 (pt st 14 0 (0 : Int32))) (fun r3 u4 => some (r3, u4)) else (if x2 = (3 : Int32) then gd x1 64 (be (some ((if ((pt st 14 0 (0 : Int32)).1 17 x1.toNatClampNeg) = 0 then (0 : Int32) else (1 : Int32)))) (fun v7 => some (v7, (pt st 14 0 (0 : Int32))))) else some ((-1 : Int32), (pt st 14 0 (0 : Int32))))))) else some ((-1 : Int32), (pt st 14 0 (0 : Int32)))))
set_option maxHeartbeats 4000000 in
set_option maxRecDepth 100000 in
theorem kX3_page (l : Launch) (D : va_G) (h : Nat → Nat) (cI cJ cZ : ClassId) (n : Nat) (x1 x2 : Int32) (st : St) (r : Int32) (u : St) (hF : FX3_page n x1 x2 st = some (r, u)) : Ci l yX3_page cX3_page 3 (some .int) 1 23 D (tyL cI cJ cZ) (wM h cI cJ cZ) st [.ref (h 14), .int x1, .int x2] r u := by
  refine body_i (by decide +kernel) (Nat.le_of_ble_eq_true rfl) ?_
  intro p e s m below meth c A ls E hr hlocks hA hP hD hS hl
  have E : Env1 p s m _ c cX3_page 3 RX3 D (tyL cI cJ cZ) := E
  have hl : lv_has ls 3 [(0, .ref (h 14)), (1, .int x1), (2, .int x2)] := hl
  have hx := E.1.1
  have hb := E.1.2.1
  have hml := E.1.2.2.1
  unfold FX3_page at hF
  refine lv_aload_n hx hb dX3_page_0 rfl (lv_at hl 0 rfl) ?_
  refine lv_iconst (v := 0) hx hb dX3_page_1 (by decide) ?_
  refine s_14_0 E hP hD hS dX3_page_2 (fun H locs hP hD hS => ?_)
  refine lv_iload_n hx hb dX3_page_5 rfl (lv_at hl 1 rfl) ?_
  refine lv_if_lt (tgt := 17) hx hb dX3_page_6 (by decide) (fun hc => ?_) (fun hc => ?_)
  · have hF := if_t hc hF
    refine lv_iconst (v := (-1)) hx hb dX3_page_17 (by decide) ?_
    exact endI E hr hlocks hP hD hS dX3_page_18 hF
  · have hF := if_f hc hF
    refine lv_iload_n hx hb dX3_page_9 rfl (lv_at hl 1 rfl) ?_
    refine lv_aload_n hx hb dX3_page_10 rfl (lv_at hl 0 rfl) ?_
    refine g_14_1 E hP dX3_page_11 ?_
    refine lv_icmp_lt (tgt := 19) hx hb dX3_page_14 (by decide) (fun hc => ?_) (fun hc => ?_)
    · have hF := if_t hc hF
      refine lv_iload_n hx hb dX3_page_19 rfl (lv_at hl 2 rfl) ?_
      by_cases hk0 : x2 = (0 : Int32)
      · have hF := if_t hk0 hF
        refine lv_tableIn (tgt := 52) hx hb dX3_page_20 (by rw [hk0]; decide) (by rw [hk0]; decide) (by rw [hk0]; rfl) (by decide) ?_
        refine lv_aload_n hx hb dX3_page_52 rfl (lv_at hl 0 rfl) ?_
        refine g_14_3 E hP dX3_page_53 ?_
        refine lv_iload_n hx hb dX3_page_56 rfl (lv_at hl 1 rfl) ?_
        obtain ⟨hi1, hF⟩ := gd_some hF
        refine la_15 E hP hi1 dX3_page_57 ?_
        exact endI E hr hlocks hP hD hS dX3_page_58 hF
      have hF := if_f hk0 hF
      by_cases hk1 : x2 = (1 : Int32)
      · have hF := if_t hk1 hF
        refine lv_tableIn (tgt := 59) hx hb dX3_page_20 (by rw [hk1]; decide) (by rw [hk1]; decide) (by rw [hk1]; rfl) (by decide) ?_
        refine lv_aload_n hx hb dX3_page_59 rfl (lv_at hl 0 rfl) ?_
        refine g_14_4 E hP dX3_page_60 ?_
        refine lv_iload_n hx hb dX3_page_63 rfl (lv_at hl 1 rfl) ?_
        obtain ⟨hi2, hF⟩ := gd_some hF
        refine la_16 E hP hi2 dX3_page_64 ?_
        exact endI E hr hlocks hP hD hS dX3_page_65 hF
      have hF := if_f hk1 hF
      by_cases hk2 : x2 = (2 : Int32)
      · have hF := if_t hk2 hF
        refine lv_tableIn (tgt := 66) hx hb dX3_page_20 (by rw [hk2]; decide) (by rw [hk2]; decide) (by rw [hk2]; rfl) (by decide) ?_
        refine lv_aload_n hx hb dX3_page_66 rfl (lv_at hl 0 rfl) ?_
        refine lv_iload_n hx hb dX3_page_67 rfl (lv_at hl 1 rfl) ?_
        obtain ⟨r3, u4, hc5, hF⟩ := bd_some hF
        refine call_i (rest := []) E hA hP hD hS hl.1 (kX3_beginningIn l D h cI cJ cZ n x1 (pt st 14 0 (0 : Int32)) r3 u4 hc5) cw_X3_157 0 rfl rfl rfl rfl rfl (Nat.le_of_ble_eq_true rfl) ⟨Nat.le_of_ble_eq_true rfl, Nat.le_of_ble_eq_true rfl⟩ ⟨Nat.zero_le _, Nat.zero_le _⟩ dX3_page_68 (fun H locs hP hD hS => ?_)
        exact endI E hr hlocks hP hD hS dX3_page_71 hF
      have hF := if_f hk2 hF
      by_cases hk3 : x2 = (3 : Int32)
      · have hF := if_t hk3 hF
        refine lv_tableIn (tgt := 72) hx hb dX3_page_20 (by rw [hk3]; decide) (by rw [hk3]; decide) (by rw [hk3]; rfl) (by decide) ?_
        refine lv_aload_n hx hb dX3_page_72 rfl (lv_at hl 0 rfl) ?_
        refine g_14_5 E hP dX3_page_73 ?_
        refine lv_iload_n hx hb dX3_page_76 rfl (lv_at hl 1 rfl) ?_
        obtain ⟨hi6, hF⟩ := gd_some hF
        refine la_17 E hP hi6 dX3_page_77 ?_
        obtain ⟨v7, hv, hF⟩ := be_some hF
        have hv := Option.some.inj hv
        refine dia (jpc := 86) (v1 := v7) (rest := []) (ls := ls) ?_ (fun kont => ?_)
        · skip
          exact endI E hr hlocks hP hD hS dX3_page_86 hF
        · skip
          refine lv_if_eq (tgt := 85) hx hb dX3_page_78 (by decide) (fun hc => ?_) (fun hc => ?_)
          · have hv := if_t hc hv
            refine lv_iconst (v := 0) hx hb dX3_page_85 (by decide) ?_
            exact topE hv kont
          · have hv := if_f hc hv
            refine lv_iconst (v := 1) hx hb dX3_page_81 (by decide) ?_
            refine lv_goto (tgt := 86) hx hb dX3_page_82 (by decide) ?_
            exact topE hv kont
      have hF := if_f hk3 hF
      refine lv_tableOut (tgt := 87) hx hb dX3_page_20 (sw_out3 hk0 hk1 hk2 hk3) (by decide) ?_
      refine lv_iconst (v := (-1)) hx hb dX3_page_87 (by decide) ?_
      exact endI E hr hlocks hP hD hS dX3_page_88 hF
    · have hF := if_f hc hF
      refine lv_iconst (v := (-1)) hx hb dX3_page_17 (by decide) ?_
      exact endI E hr hlocks hP hD hS dX3_page_18 hF
-- LooseHeapModel.allWords
def LX3_allWords_4 : Nat → Int32 → Int32 → St → Option (Int32 × St)
  | 0 => fun _ _ _ => none
  | n + 1 => fun x1 x2 st => (if (st.1 14 7) ≤ x2 then some (x1, st) else bd (FX3_sizeOf n x2 st) (fun r1 u2 => LX3_allWords_4 n (x1 + r1) (x2 + (1 : Int32)) u2))
set_option maxHeartbeats 4000000 in
set_option maxRecDepth 100000 in
theorem lX3_allWords_4 {l : Launch} {D : va_G} {h : Nat → Nat} {cI cJ cZ : ClassId} {p : Program} {e : Env} {s : State} {m : MethodId} {args : Array Value} {below : List Frame} {meth : Method} {c : Code} {A : Nat → Prop} {r : Int32} {u : St} (E : Env1 p s m args c cX3_allWords 3 RX3 D (tyL cI cJ cZ)) (hr : meth.sig.returnType = some .int) (hlocks : meth.locks = false) (hA : ∀ q : Nat, s.heap.size ≤ q → A q) : ∀ (n : Nat) (x1 x2 : Int32) (st : St) (H : Heap) (locs : List Loc) (ls : Array Slot), va_P D vwCl (wM h cI cJ cZ st) H → va_D A (wM h cI cJ cZ st) → va_S A s.heap H locs → lv_has ls 3 [(0, .ref (h 14)), (1, .int x1), (2, .int x2)] → LX3_allWords_4 n x1 x2 st = some (r, u) → W p l e (rm 1 21) s m args below meth c H locs 0 0 (MQ below (CQ D (tyL cI cJ cZ) (wM h cI cJ cZ) A r u) args s 0 0 A) (F0 m 4 ls []) := by
  have hx := E.1.1
  have hb := E.1.2.1
  have hml := E.1.2.2.1
  intro n
  induction n with
  | zero => intro x1 x2 st H locs ls hP hD hS hl hF; simp only [LX3_allWords_4] at hF; cases hF
  | succ n ih =>
    intro x1 x2 st H locs ls hP hD hS hl hF
    simp only [LX3_allWords_4] at hF
    refine lv_iload_n hx hb dX3_allWords_4 rfl (lv_at hl 2 rfl) ?_
    refine lv_aload_n hx hb dX3_allWords_5 rfl (lv_at hl 0 rfl) ?_
    refine g_14_7 E hP dX3_allWords_6 ?_
    refine lv_icmp_ge (tgt := 26) hx hb dX3_allWords_9 (by decide) (fun hc => ?_) (fun hc => ?_)
    · have hF := if_t hc hF
      refine lv_iload_n hx hb dX3_allWords_26 rfl (lv_at hl 1 rfl) ?_
      exact endI E hr hlocks hP hD hS dX3_allWords_27 hF
    · have hF := if_f hc hF
      refine lv_iload_n hx hb dX3_allWords_12 rfl (lv_at hl 1 rfl) ?_
      refine lv_aload_n hx hb dX3_allWords_13 rfl (lv_at hl 0 rfl) ?_
      refine lv_iload_n hx hb dX3_allWords_14 rfl (lv_at hl 2 rfl) ?_
      obtain ⟨r1, u2, hc3, hF⟩ := bd_some hF
      refine call_i (rest := [.int x1]) E hA hP hD hS hl.1 (kX3_sizeOf l D h cI cJ cZ n x2 st r1 u2 hc3) cw_X3_82 0 rfl rfl rfl rfl rfl (Nat.le_of_ble_eq_true rfl) ⟨Nat.le_of_ble_eq_true rfl, Nat.le_of_ble_eq_true rfl⟩ ⟨Nat.zero_le _, Nat.zero_le _⟩ dX3_allWords_15 (fun H locs hP hD hS => ?_)
      refine lv_iadd hx hb dX3_allWords_18 ?_
      refine lv_istore_n (lv' := [(1, .int (x1 + r1)), (0, .ref (h 14)), (2, .int x2)]) hx hb dX3_allWords_19 rfl hl (by decide) rfl (fun ls hl => ?_)
      refine lv_iinc (v := (x2 + (1 : Int32))) (lv' := [(2, .int (x2 + (1 : Int32))), (1, .int (x1 + r1)), (0, .ref (h 14))]) hx hb dX3_allWords_20 hl (k := 2) rfl rfl (by decide) rfl (fun ls hl => ?_)
      refine lv_goto (tgt := 4) hx hb dX3_allWords_23 (by decide) ?_
      exact ih _ _ _ _ _ _ hP hD hS (lv_sub hl [2, 1, 0] rfl) hF
def FX3_allWords (n : Nat) (st : St) : Option (Int32 × St) := LX3_allWords_4 n (0 : Int32) (0 : Int32) st
set_option maxHeartbeats 4000000 in
set_option maxRecDepth 100000 in
theorem kX3_allWords (l : Launch) (D : va_G) (h : Nat → Nat) (cI cJ cZ : ClassId) (n : Nat) (st : St) (r : Int32) (u : St) (hF : FX3_allWords n  st = some (r, u)) : Ci l yX3_allWords cX3_allWords 3 (some .int) 1 21 D (tyL cI cJ cZ) (wM h cI cJ cZ) st [.ref (h 14)] r u := by
  refine body_i (by decide +kernel) (Nat.le_of_ble_eq_true rfl) ?_
  intro p e s m below meth c A ls E hr hlocks hA hP hD hS hl
  have E : Env1 p s m _ c cX3_allWords 3 RX3 D (tyL cI cJ cZ) := E
  have hl : lv_has ls 3 [(0, .ref (h 14))] := hl
  have hx := E.1.1
  have hb := E.1.2.1
  have hml := E.1.2.2.1
  unfold FX3_allWords at hF
  refine lv_iconst (v := 0) hx hb dX3_allWords_0 (by decide) ?_
  refine lv_istore_n (lv' := [(1, .int (0 : Int32)), (0, .ref (h 14))]) hx hb dX3_allWords_1 rfl hl (by decide) rfl (fun ls hl => ?_)
  refine lv_iconst (v := 0) hx hb dX3_allWords_2 (by decide) ?_
  refine lv_istore_n (lv' := [(2, .int (0 : Int32)), (1, .int (0 : Int32)), (0, .ref (h 14))]) hx hb dX3_allWords_3 rfl hl (by decide) rfl (fun ls hl => ?_)
  exact lX3_allWords_4 E hr hlocks hA n (0 : Int32) (0 : Int32) st _ _ _ hP hD hS (lv_sub hl [2, 1, 0] rfl) hF
theorem cw_X3_160 : cwd RX3 160 RX3 yX3_allWords cX3_allWords 3 (some .int) 0 := ⟨tb_V (tb_in 908 (by decide +kernel) (by decide +kernel)) (tb_in 910 (by decide +kernel) (by decide +kernel)) (tb_in 44 (by decide +kernel) (by decide +kernel)) (tb_in 50 (by decide +kernel) (by decide +kernel)) (tb_in 911 (by decide +kernel) (by decide +kernel)), by decide +kernel⟩
-- LooseHeapModel.look
def FX3_look (n : Nat) (x1 : Int32) (st : St) : Option (Int32 × St) := (if x1 = (0 : Int32) then some (((pt st 14 0 (0 : Int32)).1 14 1), (pt st 14 0 (0 : Int32))) else (if x1 = (1 : Int32) then some (((pt st 14 0 (0 : Int32)).1 14 2), (pt st 14 0 (0 : Int32))) else (if x1 = (2 : Int32) then bd (FX3_used n  (pt st 14 0 (0 : Int32))) (fun r1 u2 => some (r1, u2)) else (if x1 = (3 : Int32) then some (((pt st 14 0 (0 : Int32)).1 14 6), (pt st 14 0 (0 : Int32))) else (if x1 = (4 : Int32) then some (((pt st 14 0 (0 : Int32)).1 14 7), (pt st 14 0 (0 : Int32))) else (if x1 = (5 : Int32) then bd (FX3_allWords n  (pt st 14 0 (0 : Int32))) (fun r4 u5 => some (r4, u5)) else be ((if x1 < (6 : Int32) then some (-1 : Int32) else (if (12 : Int32) < x1 then some (-1 : Int32) else gd x1 13 (some ((pt st 14 0 (0 : Int32)).1 25 x1.toNatClampNeg))))) (fun v8 => some (v8, (pt st 14 0 (0 : Int32))))))))))
set_option maxHeartbeats 4000000 in
set_option maxRecDepth 100000 in
theorem kX3_look (l : Launch) (D : va_G) (h : Nat → Nat) (cI cJ cZ : ClassId) (n : Nat) (x1 : Int32) (st : St) (r : Int32) (u : St) (hF : FX3_look n x1 st = some (r, u)) : Ci l yX3_look cX3_look 2 (some .int) 2 43 D (tyL cI cJ cZ) (wM h cI cJ cZ) st [.ref (h 14), .int x1] r u := by
  refine body_i (by decide +kernel) (Nat.le_of_ble_eq_true rfl) ?_
  intro p e s m below meth c A ls E hr hlocks hA hP hD hS hl
  have E : Env1 p s m _ c cX3_look 2 RX3 D (tyL cI cJ cZ) := E
  have hl : lv_has ls 2 [(0, .ref (h 14)), (1, .int x1)] := hl
  have hx := E.1.1
  have hb := E.1.2.1
  have hml := E.1.2.2.1
  unfold FX3_look at hF
  refine lv_aload_n hx hb dX3_look_0 rfl (lv_at hl 0 rfl) ?_
  refine lv_iconst (v := 0) hx hb dX3_look_1 (by decide) ?_
  refine s_14_0 E hP hD hS dX3_look_2 (fun H locs hP hD hS => ?_)
  refine lv_iload_n hx hb dX3_look_5 rfl (lv_at hl 1 rfl) ?_
  by_cases hk0 : x1 = (0 : Int32)
  · have hF := if_t hk0 hF
    refine lv_tableIn (tgt := 44) hx hb dX3_look_6 (by rw [hk0]; decide) (by rw [hk0]; decide) (by rw [hk0]; rfl) (by decide) ?_
    refine lv_aload_n hx hb dX3_look_44 rfl (lv_at hl 0 rfl) ?_
    refine g_14_1 E hP dX3_look_45 ?_
    exact endI E hr hlocks hP hD hS dX3_look_48 hF
  have hF := if_f hk0 hF
  by_cases hk1 : x1 = (1 : Int32)
  · have hF := if_t hk1 hF
    refine lv_tableIn (tgt := 49) hx hb dX3_look_6 (by rw [hk1]; decide) (by rw [hk1]; decide) (by rw [hk1]; rfl) (by decide) ?_
    refine lv_aload_n hx hb dX3_look_49 rfl (lv_at hl 0 rfl) ?_
    refine g_14_2 E hP dX3_look_50 ?_
    exact endI E hr hlocks hP hD hS dX3_look_53 hF
  have hF := if_f hk1 hF
  by_cases hk2 : x1 = (2 : Int32)
  · have hF := if_t hk2 hF
    refine lv_tableIn (tgt := 54) hx hb dX3_look_6 (by rw [hk2]; decide) (by rw [hk2]; decide) (by rw [hk2]; rfl) (by decide) ?_
    refine lv_aload_n hx hb dX3_look_54 rfl (lv_at hl 0 rfl) ?_
    obtain ⟨r1, u2, hc3, hF⟩ := bd_some hF
    refine call_i (rest := []) E hA hP hD hS hl.1 (kX3_used l D h cI cJ cZ n  (pt st 14 0 (0 : Int32)) r1 u2 hc3) cw_X3_86 0 rfl rfl rfl rfl rfl (Nat.le_of_ble_eq_true rfl) ⟨Nat.le_of_ble_eq_true rfl, Nat.le_of_ble_eq_true rfl⟩ ⟨Nat.zero_le _, Nat.zero_le _⟩ dX3_look_55 (fun H locs hP hD hS => ?_)
    exact endI E hr hlocks hP hD hS dX3_look_58 hF
  have hF := if_f hk2 hF
  by_cases hk3 : x1 = (3 : Int32)
  · have hF := if_t hk3 hF
    refine lv_tableIn (tgt := 59) hx hb dX3_look_6 (by rw [hk3]; decide) (by rw [hk3]; decide) (by rw [hk3]; rfl) (by decide) ?_
    refine lv_aload_n hx hb dX3_look_59 rfl (lv_at hl 0 rfl) ?_
    refine g_14_6 E hP dX3_look_60 ?_
    exact endI E hr hlocks hP hD hS dX3_look_63 hF
  have hF := if_f hk3 hF
  by_cases hk4 : x1 = (4 : Int32)
  · have hF := if_t hk4 hF
    refine lv_tableIn (tgt := 64) hx hb dX3_look_6 (by rw [hk4]; decide) (by rw [hk4]; decide) (by rw [hk4]; rfl) (by decide) ?_
    refine lv_aload_n hx hb dX3_look_64 rfl (lv_at hl 0 rfl) ?_
    refine g_14_7 E hP dX3_look_65 ?_
    exact endI E hr hlocks hP hD hS dX3_look_68 hF
  have hF := if_f hk4 hF
  by_cases hk5 : x1 = (5 : Int32)
  · have hF := if_t hk5 hF
    refine lv_tableIn (tgt := 69) hx hb dX3_look_6 (by rw [hk5]; decide) (by rw [hk5]; decide) (by rw [hk5]; rfl) (by decide) ?_
    refine lv_aload_n hx hb dX3_look_69 rfl (lv_at hl 0 rfl) ?_
    obtain ⟨r4, u5, hc6, hF⟩ := bd_some hF
    refine call_i (rest := []) E hA hP hD hS hl.1 (kX3_allWords l D h cI cJ cZ n  (pt st 14 0 (0 : Int32)) r4 u5 hc6) cw_X3_160 0 rfl rfl rfl rfl rfl (Nat.le_of_ble_eq_true rfl) ⟨Nat.le_of_ble_eq_true rfl, Nat.le_of_ble_eq_true rfl⟩ ⟨Nat.zero_le _, Nat.zero_le _⟩ dX3_look_70 (fun H locs hP hD hS => ?_)
    exact endI E hr hlocks hP hD hS dX3_look_73 hF
  have hF := if_f hk5 hF
  refine lv_tableOut (tgt := 74) hx hb dX3_look_6 (sw_out5 hk0 hk1 hk2 hk3 hk4 hk5) (by decide) ?_
  refine lv_iload_n hx hb dX3_look_74 rfl (lv_at hl 1 rfl) ?_
  refine lv_bipush (v := 6) hx hb dX3_look_75 (by decide) ?_
  obtain ⟨v8, hv, hF⟩ := be_some hF
  refine dia (jpc := 96) (v1 := v8) (rest := []) (ls := ls) ?_ (fun kont => ?_)
  · skip
    exact endI E hr hlocks hP hD hS dX3_look_96 hF
  · skip
    refine lv_icmp_lt (tgt := 95) hx hb dX3_look_77 (by decide) (fun hc => ?_) (fun hc => ?_)
    · have hv := if_t hc hv
      refine lv_iconst (v := (-1)) hx hb dX3_look_95 (by decide) ?_
      exact topE (Option.some.inj hv) kont
    · have hv := if_f hc hv
      refine lv_iload_n hx hb dX3_look_80 rfl (lv_at hl 1 rfl) ?_
      refine lv_bipush (v := 12) hx hb dX3_look_81 (by decide) ?_
      refine lv_icmp_gt (tgt := 95) hx hb dX3_look_83 (by decide) (fun hc => ?_) (fun hc => ?_)
      · have hv := if_t hc hv
        refine lv_iconst (v := (-1)) hx hb dX3_look_95 (by decide) ?_
        exact topE (Option.some.inj hv) kont
      · have hv := if_f hc hv
        refine lv_aload_n hx hb dX3_look_86 rfl (lv_at hl 0 rfl) ?_
        refine g_14_16 E hP dX3_look_87 ?_
        refine lv_iload_n hx hb dX3_look_90 rfl (lv_at hl 1 rfl) ?_
        obtain ⟨hi9, hv⟩ := gd_some hv
        refine la_25 E hP hi9 dX3_look_91 ?_
        refine lv_goto (tgt := 96) hx hb dX3_look_92 (by decide) ?_
        exact topE (Option.some.inj hv) kont
