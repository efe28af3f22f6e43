/-! THE LAW OVER AN INVARIANT V OF THE STATE: what each call owes (by program, gen_law2.py) -/
section FZC
variable {G : fsG} {l : Launch} {nm : String} {p : Program} {e : Env} {s : State} {m : MethodId} {args : Array Value} {below : List Frame} {meth : Method} {c : Code} {Z : State → Prop} {k n : Nat} {b Ln : Nat} {xs : Nat → Int32} {ht : Nat} {V : fzV} {i : Nat}
abbrev mW (nm : String) : fsM := (⟨RL, nm, "([I)Z"⟩, cL_law, 7, (some .boolean))
theorem fz_cmp (x : Int64) : lg_cmp x x = 0 := by unfold lg_cmp; simp [Int64.lt_irrefl]
theorem fzX0 : fg_X [(0, Value.ref b)] := fun q h => by cases List.mem_singleton.mp h; exact ⟨rfl, rfl⟩
theorem fz_w39 : Cond.methodLink RL 39 yL_add ∈ fs_T := fs_in (by decide +kernel) rfl
theorem fz_w50 : Cond.methodLink RL 50 yL_close ∈ fs_T := fs_in (by decide +kernel) rfl
theorem fz_wca : Cond.codeWith yL_add cL_add 3 (some .int) fy_hh ∈ fs_T := fs_in (by decide +kernel) rfl
theorem fz_wcc : Cond.codeWith yL_close cL_close 3 (some .int) fy_hh ∈ fs_T := fs_in (by decide +kernel) rfl
theorem fz_wsa : Cond.static yL_add ∈ fs_T := fs_in (by decide +kernel) rfl
theorem fz_wsc : Cond.static yL_close ∈ fs_T := fs_in (by decide +kernel) rfl
theorem fz_wi9 : Cond.initialized RL ∈ fs_T := fs_in (by decide +kernel) rfl
theorem fzC_write (C : fs_Ctx G (mW nm) p s m args meth c) (hX : va_X b Ln xs s s.heap) (hb : b < s.heap.size) (hG : b < G.1) (hL : Ln ≤ 241) (hi : i + 4 < Ln) (hk : k + 3282 ≤ 600096) (hn : n + 22971 ≤ 7301352) (hop : fzO_write ht V) (I : Nat → Int32) (A : Nat → Nat → Int32) (J : Nat → Nat → Int64) (it : Nat → Option Nat) (dyn : fsH) (hV : V I A J it dyn)
    (kk : ∀ (I : Nat → Int32) (A : Nat → Nat → Int32) (J : Nat → Nat → Int64) (it : Nat → Option Nat) (dyn : fsH), V I A J it dyn → fgW p e s m args below meth c room_1 Z [(0, .ref b)] G l (mW nm) (k + 3282) (n + 22971) 607 [(4, .inl (nI i)), (3, .inr (.inr (some 40))), (2, .inr (.inr (some 14))), (1, .inr (.inr (some 0)))] [] (fs_mk ht I A J it dyn)) : fgW p e s m args below meth c room_1 Z [(0, .ref b)] G l (mW nm) k n 120 [(4, .inl (nI i)), (3, .inr (.inr (some 40))), (2, .inr (.inr (some 14))), (1, .inr (.inr (some 0)))] [] (fs_mk ht I A J it dyn) := by
  obtain ⟨s7, s8, hr, hv⟩ := hop I A J it dyn ((xs (i + 1)).toInt64 <<< ((32 : Int32).toInt64 &&& 63) ||| ((xs (i + 2)).toInt64 &&& 4294967295)) hV
  refine fg_aload_n C dL_law_120 rfl rfl ?_
  refine fz_ld C hX hb hG 1 (by omega) hL rfl rfl dL_law_121 dL_law_122 dL_law_124 dL_law_125 dL_law_126 ?_
  refine fg_i2l C dL_law_127 ?_
  refine fg_bipush C (v := 32) dL_law_128 rfl ?_
  refine fg_lshl C dL_law_130 ?_
  refine fz_ld C hX hb hG 2 (by omega) hL rfl rfl dL_law_131 dL_law_132 dL_law_134 dL_law_135 dL_law_136 ?_
  refine fg_i2l C dL_law_137 ?_
  refine fg_ldc2 C dL_law_138 sk_L_32 ?_
  refine fg_land C dL_law_141 ?_
  refine fg_lor C dL_law_142 ?_
  refine fg_callV1 C dL_law_143 sv_L_34 rfl ⟨_, rfl, rfl⟩ (c_X7_write G l ht I A J it dyn ((xs (i + 1)).toInt64 <<< ((32 : Int32).toInt64 &&& 63) ||| ((xs (i + 2)).toInt64 &&& 4294967295)) s7) rfl rfl (Nat.le_of_ble_eq_true rfl) (by decide) (by decide) (by show _ ≤ 600096; omega) (by show _ ≤ 7301352; omega) ?_
  refine fg_aload_n C dL_law_146 rfl rfl ?_
  refine fz_ld C hX hb hG 1 (by omega) hL rfl rfl dL_law_147 dL_law_148 dL_law_150 dL_law_151 dL_law_152 ?_
  refine fg_i2l C dL_law_153 ?_
  refine fg_bipush C (v := 32) dL_law_154 rfl ?_
  refine fg_lshl C dL_law_156 ?_
  refine fz_ld C hX hb hG 2 (by omega) hL rfl rfl dL_law_157 dL_law_158 dL_law_160 dL_law_161 dL_law_162 ?_
  refine fg_i2l C dL_law_163 ?_
  refine fg_ldc2 C dL_law_164 sk_L_32 ?_
  refine fg_land C dL_law_167 ?_
  refine fg_lor C dL_law_168 ?_
  refine fg_callV1 C dL_law_169 sv_L_38 rfl ⟨_, rfl, rfl⟩ (c_X8_write G l ht (L_X7_write_I ht I A J it dyn ((xs (i + 1)).toInt64 <<< ((32 : Int32).toInt64 &&& 63) ||| ((xs (i + 2)).toInt64 &&& 4294967295))) (L_X7_write_A ht I A J it dyn ((xs (i + 1)).toInt64 <<< ((32 : Int32).toInt64 &&& 63) ||| ((xs (i + 2)).toInt64 &&& 4294967295))) J it dyn ((xs (i + 1)).toInt64 <<< ((32 : Int32).toInt64 &&& 63) ||| ((xs (i + 2)).toInt64 &&& 4294967295)) s8) rfl rfl (Nat.le_of_ble_eq_true rfl) (by decide) (by decide) (by show _ ≤ 600096; omega) (by show _ ≤ 7301352; omega) ?_
  refine fg_icmp_eq C 607 dL_law_172 rfl (fun _ => ?_) (fun q => absurd hr q)
  exact fg_widen C (k2 := k + 3282) (n2 := n + 22971) (by omega) (by omega) (kk _ _ _ _ _ hv)
theorem fzC_add (C : fs_Ctx G (mW nm) p s m args meth c) (hl0 : l.stackTraces = false) (hF : fx_K G s) (hN : fy_N s) (hX : va_X b Ln xs s s.heap) (hb : b < s.heap.size) (hG : b < G.1) (hL : Ln ≤ 241) (hi : i + 4 < Ln) (hk : k + 3282 ≤ 600096) (hn : n + 22971 ≤ 7301352) (hop : fzO_add ht V) (I : Nat → Int32) (A : Nat → Nat → Int32) (J : Nat → Nat → Int64) (it : Nat → Option Nat) (dyn : fsH) (hV : V I A J it dyn)
    (kk : ∀ (I : Nat → Int32) (A : Nat → Nat → Int32) (J : Nat → Nat → Int64) (it : Nat → Option Nat) (dyn : fsH), V I A J it dyn → fgW p e s m args below meth c room_1 Z [(0, .ref b)] G l (mW nm) (k + 3282) (n + 22971) 607 [(4, .inl (nI i)), (3, .inr (.inr (some 40))), (2, .inr (.inr (some 14))), (1, .inr (.inr (some 0)))] [] (fs_mk ht I A J it dyn)) : fgW p e s m args below meth c room_1 Z [(0, .ref b)] G l (mW nm) k n 177 [(4, .inl (nI i)), (3, .inr (.inr (some 40))), (2, .inr (.inr (some 14))), (1, .inr (.inr (some 0)))] [] (fs_mk ht I A J it dyn) := by
  obtain ⟨o1, o2⟩ := hop I A J it dyn hV
  refine fg_aload_n C dL_law_177 rfl rfl ?_
  refine fg_aload_n C dL_law_178 rfl rfl ?_
  refine fz_callSW C hF hN dL_law_179 fz_wca fz_w39 fz_wsa fz_wi9 ⟨by decide, by decide, by decide +kernel⟩ (by decide) (c_L_add G l hl0 ht I A J it dyn o1) rfl rfl (by decide) (by decide) (by decide) (by show _ ≤ 600096; omega) (by show _ ≤ 7301352; omega) ?_
  intro r h1 hq
  obtain ⟨rfl, j, rfl⟩ := hq
  obtain ⟨o3, o4, o5, o6⟩ := o2 j
  have hc := c_X8_add G l ht (L_X7_add_I ht I A J it dyn) A (if L_X7_add_k ht I A J it dyn = 0 then va_up J 40 (vp_updL (J 40) 0 (L_X7_add_r ht I A J it dyn).toInt64) else J) (L_X7_add_it ht I A J it dyn) ((L_X7_add_dyn ht I A J it dyn) ++ List.replicate j none) o3
  generalize hI2 : (L_X8_add_I ht (L_X7_add_I ht I A J it dyn) A (if L_X7_add_k ht I A J it dyn = 0 then va_up J 40 (vp_updL (J 40) 0 (L_X7_add_r ht I A J it dyn).toInt64) else J) (L_X7_add_it ht I A J it dyn) ((L_X7_add_dyn ht I A J it dyn) ++ List.replicate j none) ) = I2 at hc o4 o5 o6
  generalize hA2 : (L_X8_add_A ht (L_X7_add_I ht I A J it dyn) A (if L_X7_add_k ht I A J it dyn = 0 then va_up J 40 (vp_updL (J 40) 0 (L_X7_add_r ht I A J it dyn).toInt64) else J) (L_X7_add_it ht I A J it dyn) ((L_X7_add_dyn ht I A J it dyn) ++ List.replicate j none) ) = A2 at hc o4 o5 o6
  generalize hJ2 : (L_X8_add_J ht (L_X7_add_I ht I A J it dyn) A (if L_X7_add_k ht I A J it dyn = 0 then va_up J 40 (vp_updL (J 40) 0 (L_X7_add_r ht I A J it dyn).toInt64) else J) (L_X7_add_it ht I A J it dyn) ((L_X7_add_dyn ht I A J it dyn) ++ List.replicate j none) ) = J2 at hc o4 o5 o6
  generalize hr2 : (L_X8_add_r ht (L_X7_add_I ht I A J it dyn) A (if L_X7_add_k ht I A J it dyn = 0 then va_up J 40 (vp_updL (J 40) 0 (L_X7_add_r ht I A J it dyn).toInt64) else J) (L_X7_add_it ht I A J it dyn) ((L_X7_add_dyn ht I A J it dyn) ++ List.replicate j none) ) = r2 at hc o4 o5 o6
  clear hI2 hA2 hJ2 hr2
  refine fg_istore (L' := (5, .inl (L_X7_add_k ht I A J it dyn)) :: [(4, .inl (nI i)), (3, .inr (.inr (some 40))), (2, .inr (.inr (some 14))), (1, .inr (.inr (some 0)))]) C fzX0 (by decide) dL_law_182 (Nat.le_of_ble_eq_true rfl) rfl ?_
  refine fg_aload_n C dL_law_184 rfl rfl ?_
  refine fg_callV1 C dL_law_185 sv_L_42 rfl ⟨_, rfl, rfl⟩ hc rfl rfl (by decide) (by decide) (by decide) (by show _ ≤ 600096; omega) (by show _ ≤ 7301352; omega) ?_
  refine fg_istore C fzX0 (by decide) dL_law_188 (Nat.le_of_ble_eq_true rfl) rfl ?_
  refine fg_aload_n C dL_law_190 rfl rfl ?_
  refine fg_callV1 C dL_law_191 sv_L_43 rfl ⟨_, rfl, rfl⟩ (c_X8_thrown G l ht _ _ _ _ _) rfl rfl (by decide) (by decide) (by decide) (by show _ ≤ 600096; omega) (by show _ ≤ 7301352; omega) ?_
  refine fg_iload C dL_law_194 rfl ?_
  refine fg_icmp_eq C 201 dL_law_196 rfl (fun _ => ?_) (fun q => absurd o4 q)
  have hend : fgW p e s m args below meth c room_1 Z [(0, .ref b)] G l (mW nm) (k + 3282 + 0 + 0) (n + 22971 + 0 + 0) 218 ((6, .inl r2) :: (5, .inl (L_X7_add_k ht I A J it dyn)) :: [(4, .inl (nI i)), (3, .inr (.inr (some 40))), (2, .inr (.inr (some 14))), (1, .inr (.inr (some 0)))]) [] (fs_mk ht I2 A2 J2 (L_X7_add_it ht I A J it dyn) ((L_X7_add_dyn ht I A J it dyn) ++ List.replicate j none)) := by
    refine fg_goto C 607 dL_law_218 rfl ?_
    refine fg_reL C (L' := [(4, .inl (nI i)), (3, .inr (.inr (some 40))), (2, .inr (.inr (some 14))), (1, .inr (.inr (some 0)))]) [2, 3, 4, 5] rfl ?_
    refine fg_widen C (k2 := k + 3282) (n2 := n + 22971) (by omega) (by omega) (kk _ _ _ _ _ o6)
  refine fg_iload C dL_law_201 rfl ?_
  refine fg_if_ne C 218 dL_law_203 rfl (fun _ => hend) (fun q => ?_)
  refine fg_aload_n C dL_law_206 rfl rfl ?_
  refine fg_iconst C dL_law_207 rfl ?_
  refine fg_laload C dL_law_208 rfl (by unfold vp_in; decide) ?_
  refine fg_iload C dL_law_209 rfl ?_
  refine fg_i2l C dL_law_211 ?_
  refine fg_lcmp C dL_law_212 ?_
  refine fg_if_eq C 218 dL_law_213 rfl (fun _ => hend) (fun q2 => absurd ?_ q2)
  exact (congrArg (fun z => lg_cmp z _) (o5 q)).trans (fz_cmp _)
theorem fzC_position (C : fs_Ctx G (mW nm) p s m args meth c) (hX : va_X b Ln xs s s.heap) (hb : b < s.heap.size) (hG : b < G.1) (hL : Ln ≤ 241) (hi : i + 4 < Ln) (hk : k + 3282 ≤ 600096) (hn : n + 22971 ≤ 7301352) (hop : fzO_position ht V) (I : Nat → Int32) (A : Nat → Nat → Int32) (J : Nat → Nat → Int64) (it : Nat → Option Nat) (dyn : fsH) (hV : V I A J it dyn)
    (kk : ∀ (I : Nat → Int32) (A : Nat → Nat → Int32) (J : Nat → Nat → Int64) (it : Nat → Option Nat) (dyn : fsH), V I A J it dyn → fgW p e s m args below meth c room_1 Z [(0, .ref b)] G l (mW nm) (k + 3282) (n + 22971) 607 [(4, .inl (nI i)), (3, .inr (.inr (some 40))), (2, .inr (.inr (some 14))), (1, .inr (.inr (some 0)))] [] (fs_mk ht I A J it dyn)) : fgW p e s m args below meth c room_1 Z [(0, .ref b)] G l (mW nm) k n 221 [(4, .inl (nI i)), (3, .inr (.inr (some 40))), (2, .inr (.inr (some 14))), (1, .inr (.inr (some 0)))] [] (fs_mk ht I A J it dyn) := by
  obtain ⟨hr, hv⟩ := hop I A J it dyn  hV
  refine fg_aload_n C dL_law_221 rfl rfl ?_
  refine fg_callV1 C dL_law_222 sv_L_46 rfl ⟨_, rfl, rfl⟩ (c_X7_position G l ht I A J it dyn  ) rfl rfl (Nat.le_of_ble_eq_true rfl) (by decide) (by decide) (by show _ ≤ 600096; omega) (by show _ ≤ 7301352; omega) ?_
  refine fg_aload_n C dL_law_225 rfl rfl ?_
  refine fg_callV1 C dL_law_226 sv_L_49 rfl ⟨_, rfl, rfl⟩ (c_X8_position G l ht I A J it dyn  ) rfl rfl (Nat.le_of_ble_eq_true rfl) (by decide) (by decide) (by show _ ≤ 600096; omega) (by show _ ≤ 7301352; omega) ?_
  refine fg_icmp_eq C 607 dL_law_229 rfl (fun _ => ?_) (fun q => absurd hr q)
  exact fg_widen C (k2 := k + 3282) (n2 := n + 22971) (by omega) (by omega) (kk _ _ _ _ _ hv)
theorem fzC_close (C : fs_Ctx G (mW nm) p s m args meth c) (hl0 : l.stackTraces = false) (hF : fx_K G s) (hN : fy_N s) (hX : va_X b Ln xs s s.heap) (hb : b < s.heap.size) (hG : b < G.1) (hL : Ln ≤ 241) (hi : i + 4 < Ln) (hk : k + 3282 ≤ 600096) (hn : n + 22971 ≤ 7301352) (hop : fzO_close ht V) (I : Nat → Int32) (A : Nat → Nat → Int32) (J : Nat → Nat → Int64) (it : Nat → Option Nat) (dyn : fsH) (hV : V I A J it dyn)
    (kk : ∀ (I : Nat → Int32) (A : Nat → Nat → Int32) (J : Nat → Nat → Int64) (it : Nat → Option Nat) (dyn : fsH), V I A J it dyn → fgW p e s m args below meth c room_1 Z [(0, .ref b)] G l (mW nm) (k + 3282) (n + 22971) 607 [(4, .inl (nI i)), (3, .inr (.inr (some 40))), (2, .inr (.inr (some 14))), (1, .inr (.inr (some 0)))] [] (fs_mk ht I A J it dyn)) : fgW p e s m args below meth c room_1 Z [(0, .ref b)] G l (mW nm) k n 234 [(4, .inl (nI i)), (3, .inr (.inr (some 40))), (2, .inr (.inr (some 14))), (1, .inr (.inr (some 0)))] [] (fs_mk ht I A J it dyn) := by
  obtain ⟨o1, o2⟩ := hop I A J it dyn hV
  refine fg_aload_n C dL_law_234 rfl rfl ?_
  refine fg_aload_n C dL_law_235 rfl rfl ?_
  refine fz_callSW C hF hN dL_law_236 fz_wcc fz_w50 fz_wsc fz_wi9 ⟨by decide, by decide, by decide +kernel⟩ (by decide) (c_L_close G l hl0 ht I A J it dyn o1) rfl rfl (by decide) (by decide) (by decide) (by show _ ≤ 600096; omega) (by show _ ≤ 7301352; omega) ?_
  intro r h1 hq
  obtain ⟨rfl, j, rfl⟩ := hq
  obtain ⟨o3, o4, o5, o6⟩ := o2 j
  have hc := c_X8_close G l ht (L_X7_close_I ht I A J it dyn) (L_X7_close_A ht I A J it dyn) (if L_X7_close_k ht I A J it dyn = 0 then va_up (L_X7_close_J ht I A J it dyn) 40 (vp_updL ((L_X7_close_J ht I A J it dyn) 40) 0 (L_X7_close_r ht I A J it dyn).toInt64) else (L_X7_close_J ht I A J it dyn)) it ((L_X7_close_dyn ht I A J it dyn) ++ List.replicate j none) o3
  generalize hI2 : (L_X8_close_I ht (L_X7_close_I ht I A J it dyn) (L_X7_close_A ht I A J it dyn) (if L_X7_close_k ht I A J it dyn = 0 then va_up (L_X7_close_J ht I A J it dyn) 40 (vp_updL ((L_X7_close_J ht I A J it dyn) 40) 0 (L_X7_close_r ht I A J it dyn).toInt64) else (L_X7_close_J ht I A J it dyn)) it ((L_X7_close_dyn ht I A J it dyn) ++ List.replicate j none) ) = I2 at hc o4 o5 o6
  generalize hA2 : (L_X8_close_A ht (L_X7_close_I ht I A J it dyn) (L_X7_close_A ht I A J it dyn) (if L_X7_close_k ht I A J it dyn = 0 then va_up (L_X7_close_J ht I A J it dyn) 40 (vp_updL ((L_X7_close_J ht I A J it dyn) 40) 0 (L_X7_close_r ht I A J it dyn).toInt64) else (L_X7_close_J ht I A J it dyn)) it ((L_X7_close_dyn ht I A J it dyn) ++ List.replicate j none) ) = A2 at hc o4 o5 o6
  generalize hJ2 : (L_X8_close_J ht (L_X7_close_I ht I A J it dyn) (L_X7_close_A ht I A J it dyn) (if L_X7_close_k ht I A J it dyn = 0 then va_up (L_X7_close_J ht I A J it dyn) 40 (vp_updL ((L_X7_close_J ht I A J it dyn) 40) 0 (L_X7_close_r ht I A J it dyn).toInt64) else (L_X7_close_J ht I A J it dyn)) it ((L_X7_close_dyn ht I A J it dyn) ++ List.replicate j none) ) = J2 at hc o4 o5 o6
  generalize hr2 : (L_X8_close_r ht (L_X7_close_I ht I A J it dyn) (L_X7_close_A ht I A J it dyn) (if L_X7_close_k ht I A J it dyn = 0 then va_up (L_X7_close_J ht I A J it dyn) 40 (vp_updL ((L_X7_close_J ht I A J it dyn) 40) 0 (L_X7_close_r ht I A J it dyn).toInt64) else (L_X7_close_J ht I A J it dyn)) it ((L_X7_close_dyn ht I A J it dyn) ++ List.replicate j none) ) = r2 at hc o4 o5 o6
  clear hI2 hA2 hJ2 hr2
  refine fg_istore (L' := (5, .inl (L_X7_close_k ht I A J it dyn)) :: [(4, .inl (nI i)), (3, .inr (.inr (some 40))), (2, .inr (.inr (some 14))), (1, .inr (.inr (some 0)))]) C fzX0 (by decide) dL_law_239 (Nat.le_of_ble_eq_true rfl) rfl ?_
  refine fg_aload_n C dL_law_241 rfl rfl ?_
  refine fg_callV1 C dL_law_242 sv_L_52 rfl ⟨_, rfl, rfl⟩ hc rfl rfl (by decide) (by decide) (by decide) (by show _ ≤ 600096; omega) (by show _ ≤ 7301352; omega) ?_
  refine fg_istore C fzX0 (by decide) dL_law_245 (Nat.le_of_ble_eq_true rfl) rfl ?_
  refine fg_aload_n C dL_law_247 rfl rfl ?_
  refine fg_callV1 C dL_law_248 sv_L_43 rfl ⟨_, rfl, rfl⟩ (c_X8_thrown G l ht _ _ _ _ _) rfl rfl (by decide) (by decide) (by decide) (by show _ ≤ 600096; omega) (by show _ ≤ 7301352; omega) ?_
  refine fg_iload C dL_law_251 rfl ?_
  refine fg_icmp_eq C 258 dL_law_253 rfl (fun _ => ?_) (fun q => absurd o4 q)
  have hend : fgW p e s m args below meth c room_1 Z [(0, .ref b)] G l (mW nm) (k + 1 + 0 + 0) (n + 6 + 0 + 0) 275 ((6, .inl r2) :: (5, .inl (L_X7_close_k ht I A J it dyn)) :: [(4, .inl (nI i)), (3, .inr (.inr (some 40))), (2, .inr (.inr (some 14))), (1, .inr (.inr (some 0)))]) [] (fs_mk ht I2 A2 J2 it ((L_X7_close_dyn ht I A J it dyn) ++ List.replicate j none)) := by
    refine fg_goto C 607 dL_law_275 rfl ?_
    refine fg_reL C (L' := [(4, .inl (nI i)), (3, .inr (.inr (some 40))), (2, .inr (.inr (some 14))), (1, .inr (.inr (some 0)))]) [2, 3, 4, 5] rfl ?_
    refine fg_widen C (k2 := k + 3282) (n2 := n + 22971) (by omega) (by omega) (kk _ _ _ _ _ o6)
  refine fg_iload C dL_law_258 rfl ?_
  refine fg_if_ne C 275 dL_law_260 rfl (fun _ => hend) (fun q => ?_)
  refine fg_aload_n C dL_law_263 rfl rfl ?_
  refine fg_iconst C dL_law_264 rfl ?_
  refine fg_laload C dL_law_265 rfl (by unfold vp_in; decide) ?_
  refine fg_iload C dL_law_266 rfl ?_
  refine fg_i2l C dL_law_268 ?_
  refine fg_lcmp C dL_law_269 ?_
  refine fg_if_eq C 275 dL_law_270 rfl (fun _ => hend) (fun q2 => absurd ?_ q2)
  exact (congrArg (fun z => lg_cmp z _) (o5 q)).trans (fz_cmp _)
theorem fzC_clear (C : fs_Ctx G (mW nm) p s m args meth c) (hX : va_X b Ln xs s s.heap) (hb : b < s.heap.size) (hG : b < G.1) (hL : Ln ≤ 241) (hi : i + 4 < Ln) (hk : k + 3282 ≤ 600096) (hn : n + 22971 ≤ 7301352) (hop : fzO_clear ht V) (I : Nat → Int32) (A : Nat → Nat → Int32) (J : Nat → Nat → Int64) (it : Nat → Option Nat) (dyn : fsH) (hV : V I A J it dyn)
    (kk : ∀ (I : Nat → Int32) (A : Nat → Nat → Int32) (J : Nat → Nat → Int64) (it : Nat → Option Nat) (dyn : fsH), V I A J it dyn → fgW p e s m args below meth c room_1 Z [(0, .ref b)] G l (mW nm) (k + 3282) (n + 22971) 607 [(4, .inl (nI i)), (3, .inr (.inr (some 40))), (2, .inr (.inr (some 14))), (1, .inr (.inr (some 0)))] [] (fs_mk ht I A J it dyn)) : fgW p e s m args below meth c room_1 Z [(0, .ref b)] G l (mW nm) k n 278 [(4, .inl (nI i)), (3, .inr (.inr (some 40))), (2, .inr (.inr (some 14))), (1, .inr (.inr (some 0)))] [] (fs_mk ht I A J it dyn) := by
  obtain ⟨s8, hv⟩ := hop I A J it dyn  hV
  refine fg_aload_n C dL_law_278 rfl rfl ?_
  refine fg_callV0 C dL_law_279 sv_L_53 rfl ⟨_, rfl, rfl⟩ (c_X7_clear G l ht I A J it dyn  ) rfl rfl (Nat.le_of_ble_eq_true rfl) (by decide) (by decide) (by show _ ≤ 600096; omega) (by show _ ≤ 7301352; omega) ?_
  refine fg_aload_n C dL_law_282 rfl rfl ?_
  refine fg_callV0 C dL_law_283 sv_L_56 rfl ⟨_, rfl, rfl⟩ (c_X8_clear G l ht (L_X7_clear_I ht I A J it dyn ) A J it dyn  s8) rfl rfl (Nat.le_of_ble_eq_true rfl) (by decide) (by decide) (by show _ ≤ 600096; omega) (by show _ ≤ 7301352; omega) ?_
  refine fg_goto C 607 dL_law_286 rfl ?_
  exact fg_widen C (k2 := k + 3282) (n2 := n + 22971) (by omega) (by omega) (kk _ _ _ _ _ hv)
theorem fzC_rows (C : fs_Ctx G (mW nm) p s m args meth c) (hX : va_X b Ln xs s s.heap) (hb : b < s.heap.size) (hG : b < G.1) (hL : Ln ≤ 241) (hi : i + 4 < Ln) (hk : k + 3282 ≤ 600096) (hn : n + 22971 ≤ 7301352) (hop : fzO_rows ht V) (I : Nat → Int32) (A : Nat → Nat → Int32) (J : Nat → Nat → Int64) (it : Nat → Option Nat) (dyn : fsH) (hV : V I A J it dyn)
    (kk : ∀ (I : Nat → Int32) (A : Nat → Nat → Int32) (J : Nat → Nat → Int64) (it : Nat → Option Nat) (dyn : fsH), V I A J it dyn → fgW p e s m args below meth c room_1 Z [(0, .ref b)] G l (mW nm) (k + 3282) (n + 22971) 607 [(4, .inl (nI i)), (3, .inr (.inr (some 40))), (2, .inr (.inr (some 14))), (1, .inr (.inr (some 0)))] [] (fs_mk ht I A J it dyn)) : fgW p e s m args below meth c room_1 Z [(0, .ref b)] G l (mW nm) k n 289 [(4, .inl (nI i)), (3, .inr (.inr (some 40))), (2, .inr (.inr (some 14))), (1, .inr (.inr (some 0)))] [] (fs_mk ht I A J it dyn) := by
  obtain ⟨s7, s8, hr, hv⟩ := hop I A J it dyn (xs (i + 1)) hV
  refine fg_aload_n C dL_law_289 rfl rfl ?_
  refine fz_ld C hX hb hG 1 (by omega) hL rfl rfl dL_law_290 dL_law_291 dL_law_293 dL_law_294 dL_law_295 ?_
  refine fg_callV1 C dL_law_296 sv_L_57 rfl ⟨_, rfl, rfl⟩ (c_X7_rows G l ht I A J it dyn (xs (i + 1)) s7) rfl rfl (Nat.le_of_ble_eq_true rfl) (by decide) (by decide) (by show _ ≤ 600096; omega) (by show _ ≤ 7301352; omega) ?_
  refine fg_aload_n C dL_law_299 rfl rfl ?_
  refine fz_ld C hX hb hG 1 (by omega) hL rfl rfl dL_law_300 dL_law_301 dL_law_303 dL_law_304 dL_law_305 ?_
  refine fg_callV1 C dL_law_306 sv_L_61 rfl ⟨_, rfl, rfl⟩ (c_X8_rows G l ht (L_X7_rows_I ht I A J it dyn (xs (i + 1))) (L_X7_rows_A ht I A J it dyn (xs (i + 1))) (L_X7_rows_J ht I A J it dyn (xs (i + 1))) it dyn (xs (i + 1)) s8) rfl rfl (Nat.le_of_ble_eq_true rfl) (by decide) (by decide) (by show _ ≤ 600096; omega) (by show _ ≤ 7301352; omega) ?_
  refine fg_icmp_eq C 607 dL_law_309 rfl (fun _ => ?_) (fun q => absurd hr q)
  exact fg_widen C (k2 := k + 3282) (n2 := n + 22971) (by omega) (by omega) (kk _ _ _ _ _ hv)
theorem fzC_set (C : fs_Ctx G (mW nm) p s m args meth c) (hX : va_X b Ln xs s s.heap) (hb : b < s.heap.size) (hG : b < G.1) (hL : Ln ≤ 241) (hi : i + 4 < Ln) (hk : k + 3282 ≤ 600096) (hn : n + 22971 ≤ 7301352) (hop : fzO_set ht V) (I : Nat → Int32) (A : Nat → Nat → Int32) (J : Nat → Nat → Int64) (it : Nat → Option Nat) (dyn : fsH) (hV : V I A J it dyn)
    (kk : ∀ (I : Nat → Int32) (A : Nat → Nat → Int32) (J : Nat → Nat → Int64) (it : Nat → Option Nat) (dyn : fsH), V I A J it dyn → fgW p e s m args below meth c room_1 Z [(0, .ref b)] G l (mW nm) (k + 3282) (n + 22971) 607 [(4, .inl (nI i)), (3, .inr (.inr (some 40))), (2, .inr (.inr (some 14))), (1, .inr (.inr (some 0)))] [] (fs_mk ht I A J it dyn)) : fgW p e s m args below meth c room_1 Z [(0, .ref b)] G l (mW nm) k n 314 [(4, .inl (nI i)), (3, .inr (.inr (some 40))), (2, .inr (.inr (some 14))), (1, .inr (.inr (some 0)))] [] (fs_mk ht I A J it dyn) := by
  obtain ⟨s7, s8, hr, hv⟩ := hop I A J it dyn (xs (i + 1)) (xs (i + 2)) ((xs (i + 3)).toInt64 <<< ((32 : Int32).toInt64 &&& 63) ||| ((xs (i + 4)).toInt64 &&& 4294967295)) hV
  refine fg_aload_n C dL_law_314 rfl rfl ?_
  refine fz_ld C hX hb hG 1 (by omega) hL rfl rfl dL_law_315 dL_law_316 dL_law_318 dL_law_319 dL_law_320 ?_
  refine fz_ld C hX hb hG 2 (by omega) hL rfl rfl dL_law_321 dL_law_322 dL_law_324 dL_law_325 dL_law_326 ?_
  refine fz_ld C hX hb hG 3 (by omega) hL rfl rfl dL_law_327 dL_law_328 dL_law_330 dL_law_331 dL_law_332 ?_
  refine fg_i2l C dL_law_333 ?_
  refine fg_bipush C (v := 32) dL_law_334 rfl ?_
  refine fg_lshl C dL_law_336 ?_
  refine fz_ld C hX hb hG 4 (by omega) hL rfl rfl dL_law_337 dL_law_338 dL_law_340 dL_law_341 dL_law_342 ?_
  refine fg_i2l C dL_law_343 ?_
  refine fg_ldc2 C dL_law_344 sk_L_32 ?_
  refine fg_land C dL_law_347 ?_
  refine fg_lor C dL_law_348 ?_
  refine fg_callV1 C dL_law_349 sv_L_62 rfl ⟨_, rfl, rfl⟩ (c_X7_set G l ht I A J it dyn (xs (i + 1)) (xs (i + 2)) ((xs (i + 3)).toInt64 <<< ((32 : Int32).toInt64 &&& 63) ||| ((xs (i + 4)).toInt64 &&& 4294967295)) s7) rfl rfl (Nat.le_of_ble_eq_true rfl) (by decide) (by decide) (by show _ ≤ 600096; omega) (by show _ ≤ 7301352; omega) ?_
  refine fg_aload_n C dL_law_352 rfl rfl ?_
  refine fz_ld C hX hb hG 1 (by omega) hL rfl rfl dL_law_353 dL_law_354 dL_law_356 dL_law_357 dL_law_358 ?_
  refine fz_ld C hX hb hG 2 (by omega) hL rfl rfl dL_law_359 dL_law_360 dL_law_362 dL_law_363 dL_law_364 ?_
  refine fz_ld C hX hb hG 3 (by omega) hL rfl rfl dL_law_365 dL_law_366 dL_law_368 dL_law_369 dL_law_370 ?_
  refine fg_i2l C dL_law_371 ?_
  refine fg_bipush C (v := 32) dL_law_372 rfl ?_
  refine fg_lshl C dL_law_374 ?_
  refine fz_ld C hX hb hG 4 (by omega) hL rfl rfl dL_law_375 dL_law_376 dL_law_378 dL_law_379 dL_law_380 ?_
  refine fg_i2l C dL_law_381 ?_
  refine fg_ldc2 C dL_law_382 sk_L_32 ?_
  refine fg_land C dL_law_385 ?_
  refine fg_lor C dL_law_386 ?_
  refine fg_callV1 C dL_law_387 sv_L_66 rfl ⟨_, rfl, rfl⟩ (c_X8_set G l ht (L_X7_set_I ht I A J it dyn (xs (i + 1)) (xs (i + 2)) ((xs (i + 3)).toInt64 <<< ((32 : Int32).toInt64 &&& 63) ||| ((xs (i + 4)).toInt64 &&& 4294967295))) (L_X7_set_A ht I A J it dyn (xs (i + 1)) (xs (i + 2)) ((xs (i + 3)).toInt64 <<< ((32 : Int32).toInt64 &&& 63) ||| ((xs (i + 4)).toInt64 &&& 4294967295))) (L_X7_set_J ht I A J it dyn (xs (i + 1)) (xs (i + 2)) ((xs (i + 3)).toInt64 <<< ((32 : Int32).toInt64 &&& 63) ||| ((xs (i + 4)).toInt64 &&& 4294967295))) it dyn (xs (i + 1)) (xs (i + 2)) ((xs (i + 3)).toInt64 <<< ((32 : Int32).toInt64 &&& 63) ||| ((xs (i + 4)).toInt64 &&& 4294967295)) s8) rfl rfl (Nat.le_of_ble_eq_true rfl) (by decide) (by decide) (by show _ ≤ 600096; omega) (by show _ ≤ 7301352; omega) ?_
  refine fg_icmp_eq C 607 dL_law_390 rfl (fun _ => ?_) (fun q => absurd hr q)
  exact fg_widen C (k2 := k + 3282) (n2 := n + 22971) (by omega) (by omega) (kk _ _ _ _ _ hv)
theorem fzC_get (C : fs_Ctx G (mW nm) p s m args meth c) (hX : va_X b Ln xs s s.heap) (hb : b < s.heap.size) (hG : b < G.1) (hL : Ln ≤ 241) (hi : i + 4 < Ln) (hk : k + 3282 ≤ 600096) (hn : n + 22971 ≤ 7301352) (hop : fzO_get ht V) (I : Nat → Int32) (A : Nat → Nat → Int32) (J : Nat → Nat → Int64) (it : Nat → Option Nat) (dyn : fsH) (hV : V I A J it dyn)
    (kk : ∀ (I : Nat → Int32) (A : Nat → Nat → Int32) (J : Nat → Nat → Int64) (it : Nat → Option Nat) (dyn : fsH), V I A J it dyn → fgW p e s m args below meth c room_1 Z [(0, .ref b)] G l (mW nm) (k + 3282) (n + 22971) 607 [(4, .inl (nI i)), (3, .inr (.inr (some 40))), (2, .inr (.inr (some 14))), (1, .inr (.inr (some 0)))] [] (fs_mk ht I A J it dyn)) : fgW p e s m args below meth c room_1 Z [(0, .ref b)] G l (mW nm) k n 395 [(4, .inl (nI i)), (3, .inr (.inr (some 40))), (2, .inr (.inr (some 14))), (1, .inr (.inr (some 0)))] [] (fs_mk ht I A J it dyn) := by
  obtain ⟨s7, s8, hr, hv⟩ := hop I A J it dyn (xs (i + 1)) (xs (i + 2)) hV
  refine fg_aload_n C dL_law_395 rfl rfl ?_
  refine fz_ld C hX hb hG 1 (by omega) hL rfl rfl dL_law_396 dL_law_397 dL_law_399 dL_law_400 dL_law_401 ?_
  refine fz_ld C hX hb hG 2 (by omega) hL rfl rfl dL_law_402 dL_law_403 dL_law_405 dL_law_406 dL_law_407 ?_
  refine fg_callV1 C dL_law_408 sv_L_67 rfl ⟨_, rfl, rfl⟩ (c_X7_get G l ht I A J it dyn (xs (i + 1)) (xs (i + 2)) s7) rfl rfl (Nat.le_of_ble_eq_true rfl) (by decide) (by decide) (by show _ ≤ 600096; omega) (by show _ ≤ 7301352; omega) ?_
  refine fg_aload_n C dL_law_411 rfl rfl ?_
  refine fz_ld C hX hb hG 1 (by omega) hL rfl rfl dL_law_412 dL_law_413 dL_law_415 dL_law_416 dL_law_417 ?_
  refine fz_ld C hX hb hG 2 (by omega) hL rfl rfl dL_law_418 dL_law_419 dL_law_421 dL_law_422 dL_law_423 ?_
  refine fg_callV1 C dL_law_424 sv_L_71 rfl ⟨_, rfl, rfl⟩ (c_X8_get G l ht I A J it dyn (xs (i + 1)) (xs (i + 2)) s8) rfl rfl (Nat.le_of_ble_eq_true rfl) (by decide) (by decide) (by show _ ≤ 600096; omega) (by show _ ≤ 7301352; omega) ?_
  refine fg_lcmp C dL_law_427 ?_
  refine fg_if_eq C 607 dL_law_428 rfl (fun _ => ?_) (fun q => absurd ((congrArg (fun z => lg_cmp z _) hr).trans (fz_cmp _)) q)
  exact fg_widen C (k2 := k + 3282) (n2 := n + 22971) (by omega) (by omega) (kk _ _ _ _ _ hv)
theorem fzC_fault (C : fs_Ctx G (mW nm) p s m args meth c) (hX : va_X b Ln xs s s.heap) (hb : b < s.heap.size) (hG : b < G.1) (hL : Ln ≤ 241) (hi : i + 4 < Ln) (hk : k + 3282 ≤ 600096) (hn : n + 22971 ≤ 7301352) (hop : fzO_fault ht V) (I : Nat → Int32) (A : Nat → Nat → Int32) (J : Nat → Nat → Int64) (it : Nat → Option Nat) (dyn : fsH) (hV : V I A J it dyn)
    (kk : ∀ (I : Nat → Int32) (A : Nat → Nat → Int32) (J : Nat → Nat → Int64) (it : Nat → Option Nat) (dyn : fsH), V I A J it dyn → fgW p e s m args below meth c room_1 Z [(0, .ref b)] G l (mW nm) (k + 3282) (n + 22971) 607 [(4, .inl (nI i)), (3, .inr (.inr (some 40))), (2, .inr (.inr (some 14))), (1, .inr (.inr (some 0)))] [] (fs_mk ht I A J it dyn)) : fgW p e s m args below meth c room_1 Z [(0, .ref b)] G l (mW nm) k n 433 [(4, .inl (nI i)), (3, .inr (.inr (some 40))), (2, .inr (.inr (some 14))), (1, .inr (.inr (some 0)))] [] (fs_mk ht I A J it dyn) := by
  obtain ⟨s7, s8, hr, hv⟩ := hop I A J it dyn (xs (i + 1)) (xs (i + 2)) hV
  refine fg_aload_n C dL_law_433 rfl rfl ?_
  refine fz_ld C hX hb hG 1 (by omega) hL rfl rfl dL_law_434 dL_law_435 dL_law_437 dL_law_438 dL_law_439 ?_
  refine fz_ld C hX hb hG 2 (by omega) hL rfl rfl dL_law_440 dL_law_441 dL_law_443 dL_law_444 dL_law_445 ?_
  refine fg_callV1 C dL_law_446 sv_L_72 rfl ⟨_, rfl, rfl⟩ (c_X7_fault G l ht I A J it dyn (xs (i + 1)) (xs (i + 2)) s7) rfl rfl (Nat.le_of_ble_eq_true rfl) (by decide) (by decide) (by show _ ≤ 600096; omega) (by show _ ≤ 7301352; omega) ?_
  refine fg_aload_n C dL_law_449 rfl rfl ?_
  refine fz_ld C hX hb hG 1 (by omega) hL rfl rfl dL_law_450 dL_law_451 dL_law_453 dL_law_454 dL_law_455 ?_
  refine fz_ld C hX hb hG 2 (by omega) hL rfl rfl dL_law_456 dL_law_457 dL_law_459 dL_law_460 dL_law_461 ?_
  refine fg_callV1 C dL_law_462 sv_L_76 rfl ⟨_, rfl, rfl⟩ (c_X8_fault G l ht I A J it dyn (xs (i + 1)) (xs (i + 2)) s8) rfl rfl (Nat.le_of_ble_eq_true rfl) (by decide) (by decide) (by show _ ≤ 600096; omega) (by show _ ≤ 7301352; omega) ?_
  refine fg_icmp_eq C 607 dL_law_465 rfl (fun _ => ?_) (fun q => absurd hr q)
  exact fg_widen C (k2 := k + 3282) (n2 := n + 22971) (by omega) (by omega) (kk _ _ _ _ _ hv)
theorem fzC_message (C : fs_Ctx G (mW nm) p s m args meth c) (hX : va_X b Ln xs s s.heap) (hb : b < s.heap.size) (hG : b < G.1) (hL : Ln ≤ 241) (hi : i + 4 < Ln) (hk : k + 3282 ≤ 600096) (hn : n + 22971 ≤ 7301352) (hop : fzO_message ht V) (I : Nat → Int32) (A : Nat → Nat → Int32) (J : Nat → Nat → Int64) (it : Nat → Option Nat) (dyn : fsH) (hV : V I A J it dyn)
    (kk : ∀ (I : Nat → Int32) (A : Nat → Nat → Int32) (J : Nat → Nat → Int64) (it : Nat → Option Nat) (dyn : fsH), V I A J it dyn → fgW p e s m args below meth c room_1 Z [(0, .ref b)] G l (mW nm) (k + 3282) (n + 22971) 607 [(4, .inl (nI i)), (3, .inr (.inr (some 40))), (2, .inr (.inr (some 14))), (1, .inr (.inr (some 0)))] [] (fs_mk ht I A J it dyn)) : fgW p e s m args below meth c room_1 Z [(0, .ref b)] G l (mW nm) k n 470 [(4, .inl (nI i)), (3, .inr (.inr (some 40))), (2, .inr (.inr (some 14))), (1, .inr (.inr (some 0)))] [] (fs_mk ht I A J it dyn) := by
  obtain ⟨s7, s8, hr, hv⟩ := hop I A J it dyn (xs (i + 1)) hV
  refine fg_aload_n C dL_law_470 rfl rfl ?_
  refine fz_ld C hX hb hG 1 (by omega) hL rfl rfl dL_law_471 dL_law_472 dL_law_474 dL_law_475 dL_law_476 ?_
  refine fg_callV1 C dL_law_477 sv_L_77 rfl ⟨_, rfl, rfl⟩ (c_X7_message G l ht I A J it dyn (xs (i + 1)) s7) rfl rfl (Nat.le_of_ble_eq_true rfl) (by decide) (by decide) (by show _ ≤ 600096; omega) (by show _ ≤ 7301352; omega) ?_
  refine fg_aload_n C dL_law_480 rfl rfl ?_
  refine fz_ld C hX hb hG 1 (by omega) hL rfl rfl dL_law_481 dL_law_482 dL_law_484 dL_law_485 dL_law_486 ?_
  refine fg_callV1 C dL_law_487 sv_L_80 rfl ⟨_, rfl, rfl⟩ (c_X8_message G l ht I A J it dyn (xs (i + 1)) s8) rfl rfl (Nat.le_of_ble_eq_true rfl) (by decide) (by decide) (by show _ ≤ 600096; omega) (by show _ ≤ 7301352; omega) ?_
  refine fg_icmp_eq C 607 dL_law_490 rfl (fun _ => ?_) (fun q => absurd hr q)
  exact fg_widen C (k2 := k + 3282) (n2 := n + 22971) (by omega) (by omega) (kk _ _ _ _ _ hv)
theorem fzC_place (C : fs_Ctx G (mW nm) p s m args meth c) (hX : va_X b Ln xs s s.heap) (hb : b < s.heap.size) (hG : b < G.1) (hL : Ln ≤ 241) (hi : i + 4 < Ln) (hk : k + 3282 ≤ 600096) (hn : n + 22971 ≤ 7301352) (hop : fzO_place ht V) (I : Nat → Int32) (A : Nat → Nat → Int32) (J : Nat → Nat → Int64) (it : Nat → Option Nat) (dyn : fsH) (hV : V I A J it dyn)
    (kk : ∀ (I : Nat → Int32) (A : Nat → Nat → Int32) (J : Nat → Nat → Int64) (it : Nat → Option Nat) (dyn : fsH), V I A J it dyn → fgW p e s m args below meth c room_1 Z [(0, .ref b)] G l (mW nm) (k + 3282) (n + 22971) 607 [(4, .inl (nI i)), (3, .inr (.inr (some 40))), (2, .inr (.inr (some 14))), (1, .inr (.inr (some 0)))] [] (fs_mk ht I A J it dyn)) : fgW p e s m args below meth c room_1 Z [(0, .ref b)] G l (mW nm) k n 495 [(4, .inl (nI i)), (3, .inr (.inr (some 40))), (2, .inr (.inr (some 14))), (1, .inr (.inr (some 0)))] [] (fs_mk ht I A J it dyn) := by
  obtain ⟨s7, s8, hr, hv⟩ := hop I A J it dyn (xs (i + 1)) (xs (i + 2)) hV
  refine fg_aload_n C dL_law_495 rfl rfl ?_
  refine fz_ld C hX hb hG 1 (by omega) hL rfl rfl dL_law_496 dL_law_497 dL_law_499 dL_law_500 dL_law_501 ?_
  refine fz_ld C hX hb hG 2 (by omega) hL rfl rfl dL_law_502 dL_law_503 dL_law_505 dL_law_506 dL_law_507 ?_
  refine fg_callV1 C dL_law_508 sv_L_81 rfl ⟨_, rfl, rfl⟩ (c_X7_place G l ht I A J it dyn (xs (i + 1)) (xs (i + 2)) s7) rfl rfl (Nat.le_of_ble_eq_true rfl) (by decide) (by decide) (by show _ ≤ 600096; omega) (by show _ ≤ 7301352; omega) ?_
  refine fg_aload_n C dL_law_511 rfl rfl ?_
  refine fz_ld C hX hb hG 1 (by omega) hL rfl rfl dL_law_512 dL_law_513 dL_law_515 dL_law_516 dL_law_517 ?_
  refine fz_ld C hX hb hG 2 (by omega) hL rfl rfl dL_law_518 dL_law_519 dL_law_521 dL_law_522 dL_law_523 ?_
  refine fg_callV1 C dL_law_524 sv_L_84 rfl ⟨_, rfl, rfl⟩ (c_X8_place G l ht I A J it dyn (xs (i + 1)) (xs (i + 2)) s8) rfl rfl (Nat.le_of_ble_eq_true rfl) (by decide) (by decide) (by show _ ≤ 600096; omega) (by show _ ≤ 7301352; omega) ?_
  refine fg_icmp_eq C 607 dL_law_527 rfl (fun _ => ?_) (fun q => absurd hr q)
  exact fg_widen C (k2 := k + 3282) (n2 := n + 22971) (by omega) (by omega) (kk _ _ _ _ _ hv)
theorem fzC_pages (C : fs_Ctx G (mW nm) p s m args meth c) (hX : va_X b Ln xs s s.heap) (hb : b < s.heap.size) (hG : b < G.1) (hL : Ln ≤ 241) (hi : i + 4 < Ln) (hk : k + 3282 ≤ 600096) (hn : n + 22971 ≤ 7301352) (hop : fzO_pages ht V) (I : Nat → Int32) (A : Nat → Nat → Int32) (J : Nat → Nat → Int64) (it : Nat → Option Nat) (dyn : fsH) (hV : V I A J it dyn)
    (kk : ∀ (I : Nat → Int32) (A : Nat → Nat → Int32) (J : Nat → Nat → Int64) (it : Nat → Option Nat) (dyn : fsH), V I A J it dyn → fgW p e s m args below meth c room_1 Z [(0, .ref b)] G l (mW nm) (k + 3282) (n + 22971) 607 [(4, .inl (nI i)), (3, .inr (.inr (some 40))), (2, .inr (.inr (some 14))), (1, .inr (.inr (some 0)))] [] (fs_mk ht I A J it dyn)) : fgW p e s m args below meth c room_1 Z [(0, .ref b)] G l (mW nm) k n 532 [(4, .inl (nI i)), (3, .inr (.inr (some 40))), (2, .inr (.inr (some 14))), (1, .inr (.inr (some 0)))] [] (fs_mk ht I A J it dyn) := by
  obtain ⟨s7, hr, hv⟩ := hop I A J it dyn  hV
  refine fg_aload_n C dL_law_532 rfl rfl ?_
  refine fg_callV1 C dL_law_533 sv_L_85 rfl ⟨_, rfl, rfl⟩ (c_X7_pages G l ht I A J it dyn  s7) rfl rfl (Nat.le_of_ble_eq_true rfl) (by decide) (by decide) (by show _ ≤ 600096; omega) (by show _ ≤ 7301352; omega) ?_
  refine fg_aload_n C dL_law_536 rfl rfl ?_
  refine fg_callV1 C dL_law_537 sv_L_88 rfl ⟨_, rfl, rfl⟩ (c_X8_pages G l ht I A J it dyn  ) rfl rfl (Nat.le_of_ble_eq_true rfl) (by decide) (by decide) (by show _ ≤ 600096; omega) (by show _ ≤ 7301352; omega) ?_
  refine fg_icmp_eq C 607 dL_law_540 rfl (fun _ => ?_) (fun q => absurd hr q)
  exact fg_widen C (k2 := k + 3282) (n2 := n + 22971) (by omega) (by omega) (kk _ _ _ _ _ hv)
theorem fzC_line (C : fs_Ctx G (mW nm) p s m args meth c) (hX : va_X b Ln xs s s.heap) (hb : b < s.heap.size) (hG : b < G.1) (hL : Ln ≤ 241) (hi : i + 4 < Ln) (hk : k + 3282 ≤ 600096) (hn : n + 22971 ≤ 7301352) (hop : fzO_line ht V) (I : Nat → Int32) (A : Nat → Nat → Int32) (J : Nat → Nat → Int64) (it : Nat → Option Nat) (dyn : fsH) (hV : V I A J it dyn)
    (kk : ∀ (I : Nat → Int32) (A : Nat → Nat → Int32) (J : Nat → Nat → Int64) (it : Nat → Option Nat) (dyn : fsH), V I A J it dyn → fgW p e s m args below meth c room_1 Z [(0, .ref b)] G l (mW nm) (k + 3282) (n + 22971) 607 [(4, .inl (nI i)), (3, .inr (.inr (some 40))), (2, .inr (.inr (some 14))), (1, .inr (.inr (some 0)))] [] (fs_mk ht I A J it dyn)) : fgW p e s m args below meth c room_1 Z [(0, .ref b)] G l (mW nm) k n 545 [(4, .inl (nI i)), (3, .inr (.inr (some 40))), (2, .inr (.inr (some 14))), (1, .inr (.inr (some 0)))] [] (fs_mk ht I A J it dyn) := by
  obtain ⟨s7, s8, hr, hv⟩ := hop I A J it dyn (xs (i + 1)) (xs (i + 2)) hV
  refine fg_aload_n C dL_law_545 rfl rfl ?_
  refine fz_ld C hX hb hG 1 (by omega) hL rfl rfl dL_law_546 dL_law_547 dL_law_549 dL_law_550 dL_law_551 ?_
  refine fz_ld C hX hb hG 2 (by omega) hL rfl rfl dL_law_552 dL_law_553 dL_law_555 dL_law_556 dL_law_557 ?_
  refine fg_callV1 C dL_law_558 sv_L_89 rfl ⟨_, rfl, rfl⟩ (c_X7_line G l ht I A J it dyn (xs (i + 1)) (xs (i + 2)) s7) rfl rfl (Nat.le_of_ble_eq_true rfl) (by decide) (by decide) (by show _ ≤ 600096; omega) (by show _ ≤ 7301352; omega) ?_
  refine fg_aload_n C dL_law_561 rfl rfl ?_
  refine fz_ld C hX hb hG 1 (by omega) hL rfl rfl dL_law_562 dL_law_563 dL_law_565 dL_law_566 dL_law_567 ?_
  refine fz_ld C hX hb hG 2 (by omega) hL rfl rfl dL_law_568 dL_law_569 dL_law_571 dL_law_572 dL_law_573 ?_
  refine fg_callV1 C dL_law_574 sv_L_92 rfl ⟨_, rfl, rfl⟩ (c_X8_line G l ht I A J it dyn (xs (i + 1)) (xs (i + 2)) s8) rfl rfl (Nat.le_of_ble_eq_true rfl) (by decide) (by decide) (by show _ ≤ 600096; omega) (by show _ ≤ 7301352; omega) ?_
  refine fg_icmp_eq C 607 dL_law_577 rfl (fun _ => ?_) (fun q => absurd hr q)
  exact fg_widen C (k2 := k + 3282) (n2 := n + 22971) (by omega) (by omega) (kk _ _ _ _ _ hv)
theorem fzC_count (C : fs_Ctx G (mW nm) p s m args meth c) (hX : va_X b Ln xs s s.heap) (hb : b < s.heap.size) (hG : b < G.1) (hL : Ln ≤ 241) (hi : i + 4 < Ln) (hk : k + 3282 ≤ 600096) (hn : n + 22971 ≤ 7301352) (hop : fzO_count ht V) (I : Nat → Int32) (A : Nat → Nat → Int32) (J : Nat → Nat → Int64) (it : Nat → Option Nat) (dyn : fsH) (hV : V I A J it dyn)
    (kk : ∀ (I : Nat → Int32) (A : Nat → Nat → Int32) (J : Nat → Nat → Int64) (it : Nat → Option Nat) (dyn : fsH), V I A J it dyn → fgW p e s m args below meth c room_1 Z [(0, .ref b)] G l (mW nm) (k + 3282) (n + 22971) 607 [(4, .inl (nI i)), (3, .inr (.inr (some 40))), (2, .inr (.inr (some 14))), (1, .inr (.inr (some 0)))] [] (fs_mk ht I A J it dyn)) : fgW p e s m args below meth c room_1 Z [(0, .ref b)] G l (mW nm) k n 582 [(4, .inl (nI i)), (3, .inr (.inr (some 40))), (2, .inr (.inr (some 14))), (1, .inr (.inr (some 0)))] [] (fs_mk ht I A J it dyn) := by
  obtain ⟨s7, s8, hr, hv⟩ := hop I A J it dyn (xs (i + 1)) hV
  refine fg_aload_n C dL_law_582 rfl rfl ?_
  refine fz_ld C hX hb hG 1 (by omega) hL rfl rfl dL_law_583 dL_law_584 dL_law_586 dL_law_587 dL_law_588 ?_
  refine fg_callV1 C dL_law_589 sv_L_93 rfl ⟨_, rfl, rfl⟩ (c_X7_count G l ht I A J it dyn (xs (i + 1)) s7) rfl rfl (Nat.le_of_ble_eq_true rfl) (by decide) (by decide) (by show _ ≤ 600096; omega) (by show _ ≤ 7301352; omega) ?_
  refine fg_aload_n C dL_law_592 rfl rfl ?_
  refine fz_ld C hX hb hG 1 (by omega) hL rfl rfl dL_law_593 dL_law_594 dL_law_596 dL_law_597 dL_law_598 ?_
  refine fg_callV1 C dL_law_599 sv_L_96 rfl ⟨_, rfl, rfl⟩ (c_X8_count G l ht I A J it dyn (xs (i + 1)) s8) rfl rfl (Nat.le_of_ble_eq_true rfl) (by decide) (by decide) (by show _ ≤ 600096; omega) (by show _ ≤ 7301352; omega) ?_
  refine fg_icmp_eq C 607 dL_law_602 rfl (fun _ => ?_) (fun q => absurd hr q)
  exact fg_widen C (k2 := k + 3282) (n2 := n + 22971) (by omega) (by omega) (kk _ _ _ _ _ hv)
end FZC
