/-! THE LAW'S ENTRY: what the words give -/
theorem fz_in {args : Array Value} {s : State} (hts : ∀ w ∈ lw_tbl, w.before args s = true) : ∀ w ∈ fs_T, w.before args s = true := fun w hw => hts w (List.mem_filter.mp hw).1
theorem fz_arr {args : Array Value} {s : State} {ty : FieldType} (h : (Cond.arrayClass ty).before args s = true) : ∃ cA : ClassId, ArrOfT s cA ty ∧ s.vm.findClass ("[" ++ ty.toString) = some cA := by
  obtain ⟨c, k, comp, h1, h2, h3⟩ := Cond.arrayClass_spec h
  exact ⟨c, fun n z => ⟨fun k h => (by cases h), k, h2, comp, h3⟩, h1⟩
theorem fz_wi : Cond.arrayOver (.object "FormSheet$Item") ∈ lw_tbl := by decide +kernel
theorem fz_K {args : Array Value} {s : State} (hts : ∀ w ∈ lw_tbl, w.before args s = true) : ∃ G : fsG, G.1 = s.heap.size ∧ fs_K G s := by
  have ht := fz_in hts
  obtain ⟨c0, i0, K0⟩ := u_known (C := RX1) (T := TX1) (N := 3) (n := 3) ht ux_X1 (hts (.instantiable RX1 3) (by decide +kernel))
  obtain ⟨c1, i1, K1⟩ := u_known (C := RX2) (T := TX2) (N := 5) (n := 5) ht ux_X2 (hts (.instantiable RX2 5) (by decide +kernel))
  obtain ⟨c2, i2, K2⟩ := u_known (C := RX3) (T := TX3) (N := 8) (n := 8) ht ux_X3 (hts (.instantiable RX3 8) (by decide +kernel))
  obtain ⟨c3, i3, K3⟩ := u_known (C := RX4) (T := TX4) (N := 7) (n := 7) ht ux_X4 (hts (.instantiable RX4 7) (by decide +kernel))
  obtain ⟨c4, i4, K4⟩ := u_known (C := RX5) (T := TX5) (N := 3) (n := 3) ht ux_X5 (hts (.instantiable RX5 3) (by decide +kernel))
  obtain ⟨c5, i5, K5⟩ := u_known (C := RX6) (T := TX6) (N := 5) (n := 5) ht ux_X6 (hts (.instantiable RX6 5) (by decide +kernel))
  obtain ⟨c6, i6, K6⟩ := u_known (C := RX7) (T := TX7) (N := 6) (n := 6) ht ux_X7 (hts (.instantiable RX7 6) (by decide +kernel))
  obtain ⟨c7, i7, K7⟩ := u_known (C := RX8) (T := TX8) (N := 38) (n := 38) ht ux_X8 (hts (.instantiable RX8 38) (by decide +kernel))
  obtain ⟨a0, A0, B0⟩ := fz_arr (ht _ wa_char)
  obtain ⟨a1, A1, B1⟩ := fz_arr (ht _ wa_int)
  obtain ⟨a2, A2, B2⟩ := fz_arr (ht _ wa_long)
  obtain ⟨a3, A3, B3⟩ := fz_arr (ht _ wa_boolean)
  obtain ⟨comp, a4, k4, h1, -, h3, h4, h5⟩ := Cond.arrayOver_spec (hts _ fz_wi)
  refine ⟨(s.heap.size, (fun k => match k with | 0 => c0 | 1 => c1 | 2 => c2 | 3 => c3 | 4 => c4 | 5 => c5 | 6 => c6 | _ => c7, fun k => match k with | 0 => i0 | 1 => i1 | 2 => i2 | 3 => i3 | 4 => i4 | 5 => i5 | 6 => i6 | _ => i7), fun k => match k with | 0 => a0 | 1 => a1 | 2 => a2 | 3 => a3 | _ => a4), rfl, ⟨fun c q hq => ?_, fun k q hq => ?_⟩, fun w hw => ?_, ?_⟩
  · match c, hq with
    | 0, hq => cases hq; exact K0
    | 1, hq => cases hq; exact K1
    | 2, hq => cases hq; exact K2
    | 3, hq => cases hq; exact K3
    | 4, hq => cases hq; exact K4
    | 5, hq => cases hq; exact K5
    | 6, hq => cases hq; exact K6
    | 7, hq => cases hq; exact K7
    | c + 8, hq => cases hq
  · match k, hq with
    | 0, hq => cases hq; exact ⟨A0, B0⟩
    | 1, hq => cases hq; exact ⟨A1, B1⟩
    | 2, hq => cases hq; exact ⟨A2, B2⟩
    | 3, hq => cases hq; exact ⟨A3, B3⟩
    | 4, hq => cases hq; exact ⟨fun n z => ⟨fun k h => (by cases h), k4, h3, comp, h4⟩, k4, comp, h3, h4, h1, h5⟩
    | k + 5, hq => cases hq
  · have h6 : fs_isN w = true := (List.mem_filter.mp hw).2
    have h7 := hts w (List.mem_filter.mp hw).1
    unfold fs_isN at h6
    split at h6
    · exact va_Nw.of rfl h7
    · cases h6
  · exact va_AO.of (hts _ fz_wi)
theorem fz_s1 : Cond.laysStatic Bundle.tN "UNASSIGNED_STACK" Bundle.steD ∈ lw_tbl := by decide +kernel
theorem fz_s2 : Cond.laysStatic Bundle.tN "SUPPRESSED_SENTINEL" Bundle.listD ∈ lw_tbl := by decide +kernel
theorem fz_s3 : Cond.initialized Bundle.tN ∈ lw_tbl := by decide +kernel
theorem fz_g1 : Cond.isRef (.static Bundle.tN "UNASSIGNED_STACK" Bundle.steD) ∈ flatC (Jvm.Cond.and given_1 narrow_1) := by decide +kernel
theorem fz_g2 : Cond.isRef (.static Bundle.tN "SUPPRESSED_SENTINEL" Bundle.listD) ∈ flatC (Jvm.Cond.and given_1 narrow_1) := by decide +kernel
theorem fz_g3 : Cond.not (.castable "java/lang/IllegalStateException" "java/lang/IllegalArgumentException") ∈ flatC (Jvm.Cond.and given_1 narrow_1) := by decide +kernel
theorem fz_x72 : Cond.exactly (.string "FormSheet" 72) "java/lang/String" ∈ flatC (Jvm.Cond.and given_1 narrow_1) := by decide +kernel
theorem fz_x83 : Cond.exactly (.string "FormSheet" 83) "java/lang/String" ∈ flatC (Jvm.Cond.and given_1 narrow_1) := by decide +kernel
theorem fz_x90 : Cond.exactly (.string "FormSheet" 90) "java/lang/String" ∈ flatC (Jvm.Cond.and given_1 narrow_1) := by decide +kernel
theorem fz_x96 : Cond.exactly (.string "FormSheet" 96) "java/lang/String" ∈ flatC (Jvm.Cond.and given_1 narrow_1) := by decide +kernel
theorem fz_r72 : Cond.stringRef "FormSheet" 72 "the text is no item" ∈ lw_tbl := by decide +kernel
theorem fz_r83 : Cond.stringRef "FormSheet" 83 "the form can't take the item" ∈ lw_tbl := by decide +kernel
theorem fz_r90 : Cond.stringRef "FormSheet" 90 "the form is closed" ∈ lw_tbl := by decide +kernel
theorem fz_r96 : Cond.stringRef "FormSheet" 96 "a name is not as it must be" ∈ lw_tbl := by decide +kernel
theorem fz_str {args : Array Value} {s : State} {k : Nat} {tx : String} (h1 : (Cond.stringRef "FormSheet" k tx).before args s = true) (h2 : (Cond.exactly (.string "FormSheet" k) "java/lang/String").before args s = true) : ∃ sa, vk_R "FormSheet" k tx sa s := by
  obtain ⟨a, c, cell, kk, e1, -⟩ := Cond.exactly_spec h2
  exact ⟨a, vk_R.of h1 e1⟩
theorem fz_X {args : Array Value} {s : State} {G : fsG} (hG : G.1 = s.heap.size) (hts : ∀ w ∈ lw_tbl, w.before args s = true) (hg : (Jvm.Cond.and given_1 narrow_1).before args s = true) : fx_K G s ∧ fy_N s := by
  have hf := flat_of_before _ hg
  have hA : ∀ a : Nat, a < s.heap.size → ¬ fs_A G a := fun a h1 h2 => by
    have h3 : G.1 ≤ a := h2
    omega
  refine ⟨⟨fun w hw => ?_, fun q hq => ?_, vx_Zqof (hts _ fz_s1) (hts _ fz_s3) (hf _ fz_g1) hA, vx_Zqof (hts _ fz_s2) (hts _ fz_s3) (hf _ fz_g2) hA⟩, va_Nc.of (hf _ fz_g3)⟩
  · have h6 : fx_isN w = true := (List.mem_filter.mp hw).2
    have h7 := hts w (List.mem_filter.mp hw).1
    unfold fx_isN at h6
    split at h6
    · exact va_Nw.of rfl h7
    · exact va_Nw.of rfl h7
    · cases h6
  · unfold fx_str at hq
    simp only [List.mem_cons, List.not_mem_nil, or_false] at hq
    rcases hq with rfl | rfl | rfl | rfl
    · exact fz_str (hts _ fz_r72) (hf _ fz_x72)
    · exact fz_str (hts _ fz_r83) (hf _ fz_x83)
    · exact fz_str (hts _ fz_r90) (hf _ fz_x90)
    · exact fz_str (hts _ fz_r96) (hf _ fz_x96)
/-! THE SCRIPT -/
section FZR
variable {G : fsG} {l : Launch} {M : fsM} {p : Program} {e : Env} {s : State} {m : MethodId} {args : Array Value} {below : List Frame} {meth : Method} {c : Code} {R : Room} {Z : State → Prop} {k n pc : Nat} {L : List (Nat × fsV)} {st : List fsV} {h : fsH} {b Ln : Nat} {xs : Nat → Int32}
theorem fz_0 {ls : Array Slot} {nL : Nat} {q : List (Nat × Value)} (hl : lv_has ls nL ([(0, Value.ref b)] ++ q)) : ls[0]? = some (.val (.ref b)) := hl.2.2 (0, .ref b) (by simp)
theorem fz_nA (hG : b < G.1) : ¬ fs_A G b := fun h1 => by
  have h3 : G.1 ≤ b := h1
  omega
theorem fz_len (C : fs_Ctx G M p s m args meth c) (hX : va_X b Ln xs s s.heap) (hb : b < s.heap.size) (hG : b < G.1) (hd0 : decode M.2.1 pc = .ok (.aload_n 0, 1)) (hd1 : decode M.2.1 (pc + 1) = .ok (.arraylength, 1)) (kk : fgW p e s m args below meth c R Z [(0, .ref b)] G l M k n (pc + 2) L (.inl (Int32.ofNat Ln) :: st) h) : fgW p e s m args below meth c R Z [(0, .ref b)] G l M k n pc L st h := by
  intro H locs ls hR hS hl
  refine lv_aload_n C.1 C.2.1 hd0 rfl (fz_0 hl) ?_
  exact va_slen C.1 C.2.1 hX hb (fz_nA hG) hS hd1 (kk H locs ls hR hS hl)
theorem fz_lda (C : fs_Ctx G M p s m args meth c) (hX : va_X b Ln xs s s.heap) (hb : b < s.heap.size) (hG : b < G.1) {i : Nat} (hi : i < Ln) (hL : Ln ≤ 241) (hv : fs_lk L 4 = some (.inl (nI i))) (hd0 : decode M.2.1 pc = .ok (.aload_n 0, 1)) (hd1 : decode M.2.1 (pc + 1) = .ok (.iload 4, 2)) (hd2 : decode M.2.1 (pc + 3) = .ok (.iaload, 1)) (kk : fgW p e s m args below meth c R Z [(0, .ref b)] G l M k n (pc + 4) L (.inl (xs i) :: st) h) : fgW p e s m args below meth c R Z [(0, .ref b)] G l M k n pc L st h := by
  intro H locs ls hR hS hl
  refine lv_aload_n C.1 C.2.1 hd0 rfl (fz_0 hl) ?_
  refine lv_iload C.1 C.2.1 hd1 (fg_at_of hl hv) ?_
  refine va_sld C.1 C.2.1 hX hb (fz_nA hG) hS (nI_in hi (by omega)) hd2 ?_
  rw [nI_clamp (by omega)]
  exact kk H locs ls hR hS hl
theorem fz_ld (C : fs_Ctx G M p s m args meth c) (hX : va_X b Ln xs s s.heap) (hb : b < s.heap.size) (hG : b < G.1) {i : Nat} (q : Nat) (hi : i + q < Ln) (hL : Ln ≤ 241) (hv : fs_lk L 4 = some (.inl (nI i))) {z : Int} (hz : Int32.ofInt z = nI q) (hd0 : decode M.2.1 pc = .ok (.aload_n 0, 1)) (hd1 : decode M.2.1 (pc + 1) = .ok (.iload 4, 2)) (hd2 : decode M.2.1 (pc + 3) = .ok (.iconst z, 1)) (hd3 : decode M.2.1 (pc + 4) = .ok (.iadd, 1)) (hd4 : decode M.2.1 (pc + 5) = .ok (.iaload, 1)) (kk : fgW p e s m args below meth c R Z [(0, .ref b)] G l M k n (pc + 6) L (.inl (xs (i + q)) :: st) h) : fgW p e s m args below meth c R Z [(0, .ref b)] G l M k n pc L st h := by
  intro H locs ls hR hS hl
  refine lv_aload_n C.1 C.2.1 hd0 rfl (fz_0 hl) ?_
  refine lv_iload C.1 C.2.1 hd1 (fg_at_of hl hv) ?_
  refine lv_iconst C.1 C.2.1 hd2 hz ?_
  refine lv_iadd C.1 C.2.1 hd3 ?_
  rw [nI_add]
  refine va_sld C.1 C.2.1 hX hb (fz_nA hG) hS (nI_in hi (by omega)) hd4 ?_
  rw [nI_clamp (by omega)]
  exact kk H locs ls hR hS hl
/-! the law's cell(script, 0) -/
def fz_v (Ln : Nat) (xs : Nat → Int32) : Int32 := if 0 < Ln then xs 0 else 0
def fz_cPc (G : fsG) (b Ln : Nat) (xs : Nat → Int32) (h : fsH) : Array Value → State → Prop := va_Pc [.ref b, .int 0] (fun U => fs_Rel G h U.heap ∧ fs_K G U ∧ va_X b Ln xs U U.heap ∧ b < U.heap.size)
theorem c_L_cell (l : Launch) (hG : b < G.1) (hL : Ln ≤ 241) : Met l mL_cell.1 (.code mL_cell.1 mL_cell.2.1 mL_cell.2.2.1 mL_cell.2.2.2 :: fs_T) (fs_Rm 0 0 0) (fz_cPc G b Ln xs h) (fs_Qc G (fun r h1 => r = some (.inl (fz_v Ln xs)) ∧ h1 = h)) 0 0 (fs_A G) := by
  refine Met.ofW (cc := mL_cell.2.1) (maxL := mL_cell.2.2.1) (ret := mL_cell.2.2.2) (by decide) rfl ?_
  intro p e s m args below meth c s₁ B hml hv
  obtain ⟨rfl, hR, hK, hX, hb⟩ := hv
  have hts := atoms_spec (ws := .code mL_cell.1 mL_cell.2.1 mL_cell.2.2.1 mL_cell.2.2.2 :: fs_T) B.pre
  have hl := lv_entry [Value.ref b, Value.int 0] (n := 2) (Nat.le_refl 2)
  rw [lg_entry_eq]
  generalize (lg_sl [Value.ref b, Value.int 0] ++ List.replicate (mL_cell.2.2.1 - (lg_sl [Value.ref b, Value.int 0]).length) Slot.unset).toArray = ls at hl ⊢
  have C : fs_Ctx G mL_cell p s m ([Value.ref b, Value.int 0] : List Value).toArray meth c := ⟨B.exec, B.bytes, B.returns, hml, findClass_of_methodNamed B.named, fun w hw => hts w (List.mem_cons_of_mem _ hw), hK, (name_of_methodNamed B.named B.method).1, B.notSynchronized, by rw [hR.1]; omega⟩
  have hl : lv_has ls mL_cell.2.2.1 ([(0, Value.ref b)] ++ fs_L G [(1, .inl 0)]) := hl
  refine (?_ : fgW p e s m _ below meth c (fs_Rm 0 0 0) (MQ below (fs_Qc G (fun r h1 => r = some (.inl (fz_v Ln xs)) ∧ h1 = h)) _ s 0 0 (fs_A G)) [(0, .ref b)] G l mL_cell 0 0 0 [(1, .inl 0)] [] h) s.heap [] ls hR va_S.rf hl
  refine fg_iload_n C dL_cell_0 rfl rfl ?_
  refine fz_len C hX hb hG dL_cell_1 dL_cell_2 ?_
  refine fg_icmp_ge C 12 dL_cell_3 rfl (fun q => ?_) (fun q => ?_)
  · have h0 : ¬ 0 < Ln := fun h0 => by
      have h1 : nI 0 < nI Ln := nI_lt h0 (by omega)
      rw [nI_0] at h1
      exact absurd h1 (Int32.not_lt.mpr q)
    refine fg_iconst C dL_cell_12 rfl ?_
    exact fy_iret C dL_cell_13 rfl rfl ⟨by unfold fz_v; rw [if_neg h0]; rfl, rfl⟩
  · have h0 : 0 < Ln := Nat.pos_of_ne_zero fun h1 => by
      subst h1
      exact q (by decide)
    intro H locs ls hR hS hl
    refine lv_aload_n C.1 C.2.1 dL_cell_6 rfl (fz_0 hl) ?_
    refine lv_iload_n C.1 C.2.1 dL_cell_7 rfl (fg_at_of (i := 1) (v := .inl 0) hl rfl) ?_
    refine va_sld C.1 C.2.1 hX hb (fz_nA hG) hS (by have h9 := nI_in (c := 0) h0 (by omega); rw [nI_0] at h9; exact h9) dL_cell_8 ?_
    refine (?_ : fgW p e s m _ below meth c (fs_Rm 0 0 0) (MQ below (fs_Qc G (fun r h1 => r = some (.inl (fz_v Ln xs)) ∧ h1 = h)) _ s 0 0 (fs_A G)) [(0, .ref b)] G l mL_cell 0 0 9 [(1, .inl 0)] [.inl (xs (0 : Int32).toNatClampNeg)] h) H locs ls hR hS hl
    refine fg_goto C 13 dL_cell_9 rfl ?_
    exact fy_iret C dL_cell_13 rfl rfl ⟨by unfold fz_v; rw [if_pos h0]; rfl, rfl⟩
theorem fz_cell (C : fs_Ctx G M p s m args meth c) (hM : M.1.cls = RL) (hX : va_X b Ln xs s s.heap) (hb : b < s.heap.size) (hG : b < G.1) (hL : Ln ≤ 241) (hd0 : decode M.2.1 pc = .ok (.aload_n 0, 1)) (hd1 : decode M.2.1 (pc + 1) = .ok (.iconst 0, 1)) (hd2 : decode M.2.1 (pc + 2) = .ok (.invokestatic 20, 3)) (hst : (st.map fs_cat).sum ≤ 8) (hD : 1 ≤ R.frames) (hD2 : 64 ≤ R.locals) (hk : k ≤ R.cells) (hk2 : n ≤ R.slots) (kk : fgW p e s m args below meth c R Z [(0, .ref b)] G l M k n (pc + 5) L (.inl (fz_v Ln xs) :: st) h) : fgW p e s m args below meth c R Z [(0, .ref b)] G l M k n pc L st h := by
  intro H locs ls hR hS hl
  refine lv_aload_n C.1 C.2.1 hd0 rfl (fz_0 hl) ?_
  refine lv_iconst C.1 C.2.1 hd1 rfl ?_
  have hs : fs_SS M.1.cls 20 mL_cell 2 := by rw [hM]; exact sv_L_20
  obtain ⟨w1, w2, w3, w4, d1, d2, d3, d4⟩ := hs
  have hroom : (fs_Rm 0 0 0).frames + 1 ≤ R.frames ∧ 8 + (mL_cell.2.2.1 + 11) + (fs_Rm 0 0 0).locals ≤ R.locals := ⟨hD, by show 8 + (2 + 11) + 64 * 0 ≤ R.locals; omega⟩
  have hbl : FrameBlind (fz_cPc G b Ln xs h) := fun a' U g mk q => by
    obtain ⟨q0, qR, qK, qX, qb⟩ := q
    exact ⟨q0, qR, fs_K_same (u := U) (U := U.calling g mk a') rfl qK, va_X.moved (u := U) (U := U.calling g mk a') (Vm.Alike.refl U.vm) qX, qb⟩
  refine fs_after (G := G) (va_runS (As := [.ref b, .int 0]) (rest := st.map (fs_v G.1)) (nL := M.2.2.1) (Ts := fs_T) (own := M.1.cls) ⟨C.1, C.2.1, C.2.2.2.1, C.2.2.2.2.1, C.2.2.2.2.2.1⟩ (c_L_cell (xs := xs) (h := h) l hG hL) (va_cwS 2 C.2.2.2.2.2.1 (fun w hw => by
    rcases List.mem_append.mp hw with hw | hw
    · simp only [List.mem_cons, List.not_mem_nil, or_false] at hw
      rcases hw with rfl | rfl | rfl <;> exact fs_T_good _ (by assumption)
    · exact fs_T_code w1 w hw) rfl rfl rfl ⟨d1, d2, d3⟩ hroom) ⟨hbl, fun U hU hW => ⟨rfl, by rw [hU]; exact hR, fs_K_warm hW C.2.2.2.2.2.2.1, by rw [hU]; exact (hX.kept (hS.2.1 b hb (fz_nA hG))).moved hW.alike, by rw [hU]; exact Nat.lt_of_lt_of_le hb hS.1⟩⟩ rfl rfl hl.1 rfl (lv_room (by rw [fs_catl]; exact hst)) hd2 ⟨hk, hk2⟩) hS ?_
  intro r h' H1 locs1 q1 q2 q3
  obtain ⟨rfl, rfl⟩ := q1
  exact kk H1 locs1 ls q2 q3 hl
/-- a static call of a method with handlers -/
theorem fz_callSW (C : fs_Ctx G M p s m args meth c) (hF : fx_K G s) (hN : fy_N s) {idx nA d mc' ms' : Nat} {Y : fsM} {hh : List (Nat × Nat × Nat × Nat)} {vs : List fsV} {st0 : List fsV} {Q' : Option fsV → fsH → Prop} (hd : decode M.2.1 pc = .ok (.invokestatic idx, 3)) (w1 : Cond.codeWith Y.1 Y.2.1 Y.2.2.1 Y.2.2.2 hh ∈ fs_T) (w2 : Cond.methodLink M.1.cls idx Y.1 ∈ fs_T) (w3 : Cond.static Y.1 ∈ fs_T) (w4 : Cond.initialized Y.1.cls ∈ fs_T) (dd : Y.1.cls ≠ "java/lang/invoke/MethodHandle" ∧ Y.1.cls ≠ "java/lang/invoke/VarHandle" ∧ (parseMethodDescriptor Y.1.desc).map (fun d => d.parameters.length) = some nA) (d4 : Y.2.2.1 ≤ 45)
    (hM : fyMet G l Y hh d mc' ms' vs h Q') (h0 : st0 = vs.reverse ++ st) (hn : vs.length = nA) (hst : (st.map fs_cat).sum ≤ 8) (hD : d + 1 ≤ R.frames) (hD2 : 64 * d + 64 ≤ R.locals) (hk : k + mc' ≤ R.cells) (hk2 : n + ms' ≤ R.slots) {X : List (Nat × Value)}
    (kk : ∀ (r : Option fsV) (h' : fsH), Q' r h' → fgW p e s m args below meth c R Z X G l M (k + mc') (n + ms') (pc + 3) L (r.toList ++ st) h') : fgW p e s m args below meth c R Z X G l M k n pc L st0 h := by
  subst h0
  intro H locs ls hR hS hl
  have hroom : (fs_Rm d mc' ms').frames + 1 ≤ R.frames ∧ 8 + (Y.2.2.1 + 11) + (fs_Rm d mc' ms').locals ≤ R.locals := ⟨hD, by show 8 + (Y.2.2.1 + 11) + 64 * d ≤ R.locals; omega⟩
  have hbl : FrameBlind (fy_Pc G vs h) := fun a' U g mk q => by
    obtain ⟨q0, qR, qK, qF, qN⟩ := q
    exact ⟨q0, qR, fs_K_same (u := U) (U := U.calling g mk a') rfl qK, fx_K_call g mk a' qF, va_Nc.moved (u := U) (U := U.calling g mk a') (Vm.Alike.refl U.vm) qN⟩
  refine fs_after (G := G) (vx_runSW (As := vs.map (fs_v G.1)) (rest := st.map (fs_v G.1)) (nL := M.2.2.1) (Ts := fs_T) (own := M.1.cls) ⟨C.1, C.2.1, C.2.2.2.1, C.2.2.2.2.1, C.2.2.2.2.2.1⟩ hM (vx_cwSW nA C.2.2.2.2.2.1 (fun w hw => by
    rcases List.mem_append.mp hw with hw | hw
    · simp only [List.mem_cons, List.not_mem_nil, or_false] at hw
      rcases hw with rfl | rfl | rfl <;> exact fs_T_good _ (by assumption)
    · rcases List.mem_cons.mp hw with rfl | hw
      · exact fs_T_good _ w1
      · exact fs_T_good _ hw) rfl rfl rfl dd hroom) ⟨hbl, fun U hU hW => ⟨by simp, by rw [hU]; exact hR, fs_K_warm hW C.2.2.2.2.2.2.1, fx_K_warm hW (fun q h1 h2 => by rw [hU]; exact hS.2.1 q h1 h2) hF, va_Nc.moved hW.alike hN⟩⟩ rfl (by simp [hn]) hl.1 (by simp) (lv_room (by rw [fs_catl]; exact hst)) hd ⟨hk, hk2⟩) hS ?_
  intro r h' H1 locs1 q1 q2 q3
  rw [fs_rl]
  exact kk r h' q1 H1 locs1 ls q2 q3 hl
end FZR
