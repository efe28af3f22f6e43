/-! THE LAW'S add AND close: methods with handlers -/
def fy_N (U : State) : Prop := va_Nc "java/lang/IllegalStateException" "java/lang/IllegalArgumentException" U
def fy_Pc (G : fsG) (vs : List fsV) (h : fsH) : Array Value → State → Prop := va_Pc (vs.map (fs_v G.1)) (fun U => fs_Rel G h U.heap ∧ fs_K G U ∧ fx_K G U ∧ fy_N U)
def fyMet (G : fsG) (l : Launch) (M : fsM) (hh : List (Nat × Nat × Nat × Nat)) (d mc ms : Nat) (vs : List fsV) (h : fsH) (Q : Option fsV → fsH → Prop) : Prop :=
  Met l M.1 (.codeWith M.1 M.2.1 M.2.2.1 M.2.2.2 hh :: fs_T) (fs_Rm d mc ms) (fy_Pc G vs h) (fs_Qc G Q) mc ms (fs_A G)
section FYR
variable {G : fsG} {l : Launch} {M : fsM} {D mc ms : Nat} {Q : Option fsV → fsH → Prop} {h : fsH} {hh : List (Nat × Nat × Nat × Nat)}
theorem fyMet_of {vs : List fsV} (hp : plainName M.1.cls = true) (hn : (vs.map fs_cat).sum ≤ M.2.2.1)
    (kk : ∀ (p : Program) (e : Env) (s : State) (m : MethodId) (args : Array Value) (below : List Frame) (meth : Method) (c : Code), fs_Ctx G M p s m args meth c → fx_K G s → fy_N s → c.exceptionTable.toList = tableOf hh →
      fgW p e s m args below meth c (fs_Rm D mc ms) (MQ below (fs_Qc G Q) args s mc ms (fs_A G)) [] G l M 0 0 0 (fs_args 0 vs) [] h) : fyMet G l M hh D mc ms vs h Q := by
  refine va_MetW (cc := M.2.1) (maxL := M.2.2.1) (ret := M.2.2.2) (hh := hh) hp rfl ?_
  intro p e s m args below meth c s₁ B hml hv
  obtain ⟨rfl, hR, hK, hF, hN⟩ := hv
  have hts := atoms_spec (ws := .codeWith M.1 M.2.1 M.2.2.1 M.2.2.2 hh :: fs_T) B.pre
  have htab := vx_table (l := l) (x := M.1) B (hts _ List.mem_cons_self)
  have hl := lv_entry (vs.map (fs_v G.1)) (n := M.2.2.1) (by rw [fs_lgl]; exact hn)
  rw [lg_entry_eq]
  generalize (lg_sl (vs.map (fs_v G.1)) ++ List.replicate (M.2.2.1 - (lg_sl (vs.map (fs_v G.1))).length) Slot.unset).toArray = ls at hl ⊢
  rw [fs_L_args] at hl
  exact kk p e s m _ below meth c ⟨B.exec, B.bytes, B.returns, hml, findClass_of_methodNamed B.named, fun w hw => hts w (List.mem_cons_of_mem _ hw), hK, (name_of_methodNamed B.named B.method).1, B.notSynchronized, by rw [hR.1]; omega⟩ hF hN htab s.heap [] ls hR va_S.rf hl
variable {p : Program} {e : Env} {s : State} {m : MethodId} {args : Array Value} {below : List Frame} {meth : Method} {c : Code} {X : List (Nat × Value)} {pc : Nat} {L : List (Nat × fsV)} {R : Room} {Z : State → Prop} {k n : Nat} {st : List fsV}
theorem fy_iret (C : fs_Ctx G M p s m args meth c) {x : Int32} (hd : decode M.2.1 pc = .ok (.ireturn, 1)) {ty : FieldType} (hr : M.2.2.2 = some ty) (hn : narrow ty (.int x) = .int x) (hq : Q (some (.inl x)) h) : fgW p e s m args below meth c R (MQ below (fs_Qc G Q) args s mc ms (fs_A G)) X G l M mc ms pc L [.inl x] h := by
  intro H locs ls hR hS hl
  have hlocks : meth.locks = false := C.2.2.2.2.2.2.2.2.1
  exact W.zret C.1 C.2.1 (C.2.2.1.trans hr) hn (fun t ht _ => ⟨some (.inl x), h, rfl, hq, by rw [ht]; exact hR, hS.F ht⟩) hS.2.2 hd
/-- a call of a method that returns or throws -/
theorem fx_callV (C : fs_Ctx G M p s m args meth c) (hF : fx_K G s) {idx nA d mc' ms' : Nat} {Y : fsM} {vs : List fsV} {st0 : List fsV} {Q' : Option fsV → fsH → Prop} {QX : String → fsH → Prop} {a ci : Nat} {fs : List fsV} (hd : decode M.2.1 pc = .ok (.invokevirtual idx, 3)) (hs : fs_SV M.1.cls idx Y nA) (hc : h[a]? = some (some (.inr (ci, fs)))) (hcl : ∃ rc, vwCl[ci]? = some rc ∧ rc.1 = Y.1.cls)
    (hM : fxMet G l Y d mc' ms' (.inr (.inr (some a)) :: vs) h Q' QX) (h0 : st0 = vs.reverse ++ .inr (.inr (some a)) :: st) (hn : vs.length = nA) (hst : (st.map fs_cat).sum ≤ 8) (hD : d + 1 ≤ R.frames) (hD2 : 64 * d + 64 ≤ R.locals) (hk : k + mc' ≤ R.cells) (hk2 : n + ms' ≤ R.slots)
    (kk : ∀ (r : Option fsV) (h' : fsH), Q' r h' → fgW p e s m args below meth c R Z X G l M (k + mc') (n + ms') (pc + 3) L (r.toList ++ st) h')
    (kx : ∀ (E : String) (h' : fsH) (j : Nat) (q : Addr) (ce : Cell) (H1 : Heap) (locs1 : List Loc) (ls : Array Slot), QX E h' → fs_Rel G (h' ++ List.replicate j none) H1 → va_S (fs_A G) s.heap H1 locs1 → lv_has ls M.2.2.1 (X ++ fs_L G L) → H1[q]? = some ce → ce.vm = .none → s.vm.findClass E = some ce.cls → vx_W p l e R s m args below meth c H1 locs1 (k + mc') (n + ms') Z (F0 m pc ls (st.map (fs_v G.1))) q) :
    fgW p e s m args below meth c R Z X G l M k n pc L st0 h := by
  subst h0
  intro H locs ls hR hS hl
  obtain ⟨w1, w2, w3, w4, w5, d1, d2, d3, d4⟩ := hs
  have hrecv : ∃ cellB : Cell, H[G.1 + a]? = some cellB ∧ cellB.vm.isStatics = false ∧ s.vm.findClass Y.1.cls = some cellB.cls := by
    obtain ⟨rc, hrc, hrn⟩ := hcl
    rw [← hrn]
    exact va_recv (D := G.2.1) (cl := vwCl) (tys := fs_tys G) C.2.2.2.2.2.2.1.1 (fs_has_nil (hR.2 a _ hc)) hrc (q0 := 0) rfl
  have hroom : (fs_Rm d mc' ms').frames + 1 ≤ R.frames ∧ 8 + (Y.2.2.1 + 11) + (fs_Rm d mc' ms').locals ≤ R.locals := ⟨hD, by show 8 + (Y.2.2.1 + 11) + 64 * d ≤ R.locals; omega⟩
  have hbl : FrameBlind (fx_Pc G (.inr (.inr (some a)) :: vs) h) := fun a' U g mk q => by
    obtain ⟨q0, qR, qK, qF⟩ := q
    exact ⟨q0, qR, fs_K_same (u := U) (U := U.calling g mk a') rfl qK, fx_K_call g mk a' qF⟩
  have hr := vx_runV (C := Y.1.cls) (b := G.1 + a) (As := vs.map (fs_v G.1)) (rest := st.map (fs_v G.1)) (nL := M.2.2.1) (Ts := fs_T) (own := M.1.cls) (g := F0 m pc ls ((vs.reverse ++ .inr (.inr (some a)) :: st).map (fs_v G.1))) ⟨C.1, C.2.1, C.2.2.2.1, C.2.2.2.2.1, C.2.2.2.2.2.1⟩ hM (cwV nA C.2.2.2.2.2.1 (fun w hw => by
    rcases List.mem_append.mp hw with hw | hw
    · simp only [List.mem_cons, List.not_mem_nil, or_false] at hw
      rcases hw with rfl | rfl | rfl | rfl <;> exact fs_T_good _ (by assumption)
    · exact fs_T_code w1 w hw) rfl rfl rfl ⟨rfl, d1, d2, d3⟩ hroom) ⟨hbl, hrecv, fun U hU hW => ⟨by simp [fs_v, fs_rf, va_rf], by rw [hU]; exact hR, fs_K_warm hW C.2.2.2.2.2.2.1, fx_K_warm hW (fun q h1 h2 => by rw [hU]; exact hS.2.1 q h1 h2) hF⟩⟩ rfl (by simp [hn]) hl.1 (by simp [fs_v, fs_rf, va_rf]) (lv_room (by rw [fs_catl]; exact hst)) hd (locs := locs) (cells := k) (slots := n) (e := e) (p := p) (l := l) (below := below) (meth := meth) ⟨hk, hk2⟩
  intro T hT X0
  have keep : ∀ (st₀ t T' : State) (L9 : List Loc), st₀.heap = H → T'.heap = t.heap → (∀ q ∈ L9, fs_A G q.base) → va_F (fs_A G) st₀ t → va_S (fs_A G) s.heap T'.heap (locs ++ L9) := by
    intro st₀ t T' L9 h0 e1 hL hfr
    obtain ⟨hz, hkp⟩ := hfr
    rw [h0] at hz hkp
    exact ⟨Nat.le_trans hS.1 (by rw [e1]; exact hz), fun q h1 h2 => by rw [e1, hkp q (Nat.lt_of_lt_of_le h1 hS.1) h2]; exact hS.2.1 q h1 h2, fun q hq => by
      rcases List.mem_append.mp hq with h | h
      · exact hS.2.2 q h
      · exact hL q h⟩
  rcases hr T hT X0 with ⟨v, st₀, t, T', L9, h0, X', hL, e1, e2, ⟨r, h', hv, hq, hrel, hfr⟩, st9⟩ | ⟨q, st₀, t, T', L9, E, ce, h0, X', hL, e1, e2, ⟨h', j, hqx, hrel, hfr⟩, g1, g2, g3, st9⟩
  · cases hv
    have k9 := kk r h' hq T'.heap (locs ++ L9) ls (by rw [e1]; exact hrel) (keep st₀ t T' L9 h0 e1 hL hfr) hl T' rfl X'
    rw [← fs_rl] at k9
    obtain ⟨t2, a1, b1⟩ := k9
    exact ⟨t2, st9 t2 a1, b1⟩
  · obtain ⟨t2, a1, b1⟩ := kx E h' j q ce T'.heap (locs ++ L9) ls hqx (by rw [e1]; exact hrel) (keep st₀ t T' L9 h0 e1 hL hfr) hl (by rw [e1]; exact g1) g2 g3 T' rfl X'
    exact ⟨t2, st9.trans a1, b1⟩
/-- into a handler -/
theorem fy_hand (C : fs_Ctx G M p s m args meth c) {j : Fin 4} {i : Nat} {q : Addr} {H : Heap} {locs : List Loc} {ls : Array Slot} (hd : decode M.2.1 pc = .ok (.astore_n j, 1)) (hi : (j : Nat) = i) (hn : i < M.2.2.1) (hR : fs_Rel G h H) (hS : va_S (fs_A G) s.heap H locs) (hl : lv_has ls M.2.2.1 ([] ++ fs_L G L)) (kk : fgW p e s m args below meth c R Z [] G l M k n (pc + 1) [] [] h) : W p l e R s m args below meth c H locs k n Z (F0 m pc ls [.ref q]) :=
  lv_astore_n C.1 C.2.1 hd hi hl hn rfl (fun ls' hl' => kk H locs ls' hR hS ⟨hl'.1, hl'.2.1, fun q hq => by cases hq⟩)
end FYR
def fy_hh : List (Nat × Nat × Nat × Nat) := [(0, 8, 11, 13), (0, 8, 14, 15)]
theorem fy_l13 : Cond.classLink RL 13 "java/lang/IllegalArgumentException" ∈ fs_T := fs_in (by decide +kernel) rfl
theorem fy_l15 : Cond.classLink RL 15 "java/lang/IllegalStateException" ∈ fs_T := fs_in (by decide +kernel) rfl
theorem fy_c1 : Cond.castable "java/lang/IllegalArgumentException" "java/lang/IllegalArgumentException" ∈ fx_N := List.mem_filter.mpr ⟨by decide +kernel, rfl⟩
theorem fy_c2 : Cond.castable "java/lang/IllegalStateException" "java/lang/IllegalStateException" ∈ fx_N := List.mem_filter.mpr ⟨by decide +kernel, rfl⟩
theorem sv_L_7 : fs_SV RL 7 mX7_add 0 := ⟨fs_in (by decide +kernel) rfl, fs_in (by decide +kernel) rfl, fs_in (by decide +kernel) rfl, fs_in (by decide +kernel) rfl, fs_in (by decide +kernel) rfl, by decide, by decide, by decide +kernel, by decide⟩
/-- the law's add: its answer is what was thrown -/
theorem c_L_add (G : fsG) (l : Launch) (hl0 : l.stackTraces = false) (ht : Nat) (I : Nat → Int32) (A : Nat → Nat → Int32) (J : Nat → Nat → Int64) (it : Nat → Option Nat) (dyn : fsH) (hS : S_X7_add ht I A J it dyn) : fyMet G l mL_add fy_hh 28 3282 22971 [.inr (.inr (some 0)), .inr (.inr (some 40))] (fs_mk ht I A J it dyn)
    (fun r1 h1 => r1 = some (.inl (L_X7_add_k ht I A J it dyn)) ∧ ∃ j, h1 = fs_mk ht (L_X7_add_I ht I A J it dyn) A (if L_X7_add_k ht I A J it dyn = 0 then va_up J 40 (vp_updL (J 40) 0 (L_X7_add_r ht I A J it dyn).toInt64) else J) (L_X7_add_it ht I A J it dyn) ((L_X7_add_dyn ht I A J it dyn) ++ List.replicate j none)) := by
  refine fyMet_of (by decide) (by decide) ?_
  intro p e s m args below meth c C hF hN htab
  have hown : s.vm.findClass RL = some m.cls := C.2.2.2.2.1
  refine fg_aload_n C dL_add_0 rfl rfl ?_
  refine fg_iconst C dL_add_1 rfl ?_
  refine fg_aload_n C dL_add_2 rfl rfl ?_
  refine fx_callV C hF (vs := []) (st := [.inl 0, .inr (.inr (some 40))]) dL_add_3 sv_L_7 rfl ⟨_, rfl, rfl⟩ (c_X7_add G l hl0 ht I A J it dyn hS) rfl rfl (by decide) (by decide) (by decide) (by decide) (by decide) ?_ ?_
  · intro r h' hq
    obtain ⟨k0, rfl, rfl⟩ := hq
    refine fg_i2l C dL_add_6 ?_
    refine fg_lastore C dL_add_7 rfl (by unfold vp_in; decide) ?_
    refine fg_goto C 17 dL_add_8 rfl ?_
    refine fg_iconst C dL_add_17 rfl ?_
    refine fy_iret C dL_add_18 rfl rfl ⟨by rw [k0]; rfl, 0, ?_⟩
    rw [if_pos k0, List.replicate_zero, List.append_nil]
    rfl
  · intro E h' j q ce H1 locs1 ls hq hRel hS1 hl hce hcv hcl
    obtain ⟨hk, rfl⟩ := hq
    have hRel : fs_Rel G (fs_mk ht (L_X7_add_I ht I A J it dyn) A J (L_X7_add_it ht I A J it dyn) ((L_X7_add_dyn ht I A J it dyn) ++ List.replicate j none)) H1 := hRel
    rcases hk with ⟨k1, rfl⟩ | ⟨k2, rfl⟩
    · refine vx_catch (own := RL) (name := "java/lang/IllegalArgumentException") hown [] ⟨0, 8, 11, 13⟩ [⟨0, 8, 14, 15⟩] htab (fun z hz => by cases hz) rfl (by decide) (C.2.2.2.2.2.1 _ fy_l13) (va_Nw.use rfl (hF.1 _ fy_c1)) hce hcv hcl ?_
      refine fy_hand (M := mL_add) (G := G) C dL_add_11 rfl (by decide) hRel hS1 hl ?_
      refine fg_iconst C dL_add_12 rfl ?_
      exact fy_iret C dL_add_13 rfl rfl ⟨by rw [k1]; rfl, j, by rw [k1, if_neg (by decide)]⟩
    · refine vx_catch (own := RL) (name := "java/lang/IllegalStateException") hown [⟨0, 8, 11, 13⟩] ⟨0, 8, 14, 15⟩ [] htab (fun z hz => by
        cases List.mem_singleton.mp hz
        exact Or.inr ⟨by decide, _, C.2.2.2.2.2.1 _ fy_l13, hN⟩) rfl (by decide) (C.2.2.2.2.2.1 _ fy_l15) (va_Nw.use rfl (hF.1 _ fy_c2)) hce hcv hcl ?_
      refine fy_hand (M := mL_add) (G := G) C dL_add_14 rfl (by decide) hRel hS1 hl ?_
      refine fg_iconst C dL_add_15 rfl ?_
      exact fy_iret C dL_add_16 rfl rfl ⟨by rw [k2]; rfl, j, by rw [k2, if_neg (by decide)]⟩
theorem sv_L_17 : fs_SV RL 17 mX7_close 0 := ⟨fs_in (by decide +kernel) rfl, fs_in (by decide +kernel) rfl, fs_in (by decide +kernel) rfl, fs_in (by decide +kernel) rfl, fs_in (by decide +kernel) rfl, by decide, by decide, by decide +kernel, by decide⟩
/-- the law's close: its answer is what was thrown -/
theorem c_L_close (G : fsG) (l : Launch) (hl0 : l.stackTraces = false) (ht : Nat) (I : Nat → Int32) (A : Nat → Nat → Int32) (J : Nat → Nat → Int64) (it : Nat → Option Nat) (dyn : fsH) (hS : S_X7_close ht I A J it dyn) : fyMet G l mL_close fy_hh 34 1 6 [.inr (.inr (some 0)), .inr (.inr (some 40))] (fs_mk ht I A J it dyn)
    (fun r1 h1 => r1 = some (.inl (L_X7_close_k ht I A J it dyn)) ∧ ∃ j, h1 = fs_mk ht (L_X7_close_I ht I A J it dyn) (L_X7_close_A ht I A J it dyn) (if L_X7_close_k ht I A J it dyn = 0 then va_up (L_X7_close_J ht I A J it dyn) 40 (vp_updL ((L_X7_close_J ht I A J it dyn) 40) 0 (L_X7_close_r ht I A J it dyn).toInt64) else (L_X7_close_J ht I A J it dyn)) it ((L_X7_close_dyn ht I A J it dyn) ++ List.replicate j none)) := by
  refine fyMet_of (by decide) (by decide) ?_
  intro p e s m args below meth c C hF hN htab
  have hown : s.vm.findClass RL = some m.cls := C.2.2.2.2.1
  refine fg_aload_n C dL_close_0 rfl rfl ?_
  refine fg_iconst C dL_close_1 rfl ?_
  refine fg_aload_n C dL_close_2 rfl rfl ?_
  refine fx_callV C hF (vs := []) (st := [.inl 0, .inr (.inr (some 40))]) dL_close_3 sv_L_17 rfl ⟨_, rfl, rfl⟩ (c_X7_close G l hl0 ht I A J it dyn hS) rfl rfl (by decide) (by decide) (by decide) (by decide) (by decide) ?_ ?_
  · intro r h' hq
    obtain ⟨k0, rfl, rfl⟩ := hq
    refine fg_i2l C dL_close_6 ?_
    refine fg_lastore C dL_close_7 rfl (by unfold vp_in; decide) ?_
    refine fg_goto C 17 dL_close_8 rfl ?_
    refine fg_iconst C dL_close_17 rfl ?_
    refine fy_iret C dL_close_18 rfl rfl ⟨by rw [k0]; rfl, 0, ?_⟩
    rw [if_pos k0, List.replicate_zero, List.append_nil]
    rfl
  · intro E h' j q ce H1 locs1 ls hq hRel hS1 hl hce hcv hcl
    obtain ⟨hk, rfl⟩ := hq
    have hRel : fs_Rel G (fs_mk ht (L_X7_close_I ht I A J it dyn) (L_X7_close_A ht I A J it dyn) (L_X7_close_J ht I A J it dyn) it ((L_X7_close_dyn ht I A J it dyn) ++ List.replicate j none)) H1 := hRel
    rcases hk with ⟨k1, rfl⟩ | ⟨k2, rfl⟩
    · refine vx_catch (own := RL) (name := "java/lang/IllegalArgumentException") hown [] ⟨0, 8, 11, 13⟩ [⟨0, 8, 14, 15⟩] htab (fun z hz => by cases hz) rfl (by decide) (C.2.2.2.2.2.1 _ fy_l13) (va_Nw.use rfl (hF.1 _ fy_c1)) hce hcv hcl ?_
      refine fy_hand (M := mL_close) (G := G) C dL_close_11 rfl (by decide) hRel hS1 hl ?_
      refine fg_iconst C dL_close_12 rfl ?_
      exact fy_iret C dL_close_13 rfl rfl ⟨by rw [k1]; rfl, j, by rw [k1, if_neg (by decide)]⟩
    · refine vx_catch (own := RL) (name := "java/lang/IllegalStateException") hown [⟨0, 8, 11, 13⟩] ⟨0, 8, 14, 15⟩ [] htab (fun z hz => by
        cases List.mem_singleton.mp hz
        exact Or.inr ⟨by decide, _, C.2.2.2.2.2.1 _ fy_l13, hN⟩) rfl (by decide) (C.2.2.2.2.2.1 _ fy_l15) (va_Nw.use rfl (hF.1 _ fy_c2)) hce hcv hcl ?_
      refine fy_hand (M := mL_close) (G := G) C dL_close_14 rfl (by decide) hRel hS1 hl ?_
      refine fg_iconst C dL_close_15 rfl ?_
      exact fy_iret C dL_close_16 rfl rfl ⟨by rw [k2]; rfl, j, by rw [k2, if_neg (by decide)]⟩
