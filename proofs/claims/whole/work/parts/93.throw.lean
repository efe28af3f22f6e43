/-! THROWING METHODS: a contract that returns or throws; what a throw needs -/
def fx_isN (w : Cond) : Bool := match w with
  | .castable _ _ => true
  | .declares _ => true
  | _ => false
def fx_N : List Cond := lw_tbl.filter fx_isN
def fx_str : List (Nat × String) := [(72, "the text is no item"), (83, "the form can't take the item"), (90, "the form is closed"), (96, "a name is not as it must be")]
def fx_K (G : fsG) (U : State) : Prop := (∀ w ∈ fx_N, va_Nw w U) ∧ (∀ q ∈ fx_str, ∃ sa, vk_R "FormSheet" q.1 q.2 sa U) ∧ vx_Zq Bundle.tN "UNASSIGNED_STACK" Bundle.steD (fs_A G) U U.heap ∧ vx_Zq Bundle.tN "SUPPRESSED_SENTINEL" Bundle.listD (fs_A G) U U.heap
theorem fx_K_warm {G : fsG} {s U : State} (hW : s.WarmedH U.vm) (hq : ∀ q : Nat, q < s.heap.size → ¬ fs_A G q → U.heap[q]? = s.heap[q]?) (h : fx_K G s) : fx_K G U := by
  obtain ⟨h1, h2, h3, h4⟩ := h
  refine ⟨fun w hw => ?_, fun q hq => ?_, (h3.moved hW.alike).kept hq, (h4.moved hW.alike).kept hq⟩
  · have h5 := h1 w hw
    have h6 : fx_isN w = true := (List.mem_filter.mp hw).2
    unfold fx_isN at h6
    split at h6
    · exact va_Nw.warmC hW h5
    · exact va_Nw.warmD hW h5
    · cases h6
  · obtain ⟨sa, hs⟩ := h2 q hq
    exact ⟨sa, hs.warm hW⟩
theorem fx_K_call {G : fsG} {U : State} (g : JFrame) (mk : MethodId) (a : Array Value) (h : fx_K G U) : fx_K G (U.calling g mk a) := by
  obtain ⟨h1, h2, h3, h4⟩ := h
  refine ⟨fun w hw => ?_, fun q hq => ?_, h3.moved (U := U.calling g mk a) (Vm.Alike.refl U.vm), h4.moved (U := U.calling g mk a) (Vm.Alike.refl U.vm)⟩
  · have h5 := h1 w hw
    have h6 : fx_isN w = true := (List.mem_filter.mp hw).2
    unfold fx_isN at h6
    split at h6
    · exact va_Nw.same (u := U) (U := U.calling g mk a) rfl rfl h5
    · exact va_Nw.same (u := U) (U := U.calling g mk a) rfl rfl h5
    · cases h6
  · obtain ⟨sa, hs⟩ := h2 q hq
    exact ⟨sa, vk_R.same (u := U) (U := U.calling g mk a) rfl hs⟩
/-- thrown: a heap with cells of no matter behind it -/
def fx_X (G : fsG) (QX : String → fsH → Prop) : String → State → State → Prop := fun E st t => ∃ (h : fsH) (j : Nat), QX E h ∧ fs_Rel G (h ++ List.replicate j none) t.heap ∧ va_F (fs_A G) st t
def fx_Pc (G : fsG) (vs : List fsV) (h : fsH) : Array Value → State → Prop := va_Pc (vs.map (fs_v G.1)) (fun U => fs_Rel G h U.heap ∧ fs_K G U ∧ fx_K G U)
def fxMet (G : fsG) (l : Launch) (M : fsM) (d mc ms : Nat) (vs : List fsV) (h : fsH) (Q : Option fsV → fsH → Prop) (QX : String → fsH → Prop) : Prop :=
  vx_Met l M.1 (.code M.1 M.2.1 M.2.2.1 M.2.2.2 :: fs_T) (fs_Rm d mc ms) (fx_Pc G vs h) (fs_Qc G Q) (fx_X G QX) mc ms (fs_A G)
theorem fs_Rel_junk {G : fsG} {h : fsH} {H H1 : Heap} (hR : fs_Rel G h H) (hz : H.size ≤ H1.size) (ho : ∀ q : Nat, q < H.size → H1[q]? = H[q]?) : fs_Rel G (h ++ List.replicate (H1.size - H.size) none) H1 := by
  refine ⟨by rw [List.length_append, List.length_replicate]; have := hR.1; omega, fun k c hk => ?_⟩
  by_cases e : k < h.length
  · rw [List.getElem?_append_left e] at hk
    exact va_at.kept (hR.2 k c hk) (ho _ (by show G.1 + k < H.size; rw [hR.1]; omega))
  · rw [List.getElem?_append_right (by omega)] at hk
    have h2 := List.mem_of_getElem? hk
    have h3 := List.eq_of_mem_replicate h2
    cases h3
section FXR
variable {G : fsG} {l : Launch} {M : fsM} {D mc ms : Nat} {Q : Option fsV → fsH → Prop} {QX : String → fsH → Prop} {h : fsH}
theorem fxMet_of {vs : List fsV} (hp : plainName M.1.cls = true) (hn : (vs.map fs_cat).sum ≤ M.2.2.1)
    (kk : ∀ (p : Program) (e : Env) (s : State) (m : MethodId) (args : Array Value) (below : List Frame) (meth : Method) (c : Code), fs_Ctx G M p s m args meth c → fx_K G s → (∀ x ∈ c.exceptionTable.toList, False) →
      fgW p e s m args below meth c (fs_Rm D mc ms) (vx_MQ below (fs_Qc G Q) (fx_X G QX) args s mc ms (fs_A G)) [] G l M 0 0 0 (fs_args 0 vs) [] h) : fxMet G l M D mc ms vs h Q QX := by
  refine vx_ofW (cc := M.2.1) (maxL := M.2.2.1) (ret := M.2.2.2) hp rfl ?_
  intro p e s m args below meth c s₁ B hml ht hv
  obtain ⟨rfl, hR, hK, hF⟩ := hv
  have hts := atoms_spec (ws := .code M.1 M.2.1 M.2.2.1 M.2.2.2 :: fs_T) B.pre
  have hl := lv_entry (vs.map (fs_v G.1)) (n := M.2.2.1) (by rw [fs_lgl]; exact hn)
  rw [lg_entry_eq]
  generalize (lg_sl (vs.map (fs_v G.1)) ++ List.replicate (M.2.2.1 - (lg_sl (vs.map (fs_v G.1))).length) Slot.unset).toArray = ls at hl ⊢
  rw [fs_L_args] at hl
  exact kk p e s m _ below meth c ⟨B.exec, B.bytes, B.returns, hml, findClass_of_methodNamed B.named, fun w hw => hts w (List.mem_cons_of_mem _ hw), hK, (name_of_methodNamed B.named B.method).1, B.notSynchronized, by rw [hR.1]; omega⟩ hF ht s.heap [] ls hR va_S.rf hl
variable {p : Program} {e : Env} {s : State} {m : MethodId} {args : Array Value} {below : List Frame} {meth : Method} {c : Code} {X : List (Nat × Value)} {pc : Nat} {L : List (Nat × fsV)} {R : Room}
theorem fx_iret (C : fs_Ctx G M p s m args meth c) {x : Int32} (hd : decode M.2.1 pc = .ok (.ireturn, 1)) {ty : FieldType} (hr : M.2.2.2 = some ty) (hn : narrow ty (.int x) = .int x) (hq : Q (some (.inl x)) h) : fgW p e s m args below meth c R (vx_MQ below (fs_Qc G Q) (fx_X G QX) args s mc ms (fs_A G)) X G l M mc ms pc L [.inl x] h := by
  intro H locs ls hR hS hl
  have hlocks : meth.locks = false := C.2.2.2.2.2.2.2.2.1
  exact vx_ret (W.zret C.1 C.2.1 (C.2.2.1.trans hr) hn (fun t ht _ => ⟨some (.inl x), h, rfl, hq, by rw [ht]; exact hR, hS.F ht⟩) hS.2.2 hd)
theorem fx_throw (C : fs_Ctx G M p s m args meth c) (hF : fx_K G s) (hl0 : l.stackTraces = false) (hT : ∀ x ∈ c.exceptionTable.toList, False) (cls : String) (ik ic is : Nat) (text : String) {k n : Nat} {st : List fsV}
    (hown : M.1.cls = "FormSheet") (hq : (is, text) ∈ fx_str) (hcls : Bundle.fit cls = true) (w1 : Cond.classLink "FormSheet" ik cls ∈ fs_T) (w2 : Cond.initialized cls ∈ fs_T)
    (hat1 : ∀ w ∈ (vx_atS "FormSheet" ic cls ["java/lang/RuntimeException", "java/lang/Exception"]).filter goodWord, w ∈ fs_T)
    (hat2 : ∀ w ∈ (vx_atS "FormSheet" ic cls ["java/lang/RuntimeException", "java/lang/Exception"]).filter (fun w => !goodWord w), w ∈ fx_N ∧ w.onTables = true)
    (hgood : ∀ w ∈ Cond.classLink "FormSheet" ik cls :: Cond.initialized cls :: vx_atS "FormSheet" ic cls ["java/lang/RuntimeException", "java/lang/Exception"], vx_ot w = true)
    (d0 : decode M.2.1 pc = .ok (.new ik, 3)) (d3 : decode M.2.1 (pc + 3) = .ok (.dup, 1)) (d4 : decode M.2.1 (pc + 4) = .ok (.ldc is, 2)) (d6 : decode M.2.1 (pc + 6) = .ok (.invokespecial ic, 3)) (d9 : decode M.2.1 (pc + 9) = .ok (.athrow, 1))
    (hRf : 5 < R.frames) (hst : (st.map fs_cat).sum ≤ 8) (hRl : 100 ≤ R.locals) (hRc : k + 1 ≤ R.cells) (hRs : n + 6 ≤ R.slots) (hc : k + 1 ≤ mc) (hs : n + 6 ≤ ms) (hx : QX cls h) :
    fgW p e s m args below meth c R (vx_MQ below (fs_Qc G Q) (fx_X G QX) args s mc ms (fs_A G)) X G l M k n pc L st h := by
  intro H locs ls hR hS hl
  obtain ⟨h1, h2, h3, h4⟩ := hF
  obtain ⟨sa, hsa⟩ := h2 _ hq
  have hts := C.2.2.2.2.2.1
  refine vx_throwS (own := "FormSheet") (cls := cls) (text := text) (names := ["java/lang/RuntimeException", "java/lang/Exception"]) (ik := ik) (is := is) (ic := ic) (sa := sa) (A := fs_A G) C.1 C.2.1 hl0 (by rw [← hown]; exact C.2.2.2.2.1) hcls (by decide) (hts _ w1) (hts _ w2) hsa ?_ hgood h3 h4 hS (by rw [C.2.2.2.1]; exact hl.1) d0 d3 d4 d6 d9 (fun x hx => (hT x hx).elim) hRf (by rw [fs_catl]; show _ + (13 * (2 + 1) + 43) ≤ _; omega) hRc hRs C.2.2.2.2.2.2.2.2.1 ?_ hS.2.2 hc hs
  · exact vx_hat (fun w hw => hts w (hat1 w hw)) (B := (vx_atS "FormSheet" ic cls ["java/lang/RuntimeException", "java/lang/Exception"]).filter (fun w => !goodWord w)) (fun w hw => hw) (fun w hw => va_Nw.use (hat2 w hw).2 (h1 w (hat2 w hw).1))
  · intro t hvm hz ho
    refine ⟨h, t.heap.size - H.size, hx, fs_Rel_junk hR hz ho, Nat.le_trans hS.1 hz, fun q h1 h2 => ?_⟩
    rw [ho q (Nat.lt_of_lt_of_le h1 hS.1)]
    exact hS.2.1 q h1 h2
end FXR
