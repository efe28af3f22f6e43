/-! HEAP AND CALLS over the pure heap -/
theorem fs_Rel_set {G : fsG} {h : fsH} {H H1 : Heap} {a : Nat} {c0 : Option fsC} {c : fsC} (hR : fs_Rel G h H) (ha : h[a]? = some c0) (hz : H1.size = H.size) (ho : ∀ q : Nat, q ≠ G.1 + a → H1[q]? = H[q]?) (hc : fs_at G H1 a c) : fs_Rel G (h.set a (some c)) H1 := by
  refine ⟨by rw [hz, List.length_set]; exact hR.1, fun k c' hk => ?_⟩
  by_cases e : k = a
  · subst e
    have hlt : k < h.length := (List.getElem?_eq_some_iff.mp ha).1
    rw [List.getElem?_set_self hlt] at hk
    cases hk
    exact hc
  · rw [List.getElem?_set_ne (Ne.symm e)] at hk
    exact va_at.kept (hR.2 k c' hk) (ho _ (by show G.1 + k ≠ G.1 + a; omega))
theorem fs_Rel_push {G : fsG} {h : fsH} {H H1 : Heap} {c : Option fsC} (hR : fs_Rel G h H) (hz : H1.size = H.size + 1) (ho : ∀ q : Nat, q < H.size → H1[q]? = H[q]?) (hc : ∀ c', c = some c' → fs_at G H1 h.length c') : fs_Rel G (h ++ [c]) H1 := by
  refine ⟨by rw [hz, hR.1, List.length_append]; simp; omega, fun k c' hk => ?_⟩
  by_cases e : k < h.length
  · rw [List.getElem?_append_left e] at hk
    exact va_at.kept (hR.2 k c' hk) (ho _ (by show G.1 + k < H.size; rw [hR.1]; omega))
  · have hk2 : k < (h ++ [c]).length := (List.getElem?_eq_some_iff.mp hk).1
    rw [List.length_append] at hk2
    have hk3 : k = h.length := by simp at hk2; omega
    subst hk3
    rw [List.getElem?_append_right (Nat.le_refl _)] at hk
    simp at hk
    exact hc c' hk
theorem fs_S_new {A : Nat → Prop} {H0 H H1 : Heap} {locs : List Loc} (hS : va_S A H0 H locs) (hz : H1.size = H.size + 1) (ho : ∀ q : Nat, q < H.size → H1[q]? = H[q]?) : va_S A H0 H1 locs :=
  ⟨Nat.le_trans hS.1 (by omega), fun q h1 h2 => (ho q (Nat.lt_of_lt_of_le h1 hS.1)).trans (hS.2.1 q h1 h2), hS.2.2⟩
theorem fs_A_in {G : fsG} (a : Nat) : fs_A G (G.1 + a) := Nat.le_add_right _ _
/-- a field of a class by its place, as the class 'own' names it at 'idx' -/
def fs_F (own : String) (idx ci k : Nat) : Prop := ∃ (C : String) (T : u_T) (N : Nat), vwCl[ci]? = some (C, T, N) ∧ (∀ w ∈ u_ws C T N, w ∈ fs_T) ∧ k < N ∧ Cond.fieldLink own idx (T k).1 (T k).2.1 (T k).2.2.1 ∈ fs_T
def fs_FP (own : String) (idx ci k : Nat) (ty : FieldType) (fin : Bool) : Prop := ∃ (C : String) (T : u_T) (N : Nat) (ty0 : Nat → FieldType), vwCl[ci]? = some (C, T, N) ∧ (∀ w ∈ u_ws C T N, w ∈ fs_T) ∧ k < N ∧ Cond.fieldLink own idx (T k).1 (T k).2.1 (T k).2.2.1 ∈ fs_T ∧
  (∀ k, k < N → parseFieldDescriptor (T k).2.2.1 = some (ty0 k)) ∧ (∀ a, a < N → ∀ b, b < N → a ≠ b → (T a).2.1 ≠ (T b).2.1) ∧ ty0 k = ty ∧ (T k).2.2.2 = fin ∧ (fin = true → (T k).1 = own)
def fs_NW (own : String) (idx ci N : Nat) (fs : List fsV) : Prop := ∃ (C : String) (T : u_T) (ty : Nat → FieldType), vwCl[ci]? = some (C, T, N) ∧ (∀ w ∈ u_ws C T N, w ∈ fs_T) ∧ (∀ k, k < N → parseFieldDescriptor (T k).2.2.1 = some (ty k)) ∧ Cond.classLink own idx C ∈ fs_T ∧ Cond.instantiable C N ∈ fs_T ∧ Cond.initialized C ∈ fs_T ∧ ∀ b j, j < N → defaultValue (ty j) = vp_V (fs.map (fs_v b)) j
/-- words of a call -/
def fs_SV (own : String) (idx : Nat) (Y : fsM) (n : Nat) : Prop := Cond.code Y.1 Y.2.1 Y.2.2.1 Y.2.2.2 ∈ fs_T ∧ Cond.methodLink own idx Y.1 ∈ fs_T ∧ Cond.instanceMethod Y.1 ∈ fs_T ∧ Cond.selects Y.1.cls Y.1 Y.1 ∈ fs_T ∧ Cond.initialized Y.1.cls ∈ fs_T ∧ Y.1.cls ≠ "java/lang/invoke/MethodHandle" ∧ Y.1.cls ≠ "java/lang/invoke/VarHandle" ∧ (parseMethodDescriptor Y.1.desc).map (fun d => d.parameters.length) = some n ∧ Y.2.2.1 ≤ 45
def fs_SS (own : String) (idx : Nat) (Y : fsM) (n : Nat) : Prop := Cond.code Y.1 Y.2.1 Y.2.2.1 Y.2.2.2 ∈ fs_T ∧ Cond.methodLink own idx Y.1 ∈ fs_T ∧ Cond.static Y.1 ∈ fs_T ∧ Cond.initialized Y.1.cls ∈ fs_T ∧ Y.1.cls ≠ "java/lang/invoke/MethodHandle" ∧ Y.1.cls ≠ "java/lang/invoke/VarHandle" ∧ (parseMethodDescriptor Y.1.desc).map (fun d => d.parameters.length) = some n ∧ Y.2.2.1 ≤ 45
def fs_SSN (own : String) (idx : Nat) (Y : fsM) (n : Nat) : Prop := Cond.code Y.1 Y.2.1 Y.2.2.1 Y.2.2.2 ∈ fs_T ∧ (∃ host, Cond.methodLinkNest own idx Y.1 host ∈ fs_N) ∧ Cond.static Y.1 ∈ fs_T ∧ Cond.initialized Y.1.cls ∈ fs_T ∧ Y.1.cls ≠ "java/lang/invoke/MethodHandle" ∧ Y.1.cls ≠ "java/lang/invoke/VarHandle" ∧ (parseMethodDescriptor Y.1.desc).map (fun d => d.parameters.length) = some n ∧ Y.2.2.1 ≤ 45
def fs_SI (own : String) (idx : Nat) (Y : fsM) (n : Nat) : Prop := Cond.code Y.1 Y.2.1 Y.2.2.1 none ∈ fs_T ∧ Y.2.2.2 = none ∧ Cond.methodLink own idx Y.1 ∈ fs_T ∧ Cond.instanceMethod Y.1 ∈ fs_T ∧ Cond.initialized Y.1.cls ∈ fs_T ∧ Y.1.name = "<init>" ∧ Y.1.cls ≠ "java/lang/invoke/MethodHandle" ∧ Y.1.cls ≠ "java/lang/invoke/VarHandle" ∧ (parseMethodDescriptor Y.1.desc).map (fun d => d.parameters.length) = some n ∧ Y.2.2.1 ≤ 45
def fs_SIN (own : String) (idx : Nat) (Y : fsM) (n : Nat) : Prop := Cond.code Y.1 Y.2.1 Y.2.2.1 none ∈ fs_T ∧ Y.2.2.2 = none ∧ (∃ host, Cond.methodLinkNest own idx Y.1 host ∈ fs_N) ∧ Cond.instanceMethod Y.1 ∈ fs_T ∧ Cond.initialized Y.1.cls ∈ fs_T ∧ Y.1.name = "<init>" ∧ Y.1.cls ≠ "java/lang/invoke/MethodHandle" ∧ Y.1.cls ≠ "java/lang/invoke/VarHandle" ∧ (parseMethodDescriptor Y.1.desc).map (fun d => d.parameters.length) = some n ∧ Y.2.2.1 ≤ 45
theorem fs_lgl (b : Nat) (vs : List fsV) : (lg_sl (vs.map (fs_v b))).length = (vs.map fs_cat).sum := by
  induction vs with
  | nil => rfl
  | cons v vs ih =>
    have e : lg_sl ((v :: vs).map (fs_v b)) = (if (fs_v b v).category = 2 then [.val (fs_v b v), .second] else [.val (fs_v b v)]) ++ lg_sl (vs.map (fs_v b)) := rfl
    rw [e, List.length_append, ih, fs_v_cat, List.map_cons, List.sum_cons]
    congr 1
    rcases v with x | x | x <;> rfl
theorem fs_catl (b : Nat) (vs : List fsV) : ((vs.map (fs_v b)).map fun v => v.category).sum = (vs.map fs_cat).sum := by
  rw [List.map_map]
  congr 1
  exact List.map_congr_left fun v _ => fs_v_cat b v
theorem fs_rl (b : Nat) (r : Option fsV) (st : List fsV) : (r.map (fs_v b)).toList ++ st.map (fs_v b) = (r.toList ++ st).map (fs_v b) := by
  cases r <;> simp
section FSH
variable {G : fsG} {l : Launch} {M : fsM} {D mc ms k n : Nat} {Q : Option fsV → fsH → Prop} {pc : Nat} {L : List (Nat × fsV)} {st : List fsV} {h : fsH}
/-- a contract out of a walk -/
theorem fsMet_of {vs : List fsV} (hp : plainName M.1.cls = true) (hn : (vs.map fs_cat).sum ≤ M.2.2.1) (kk : fsW G l M D mc ms 0 0 Q 0 (fs_args 0 vs) [] h) : fsMet G l M D mc ms vs h Q := by
  refine Met.ofW (cc := M.2.1) (maxL := M.2.2.1) (ret := M.2.2.2) hp rfl ?_
  intro p e s m args below meth c s₁ B hml hv
  obtain ⟨rfl, hR, hK⟩ := hv
  have hts := atoms_spec (ws := .code M.1 M.2.1 M.2.2.1 M.2.2.2 :: fs_T) B.pre
  have hl := lv_entry (vs.map (fs_v G.1)) (n := M.2.2.1) (by rw [fs_lgl]; exact hn)
  rw [lg_entry_eq]
  generalize (lg_sl (vs.map (fs_v G.1)) ++ List.replicate (M.2.2.1 - (lg_sl (vs.map (fs_v G.1))).length) Slot.unset).toArray = ls at hl ⊢
  rw [fs_L_args] at hl
  exact kk p e s m _ below meth c s.heap [] ls ⟨B.exec, B.bytes, B.returns, hml, findClass_of_methodNamed B.named, fun w hw => hts w (List.mem_cons_of_mem _ hw), hK, (name_of_methodNamed B.named B.method).1, B.notSynchronized, by rw [hR.1]; omega⟩ hR va_S.rf hl
theorem fsMet_mono {vs : List fsV} {Q' : Option fsV → fsH → Prop} (hq : ∀ r h, Q r h → Q' r h) (hm : fsMet G l M D mc ms vs h Q) : fsMet G l M D mc ms vs h Q' := by
  intro p e h1 h2 h3 s m args below h4 h5 h6 h7
  obtain ⟨t, o, a1, a2, a3, ⟨r, h', b1, b2, b3⟩, a5⟩ := hm p e h1 h2 h3 s m args below h4 h5 h6 h7
  exact ⟨t, o, a1, a2, a3, ⟨r, h', b1, hq _ _ b2, b3⟩, a5⟩
theorem fs_getfield {idx ci kf a : Nat} {fs : List fsV} {v : fsV} (hd : decode M.2.1 pc = .ok (.getfield idx, 3)) (hf : fs_F M.1.cls idx ci kf) (hc : h[a]? = some (some (.inr (ci, fs)))) (hv : fs[kf]? = some v) (kk : fsW G l M D mc ms k n Q (pc + 3) L (v :: st) h) : fsW G l M D mc ms k n Q pc L (.inr (.inr (some a)) :: st) h := by
  intro p e s m args below meth c H locs ls C hR hS hl
  obtain ⟨Cn, T, N, h1, h2, h3, h4⟩ := hf
  exact va_get (D := G.2.1) (cl := vwCl) (tys := fs_tys G) C.1 C.2.1 (Ts := fs_T) C.2.2.2.2.2.1 h2 C.2.2.2.2.1 C.2.2.2.2.2.2.1.1 (fs_has_nil (hR.2 a _ hc)) 0 rfl h1 kf h3 (C.2.2.2.2.2.1 _ h4) (fun _ q => q) (by simp [hv]) hd (kk p e s m args below meth c H locs ls C hR hS hl)
theorem fs_putfield {idx ci kf a : Nat} {fs : List fsV} {v : fsV} {ty : FieldType} (hd : decode M.2.1 pc = .ok (.putfield idx, 3)) (hf : fs_FP M.1.cls idx ci kf ty false) (hc : h[a]? = some (some (.inr (ci, fs)))) (hn : narrow ty (fs_v G.1 v) = fs_v G.1 v) (hfit : fits ty (fs_v G.1 v) = true) (hl9 : kf < fs.length) (kk : fsW G l M D mc ms k n Q (pc + 3) L st (h.set a (some (.inr (ci, fs.set kf v))))) : fsW G l M D mc ms k n Q pc L (v :: .inr (.inr (some a)) :: st) h := by
  intro p e s m args below meth c H locs ls C hR hS hl
  obtain ⟨Cn, T, N, ty0, hc1, hin, hk, hlink, hty, hnm, ety, hfin, -⟩ := hf
  have hap := va_apart (own := M.1.cls) C.2.2.2.2.2.1 hin ty0 hty hnm C.2.2.2.2.2.2.1.1 hc1
  obtain ⟨r, h1, cell, q1, q2, q3, q4⟩ := hR.2 a _ hc
  have hr : r = (Cn, T, N) := Option.some.inj (h1.symm.trans hc1)
  subst hr
  obtain ⟨hSl, hfc, kC, hkC, hkind⟩ := C.2.2.2.2.2.2.1.1.1 ci _ hc1
  obtain ⟨cf, kf9, fi, f, hi, hsl⟩ := hSl kf hk
  have hlay := C.2.2.2.2.2.1 _ (hin _ (u_in_lay hk))
  unfold u_lay at hlay
  rw [if_neg (by rw [hfin]; decide)] at hlay
  have hst := (u_facts hfc hkC (u_lays C.2.2.2.2.2.1 hin hk) hi).1
  have h6 := u_store hfc hkC hkind hlay hi (hty kf hk) (by rw [ety]; exact hn) (by rw [ety]; exact hfit)
  refine W.putK C.1 C.2.1 (f := f) ⟨C.2.2.2.2.1, C.2.2.2.2.2.1 _ hlink, ⟨_, _, _, hi⟩, hst⟩ (by rw [q2]; exact h6) q1 q3 (by rw [hsl]; exact k2_hasslot (q4 kf hk)) rfl rfl hd fun H' e1 e2 e3 => ?_
  rw [hsl] at e1 ⊢
  refine kk p e s m args below meth c H' _ ls C (fs_Rel_set hR hc e2 e3 ?_) (hS.put e2 e3 (fs_A_in a)) hl
  refine ⟨_, hc1, t_OB.to (V := updV (vp_V (fs.map (fs_v G.1))) kf (fs_v G.1 v)) ⟨_, e1, q2, q3, t_set q4 hap hk _⟩ (fun j _ => ?_)⟩
  rw [vp_updV_set (by simp; exact hl9)]
  simp [fs_e, List.map_set]
theorem fs_putfinal {idx ci kf a : Nat} {fs : List fsV} {v : fsV} {ty : FieldType} (hd : decode M.2.1 pc = .ok (.putfield idx, 3)) (hf : fs_FP M.1.cls idx ci kf ty true) (hin2 : M.1.name = "<init>") (hc : h[a]? = some (some (.inr (ci, fs)))) (hn : narrow ty (fs_v G.1 v) = fs_v G.1 v) (hfit : fits ty (fs_v G.1 v) = true) (hl9 : kf < fs.length) (kk : fsW G l M D mc ms k n Q (pc + 3) L st (h.set a (some (.inr (ci, fs.set kf v))))) : fsW G l M D mc ms k n Q pc L (v :: .inr (.inr (some a)) :: st) h := by
  intro p e s m args below meth c H locs ls C hR hS hl
  obtain ⟨Cn, T, N, ty0, hc1, hin, hk, hlink, hty, hnm, ety, hfin, hdecl⟩ := hf
  have hap := va_apart (own := M.1.cls) C.2.2.2.2.2.1 hin ty0 hty hnm C.2.2.2.2.2.2.1.1 hc1
  obtain ⟨r, h1, cell, q1, q2, q3, q4⟩ := hR.2 a _ hc
  have hr : r = (Cn, T, N) := Option.some.inj (h1.symm.trans hc1)
  subst hr
  obtain ⟨hSl, hfc, kC, hkC, hkind⟩ := C.2.2.2.2.2.2.1.1.1 ci _ hc1
  obtain ⟨cf, kf9, fi, f, hi, hsl⟩ := hSl kf hk
  have hlay := C.2.2.2.2.2.1 _ (hin _ (u_in_lay hk))
  unfold u_lay at hlay
  rw [if_pos hfin] at hlay
  have hst := (u_facts hfc hkC (u_lays C.2.2.2.2.2.1 hin hk) hi).1
  have hcf : m.cls = cf := by
    obtain ⟨_, _, c', _, _, _, -, -, hf', -, -, -, hown2, -⟩ := Cond.laysFinal_spec hlay
    have e1 : c' = cf := by have := hi.symm.trans hf'; simp at this; exact this.1.symm
    rw [hdecl rfl] at hown2
    rw [← e1]; exact Option.some.inj (C.2.2.2.2.1.symm.trans hown2)
  have h6 := u_fits hfc hkC hkind (Or.inr hlay) hi (hty kf hk) (by rw [ety]; exact hn) (by rw [ety]; exact hfit)
  refine W.putFinK C.1 C.2.1 C.2.2.2.2.1 (C.2.2.2.2.2.1 _ hlink) hi hst hcf (C.2.2.2.2.2.2.2.1.trans hin2) (by rw [q2]; exact h6) q1 q3 (by rw [hsl]; exact k2_hasslot (q4 kf hk)) rfl rfl hd fun H' e1 e2 e3 => ?_
  rw [hsl] at e1 ⊢
  refine kk p e s m args below meth c H' _ ls C (fs_Rel_set hR hc e2 e3 ?_) (hS.put e2 e3 (fs_A_in a)) hl
  refine ⟨_, hc1, t_OB.to (V := updV (vp_V (fs.map (fs_v G.1))) kf (fs_v G.1 v)) ⟨_, e1, q2, q3, t_set q4 hap hk _⟩ (fun j _ => ?_)⟩
  rw [vp_updV_set (by simp; exact hl9)]
  simp [fs_e, List.map_set]
theorem fs_new {idx ci N : Nat} {fs : List fsV} (hd : decode M.2.1 pc = .ok (.new idx, 3)) (hf : fs_NW M.1.cls idx ci N fs) (hk : k + 1 ≤ mc) (hn : n + N ≤ ms) (kk : fsW G l M D mc ms (k + 1) (n + N) Q (pc + 3) L (.inr (.inr (some h.length)) :: st) (h ++ [some (.inr (ci, fs))])) : fsW G l M D mc ms k n Q pc L st h := by
  intro p e s m args below meth c H locs ls C hR hS hl
  obtain ⟨Cn, T, ty, hc1, hin, hty, w1, w2, w3, hfs⟩ := hf
  have hKn := C.2.2.2.2.2.2.1.1.1 ci _ hc1
  refine W.newcK C.1 C.2.1 C.2.2.2.2.1 (C.2.2.2.2.2.1 _ w1) (C.2.2.2.2.2.1 _ w2) (C.2.2.2.2.2.1 _ w3) rfl hd hk hn hKn.2.1 hR.1 fun H1 kC hkC e1 z1 o1 => ?_
  rw [← hR.1] at z1 o1
  refine kk p e s m args below meth c H1 locs ls C (fs_Rel_push hR z1 o1 ?_) (fs_S_new hS z1 o1) hl
  intro c' hc'
  cases hc'
  exact ⟨_, hc1, (u_born ty C.2.2.2.2.2.1 hin hKn hkC e1 hty).to (hfs G.1)⟩
theorem fs_iaload {a N : Nat} {i : Int32} {f : Nat → Int32} (hd : decode M.2.1 pc = .ok (.iaload, 1)) (hc : h[a]? = some (some (.inl (1, N, .inl f)))) (hin : vp_in i N) (kk : fsW G l M D mc ms k n Q (pc + 1) L (.inl (f i.toNatClampNeg) :: st) h) : fsW G l M D mc ms k n Q pc L (.inl i :: .inr (.inr (some a)) :: st) h := by
  intro p e s m args below meth c H locs ls C hR hS hl
  exact va_iald (D := G.2.1) (cl := vwCl) (tys := fs_tys G) C.1 C.2.1 C.2.2.2.2.2.2.1.1 (fs_has_nil (hR.2 a _ hc)) 0 1 rfl rfl hin hd (kk p e s m args below meth c H locs ls C hR hS hl)
theorem fs_caload {a N : Nat} {i : Int32} {f : Nat → Int32} (hd : decode M.2.1 pc = .ok (.caload, 1)) (hc : h[a]? = some (some (.inl (0, N, .inl f)))) (hin : vp_in i N) (kk : fsW G l M D mc ms k n Q (pc + 1) L (.inl (f i.toNatClampNeg) :: st) h) : fsW G l M D mc ms k n Q pc L (.inl i :: .inr (.inr (some a)) :: st) h := by
  intro p e s m args below meth c H locs ls C hR hS hl
  exact va_cald (D := G.2.1) (cl := vwCl) (tys := fs_tys G) C.1 C.2.1 C.2.2.2.2.2.2.1.1 (fs_has_nil (hR.2 a _ hc)) 0 0 rfl rfl hin hd (kk p e s m args below meth c H locs ls C hR hS hl)
theorem fs_zaload {a N : Nat} {i : Int32} {f : Nat → Int32} (hd : decode M.2.1 pc = .ok (.baload, 1)) (hc : h[a]? = some (some (.inl (3, N, .inl f)))) (hin : vp_in i N) (kk : fsW G l M D mc ms k n Q (pc + 1) L (.inl (f i.toNatClampNeg) :: st) h) : fsW G l M D mc ms k n Q pc L (.inl i :: .inr (.inr (some a)) :: st) h := by
  intro p e s m args below meth c H locs ls C hR hS hl
  exact va_zald (D := G.2.1) (cl := vwCl) (tys := fs_tys G) C.1 C.2.1 C.2.2.2.2.2.2.1.1 (fs_has_nil (hR.2 a _ hc)) 0 3 rfl rfl hin hd (kk p e s m args below meth c H locs ls C hR hS hl)
theorem fs_laload {a N : Nat} {i : Int32} {f : Nat → Int64} (hd : decode M.2.1 pc = .ok (.laload, 1)) (hc : h[a]? = some (some (.inl (2, N, .inr (.inl f))))) (hin : vp_in i N) (kk : fsW G l M D mc ms k n Q (pc + 1) L (.inr (.inl (f i.toNatClampNeg)) :: st) h) : fsW G l M D mc ms k n Q pc L (.inl i :: .inr (.inr (some a)) :: st) h := by
  intro p e s m args below meth c H locs ls C hR hS hl
  exact va_lald (D := G.2.1) (cl := vwCl) (tys := fs_tys G) C.1 C.2.1 C.2.2.2.2.2.2.1.1 (fs_has_nil (hR.2 a _ hc)) 0 2 rfl rfl hin hd (kk p e s m args below meth c H locs ls C hR hS hl)
theorem fs_aaload {a N : Nat} {i : Int32} {f : Nat → Option Nat} (hd : decode M.2.1 pc = .ok (.aaload, 1)) (hc : h[a]? = some (some (.inl (4, N, .inr (.inr (.inr (.inr f))))))) (hin : vp_in i N) (kk : fsW G l M D mc ms k n Q (pc + 1) L (.inr (.inr (f i.toNatClampNeg)) :: st) h) : fsW G l M D mc ms k n Q pc L (.inl i :: .inr (.inr (some a)) :: st) h := by
  intro p e s m args below meth c H locs ls C hR hS hl
  exact va_aldq (D := G.2.1) (cl := vwCl) (tys := fs_tys G) C.1 C.2.1 C.2.2.2.2.2.2.1.1 (fs_has_nil (hR.2 a _ hc)) 0 4 rfl rfl hin hd (kk p e s m args below meth c H locs ls C hR hS hl)
theorem fs_alen {a t : Nat} {A : vp_A} {ty : FieldType} (hd : decode M.2.1 pc = .ok (.arraylength, 1)) (hc : h[a]? = some (some (.inl (t, A)))) (ht : ∀ G : fsG, (fs_tys G)[t]? = some (G.2.2 t, ty)) (kk : fsW G l M D mc ms k n Q (pc + 1) L (.inl (Int32.ofNat A.1) :: st) h) : fsW G l M D mc ms k n Q pc L (.inr (.inr (some a)) :: st) h := by
  intro p e s m args below meth c H locs ls C hR hS hl
  refine va_alen (D := G.2.1) (cl := vwCl) (tys := fs_tys G) C.1 C.2.1 C.2.2.2.2.2.2.1.1 (fs_has_nil (hR.2 a _ hc)) 0 t rfl (ht G) (v := Int32.ofNat A.1) ?_ hd (kk p e s m args below meth c H locs ls C hR hS hl)
  obtain ⟨N, f | f | f | f | f⟩ := A <;> rfl
theorem fs_iastore {a N : Nat} {i : Int32} {x : Int32} {f : Nat → Int32} (hd : decode M.2.1 pc = .ok (.iastore, 1)) (hc : h[a]? = some (some (.inl (1, N, .inl f)))) (hin : vp_in i N) (kk : fsW G l M D mc ms k n Q (pc + 1) L st (h.set a (some (.inl (1, N, .inl (upd f i.toNatClampNeg x)))))) : fsW G l M D mc ms k n Q pc L (.inl x :: .inl i :: .inr (.inr (some a)) :: st) h := by
  intro p e s m args below meth c H locs ls C hR hS hl
  refine W.iast C.1 C.2.1 (hR.2 a _ hc) ((C.2.2.2.2.2.2.1.1.2 1 _ rfl).1 N (fun j => .int (f j))) (fun q => by cases q) (by show ¬ (i < 0 ∨ (arrV _ _ _).slots.size ≤ _); rw [arrV_size]; exact hin) rfl rfl hd fun H1 e1 z oq => ?_
  refine kk p e s m args below meth c H1 _ ls C (fs_Rel_set hR hc z oq ?_) (hS.put z oq (fs_A_in a)) hl
  show H1[G.1 + a]? = some (vp_cell _ _)
  rw [e1]
  show some ((vp_cell _ (N, .inl f)).setSlot _ _) = some (vp_cell _ (N, .inl (upd f i.toNatClampNeg x)))
  rw [vp_cell_i, vp_cell_i, arrV_store]
  congr 2
  funext q
  by_cases hq : q = i.toNatClampNeg
  · subst hq
    simp [updV, upd, vp_updL, vp_nar]
    try rfl
  · simp [updV, upd, vp_updL, hq]
theorem fs_castore {a N : Nat} {i : Int32} {x : Int32} {f : Nat → Int32} (hd : decode M.2.1 pc = .ok (.castore, 1)) (hc : h[a]? = some (some (.inl (0, N, .inl f)))) (hin : vp_in i N) (kk : fsW G l M D mc ms k n Q (pc + 1) L st (h.set a (some (.inl (0, N, .inl (upd f i.toNatClampNeg (vp_nar .char x))))))) : fsW G l M D mc ms k n Q pc L (.inl x :: .inl i :: .inr (.inr (some a)) :: st) h := by
  intro p e s m args below meth c H locs ls C hR hS hl
  refine W.cast C.1 C.2.1 (hR.2 a _ hc) ((C.2.2.2.2.2.2.1.1.2 0 _ rfl).1 N (fun j => .int (f j))) (fun q => by cases q) (by show ¬ (i < 0 ∨ (arrV _ _ _).slots.size ≤ _); rw [arrV_size]; exact hin) rfl rfl hd fun H1 e1 z oq => ?_
  refine kk p e s m args below meth c H1 _ ls C (fs_Rel_set hR hc z oq ?_) (hS.put z oq (fs_A_in a)) hl
  show H1[G.1 + a]? = some (vp_cell _ _)
  rw [e1]
  show some ((vp_cell _ (N, .inl f)).setSlot _ _) = some (vp_cell _ (N, .inl (upd f i.toNatClampNeg (vp_nar .char x))))
  rw [vp_cell_i, vp_cell_i, arrV_store]
  congr 2
  funext q
  by_cases hq : q = i.toNatClampNeg
  · subst hq
    simp [updV, upd, vp_updL, vp_nar]
    try rfl
  · simp [updV, upd, vp_updL, hq]
theorem fs_zastore {a N : Nat} {i : Int32} {x : Int32} {f : Nat → Int32} (hd : decode M.2.1 pc = .ok (.bastore, 1)) (hc : h[a]? = some (some (.inl (3, N, .inl f)))) (hin : vp_in i N) (kk : fsW G l M D mc ms k n Q (pc + 1) L st (h.set a (some (.inl (3, N, .inl (upd f i.toNatClampNeg (vp_nar .boolean x))))))) : fsW G l M D mc ms k n Q pc L (.inl x :: .inl i :: .inr (.inr (some a)) :: st) h := by
  intro p e s m args below meth c H locs ls C hR hS hl
  refine W.zast C.1 C.2.1 (hR.2 a _ hc) ((C.2.2.2.2.2.2.1.1.2 3 _ rfl).1 N (fun j => .int (f j))) (fun q => by cases q) (by show ¬ (i < 0 ∨ (arrV _ _ _).slots.size ≤ _); rw [arrV_size]; exact hin) rfl rfl hd fun H1 e1 z oq => ?_
  refine kk p e s m args below meth c H1 _ ls C (fs_Rel_set hR hc z oq ?_) (hS.put z oq (fs_A_in a)) hl
  show H1[G.1 + a]? = some (vp_cell _ _)
  rw [e1]
  show some ((vp_cell _ (N, .inl f)).setSlot _ _) = some (vp_cell _ (N, .inl (upd f i.toNatClampNeg (vp_nar .boolean x))))
  rw [vp_cell_i, vp_cell_i, arrV_store]
  congr 2
  funext q
  by_cases hq : q = i.toNatClampNeg
  · subst hq
    simp [updV, upd, vp_updL, vp_nar]
    try rfl
  · simp [updV, upd, vp_updL, hq]
theorem fs_lastore {a N : Nat} {i : Int32} {x : Int64} {f : Nat → Int64} (hd : decode M.2.1 pc = .ok (.lastore, 1)) (hc : h[a]? = some (some (.inl (2, N, .inr (.inl f))))) (hin : vp_in i N) (kk : fsW G l M D mc ms k n Q (pc + 1) L st (h.set a (some (.inl (2, N, .inr (.inl (vp_updL f i.toNatClampNeg x))))))) : fsW G l M D mc ms k n Q pc L (.inr (.inl x) :: .inl i :: .inr (.inr (some a)) :: st) h := by
  intro p e s m args below meth c H locs ls C hR hS hl
  refine W.last C.1 C.2.1 (hR.2 a _ hc) ((C.2.2.2.2.2.2.1.1.2 2 _ rfl).1 N (fun j => .long (f j))) (fun q => by cases q) (by show ¬ (i < 0 ∨ (arrV _ _ _).slots.size ≤ _); rw [arrV_size]; exact hin) rfl rfl hd fun H1 e1 z oq => ?_
  refine kk p e s m args below meth c H1 _ ls C (fs_Rel_set hR hc z oq ?_) (hS.put z oq (fs_A_in a)) hl
  show H1[G.1 + a]? = some (vp_cell _ _)
  rw [e1]
  show some ((vp_cell _ (N, .inr (.inl f))).setSlot _ _) = some (vp_cell _ (N, .inr (.inl (vp_updL f i.toNatClampNeg x))))
  rw [vp_cell_l, vp_cell_l, arrV_store]
  congr 2
  funext q
  by_cases hq : q = i.toNatClampNeg
  · subst hq
    simp [updV, upd, vp_updL, vp_nar]
    try rfl
  · simp [updV, upd, vp_updL, hq]
theorem fs_aastore {a N v : Nat} {i : Int32} {vs : List fsV} {f : Nat → Option Nat} (hd : decode M.2.1 pc = .ok (.aastore, 1)) (hc : h[a]? = some (some (.inl (4, N, .inr (.inr (.inr (.inr f))))))) (hv : h[v]? = some (some (.inr (1, vs)))) (hin : vp_in i N) (kk : fsW G l M D mc ms k n Q (pc + 1) L st (h.set a (some (.inl (4, N, .inr (.inr (.inr (.inr (va_up f i.toNatClampNeg (some v)))))))))) : fsW G l M D mc ms k n Q pc L (.inr (.inr (some v)) :: .inl i :: .inr (.inr (some a)) :: st) h := by
  intro p e s m args below meth c H locs ls C hR hS hl
  have hlt : i.toNatClampNeg < N := Nat.not_le.mp fun q => hin (Or.inr q)
  have h0 : ¬ i < 0 := fun q => hin (Or.inl q)
  obtain ⟨r', hr', cellV, g1, g2, g3, -⟩ := hR.2 v _ hv
  have hcls := (C.2.2.2.2.2.2.1.1.1 1 _ rfl).2
  obtain ⟨kA, comp, k1, k2, k3, -⟩ := (C.2.2.2.2.2.2.1.1.2 4 _ rfl).2
  have hcomp : comp = G.2.1.1 1 := Option.some.inj (k3.symm.trans hcls.1)
  subst hcomp
  obtain ⟨kC, hkC, -⟩ := hcls.2
  refine W.aast C.1 C.2.1 (hR.2 a _ hc) (fun q h => by cases h) (fun h => by cases h) k1 k2 rfl hkC ⟨h0, by show _ < (arrV _ _ _).slots.size; rw [arrV_size]; exact hlt⟩ g1 (fun q h => by rw [g3] at h; cases h) (by rw [g2]; exact hkC) (by rw [g2]; exact va_assign hcls) rfl rfl hd fun H1 e1 z oq => ?_
  refine kk p e s m args below meth c H1 _ ls C (fs_Rel_set hR hc z oq ?_) (hS.put z oq (fs_A_in a)) hl
  show H1[G.1 + a]? = some (vp_cell _ _)
  rw [e1]
  show some ((vp_cell _ (N, .inr (.inr (.inr (.inr (fun i => fs_rf G.1 (f i))))))).setSlot _ _) = some (vp_cell _ (N, .inr (.inr (.inr (.inr (fun j => fs_rf G.1 (va_up f i.toNatClampNeg (some v) j)))))))
  rw [vp_cell_q, vp_cell_q, arrV_store]
  congr 2
  funext q
  by_cases hq : q = i.toNatClampNeg
  · subst hq
    simp [updV, va_up, va_rf, fs_rf]
  · simp [updV, va_up, hq]
theorem fs_newI {N : Nat} {x : Int32} (hd : decode M.2.1 pc = .ok (.newarray .int, 2)) (hw : Cond.arrayClass .int ∈ fs_T) (hx : ¬ x < 0) (hN : x.toNatClampNeg = N) (hb : N * 4 ≤ 536870912) (hk : k + 1 ≤ mc) (hn : n + N ≤ ms) (kk : fsW G l M D mc ms (k + 1) (n + N) Q (pc + 2) L (.inr (.inr (some h.length)) :: st) (h ++ [some (.inl (1, N, .inl (fun _ => 0)))])) : fsW G l M D mc ms k n Q pc L (.inl x :: st) h := by
  intro p e s m args below meth c H locs ls C hR hS hl
  refine va_newaK C.1 C.2.1 (atype := .int) (C.2.2.2.2.2.1 _ hw) rfl hd rfl hx hN hb hk hn hR.1 fun H1 cA e1 z1 o1 hAr hNm => ?_
  rw [← hR.1] at z1 o1
  refine kk p e s m args below meth c H1 locs ls C (fs_Rel_push hR z1 o1 ?_) (fs_S_new hS z1 o1) hl
  intro c' hc'
  cases hc'
  have h9 : cA = G.2.2 1 := Option.some.inj (hNm.symm.trans (C.2.2.2.2.2.2.1.1.2 1 _ rfl).2)
  subst h9
  exact e1
theorem fs_newC {N : Nat} {x : Int32} (hd : decode M.2.1 pc = .ok (.newarray .char, 2)) (hw : Cond.arrayClass .char ∈ fs_T) (hx : ¬ x < 0) (hN : x.toNatClampNeg = N) (hb : N * 2 ≤ 536870912) (hk : k + 1 ≤ mc) (hn : n + N ≤ ms) (kk : fsW G l M D mc ms (k + 1) (n + N) Q (pc + 2) L (.inr (.inr (some h.length)) :: st) (h ++ [some (.inl (0, N, .inl (fun _ => 0)))])) : fsW G l M D mc ms k n Q pc L (.inl x :: st) h := by
  intro p e s m args below meth c H locs ls C hR hS hl
  refine va_newaK C.1 C.2.1 (atype := .char) (C.2.2.2.2.2.1 _ hw) rfl hd rfl hx hN hb hk hn hR.1 fun H1 cA e1 z1 o1 hAr hNm => ?_
  rw [← hR.1] at z1 o1
  refine kk p e s m args below meth c H1 locs ls C (fs_Rel_push hR z1 o1 ?_) (fs_S_new hS z1 o1) hl
  intro c' hc'
  cases hc'
  have h9 : cA = G.2.2 0 := Option.some.inj (hNm.symm.trans (C.2.2.2.2.2.2.1.1.2 0 _ rfl).2)
  subst h9
  exact e1
theorem fs_newJ {N : Nat} {x : Int32} (hd : decode M.2.1 pc = .ok (.newarray .long, 2)) (hw : Cond.arrayClass .long ∈ fs_T) (hx : ¬ x < 0) (hN : x.toNatClampNeg = N) (hb : N * 8 ≤ 536870912) (hk : k + 1 ≤ mc) (hn : n + N ≤ ms) (kk : fsW G l M D mc ms (k + 1) (n + N) Q (pc + 2) L (.inr (.inr (some h.length)) :: st) (h ++ [some (.inl (2, N, .inr (.inl (fun _ => 0))))])) : fsW G l M D mc ms k n Q pc L (.inl x :: st) h := by
  intro p e s m args below meth c H locs ls C hR hS hl
  refine va_newaK C.1 C.2.1 (atype := .long) (C.2.2.2.2.2.1 _ hw) rfl hd rfl hx hN hb hk hn hR.1 fun H1 cA e1 z1 o1 hAr hNm => ?_
  rw [← hR.1] at z1 o1
  refine kk p e s m args below meth c H1 locs ls C (fs_Rel_push hR z1 o1 ?_) (fs_S_new hS z1 o1) hl
  intro c' hc'
  cases hc'
  have h9 : cA = G.2.2 2 := Option.some.inj (hNm.symm.trans (C.2.2.2.2.2.2.1.1.2 2 _ rfl).2)
  subst h9
  exact e1
theorem fs_newZ {N : Nat} {x : Int32} (hd : decode M.2.1 pc = .ok (.newarray .boolean, 2)) (hw : Cond.arrayClass .boolean ∈ fs_T) (hx : ¬ x < 0) (hN : x.toNatClampNeg = N) (hb : N * 1 ≤ 536870912) (hk : k + 1 ≤ mc) (hn : n + N ≤ ms) (kk : fsW G l M D mc ms (k + 1) (n + N) Q (pc + 2) L (.inr (.inr (some h.length)) :: st) (h ++ [some (.inl (3, N, .inl (fun _ => 0)))])) : fsW G l M D mc ms k n Q pc L (.inl x :: st) h := by
  intro p e s m args below meth c H locs ls C hR hS hl
  refine va_newaK C.1 C.2.1 (atype := .boolean) (C.2.2.2.2.2.1 _ hw) rfl hd rfl hx hN hb hk hn hR.1 fun H1 cA e1 z1 o1 hAr hNm => ?_
  rw [← hR.1] at z1 o1
  refine kk p e s m args below meth c H1 locs ls C (fs_Rel_push hR z1 o1 ?_) (fs_S_new hS z1 o1) hl
  intro c' hc'
  cases hc'
  have h9 : cA = G.2.2 3 := Option.some.inj (hNm.symm.trans (C.2.2.2.2.2.2.1.1.2 3 _ rfl).2)
  subst h9
  exact e1
theorem fs_newItems {idx N : Nat} {x : Int32} (hd : decode M.2.1 pc = .ok (.anewarray idx, 3)) (hw : Cond.classLink M.1.cls idx "FormSheet$Item" ∈ fs_T) (hx : ¬ x < 0) (hN : x.toNatClampNeg = N) (hb : N * 4 ≤ 536870912) (hk : k + 1 ≤ mc) (hn : n + N ≤ ms) (kk : fsW G l M D mc ms (k + 1) (n + N) Q (pc + 3) L (.inr (.inr (some h.length)) :: st) (h ++ [some (.inl (4, N, .inr (.inr (.inr (.inr (fun _ => none))))))])) : fsW G l M D mc ms k n Q pc L (.inl x :: st) h := by
  intro p e s m args below meth c H locs ls C hR hS hl
  subst hN
  refine W.anew C.1 C.2.1 C.2.2.2.2.1 (C.2.2.2.2.2.1 _ hw) (va_AO.use C.2.2.2.2.2.2.1.2.2) rfl hd rfl hx hb hk hn fun cA kA comp f1 f2 f3 f4 => ?_
  generalize hH1 : H.push ({ cls := cA, slots := Array.replicate x.toNatClampNeg .null, vm := .none } : Cell) = H1
  have z1 : H1.size = H.size + 1 := by rw [← hH1, Array.size_push]
  have e1 : H1[H.size]? = some (arrV cA x.toNatClampNeg (fun _ => .null)) := by rw [← hH1, Array.getElem?_push_size, ← arrV_new]
  have o1 : ∀ q : Nat, q < H.size → H1[q]? = H[q]? := fun q hq => by rw [← hH1, Array.getElem?_push, if_neg (Nat.ne_of_lt hq)]
  have h3 := kk p e s m args below meth c H1 locs ls C (fs_Rel_push hR z1 o1 (fun c' hc' => by
    cases hc'
    obtain ⟨kA', comp', -, -, -, g4⟩ := (C.2.2.2.2.2.2.1.1.2 4 _ rfl).2
    have h9 : cA = G.2.2 4 := Option.some.inj (f1.symm.trans g4)
    subst h9
    show H1[G.1 + h.length]? = some (vp_cell _ _)
    rw [← hR.1]
    exact e1)) (fs_S_new hS z1 o1) hl
  show W _ _ _ _ _ _ _ _ _ _ _ _ _ _ _ (F0 m (pc + 3) ls (.ref H.size :: st.map (fs_v G.1)))
  rw [hR.1]
  exact h3
theorem fs_after {p : Program} {e : Env} {R : Room} {s : State} {m : MethodId} {args : Array Value} {below : List Frame} {meth : Method} {c : Code} {H : Heap} {locs : List Loc} {ls : Array Slot} {st0 rest : List Value} {Qw : State → Prop} {mc' ms' : Nat} {Q' : Option fsV → fsH → Prop} {av : Array Value}
    (hr : va_Run p l e R s m args below meth c H locs k n mc' ms' (F0 m pc ls st0) rest (fs_Qc G Q' av) (fs_A G)) (hS : va_S (fs_A G) s.heap H locs)
    (kk : ∀ (r : Option fsV) (h' : fsH) (H1 : Heap) (locs1 : List Loc), Q' r h' → fs_Rel G h' H1 → va_S (fs_A G) s.heap H1 locs1 → W p l e R s m args below meth c H1 locs1 (k + mc') (n + ms') Qw (F0 m (pc + 3) ls ((r.map (fs_v G.1)).toList ++ rest))) : W p l e R s m args below meth c H locs k n Qw (F0 m pc ls st0) := by
  intro T hT X
  obtain ⟨v, st₀, t, T', L9, h0, X', hL, e1, e2, ⟨r, h', hv, hq, hrel, hz, hk⟩, st9⟩ := hr T hT X
  cases hv
  rw [h0] at hz hk
  obtain ⟨t2, a1, b1⟩ := kk r h' T'.heap (locs ++ L9) hq (by rw [e1]; exact hrel)
    ⟨Nat.le_trans hS.1 (by rw [e1]; exact hz), fun q h1 h2 => by rw [e1, hk q (Nat.lt_of_lt_of_le h1 hS.1) h2]; exact hS.2.1 q h1 h2, fun q hq => by
      rcases List.mem_append.mp hq with h | h
      · exact hS.2.2 q h
      · exact hL q h⟩ T' rfl X'
  exact ⟨t2, st9 t2 a1, b1⟩
theorem fs_blind (vs : List fsV) : FrameBlind (fs_Pc G vs h) := fun a U g mk q => by
  obtain ⟨q0, qR, qK⟩ := q
  exact ⟨q0, qR, fs_K_same (u := U) (U := U.calling g mk a) rfl qK⟩
theorem fs_callV {idx nA d mc' ms' : Nat} {Y : fsM} {vs : List fsV} {st0 : List fsV} {Q' : Option fsV → fsH → Prop} {a ci : Nat} {fs : List fsV} (hd : decode M.2.1 pc = .ok (.invokevirtual idx, 3)) (hs : fs_SV M.1.cls idx Y nA) (hc : h[a]? = some (some (.inr (ci, fs)))) (hcl : ∃ rc, vwCl[ci]? = some rc ∧ rc.1 = Y.1.cls) (hM : fsMet G l Y d mc' ms' (.inr (.inr (some a)) :: vs) h Q') (h0 : st0 = vs.reverse ++ .inr (.inr (some a)) :: st) (hn : vs.length = nA) (hst : (st.map fs_cat).sum ≤ 8) (hD : d + 1 ≤ D) (hk : k + mc' ≤ mc) (hk2 : n + ms' ≤ ms)
    (kk : ∀ (r : Option fsV) (h' : fsH), Q' r h' → fsW G l M D mc ms (k + mc') (n + ms') Q (pc + 3) L (r.toList ++ st) h') : fsW G l M D mc ms k n Q pc L st0 h := by
  subst h0
  intro p e s m args below meth c H locs ls C hR hS hl
  obtain ⟨w1, w2, w3, w4, w5, d1, d2, d3, d4⟩ := hs
  have hrecv : ∃ cellB : Cell, H[G.1 + a]? = some cellB ∧ cellB.vm.isStatics = false ∧ s.vm.findClass Y.1.cls = some cellB.cls := by
    obtain ⟨rc, hrc, hrn⟩ := hcl
    rw [← hrn]
    exact va_recv (D := G.2.1) (cl := vwCl) (tys := fs_tys G) C.2.2.2.2.2.2.1.1 (fs_has_nil (hR.2 a _ hc)) hrc (q0 := 0) rfl
  have hroom : (fs_Rm d mc' ms').frames + 1 ≤ (fs_Rm D mc ms).frames ∧ 8 + (Y.2.2.1 + 11) + (fs_Rm d mc' ms').locals ≤ (fs_Rm D mc ms).locals := ⟨hD, by show 8 + (Y.2.2.1 + 11) + 64 * d ≤ 64 * D; omega⟩
  refine fs_after (G := G) (va_runV (C := Y.1.cls) (b := G.1 + a) (As := vs.map (fs_v G.1)) (rest := st.map (fs_v G.1)) (nL := M.2.2.1) (Ts := fs_T) (own := M.1.cls) ⟨C.1, C.2.1, C.2.2.2.1, C.2.2.2.2.1, C.2.2.2.2.2.1⟩ hM (cwV nA C.2.2.2.2.2.1 (fun w hw => by
    rcases List.mem_append.mp hw with hw | hw
    · simp only [List.mem_cons, List.not_mem_nil, or_false] at hw
      rcases hw with rfl | rfl | rfl | rfl <;> exact fs_T_good _ (by assumption)
    · exact fs_T_code w1 w hw) rfl rfl rfl ⟨rfl, d1, d2, d3⟩ hroom) ⟨fs_blind _, hrecv, fun U hU hW => ⟨by simp [fs_v, fs_rf, va_rf], by rw [hU]; exact hR, fs_K_warm hW C.2.2.2.2.2.2.1⟩⟩ rfl (by simp [hn]) hl.1 (by simp [fs_v, fs_rf, va_rf]) (lv_room (by rw [fs_catl]; exact hst)) hd ⟨hk, hk2⟩) hS ?_
  intro r h' H1 locs1 q1 q2 q3
  rw [fs_rl]
  exact kk r h' q1 p e s m args below meth c H1 locs1 ls C q2 q3 hl
theorem fs_callS {idx nA d mc' ms' : Nat} {Y : fsM} {vs : List fsV} {st0 : List fsV} {Q' : Option fsV → fsH → Prop} (hd : decode M.2.1 pc = .ok (.invokestatic idx, 3)) (hs : fs_SS M.1.cls idx Y nA) (hM : fsMet G l Y d mc' ms' vs h Q') (h0 : st0 = vs.reverse ++ st) (hn : vs.length = nA) (hst : (st.map fs_cat).sum ≤ 8) (hD : d + 1 ≤ D) (hk : k + mc' ≤ mc) (hk2 : n + ms' ≤ ms)
    (kk : ∀ (r : Option fsV) (h' : fsH), Q' r h' → fsW G l M D mc ms (k + mc') (n + ms') Q (pc + 3) L (r.toList ++ st) h') : fsW G l M D mc ms k n Q pc L st0 h := by
  subst h0
  intro p e s m args below meth c H locs ls C hR hS hl
  obtain ⟨w1, w2, w3, w4, d1, d2, d3, d4⟩ := hs
  have hroom : (fs_Rm d mc' ms').frames + 1 ≤ (fs_Rm D mc ms).frames ∧ 8 + (Y.2.2.1 + 11) + (fs_Rm d mc' ms').locals ≤ (fs_Rm D mc ms).locals := ⟨hD, by show 8 + (Y.2.2.1 + 11) + 64 * d ≤ 64 * D; omega⟩
  refine fs_after (G := G) (va_runS (As := vs.map (fs_v G.1)) (rest := st.map (fs_v G.1)) (nL := M.2.2.1) (Ts := fs_T) (own := M.1.cls) ⟨C.1, C.2.1, C.2.2.2.1, C.2.2.2.2.1, C.2.2.2.2.2.1⟩ hM (va_cwS nA C.2.2.2.2.2.1 (fun w hw => by
    rcases List.mem_append.mp hw with hw | hw
    · simp only [List.mem_cons, List.not_mem_nil, or_false] at hw
      rcases hw with rfl | rfl | rfl <;> exact fs_T_good _ (by assumption)
    · exact fs_T_code w1 w hw) rfl rfl rfl ⟨d1, d2, d3⟩ hroom) ⟨fs_blind _, fun U hU hW => ⟨by simp [fs_v, fs_rf, va_rf], by rw [hU]; exact hR, fs_K_warm hW C.2.2.2.2.2.2.1⟩⟩ rfl (by simp [hn]) hl.1 (by simp [fs_v, fs_rf, va_rf]) (lv_room (by rw [fs_catl]; exact hst)) hd ⟨hk, hk2⟩) hS ?_
  intro r h' H1 locs1 q1 q2 q3
  rw [fs_rl]
  exact kk r h' q1 p e s m args below meth c H1 locs1 ls C q2 q3 hl
theorem fs_callSN {idx nA d mc' ms' : Nat} {Y : fsM} {vs : List fsV} {st0 : List fsV} {Q' : Option fsV → fsH → Prop} (hd : decode M.2.1 pc = .ok (.invokestatic idx, 3)) (hs : fs_SSN M.1.cls idx Y nA) (hM : fsMet G l Y d mc' ms' vs h Q') (h0 : st0 = vs.reverse ++ st) (hn : vs.length = nA) (hst : (st.map fs_cat).sum ≤ 8) (hD : d + 1 ≤ D) (hk : k + mc' ≤ mc) (hk2 : n + ms' ≤ ms)
    (kk : ∀ (r : Option fsV) (h' : fsH), Q' r h' → fsW G l M D mc ms (k + mc') (n + ms') Q (pc + 3) L (r.toList ++ st) h') : fsW G l M D mc ms k n Q pc L st0 h := by
  subst h0
  intro p e s m args below meth c H locs ls C hR hS hl
  obtain ⟨w1, ⟨host, w2⟩, w3, w4, d1, d2, d3, d4⟩ := hs
  have hroom : (fs_Rm d mc' ms').frames + 1 ≤ (fs_Rm D mc ms).frames ∧ 8 + (Y.2.2.1 + 11) + (fs_Rm d mc' ms').locals ≤ (fs_Rm D mc ms).locals := ⟨hD, by show 8 + (Y.2.2.1 + 11) + 64 * d ≤ 64 * D; omega⟩
  refine fs_after (G := G) (va_runSN (host := host) (As := vs.map (fs_v G.1)) (rest := st.map (fs_v G.1)) (nL := M.2.2.1) (Ts := fs_T) (own := M.1.cls) ⟨C.1, C.2.1, C.2.2.2.1, C.2.2.2.2.1, C.2.2.2.2.2.1⟩ hM ⟨va_cnB nA C.2.2.2.2.2.1 (fs_T_code w1) rfl rfl rfl (C.2.2.2.2.2.2.1.2.1 _ w2) (C.2.2.2.2.2.1 _ w4) ⟨d1, d2, d3⟩ hroom, C.2.2.2.2.2.1 _ w3, trivial⟩ ⟨fs_blind _, fun U hU hW => ⟨by simp [fs_v, fs_rf, va_rf], by rw [hU]; exact hR, fs_K_warm hW C.2.2.2.2.2.2.1⟩⟩ rfl (by simp [hn]) hl.1 (by simp [fs_v, fs_rf, va_rf]) (lv_room (by rw [fs_catl]; exact hst)) hd ⟨hk, hk2⟩) hS ?_
  intro r h' H1 locs1 q1 q2 q3
  rw [fs_rl]
  exact kk r h' q1 p e s m args below meth c H1 locs1 ls C q2 q3 hl
theorem fs_callI {idx nA d mc' ms' : Nat} {Y : fsM} {vs : List fsV} {st0 : List fsV} {Q' : Option fsV → fsH → Prop} {a : Nat} (hd : decode M.2.1 pc = .ok (.invokespecial idx, 3)) (hs : fs_SI M.1.cls idx Y nA) (hM : fsMet G l Y d mc' ms' (.inr (.inr (some a)) :: vs) h Q') (h0 : st0 = vs.reverse ++ .inr (.inr (some a)) :: st) (hn : vs.length = nA) (hst : (st.map fs_cat).sum ≤ 8) (hD : d + 1 ≤ D) (hk : k + mc' ≤ mc) (hk2 : n + ms' ≤ ms)
    (kk : ∀ (r : Option fsV) (h' : fsH), Q' r h' → fsW G l M D mc ms (k + mc') (n + ms') Q (pc + 3) L (r.toList ++ st) h') : fsW G l M D mc ms k n Q pc L st0 h := by
  subst h0
  intro p e s m args below meth c H locs ls C hR hS hl
  obtain ⟨w1, er, w2, w3, w4, dn, d1, d2, d3, d4⟩ := hs
  obtain ⟨Y1, Y2, Y3, Y4⟩ := Y
  dsimp only at er w1 d4
  subst er
  have hroom : (fs_Rm d mc' ms').frames + 1 ≤ (fs_Rm D mc ms).frames ∧ 8 + (Y3 + 11) + (fs_Rm d mc' ms').locals ≤ (fs_Rm D mc ms).locals := ⟨hD, by show 8 + (Y3 + 11) + 64 * d ≤ 64 * D; omega⟩
  refine fs_after (G := G) (va_runI (b := G.1 + a) (As := vs.map (fs_v G.1)) (rest := st.map (fs_v G.1)) (nL := M.2.2.1) (Ts := fs_T) (own := M.1.cls) ⟨C.1, C.2.1, C.2.2.2.1, C.2.2.2.2.1, C.2.2.2.2.2.1⟩ hM (cwI nA C.2.2.2.2.2.1 (fs_T_code w1) rfl rfl rfl (C.2.2.2.2.2.1 _ w4) (C.2.2.2.2.2.1 _ w2) (C.2.2.2.2.2.1 _ w3) dn ⟨d1, d2, d3⟩ hroom) ⟨fs_blind _, fun U hU hW => ⟨by simp [fs_v, fs_rf, va_rf], by rw [hU]; exact hR, fs_K_warm hW C.2.2.2.2.2.2.1⟩⟩ rfl (by simp [hn]) hl.1 (by simp [fs_v, fs_rf, va_rf]) (lv_room (by rw [fs_catl]; exact hst)) hd ⟨hk, hk2⟩) hS ?_
  intro r h' H1 locs1 q1 q2 q3
  rw [fs_rl]
  exact kk r h' q1 p e s m args below meth c H1 locs1 ls C q2 q3 hl
theorem fs_callIN {idx nA d mc' ms' : Nat} {Y : fsM} {vs : List fsV} {st0 : List fsV} {Q' : Option fsV → fsH → Prop} {a : Nat} (hd : decode M.2.1 pc = .ok (.invokespecial idx, 3)) (hs : fs_SIN M.1.cls idx Y nA) (hM : fsMet G l Y d mc' ms' (.inr (.inr (some a)) :: vs) h Q') (h0 : st0 = vs.reverse ++ .inr (.inr (some a)) :: st) (hn : vs.length = nA) (hst : (st.map fs_cat).sum ≤ 8) (hD : d + 1 ≤ D) (hk : k + mc' ≤ mc) (hk2 : n + ms' ≤ ms)
    (kk : ∀ (r : Option fsV) (h' : fsH), Q' r h' → fsW G l M D mc ms (k + mc') (n + ms') Q (pc + 3) L (r.toList ++ st) h') : fsW G l M D mc ms k n Q pc L st0 h := by
  subst h0
  intro p e s m args below meth c H locs ls C hR hS hl
  obtain ⟨w1, er, ⟨host, w2⟩, w3, w4, dn, d1, d2, d3, d4⟩ := hs
  obtain ⟨Y1, Y2, Y3, Y4⟩ := Y
  dsimp only at er w1 d4
  subst er
  have hroom : (fs_Rm d mc' ms').frames + 1 ≤ (fs_Rm D mc ms).frames ∧ 8 + (Y3 + 11) + (fs_Rm d mc' ms').locals ≤ (fs_Rm D mc ms).locals := ⟨hD, by show 8 + (Y3 + 11) + 64 * d ≤ 64 * D; omega⟩
  refine fs_after (G := G) (va_runIN (host := host) (b := G.1 + a) (As := vs.map (fs_v G.1)) (rest := st.map (fs_v G.1)) (nL := M.2.2.1) (Ts := fs_T) (own := M.1.cls) ⟨C.1, C.2.1, C.2.2.2.1, C.2.2.2.2.1, C.2.2.2.2.2.1⟩ hM ⟨va_cnB nA C.2.2.2.2.2.1 (fs_T_code w1) rfl rfl rfl (C.2.2.2.2.2.2.1.2.1 _ w2) (C.2.2.2.2.2.1 _ w4) ⟨d1, d2, d3⟩ hroom, dn, C.2.2.2.2.2.1 _ w3⟩ ⟨fs_blind _, fun U hU hW => ⟨by simp [fs_v, fs_rf, va_rf], by rw [hU]; exact hR, fs_K_warm hW C.2.2.2.2.2.2.1⟩⟩ rfl (by simp [hn]) hl.1 (by simp [fs_v, fs_rf, va_rf]) (lv_room (by rw [fs_catl]; exact hst)) hd ⟨hk, hk2⟩) hS ?_
  intro r h' H1 locs1 q1 q2 q3
  rw [fs_rl]
  exact kk r h' q1 p e s m args below meth c H1 locs1 ls C q2 q3 hl
theorem fs_objInit {idx a : Nat} (hd : decode M.2.1 pc = .ok (.invokespecial idx, 3)) (w1 : Cond.methodLink M.1.cls idx objectInit ∈ fs_T) (w2 : Cond.instanceMethod objectInit ∈ fs_T) (w3 : Cond.code objectInit ⟨#[0xb1]⟩ 1 none ∈ fs_T) (hD : 1 ≤ D) (hst : (st.map fs_cat).sum ≤ 8) (kk : fsW G l M D mc ms k n Q (pc + 3) L st h) : fsW G l M D mc ms k n Q pc L (.inr (.inr (some a)) :: st) h := by
  intro p e s m args below meth c H locs ls C hR hS hl
  refine W.objInit C.1 C.2.1 C.2.2.2.2.1 (C.2.2.2.2.2.1 _ w1) (C.2.2.2.2.2.1 _ w2) (C.2.2.2.2.2.1 _ w3) rfl (by rw [C.2.2.2.1]; exact hl.1) rfl hd hD (by show 2 * 0 + ((st.map (fs_v G.1)).map fun v => v.category).sum + 12 ≤ 64 * D; rw [fs_catl]; omega) ?_
  exact W.eq (g2 := F0 m (pc + 3) ls (st.map (fs_v G.1))) rfl (kk p e s m args below meth c H locs ls C hR hS hl)
theorem fs_max {idx : Nat} {x y : Int32} (hd : decode M.2.1 pc = .ok (.invokestatic idx, 3)) (w1 : Cond.methodLink M.1.cls idx Lib.Math.max.name ∈ fs_T) (w2 : Cond.static Lib.Math.max.name ∈ fs_T) (w3 : Cond.initialized "java/lang/Math" ∈ fs_T) (w4 : Cond.code Lib.Math.max.name Lib.Math.max.code 2 (some .int) ∈ fs_T) (hD : 1 ≤ D) (hst : (st.map fs_cat).sum ≤ 8) (hk : k ≤ mc) (hn : n ≤ ms) (kk : fsW G l M D mc ms k n Q (pc + 3) L (.inl (if x < y then y else x) :: st) h) : fsW G l M D mc ms k n Q pc L (.inl y :: .inl x :: st) h := by
  intro p e s m args below meth c H locs ls C hR hS hl
  exact va_mmax C.1 C.2.1 (by rw [C.2.2.2.1]; exact hl.1.symm) C.2.2.2.2.1 (C.2.2.2.2.2.1 _ w1) (C.2.2.2.2.2.1 _ w2) (C.2.2.2.2.2.1 _ w3) (C.2.2.2.2.2.1 _ w4) hD (by show ((st.map (fs_v G.1)).map fun v => v.category).sum + 13 ≤ 64 * D; rw [fs_catl]; omega) hk hn hd (kk p e s m args below meth c H locs ls C hR hS hl)
theorem fs_min {idx : Nat} {x y : Int32} (hd : decode M.2.1 pc = .ok (.invokestatic idx, 3)) (w1 : Cond.methodLink M.1.cls idx Lib.Math.min.name ∈ fs_T) (w2 : Cond.static Lib.Math.min.name ∈ fs_T) (w3 : Cond.initialized "java/lang/Math" ∈ fs_T) (w4 : Cond.code Lib.Math.min.name Lib.Math.min.code 2 (some .int) ∈ fs_T) (hD : 1 ≤ D) (hst : (st.map fs_cat).sum ≤ 8) (hk : k ≤ mc) (hn : n ≤ ms) (kk : fsW G l M D mc ms k n Q (pc + 3) L (.inl (if y < x then y else x) :: st) h) : fsW G l M D mc ms k n Q pc L (.inl y :: .inl x :: st) h := by
  intro p e s m args below meth c H locs ls C hR hS hl
  have h9 := va_mmin C.1 C.2.1 (by rw [C.2.2.2.1]; exact hl.1.symm) C.2.2.2.2.1 (C.2.2.2.2.2.1 _ w1) (C.2.2.2.2.2.1 _ w2) (C.2.2.2.2.2.1 _ w3) (C.2.2.2.2.2.1 _ w4) hD (by show ((st.map (fs_v G.1)).map fun v => v.category).sum + 13 ≤ 64 * D; rw [fs_catl]; omega) hk hn hd (kk p e s m args below meth c H locs ls C hR hS hl)
  exact h9
theorem fs_absL {idx : Nat} {x : Int64} (hd : decode M.2.1 pc = .ok (.invokestatic idx, 3)) (w1 : Cond.methodLink M.1.cls idx Lib.MathLoose.abs_long.x ∈ fs_T) (w2 : Cond.static Lib.MathLoose.abs_long.x ∈ fs_T) (w3 : Cond.initialized "java/lang/Math" ∈ fs_T) (w4 : Cond.code Lib.MathLoose.abs_long.x Lib.MathLoose.abs_long.code 2 (some .long) ∈ fs_T) (hD : 1 ≤ D) (hst : (st.map fs_cat).sum ≤ 8) (hk : k ≤ mc) (hn : n ≤ ms) (kk : fsW G l M D mc ms k n Q (pc + 3) L (.inr (.inl (if 0 < x then x else -x)) :: st) h) : fsW G l M D mc ms k n Q pc L (.inr (.inl x) :: st) h := by
  intro p e s m args below meth c H locs ls C hR hS hl
  exact va_mabs_long C.1 C.2.1 (by rw [C.2.2.2.1]; exact hl.1.symm) C.2.2.2.2.1 (C.2.2.2.2.2.1 _ w1) (C.2.2.2.2.2.1 _ w2) (C.2.2.2.2.2.1 _ w3) (C.2.2.2.2.2.1 _ w4) hD (by show ((st.map (fs_v G.1)).map fun v => v.category).sum + 13 ≤ 64 * D; rw [fs_catl]; omega) hk hn hd (kk p e s m args below meth c H locs ls C hR hS hl)
end FSH
