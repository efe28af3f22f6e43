/-! THE PURE HEAP AND ITS JUDGEMENT. A heap is a list of cells, a reference a place in it (the machine's address is base + place). -/
abbrev fsV : Type := Int32 ⊕ (Int64 ⊕ Option Nat)
abbrev fsI (x : Int32) : fsV := .inl x
abbrev fsJ (x : Int64) : fsV := .inr (.inl x)
abbrev fsR (r : Option Nat) : fsV := .inr (.inr r)
abbrev fsC : Type := (Nat × vp_A) ⊕ (Nat × List fsV)
abbrev fsH : Type := List (Option fsC)
/-- base, the classes' numbers and slots, the arrays' classes -/
abbrev fsG : Type := Nat × va_G × (Nat → ClassId)
/-- a method: name, code, locals, answer -/
abbrev fsM : Type := MethodName × ByteArray × Nat × Option FieldType
def fs_rf (b : Nat) (r : Option Nat) : Option Nat := r.map (fun k => b + k)
def fs_v (b : Nat) : fsV → Value
  | .inl x => .int x
  | .inr (.inl y) => .long y
  | .inr (.inr r) => va_rf (fs_rf b r)
def fs_a (b : Nat) : vp_A → vp_A
  | (n, .inr (.inr (.inr (.inr f)))) => (n, .inr (.inr (.inr (.inr (fun i => fs_rf b (f i))))))
  | (n, .inl f) => (n, .inl f)
  | (n, .inr (.inl f)) => (n, .inr (.inl f))
  | (n, .inr (.inr (.inl f))) => (n, .inr (.inr (.inl f)))
  | (n, .inr (.inr (.inr (.inl f)))) => (n, .inr (.inr (.inr (.inl f))))
def fs_e (G : fsG) : fsC → va_E
  | .inl (t, a) => .inl (G.2.2 t, fs_a G.1 a)
  | .inr (c, fs) => .inr (c, fs.map (fs_v G.1))
def fs_at (G : fsG) (H : Heap) (k : Nat) (c : fsC) : Prop := va_at G.2.1 vwCl (G.1 + k, fs_e G c) H
def fs_Rel (G : fsG) (h : fsH) (H : Heap) : Prop := H.size = G.1 + h.length ∧ ∀ (k : Nat) (c : fsC), h[k]? = some (some c) → fs_at G H k c
def fs_tys (G : fsG) : List (ClassId × FieldType) := [(G.2.2 0, .char), (G.2.2 1, .int), (G.2.2 2, .long), (G.2.2 3, .boolean), (G.2.2 4, .object "FormSheet$Item")]
def fs_isN (w : Cond) : Bool := match w with
  | .methodLinkNest _ _ _ _ => true
  | _ => false
def fs_T : List Cond := lw_tbl.filter goodWord
def fs_N : List Cond := lw_tbl.filter fs_isN
def fs_K (G : fsG) (U : State) : Prop := va_K G.2.1 vwCl (fs_tys G) U ∧ (∀ w ∈ fs_N, va_Nw w U) ∧ va_AO "FormSheet$Item" U
def fs_A (G : fsG) : Nat → Prop := fun q => G.1 ≤ q
def fs_Pc (G : fsG) (vs : List fsV) (h : fsH) : Array Value → State → Prop := va_Pc (vs.map (fs_v G.1)) (fun U => fs_Rel G h U.heap ∧ fs_K G U)
def fs_Qc (G : fsG) (Q : Option fsV → fsH → Prop) : Array Value → State → Outcome → State → Prop := fun _ st oc t => ∃ (r : Option fsV) (h : fsH), oc = .returned (r.map (fs_v G.1)) ∧ Q r h ∧ fs_Rel G h t.heap ∧ va_F (fs_A G) st t
def fs_Rm (d mc ms : Nat) : Room := { frames := d, cells := mc, slots := ms, locals := 64 * d }
def fsMet (G : fsG) (l : Launch) (M : fsM) (d mc ms : Nat) (vs : List fsV) (h : fsH) (Q : Option fsV → fsH → Prop) : Prop :=
  Met l M.1 (.code M.1 M.2.1 M.2.2.1 M.2.2.2 :: fs_T) (fs_Rm d mc ms) (fs_Pc G vs h) (fs_Qc G Q) mc ms (fs_A G)
def fs_Ctx (G : fsG) (M : fsM) (p : Program) (s : State) (m : MethodId) (args : Array Value) (meth : Method) (c : Code) : Prop :=
  p.tables.exec = Jvm.exec ∧ c.code = M.2.1 ∧ meth.sig.returnType = M.2.2.2 ∧ c.maxLocals = M.2.2.1 ∧ s.vm.findClass M.1.cls = some m.cls ∧ (∀ w ∈ fs_T, w.before args s = true) ∧ fs_K G s ∧ meth.name = M.1.name ∧ meth.locks = false ∧ G.1 ≤ s.heap.size
def fs_L (G : fsG) (L : List (Nat × fsV)) : List (Nat × Value) := L.map (fun q => (q.1, fs_v G.1 q.2))
/-- THE JUDGEMENT: at pc with locals L, stack st, heap h the method comes to its end, and Q holds of its answer and heap -/
def fsW (G : fsG) (l : Launch) (M : fsM) (D mc ms k n : Nat) (Q : Option fsV → fsH → Prop) (pc : Nat) (L : List (Nat × fsV)) (st : List fsV) (h : fsH) : Prop :=
  ∀ (p : Program) (e : Env) (s : State) (m : MethodId) (args : Array Value) (below : List Frame) (meth : Method) (c : Code) (H : Heap) (locs : List Loc) (ls : Array Slot),
    fs_Ctx G M p s m args meth c → fs_Rel G h H → va_S (fs_A G) s.heap H locs → lv_has ls M.2.2.1 (fs_L G L) →
    W p l e (fs_Rm D mc ms) s m args below meth c H locs k n (MQ below (fs_Qc G Q) args s mc ms (fs_A G)) (F0 m pc ls (st.map (fs_v G.1)))
def fs_cat : fsV → Nat
  | .inr (.inl _) => 2
  | _ => 1
def fs_lk : List (Nat × fsV) → Nat → Option fsV
  | [], _ => none
  | q :: L, i => if q.1 == i then some q.2 else fs_lk L i
def fs_s1 (L : List (Nat × fsV)) (i : Nat) (v : fsV) : List (Nat × fsV) := (i, v) :: L.filter (fun q => !(q.1 == i) && !(q.1 + 1 == i && fs_cat q.2 == 2))
def fs_s2 (L : List (Nat × fsV)) (i : Nat) (v : fsV) : List (Nat × fsV) := (i, v) :: L.filter (fun q => !(q.1 == i) && (!(q.1 == i + 1) && !(q.1 + 1 == i && fs_cat q.2 == 2)))
def fs_args : Nat → List fsV → List (Nat × fsV)
  | _, [] => []
  | i, v :: vs => (i, v) :: fs_args (if fs_cat v = 2 then i + 2 else i + 1) vs
theorem fs_v_cat (b : Nat) (v : fsV) : (fs_v b v).category = fs_cat v := by
  rcases v with x | x | r
  · rfl
  · rfl
  · cases r <;> rfl
theorem fs_lk_mem {L : List (Nat × fsV)} {i : Nat} {v : fsV} (h : fs_lk L i = some v) : (i, v) ∈ L := by
  induction L with
  | nil => cases h
  | cons q L ih =>
    unfold fs_lk at h
    split at h
    · next e =>
      have e1 : q.1 = i := by simpa using e
      cases h
      rw [← e1]
      exact List.mem_cons_self
    · exact List.mem_cons_of_mem _ (ih h)
theorem fs_at_of {G : fsG} {ls : Array Slot} {n : Nat} {L : List (Nat × fsV)} (hl : lv_has ls n (fs_L G L)) {i : Nat} {v : fsV} (h : fs_lk L i = some v) : ls[i]? = some (.val (fs_v G.1 v)) :=
  hl.2.2 (i, fs_v G.1 v) (List.mem_map.mpr ⟨(i, v), fs_lk_mem h, rfl⟩)
theorem fs_L_s1 (G : fsG) (L : List (Nat × fsV)) (i : Nat) (v : fsV) : (i, fs_v G.1 v) :: (fs_L G L).filter (fun q => !(q.1 == i) && !(q.1 + 1 == i && q.2.category == 2)) = fs_L G (fs_s1 L i v) := by
  unfold fs_s1 fs_L
  rw [List.map_cons, List.filter_map]
  congr 2
  refine List.filter_congr fun q _ => ?_
  simp only [Function.comp, fs_v_cat]
theorem fs_L_s2 (G : fsG) (L : List (Nat × fsV)) (i : Nat) (v : fsV) : (i, fs_v G.1 v) :: (fs_L G L).filter (fun q => !(q.1 == i) && (!(q.1 == i + 1) && !(q.1 + 1 == i && q.2.category == 2))) = fs_L G (fs_s2 L i v) := by
  unfold fs_s2 fs_L
  rw [List.map_cons, List.filter_map]
  congr 2
  refine List.filter_congr fun q _ => ?_
  simp only [Function.comp, fs_v_cat]
theorem fs_L_args (G : fsG) (vs : List fsV) : ∀ i, lv_args i (vs.map (fs_v G.1)) = fs_L G (fs_args i vs) := by
  induction vs with
  | nil => intro i; rfl
  | cons v vs ih =>
    intro i
    show (i, fs_v G.1 v) :: lv_args _ _ = (i, fs_v G.1 v) :: fs_L G (fs_args _ vs)
    rw [fs_v_cat, ih]
theorem fs_has_nil {G : fsG} {H : Heap} {k : Nat} {c : fsC} (h : fs_at G H k c) : va_P G.2.1 vwCl [(G.1 + k, fs_e G c)] H := fun j q hj => by
  have hz : j < 1 := (List.getElem?_eq_some_iff.mp hj).1
  rw [show j = 0 by omega] at hj
  cases hj
  exact h
theorem fs_K_warm {G : fsG} {s U : State} (hW : s.WarmedH U.vm) (h : fs_K G s) : fs_K G U := by
  refine ⟨va_K.moved hW.alike h.1, fun w hw => ?_, h.2.2.moved hW.alike⟩
  have h1 := h.2.1 w hw
  have h2 : fs_isN w = true := (List.mem_filter.mp hw).2
  unfold fs_isN at h2
  split at h2
  · exact va_Nw.warmM hW h1
  · cases h2
theorem fs_K_same {G : fsG} {u U : State} (e : u.vm = U.vm) (h : fs_K G u) : fs_K G U := by
  have ha : u.vm.Alike U.vm := by rw [e]; exact Vm.Alike.refl _
  refine ⟨va_K.moved ha h.1, fun w hw => ?_, h.2.2.moved ha⟩
  have h1 := h.2.1 w hw
  have h2 : fs_isN w = true := (List.mem_filter.mp hw).2
  unfold fs_isN at h2
  split at h2
  · exact va_Nw.same rfl e h1
  · cases h2
theorem fs_T_good : GoodIn fs_T fs_T := fun w hw => ⟨hw, good_of_word (List.mem_filter.mp hw).2⟩
theorem fs_T_code {M : fsM} (h : Cond.code M.1 M.2.1 M.2.2.1 M.2.2.2 ∈ fs_T) : GoodIn fs_T (.code M.1 M.2.1 M.2.2.1 M.2.2.2 :: fs_T) := fun w hw => by
  rcases List.mem_cons.mp hw with rfl | hw
  · exact fs_T_good _ h
  · exact fs_T_good _ hw
theorem fs_in {w : Cond} (h : w ∈ lw_tbl) (g : goodWord w = true) : w ∈ fs_T := List.mem_filter.mpr ⟨h, g⟩
section FSR
variable {G : fsG} {l : Launch} {M : fsM} {D mc ms k n : Nat} {Q : Option fsV → fsH → Prop} {pc : Nat} {L : List (Nat × fsV)} {st : List fsV} {h : fsH}
theorem fs_iconst {i : Int} {v : Int32} (hd : decode M.2.1 pc = .ok (.iconst i, 1)) (hv : Int32.ofInt i = v) (kk : fsW G l M D mc ms k n Q (pc + 1) L (.inl v :: st) h) : fsW G l M D mc ms k n Q pc L (st) h := by
  intro p e s m args below meth c H locs ls C hR hS hl
  exact lv_iconst C.1 C.2.1 hd hv (kk p e s m args below meth c H locs ls C hR hS hl)
theorem fs_bipush {i : Int} {v : Int32} (hd : decode M.2.1 pc = .ok (.bipush i, 2)) (hv : (Int8.ofInt i).toInt32 = v) (kk : fsW G l M D mc ms k n Q (pc + 2) L (.inl v :: st) h) : fsW G l M D mc ms k n Q pc L (st) h := by
  intro p e s m args below meth c H locs ls C hR hS hl
  exact lv_bipush C.1 C.2.1 hd hv (kk p e s m args below meth c H locs ls C hR hS hl)
theorem fs_sipush {i : Int} {v : Int32} (hd : decode M.2.1 pc = .ok (.sipush i, 3)) (hv : (Int16.ofInt i).toInt32 = v) (kk : fsW G l M D mc ms k n Q (pc + 3) L (.inl v :: st) h) : fsW G l M D mc ms k n Q pc L (st) h := by
  intro p e s m args below meth c H locs ls C hR hS hl
  exact lv_sipush C.1 C.2.1 hd hv (kk p e s m args below meth c H locs ls C hR hS hl)
theorem fs_lconst {i : Fin 2} {v : Int64} (hd : decode M.2.1 pc = .ok (.lconst i, 1)) (hv : Int64.ofNat (i : Nat) = v) (kk : fsW G l M D mc ms k n Q (pc + 1) L (.inr (.inl v) :: st) h) : fsW G l M D mc ms k n Q pc L (st) h := by
  intro p e s m args below meth c H locs ls C hR hS hl
  exact lv_lconst C.1 C.2.1 hd hv (kk p e s m args below meth c H locs ls C hR hS hl)
theorem fs_null  (hd : decode M.2.1 pc = .ok (.aconst_null, 1)) (kk : fsW G l M D mc ms k n Q (pc + 1) L (.inr (.inr none) :: st) h) : fsW G l M D mc ms k n Q pc L (st) h := by
  intro p e s m args below meth c H locs ls C hR hS hl
  exact lv_null C.1 C.2.1 hd (kk p e s m args below meth c H locs ls C hR hS hl)
theorem fs_iload_n {j : Fin 4} {i : Nat} {x : Int32} (hd : decode M.2.1 pc = .ok (.iload_n j, 1)) (hi : (j : Nat) = i) (hv : fs_lk L i = some (.inl x)) (kk : fsW G l M D mc ms k n Q (pc + 1) L (.inl x :: st) h) : fsW G l M D mc ms k n Q pc L (st) h := by
  intro p e s m args below meth c H locs ls C hR hS hl
  exact lv_iload_n C.1 C.2.1 hd hi (fs_at_of hl hv) (kk p e s m args below meth c H locs ls C hR hS hl)
theorem fs_iload {i : Nat} {x : Int32} (hd : decode M.2.1 pc = .ok (.iload i, 2)) (hv : fs_lk L i = some (.inl x)) (kk : fsW G l M D mc ms k n Q (pc + 2) L (.inl x :: st) h) : fsW G l M D mc ms k n Q pc L (st) h := by
  intro p e s m args below meth c H locs ls C hR hS hl
  exact lv_iload C.1 C.2.1 hd (fs_at_of hl hv) (kk p e s m args below meth c H locs ls C hR hS hl)
theorem fs_lload_n {j : Fin 4} {i : Nat} {x : Int64} (hd : decode M.2.1 pc = .ok (.lload_n j, 1)) (hi : (j : Nat) = i) (hv : fs_lk L i = some (.inr (.inl x))) (kk : fsW G l M D mc ms k n Q (pc + 1) L (.inr (.inl x) :: st) h) : fsW G l M D mc ms k n Q pc L (st) h := by
  intro p e s m args below meth c H locs ls C hR hS hl
  exact lv_lload_n C.1 C.2.1 hd hi (fs_at_of hl hv) (kk p e s m args below meth c H locs ls C hR hS hl)
theorem fs_lload {i : Nat} {x : Int64} (hd : decode M.2.1 pc = .ok (.lload i, 2)) (hv : fs_lk L i = some (.inr (.inl x))) (kk : fsW G l M D mc ms k n Q (pc + 2) L (.inr (.inl x) :: st) h) : fsW G l M D mc ms k n Q pc L (st) h := by
  intro p e s m args below meth c H locs ls C hR hS hl
  exact lv_lload C.1 C.2.1 hd (fs_at_of hl hv) (kk p e s m args below meth c H locs ls C hR hS hl)
theorem fs_aload_n {j : Fin 4} {i : Nat} {r : Option Nat} (hd : decode M.2.1 pc = .ok (.aload_n j, 1)) (hi : (j : Nat) = i) (hv : fs_lk L i = some (.inr (.inr r))) (kk : fsW G l M D mc ms k n Q (pc + 1) L (.inr (.inr r) :: st) h) : fsW G l M D mc ms k n Q pc L st h := by
  intro p e s m args below meth c H locs ls C hR hS hl
  have h1 := fs_at_of hl hv
  have h2 := kk p e s m args below meth c H locs ls C hR hS hl
  cases r with
  | none => exact lv_aload_nN C.1 C.2.1 hd hi h1 h2
  | some a => exact lv_aload_n C.1 C.2.1 hd hi h1 h2
theorem fs_aload {i : Nat} {r : Option Nat} (hd : decode M.2.1 pc = .ok (.aload i, 2)) (hv : fs_lk L i = some (.inr (.inr r))) (kk : fsW G l M D mc ms k n Q (pc + 2) L (.inr (.inr r) :: st) h) : fsW G l M D mc ms k n Q pc L st h := by
  intro p e s m args below meth c H locs ls C hR hS hl
  have h1 := fs_at_of hl hv
  have h2 := kk p e s m args below meth c H locs ls C hR hS hl
  cases r with
  | none => exact lv_aloadN C.1 C.2.1 hd h1 h2
  | some a => exact lv_aload C.1 C.2.1 hd h1 h2
theorem fs_istore_n {j : Fin 4} {i : Nat} {x : Int32} {L' : List (Nat × fsV)} (hd : decode M.2.1 pc = .ok (.istore_n j, 1)) (hi : (j : Nat) = i) (hn : i < M.2.2.1) (hL : fs_s1 L i (.inl x) = L') (kk : fsW G l M D mc ms k n Q (pc + 1) L' st h) : fsW G l M D mc ms k n Q pc L (.inl x :: st) h := by
  intro p e s m args below meth c H locs ls C hR hS hl
  subst hL
  exact lv_istore_n C.1 C.2.1 hd hi hl hn (fs_L_s1 G L i (.inl x)) (fun ls' hl' => kk p e s m args below meth c H locs ls' C hR hS hl')
theorem fs_istore {i : Nat} {x : Int32} {L' : List (Nat × fsV)} (hd : decode M.2.1 pc = .ok (.istore i, 2)) (hn : i < M.2.2.1) (hL : fs_s1 L i (.inl x) = L') (kk : fsW G l M D mc ms k n Q (pc + 2) L' st h) : fsW G l M D mc ms k n Q pc L (.inl x :: st) h := by
  intro p e s m args below meth c H locs ls C hR hS hl
  subst hL
  exact lv_istore C.1 C.2.1 hd hl hn (fs_L_s1 G L i (.inl x)) (fun ls' hl' => kk p e s m args below meth c H locs ls' C hR hS hl')
theorem fs_lstore_n {j : Fin 4} {i : Nat} {x : Int64} {L' : List (Nat × fsV)} (hd : decode M.2.1 pc = .ok (.lstore_n j, 1)) (hi : (j : Nat) = i) (hn : i + 1 < M.2.2.1) (hL : fs_s2 L i (.inr (.inl x)) = L') (kk : fsW G l M D mc ms k n Q (pc + 1) L' st h) : fsW G l M D mc ms k n Q pc L (.inr (.inl x) :: st) h := by
  intro p e s m args below meth c H locs ls C hR hS hl
  subst hL
  exact lv_lstore_n C.1 C.2.1 hd hi hl hn (fs_L_s2 G L i (.inr (.inl x))) (fun ls' hl' => kk p e s m args below meth c H locs ls' C hR hS hl')
theorem fs_lstore {i : Nat} {x : Int64} {L' : List (Nat × fsV)} (hd : decode M.2.1 pc = .ok (.lstore i, 2)) (hn : i + 1 < M.2.2.1) (hL : fs_s2 L i (.inr (.inl x)) = L') (kk : fsW G l M D mc ms k n Q (pc + 2) L' st h) : fsW G l M D mc ms k n Q pc L (.inr (.inl x) :: st) h := by
  intro p e s m args below meth c H locs ls C hR hS hl
  subst hL
  exact lv_lstore C.1 C.2.1 hd hl hn (fs_L_s2 G L i (.inr (.inl x))) (fun ls' hl' => kk p e s m args below meth c H locs ls' C hR hS hl')
theorem fs_astore_n {j : Fin 4} {i : Nat} {r : Option Nat} {L' : List (Nat × fsV)} (hd : decode M.2.1 pc = .ok (.astore_n j, 1)) (hi : (j : Nat) = i) (hn : i < M.2.2.1) (hL : fs_s1 L i (.inr (.inr r)) = L') (kk : fsW G l M D mc ms k n Q (pc + 1) L' st h) : fsW G l M D mc ms k n Q pc L (.inr (.inr r) :: st) h := by
  intro p e s m args below meth c H locs ls C hR hS hl
  subst hL
  have h1 := fs_L_s1 G L i (.inr (.inr r))
  cases r with
  | none => exact lv_astore_nN C.1 C.2.1 hd hi hl hn h1 (fun ls' hl' => kk p e s m args below meth c H locs ls' C hR hS hl')
  | some a => exact lv_astore_n C.1 C.2.1 hd hi hl hn h1 (fun ls' hl' => kk p e s m args below meth c H locs ls' C hR hS hl')
theorem fs_astore {i : Nat} {r : Option Nat} {L' : List (Nat × fsV)} (hd : decode M.2.1 pc = .ok (.astore i, 2)) (hn : i < M.2.2.1) (hL : fs_s1 L i (.inr (.inr r)) = L') (kk : fsW G l M D mc ms k n Q (pc + 2) L' st h) : fsW G l M D mc ms k n Q pc L (.inr (.inr r) :: st) h := by
  intro p e s m args below meth c H locs ls C hR hS hl
  subst hL
  have h1 := fs_L_s1 G L i (.inr (.inr r))
  cases r with
  | none => exact lv_astoreN C.1 C.2.1 hd hl hn h1 (fun ls' hl' => kk p e s m args below meth c H locs ls' C hR hS hl')
  | some a => exact lv_astore C.1 C.2.1 hd hl hn h1 (fun ls' hl' => kk p e s m args below meth c H locs ls' C hR hS hl')
theorem fs_iinc {i : Nat} {z : Int} {x v : Int32} {L' : List (Nat × fsV)} (hd : decode M.2.1 pc = .ok (.iinc i z, 3)) (hv : fs_lk L i = some (.inl x)) (hz : x + Int32.ofInt z = v) (hn : i < M.2.2.1) (hL : fs_s1 L i (.inl v) = L') (kk : fsW G l M D mc ms k n Q (pc + 3) L' st h) : fsW G l M D mc ms k n Q pc L st h := by
  intro p e s m args below meth c H locs ls C hR hS hl
  subst hL
  obtain ⟨j, hj⟩ := List.getElem?_of_mem (List.mem_map.mpr ⟨(i, .inl x), fs_lk_mem hv, rfl⟩ : ((i, fs_v G.1 (.inl x)) : Nat × Value) ∈ fs_L G L)
  exact lv_iinc C.1 C.2.1 hd hl hj hz hn (fs_L_s1 G L i (.inl v)) (fun ls' hl' => kk p e s m args below meth c H locs ls' C hR hS hl')
theorem fs_iadd {x y : Int32} (hd : decode M.2.1 pc = .ok (.iadd, 1)) (kk : fsW G l M D mc ms k n Q (pc + 1) L (.inl (x + y) :: st) h) : fsW G l M D mc ms k n Q pc L (.inl y :: .inl x :: st) h := by
  intro p e s m args below meth c H locs ls C hR hS hl
  exact lv_iadd C.1 C.2.1 hd (kk p e s m args below meth c H locs ls C hR hS hl)
theorem fs_isub {x y : Int32} (hd : decode M.2.1 pc = .ok (.isub, 1)) (kk : fsW G l M D mc ms k n Q (pc + 1) L (.inl (x - y) :: st) h) : fsW G l M D mc ms k n Q pc L (.inl y :: .inl x :: st) h := by
  intro p e s m args below meth c H locs ls C hR hS hl
  exact lv_isub C.1 C.2.1 hd (kk p e s m args below meth c H locs ls C hR hS hl)
theorem fs_imul {x y : Int32} (hd : decode M.2.1 pc = .ok (.imul, 1)) (kk : fsW G l M D mc ms k n Q (pc + 1) L (.inl (x * y) :: st) h) : fsW G l M D mc ms k n Q pc L (.inl y :: .inl x :: st) h := by
  intro p e s m args below meth c H locs ls C hR hS hl
  exact lv_imul C.1 C.2.1 hd (kk p e s m args below meth c H locs ls C hR hS hl)
theorem fs_iand {x y : Int32} (hd : decode M.2.1 pc = .ok (.iand, 1)) (kk : fsW G l M D mc ms k n Q (pc + 1) L (.inl (x &&& y) :: st) h) : fsW G l M D mc ms k n Q pc L (.inl y :: .inl x :: st) h := by
  intro p e s m args below meth c H locs ls C hR hS hl
  exact lv_iand C.1 C.2.1 hd (kk p e s m args below meth c H locs ls C hR hS hl)
theorem fs_ior {x y : Int32} (hd : decode M.2.1 pc = .ok (.ior, 1)) (kk : fsW G l M D mc ms k n Q (pc + 1) L (.inl (x ||| y) :: st) h) : fsW G l M D mc ms k n Q pc L (.inl y :: .inl x :: st) h := by
  intro p e s m args below meth c H locs ls C hR hS hl
  exact lv_ior C.1 C.2.1 hd (kk p e s m args below meth c H locs ls C hR hS hl)
theorem fs_ixor {x y : Int32} (hd : decode M.2.1 pc = .ok (.ixor, 1)) (kk : fsW G l M D mc ms k n Q (pc + 1) L (.inl (x ^^^ y) :: st) h) : fsW G l M D mc ms k n Q pc L (.inl y :: .inl x :: st) h := by
  intro p e s m args below meth c H locs ls C hR hS hl
  exact lv_ixor C.1 C.2.1 hd (kk p e s m args below meth c H locs ls C hR hS hl)
theorem fs_ishl {x y : Int32} (hd : decode M.2.1 pc = .ok (.ishl, 1)) (kk : fsW G l M D mc ms k n Q (pc + 1) L (.inl (x <<< (y &&& 31)) :: st) h) : fsW G l M D mc ms k n Q pc L (.inl y :: .inl x :: st) h := by
  intro p e s m args below meth c H locs ls C hR hS hl
  exact lv_ishl C.1 C.2.1 hd (kk p e s m args below meth c H locs ls C hR hS hl)
theorem fs_ishr {x y : Int32} (hd : decode M.2.1 pc = .ok (.ishr, 1)) (kk : fsW G l M D mc ms k n Q (pc + 1) L (.inl (x >>> (y &&& 31)) :: st) h) : fsW G l M D mc ms k n Q pc L (.inl y :: .inl x :: st) h := by
  intro p e s m args below meth c H locs ls C hR hS hl
  exact lv_ishr C.1 C.2.1 hd (kk p e s m args below meth c H locs ls C hR hS hl)
theorem fs_ladd {x y : Int64} (hd : decode M.2.1 pc = .ok (.ladd, 1)) (kk : fsW G l M D mc ms k n Q (pc + 1) L (.inr (.inl (x + y)) :: st) h) : fsW G l M D mc ms k n Q pc L (.inr (.inl y) :: .inr (.inl x) :: st) h := by
  intro p e s m args below meth c H locs ls C hR hS hl
  exact lv_ladd C.1 C.2.1 hd (kk p e s m args below meth c H locs ls C hR hS hl)
theorem fs_lsub {x y : Int64} (hd : decode M.2.1 pc = .ok (.lsub, 1)) (kk : fsW G l M D mc ms k n Q (pc + 1) L (.inr (.inl (x - y)) :: st) h) : fsW G l M D mc ms k n Q pc L (.inr (.inl y) :: .inr (.inl x) :: st) h := by
  intro p e s m args below meth c H locs ls C hR hS hl
  exact lv_lsub C.1 C.2.1 hd (kk p e s m args below meth c H locs ls C hR hS hl)
theorem fs_lmul {x y : Int64} (hd : decode M.2.1 pc = .ok (.lmul, 1)) (kk : fsW G l M D mc ms k n Q (pc + 1) L (.inr (.inl (x * y)) :: st) h) : fsW G l M D mc ms k n Q pc L (.inr (.inl y) :: .inr (.inl x) :: st) h := by
  intro p e s m args below meth c H locs ls C hR hS hl
  exact lv_lmul C.1 C.2.1 hd (kk p e s m args below meth c H locs ls C hR hS hl)
theorem fs_land {x y : Int64} (hd : decode M.2.1 pc = .ok (.land, 1)) (kk : fsW G l M D mc ms k n Q (pc + 1) L (.inr (.inl (x &&& y)) :: st) h) : fsW G l M D mc ms k n Q pc L (.inr (.inl y) :: .inr (.inl x) :: st) h := by
  intro p e s m args below meth c H locs ls C hR hS hl
  exact lv_land C.1 C.2.1 hd (kk p e s m args below meth c H locs ls C hR hS hl)
theorem fs_lor {x y : Int64} (hd : decode M.2.1 pc = .ok (.lor, 1)) (kk : fsW G l M D mc ms k n Q (pc + 1) L (.inr (.inl (x ||| y)) :: st) h) : fsW G l M D mc ms k n Q pc L (.inr (.inl y) :: .inr (.inl x) :: st) h := by
  intro p e s m args below meth c H locs ls C hR hS hl
  exact lv_lor C.1 C.2.1 hd (kk p e s m args below meth c H locs ls C hR hS hl)
theorem fs_lxor {x y : Int64} (hd : decode M.2.1 pc = .ok (.lxor, 1)) (kk : fsW G l M D mc ms k n Q (pc + 1) L (.inr (.inl (x ^^^ y)) :: st) h) : fsW G l M D mc ms k n Q pc L (.inr (.inl y) :: .inr (.inl x) :: st) h := by
  intro p e s m args below meth c H locs ls C hR hS hl
  exact lv_lxor C.1 C.2.1 hd (kk p e s m args below meth c H locs ls C hR hS hl)
theorem fs_idiv {x y : Int32} (hd : decode M.2.1 pc = .ok (.idiv, 1)) (hne : ¬ y = 0) (kk : fsW G l M D mc ms k n Q (pc + 1) L (.inl (x / y) :: st) h) : fsW G l M D mc ms k n Q pc L (.inl y :: .inl x :: st) h := by
  intro p e s m args below meth c H locs ls C hR hS hl
  exact lv_idiv C.1 C.2.1 hd hne (kk p e s m args below meth c H locs ls C hR hS hl)
theorem fs_irem {x y : Int32} (hd : decode M.2.1 pc = .ok (.irem, 1)) (hne : ¬ y = 0) (kk : fsW G l M D mc ms k n Q (pc + 1) L (.inl (x - x / y * y) :: st) h) : fsW G l M D mc ms k n Q pc L (.inl y :: .inl x :: st) h := by
  intro p e s m args below meth c H locs ls C hR hS hl
  exact lv_irem C.1 C.2.1 hd hne (kk p e s m args below meth c H locs ls C hR hS hl)
theorem fs_ldiv {x y : Int64} (hd : decode M.2.1 pc = .ok (.ldiv, 1)) (hne : ¬ y = 0) (kk : fsW G l M D mc ms k n Q (pc + 1) L (.inr (.inl (x / y)) :: st) h) : fsW G l M D mc ms k n Q pc L (.inr (.inl y) :: .inr (.inl x) :: st) h := by
  intro p e s m args below meth c H locs ls C hR hS hl
  exact lv_ldiv C.1 C.2.1 hd hne (kk p e s m args below meth c H locs ls C hR hS hl)
theorem fs_lrem {x y : Int64} (hd : decode M.2.1 pc = .ok (.lrem, 1)) (hne : ¬ y = 0) (kk : fsW G l M D mc ms k n Q (pc + 1) L (.inr (.inl (x - x / y * y)) :: st) h) : fsW G l M D mc ms k n Q pc L (.inr (.inl y) :: .inr (.inl x) :: st) h := by
  intro p e s m args below meth c H locs ls C hR hS hl
  exact lv_lrem C.1 C.2.1 hd hne (kk p e s m args below meth c H locs ls C hR hS hl)
theorem fs_ineg {x : Int32} (hd : decode M.2.1 pc = .ok (.ineg, 1)) (kk : fsW G l M D mc ms k n Q (pc + 1) L (.inl (-x) :: st) h) : fsW G l M D mc ms k n Q pc L (.inl x :: st) h := by
  intro p e s m args below meth c H locs ls C hR hS hl
  exact lv_ineg C.1 C.2.1 hd (kk p e s m args below meth c H locs ls C hR hS hl)
theorem fs_lneg {x : Int64} (hd : decode M.2.1 pc = .ok (.lneg, 1)) (kk : fsW G l M D mc ms k n Q (pc + 1) L (.inr (.inl (-x)) :: st) h) : fsW G l M D mc ms k n Q pc L (.inr (.inl x) :: st) h := by
  intro p e s m args below meth c H locs ls C hR hS hl
  exact lv_lneg C.1 C.2.1 hd (kk p e s m args below meth c H locs ls C hR hS hl)
theorem fs_i2l {x : Int32} (hd : decode M.2.1 pc = .ok (.i2l, 1)) (kk : fsW G l M D mc ms k n Q (pc + 1) L (.inr (.inl x.toInt64) :: st) h) : fsW G l M D mc ms k n Q pc L (.inl x :: st) h := by
  intro p e s m args below meth c H locs ls C hR hS hl
  exact lv_i2l C.1 C.2.1 hd rfl (kk p e s m args below meth c H locs ls C hR hS hl)
theorem fs_l2i {x : Int64} (hd : decode M.2.1 pc = .ok (.l2i, 1)) (kk : fsW G l M D mc ms k n Q (pc + 1) L (.inl x.toInt32 :: st) h) : fsW G l M D mc ms k n Q pc L (.inr (.inl x) :: st) h := by
  intro p e s m args below meth c H locs ls C hR hS hl
  exact lv_l2i C.1 C.2.1 hd rfl (kk p e s m args below meth c H locs ls C hR hS hl)
theorem fs_i2c {x : Int32} (hd : decode M.2.1 pc = .ok (.i2c, 1)) (kk : fsW G l M D mc ms k n Q (pc + 1) L (.inl (x.toUInt32 % 65536).toInt32 :: st) h) : fsW G l M D mc ms k n Q pc L (.inl x :: st) h := by
  intro p e s m args below meth c H locs ls C hR hS hl
  exact lv_i2c C.1 C.2.1 hd rfl (kk p e s m args below meth c H locs ls C hR hS hl)
theorem fs_lushr {x : Int64} {y : Int32} (hd : decode M.2.1 pc = .ok (.lushr, 1)) (kk : fsW G l M D mc ms k n Q (pc + 1) L (.inr (.inl (x.toUInt64 >>> (y.toInt64.toUInt64 &&& Int64.toUInt64 63)).toInt64) :: st) h) : fsW G l M D mc ms k n Q pc L (.inl y :: .inr (.inl x) :: st) h := by
  intro p e s m args below meth c H locs ls C hR hS hl
  exact lv_lushr C.1 C.2.1 hd rfl (kk p e s m args below meth c H locs ls C hR hS hl)
theorem fs_lshl {x : Int64} {y : Int32} (hd : decode M.2.1 pc = .ok (.lshl, 1)) (kk : fsW G l M D mc ms k n Q (pc + 1) L (.inr (.inl (x <<< (y.toInt64 &&& 63))) :: st) h) : fsW G l M D mc ms k n Q pc L (.inl y :: .inr (.inl x) :: st) h := by
  intro p e s m args below meth c H locs ls C hR hS hl
  exact lv_lshl C.1 C.2.1 hd rfl (kk p e s m args below meth c H locs ls C hR hS hl)
theorem fs_lshr {x : Int64} {y : Int32} (hd : decode M.2.1 pc = .ok (.lshr, 1)) (kk : fsW G l M D mc ms k n Q (pc + 1) L (.inr (.inl (x >>> (y.toInt64 &&& 63))) :: st) h) : fsW G l M D mc ms k n Q pc L (.inl y :: .inr (.inl x) :: st) h := by
  intro p e s m args below meth c H locs ls C hR hS hl
  exact lv_lshr C.1 C.2.1 hd rfl (kk p e s m args below meth c H locs ls C hR hS hl)
theorem fs_lcmp {x y : Int64} (hd : decode M.2.1 pc = .ok (.lcmp, 1)) (kk : fsW G l M D mc ms k n Q (pc + 1) L (.inl (lg_cmp x y) :: st) h) : fsW G l M D mc ms k n Q pc L (.inr (.inl y) :: .inr (.inl x) :: st) h := by
  intro p e s m args below meth c H locs ls C hR hS hl
  exact W.lcmp C.1 C.2.1 hd (kk p e s m args below meth c H locs ls C hR hS hl)
theorem fs_dup {v : fsV} (hd : decode M.2.1 pc = .ok (.dup, 1)) (hc : fs_cat v = 1) (kk : fsW G l M D mc ms k n Q (pc + 1) L (v :: v :: st) h) : fsW G l M D mc ms k n Q pc L (v :: st) h := by
  intro p e s m args below meth c H locs ls C hR hS hl
  exact lv_dup C.1 C.2.1 hd (by rw [fs_v_cat]; exact hc) (kk p e s m args below meth c H locs ls C hR hS hl)
theorem fs_pop {v : fsV} (hd : decode M.2.1 pc = .ok (.pop, 1)) (hc : fs_cat v = 1) (kk : fsW G l M D mc ms k n Q (pc + 1) L (st) h) : fsW G l M D mc ms k n Q pc L (v :: st) h := by
  intro p e s m args below meth c H locs ls C hR hS hl
  exact lv_pop C.1 C.2.1 hd (by rw [fs_v_cat]; exact hc) (kk p e s m args below meth c H locs ls C hR hS hl)
theorem fs_dup2 {v w : fsV} (hd : decode M.2.1 pc = .ok (.dup2, 1)) (hc : fs_cat v = 1) (hc2 : fs_cat w = 1) (kk : fsW G l M D mc ms k n Q (pc + 1) L (v :: w :: v :: w :: st) h) : fsW G l M D mc ms k n Q pc L (v :: w :: st) h := by
  intro p e s m args below meth c H locs ls C hR hS hl
  exact lv_dup2_11 C.1 C.2.1 hd (by rw [fs_v_cat]; exact hc) (by rw [fs_v_cat]; exact hc2) (kk p e s m args below meth c H locs ls C hR hS hl)
theorem fs_dup2_2 {x : Int64} (hd : decode M.2.1 pc = .ok (.dup2, 1)) (kk : fsW G l M D mc ms k n Q (pc + 1) L (.inr (.inl x) :: .inr (.inl x) :: st) h) : fsW G l M D mc ms k n Q pc L (.inr (.inl x) :: st) h := by
  intro p e s m args below meth c H locs ls C hR hS hl
  exact lv_dup2_2 C.1 C.2.1 hd rfl (kk p e s m args below meth c H locs ls C hR hS hl)
theorem fs_dup_x1 {v w : fsV} (hd : decode M.2.1 pc = .ok (.dup_x1, 1)) (hc : fs_cat v = 1) (hc2 : fs_cat w = 1) (kk : fsW G l M D mc ms k n Q (pc + 1) L (v :: w :: v :: st) h) : fsW G l M D mc ms k n Q pc L (v :: w :: st) h := by
  intro p e s m args below meth c H locs ls C hR hS hl
  exact lv_dup_x1 C.1 C.2.1 hd (by rw [fs_v_cat]; exact hc) (by rw [fs_v_cat]; exact hc2) (kk p e s m args below meth c H locs ls C hR hS hl)
theorem fs_if_eq {x : Int32} {off : Int} (tgt : Nat) (hd : decode M.2.1 pc = .ok (.ifCond .eq off, 3)) (ht : (pc : Int) + off = (tgt : Int)) (kt : x = 0 → fsW G l M D mc ms k n Q tgt L st h) (kf : ¬ x = 0 → fsW G l M D mc ms k n Q (pc + 3) L st h) : fsW G l M D mc ms k n Q pc L (.inl x :: st) h := by
  intro p e s m args below meth c H locs ls C hR hS hl
  exact lv_if_eq C.1 C.2.1 hd ht (fun q => kt q p e s m args below meth c H locs ls C hR hS hl) (fun q => kf q p e s m args below meth c H locs ls C hR hS hl)
theorem fs_if_ne {x : Int32} {off : Int} (tgt : Nat) (hd : decode M.2.1 pc = .ok (.ifCond .ne off, 3)) (ht : (pc : Int) + off = (tgt : Int)) (kt : ¬ x = 0 → fsW G l M D mc ms k n Q tgt L st h) (kf : x = 0 → fsW G l M D mc ms k n Q (pc + 3) L st h) : fsW G l M D mc ms k n Q pc L (.inl x :: st) h := by
  intro p e s m args below meth c H locs ls C hR hS hl
  exact lv_if_ne C.1 C.2.1 hd ht (fun q => kt q p e s m args below meth c H locs ls C hR hS hl) (fun q => kf q p e s m args below meth c H locs ls C hR hS hl)
theorem fs_if_lt {x : Int32} {off : Int} (tgt : Nat) (hd : decode M.2.1 pc = .ok (.ifCond .lt off, 3)) (ht : (pc : Int) + off = (tgt : Int)) (kt : x < 0 → fsW G l M D mc ms k n Q tgt L st h) (kf : ¬ x < 0 → fsW G l M D mc ms k n Q (pc + 3) L st h) : fsW G l M D mc ms k n Q pc L (.inl x :: st) h := by
  intro p e s m args below meth c H locs ls C hR hS hl
  exact lv_if_lt C.1 C.2.1 hd ht (fun q => kt q p e s m args below meth c H locs ls C hR hS hl) (fun q => kf q p e s m args below meth c H locs ls C hR hS hl)
theorem fs_if_ge {x : Int32} {off : Int} (tgt : Nat) (hd : decode M.2.1 pc = .ok (.ifCond .ge off, 3)) (ht : (pc : Int) + off = (tgt : Int)) (kt : 0 ≤ x → fsW G l M D mc ms k n Q tgt L st h) (kf : ¬ 0 ≤ x → fsW G l M D mc ms k n Q (pc + 3) L st h) : fsW G l M D mc ms k n Q pc L (.inl x :: st) h := by
  intro p e s m args below meth c H locs ls C hR hS hl
  exact lv_if_ge C.1 C.2.1 hd ht (fun q => kt q p e s m args below meth c H locs ls C hR hS hl) (fun q => kf q p e s m args below meth c H locs ls C hR hS hl)
theorem fs_if_gt {x : Int32} {off : Int} (tgt : Nat) (hd : decode M.2.1 pc = .ok (.ifCond .gt off, 3)) (ht : (pc : Int) + off = (tgt : Int)) (kt : 0 < x → fsW G l M D mc ms k n Q tgt L st h) (kf : ¬ 0 < x → fsW G l M D mc ms k n Q (pc + 3) L st h) : fsW G l M D mc ms k n Q pc L (.inl x :: st) h := by
  intro p e s m args below meth c H locs ls C hR hS hl
  exact lv_if_gt C.1 C.2.1 hd ht (fun q => kt q p e s m args below meth c H locs ls C hR hS hl) (fun q => kf q p e s m args below meth c H locs ls C hR hS hl)
theorem fs_if_le {x : Int32} {off : Int} (tgt : Nat) (hd : decode M.2.1 pc = .ok (.ifCond .le off, 3)) (ht : (pc : Int) + off = (tgt : Int)) (kt : x ≤ 0 → fsW G l M D mc ms k n Q tgt L st h) (kf : ¬ x ≤ 0 → fsW G l M D mc ms k n Q (pc + 3) L st h) : fsW G l M D mc ms k n Q pc L (.inl x :: st) h := by
  intro p e s m args below meth c H locs ls C hR hS hl
  exact lv_if_le C.1 C.2.1 hd ht (fun q => kt q p e s m args below meth c H locs ls C hR hS hl) (fun q => kf q p e s m args below meth c H locs ls C hR hS hl)
theorem fs_icmp_eq {x y : Int32} {off : Int} (tgt : Nat) (hd : decode M.2.1 pc = .ok (.if_icmp .eq off, 3)) (ht : (pc : Int) + off = (tgt : Int)) (kt : x = y → fsW G l M D mc ms k n Q tgt L st h) (kf : ¬ x = y → fsW G l M D mc ms k n Q (pc + 3) L st h) : fsW G l M D mc ms k n Q pc L (.inl y :: .inl x :: st) h := by
  intro p e s m args below meth c H locs ls C hR hS hl
  exact lv_icmp_eq C.1 C.2.1 hd ht (fun q => kt q p e s m args below meth c H locs ls C hR hS hl) (fun q => kf q p e s m args below meth c H locs ls C hR hS hl)
theorem fs_icmp_ne {x y : Int32} {off : Int} (tgt : Nat) (hd : decode M.2.1 pc = .ok (.if_icmp .ne off, 3)) (ht : (pc : Int) + off = (tgt : Int)) (kt : ¬ x = y → fsW G l M D mc ms k n Q tgt L st h) (kf : x = y → fsW G l M D mc ms k n Q (pc + 3) L st h) : fsW G l M D mc ms k n Q pc L (.inl y :: .inl x :: st) h := by
  intro p e s m args below meth c H locs ls C hR hS hl
  exact lv_icmp_ne C.1 C.2.1 hd ht (fun q => kt q p e s m args below meth c H locs ls C hR hS hl) (fun q => kf q p e s m args below meth c H locs ls C hR hS hl)
theorem fs_icmp_lt {x y : Int32} {off : Int} (tgt : Nat) (hd : decode M.2.1 pc = .ok (.if_icmp .lt off, 3)) (ht : (pc : Int) + off = (tgt : Int)) (kt : x < y → fsW G l M D mc ms k n Q tgt L st h) (kf : ¬ x < y → fsW G l M D mc ms k n Q (pc + 3) L st h) : fsW G l M D mc ms k n Q pc L (.inl y :: .inl x :: st) h := by
  intro p e s m args below meth c H locs ls C hR hS hl
  exact lv_icmp_lt C.1 C.2.1 hd ht (fun q => kt q p e s m args below meth c H locs ls C hR hS hl) (fun q => kf q p e s m args below meth c H locs ls C hR hS hl)
theorem fs_icmp_ge {x y : Int32} {off : Int} (tgt : Nat) (hd : decode M.2.1 pc = .ok (.if_icmp .ge off, 3)) (ht : (pc : Int) + off = (tgt : Int)) (kt : y ≤ x → fsW G l M D mc ms k n Q tgt L st h) (kf : ¬ y ≤ x → fsW G l M D mc ms k n Q (pc + 3) L st h) : fsW G l M D mc ms k n Q pc L (.inl y :: .inl x :: st) h := by
  intro p e s m args below meth c H locs ls C hR hS hl
  exact lv_icmp_ge C.1 C.2.1 hd ht (fun q => kt q p e s m args below meth c H locs ls C hR hS hl) (fun q => kf q p e s m args below meth c H locs ls C hR hS hl)
theorem fs_icmp_gt {x y : Int32} {off : Int} (tgt : Nat) (hd : decode M.2.1 pc = .ok (.if_icmp .gt off, 3)) (ht : (pc : Int) + off = (tgt : Int)) (kt : y < x → fsW G l M D mc ms k n Q tgt L st h) (kf : ¬ y < x → fsW G l M D mc ms k n Q (pc + 3) L st h) : fsW G l M D mc ms k n Q pc L (.inl y :: .inl x :: st) h := by
  intro p e s m args below meth c H locs ls C hR hS hl
  exact lv_icmp_gt C.1 C.2.1 hd ht (fun q => kt q p e s m args below meth c H locs ls C hR hS hl) (fun q => kf q p e s m args below meth c H locs ls C hR hS hl)
theorem fs_icmp_le {x y : Int32} {off : Int} (tgt : Nat) (hd : decode M.2.1 pc = .ok (.if_icmp .le off, 3)) (ht : (pc : Int) + off = (tgt : Int)) (kt : x ≤ y → fsW G l M D mc ms k n Q tgt L st h) (kf : ¬ x ≤ y → fsW G l M D mc ms k n Q (pc + 3) L st h) : fsW G l M D mc ms k n Q pc L (.inl y :: .inl x :: st) h := by
  intro p e s m args below meth c H locs ls C hR hS hl
  exact lv_icmp_le C.1 C.2.1 hd ht (fun q => kt q p e s m args below meth c H locs ls C hR hS hl) (fun q => kf q p e s m args below meth c H locs ls C hR hS hl)
theorem fs_goto {off : Int} (tgt : Nat) (hd : decode M.2.1 pc = .ok (.goto off, 3)) (ht : (pc : Int) + off = (tgt : Int)) (kk : fsW G l M D mc ms k n Q tgt L st h) : fsW G l M D mc ms k n Q pc L st h := by
  intro p e s m args below meth c H locs ls C hR hS hl
  exact lv_goto C.1 C.2.1 hd ht (kk p e s m args below meth c H locs ls C hR hS hl)
theorem fs_ifnull {off : Int} {r : Option Nat} (tgt : Nat) (hd : decode M.2.1 pc = .ok (.ifnull off, 3)) (ht : (pc : Int) + off = (tgt : Int)) (kt : r = none → fsW G l M D mc ms k n Q tgt L st h) (kf : ∀ a, r = some a → fsW G l M D mc ms k n Q (pc + 3) L st h) : fsW G l M D mc ms k n Q pc L (.inr (.inr r) :: st) h := by
  intro p e s m args below meth c H locs ls C hR hS hl
  cases r with
  | none => exact lv_ifnullN C.1 C.2.1 hd ht (kt rfl p e s m args below meth c H locs ls C hR hS hl)
  | some a => exact lv_ifnull C.1 C.2.1 hd (kf a rfl p e s m args below meth c H locs ls C hR hS hl)
theorem fs_ifnonnull {off : Int} {r : Option Nat} (tgt : Nat) (hd : decode M.2.1 pc = .ok (.ifnonnull off, 3)) (ht : (pc : Int) + off = (tgt : Int)) (kt : ∀ a, r = some a → fsW G l M D mc ms k n Q tgt L st h) (kf : r = none → fsW G l M D mc ms k n Q (pc + 3) L st h) : fsW G l M D mc ms k n Q pc L (.inr (.inr r) :: st) h := by
  intro p e s m args below meth c H locs ls C hR hS hl
  cases r with
  | none => exact lv_ifnonnullN C.1 C.2.1 hd (kf rfl p e s m args below meth c H locs ls C hR hS hl)
  | some a => exact lv_ifnonnull C.1 C.2.1 hd ht (kt a rfl p e s m args below meth c H locs ls C hR hS hl)
theorem fs_tableOut {dflt lo hi : Int} {offs : Array Int} {len : Nat} {x : Int32} (tgt : Nat) (hd : decode M.2.1 pc = .ok (.tableswitch dflt lo hi offs, len)) (hx : x.toInt < lo ∨ hi < x.toInt) (ht : (pc : Int) + dflt = (tgt : Int)) (kk : fsW G l M D mc ms k n Q tgt L st h) : fsW G l M D mc ms k n Q pc L (.inl x :: st) h := by
  intro p e s m args below meth c H locs ls C hR hS hl
  exact lv_tableOut C.1 C.2.1 hd hx ht (kk p e s m args below meth c H locs ls C hR hS hl)
theorem fs_tableIn {dflt lo hi : Int} {offs : Array Int} {len : Nat} {x : Int32} {off : Int} (tgt : Nat) (hd : decode M.2.1 pc = .ok (.tableswitch dflt lo hi offs, len)) (h1 : ¬ x.toInt < lo) (h2 : ¬ hi < x.toInt) (ho : offs[(x.toInt - lo).toNat]? = some off) (ht : (pc : Int) + off = (tgt : Int)) (kk : fsW G l M D mc ms k n Q tgt L st h) : fsW G l M D mc ms k n Q pc L (.inl x :: st) h := by
  intro p e s m args below meth c H locs ls C hR hS hl
  exact lv_tableIn C.1 C.2.1 hd h1 h2 ho ht (kk p e s m args below meth c H locs ls C hR hS hl)
theorem fs_lookup {dflt : Int} {ps : Array (Int × Int)} {len : Nat} {x : Int32} {off : Int} (tgt : Nat) (hd : decode M.2.1 pc = .ok (.lookupswitch dflt ps, len)) (hp : (ps.toList.zip (ps.toList.drop 1)).all (fun (a, next) => a.1 < next.1) = true) (ho : Op.lookupswitch.offset ps.toList dflt x.toInt = off) (ht : (pc : Int) + off = (tgt : Int)) (kk : fsW G l M D mc ms k n Q tgt L st h) : fsW G l M D mc ms k n Q pc L (.inl x :: st) h := by
  intro p e s m args below meth c H locs ls C hR hS hl
  exact lv_lookup C.1 C.2.1 hd hp ho ht (kk p e s m args below meth c H locs ls C hR hS hl)
theorem fs_ldc2 {idx : Nat} {v : Int64} (hd : decode M.2.1 pc = .ok (.ldc2_w idx, 3)) (hw : Cond.constantLong M.1.cls idx v ∈ fs_T) (kk : fsW G l M D mc ms k n Q (pc + 3) L (.inr (.inl v) :: st) h) : fsW G l M D mc ms k n Q pc L st h := by
  intro p e s m args below meth c H locs ls C hR hS hl
  exact lv_ldc2 C.1 C.2.1 C.2.2.2.2.1 (C.2.2.2.2.2.1 _ hw) hd (kk p e s m args below meth c H locs ls C hR hS hl)
/-- counters rounded up -/
theorem fs_widen {k2 n2 : Nat} (h1 : k ≤ k2) (h2 : n ≤ n2) (kk : fsW G l M D mc ms k2 n2 Q pc L st h) : fsW G l M D mc ms k n Q pc L st h := by
  intro p e s m args below meth c H locs ls C hR hS hl
  exact W.widen h1 h2 (kk p e s m args below meth c H locs ls C hR hS hl)
/-- a stronger end -/
theorem fs_mono {Q' : Option fsV → fsH → Prop} (hq : ∀ r h, Q r h → Q' r h) (kk : fsW G l M D mc ms k n Q pc L st h) : fsW G l M D mc ms k n Q' pc L st h := by
  intro p e s m args below meth c H locs ls C hR hS hl
  intro T hT X
  obtain ⟨t, a, o, b1, b2, ⟨r, h', c1, c2, c3⟩, b4⟩ := kk p e s m args below meth c H locs ls C hR hS hl T hT X
  exact ⟨t, a, o, b1, b2, ⟨r, h', c1, hq _ _ c2, c3⟩, b4⟩
theorem fs_ret (hd : decode M.2.1 pc = .ok (.return_, 1)) (hr : M.2.2.2 = none) (hq : Q none h) : fsW G l M D mc ms mc ms Q pc L [] h := by
  intro p e s m args below meth c H locs ls C hR hS hl
  have hlocks : meth.locks = false := C.2.2.2.2.2.2.2.2.1
  exact W.vret C.1 C.2.1 (C.2.2.1.trans hr) (fun t ht _ => ⟨none, h, rfl, hq, by rw [ht]; exact hR, hS.F ht⟩) hS.2.2 hd
theorem fs_iret {x : Int32} (hd : decode M.2.1 pc = .ok (.ireturn, 1)) {ty : FieldType} (hr : M.2.2.2 = some ty) (hn : narrow ty (.int x) = .int x) (hq : Q (some (.inl x)) h) : fsW G l M D mc ms mc ms Q pc L [.inl x] h := by
  intro p e s m args below meth c H locs ls C hR hS hl
  have hlocks : meth.locks = false := C.2.2.2.2.2.2.2.2.1
  exact W.zret C.1 C.2.1 (C.2.2.1.trans hr) hn (fun t ht _ => ⟨some (.inl x), h, rfl, hq, by rw [ht]; exact hR, hS.F ht⟩) hS.2.2 hd
theorem fs_lret {x : Int64} (hd : decode M.2.1 pc = .ok (.lreturn, 1)) (hr : M.2.2.2 = some .long) (hq : Q (some (.inr (.inl x))) h) : fsW G l M D mc ms mc ms Q pc L [.inr (.inl x)] h := by
  intro p e s m args below meth c H locs ls C hR hS hl
  have hlocks : meth.locks = false := C.2.2.2.2.2.2.2.2.1
  exact W.lret C.1 C.2.1 (C.2.2.1.trans hr) (fun t ht _ => ⟨some (.inr (.inl x)), h, rfl, hq, by rw [ht]; exact hR, hS.F ht⟩) hS.2.2 hd
theorem fs_aret {r : Option Nat} (hd : decode M.2.1 pc = .ok (.areturn, 1)) {C1 : String} (hr : M.2.2.2 = some (.object C1)) (hq : Q (some (.inr (.inr r))) h) : fsW G l M D mc ms mc ms Q pc L [.inr (.inr r)] h := by
  intro p e s m args below meth c H locs ls C hR hS hl
  have hlocks : meth.locks = false := C.2.2.2.2.2.2.2.2.1
  exact W.aret C.1 C.2.1 (C.2.2.1.trans hr) (Or.inl ⟨C1, rfl⟩) (by cases r <;> first | exact Or.inl rfl | exact Or.inr ⟨_, rfl⟩) (fun t ht _ => ⟨some (.inr (.inr r)), h, rfl, hq, by rw [ht]; exact hR, hS.F ht⟩) hS.2.2 hd
end FSR
