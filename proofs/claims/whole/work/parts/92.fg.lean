/-! THE RULES FOR ONE FIXED FRAME: any room R, any end Z, locals X that are no cells of ours (by program, gen_fg.py) -/
def fgW (p : Program) (e : Env) (s : State) (m : MethodId) (args : Array Value) (below : List Frame) (meth : Method) (c : Code) (R : Room) (Z : State → Prop) (X : List (Nat × Value)) (G : fsG) (l : Launch) (M : fsM) (k n : Nat) (pc : Nat) (L : List (Nat × fsV)) (st : List fsV) (h : fsH) : Prop :=
  ∀ (H : Heap) (locs : List Loc) (ls : Array Slot), fs_Rel G h H → va_S (fs_A G) s.heap H locs → lv_has ls M.2.2.1 (X ++ fs_L G L) → W p l e R s m args below meth c H locs k n Z (F0 m pc ls (st.map (fs_v G.1)))
def fg_X (X : List (Nat × Value)) : Prop := ∀ q ∈ X, q.1 = 0 ∧ q.2.category = 1
theorem fg_at_of {G : fsG} {X : List (Nat × Value)} {ls : Array Slot} {n : Nat} {L : List (Nat × fsV)} (hl : lv_has ls n (X ++ fs_L G L)) {i : Nat} {v : fsV} (h : fs_lk L i = some v) : ls[i]? = some (.val (fs_v G.1 v)) :=
  hl.2.2 (i, fs_v G.1 v) (List.mem_append_right _ (List.mem_map.mpr ⟨(i, v), fs_lk_mem h, rfl⟩))
theorem fg_s1 {G : fsG} {X : List (Nat × Value)} {ls : Array Slot} {n i : Nat} {L : List (Nat × fsV)} {v : fsV} (hX : fg_X X) (hi : 0 < i) (h : lv_has ls n ((i, fs_v G.1 v) :: (X ++ fs_L G L).filter (fun q => !(q.1 == i) && !(q.1 + 1 == i && q.2.category == 2)))) : lv_has ls n (X ++ fs_L G (fs_s1 L i v)) := by
  refine ⟨h.1, h.2.1, fun q hq => h.2.2 q ?_⟩
  rcases List.mem_append.mp hq with hq | hq
  · obtain ⟨e1, e2⟩ := hX q hq
    refine List.mem_cons_of_mem _ (List.mem_filter.mpr ⟨List.mem_append_left _ hq, ?_⟩)
    rw [e1, e2]
    have h0 : ¬ 0 = i := by omega
    simp [h0]
  · rw [← fs_L_s1] at hq
    rcases List.mem_cons.mp hq with rfl | hq
    · exact List.mem_cons_self
    · obtain ⟨h1, h2⟩ := List.mem_filter.mp hq
      exact List.mem_cons_of_mem _ (List.mem_filter.mpr ⟨List.mem_append_right _ h1, h2⟩)
theorem fg_s2 {G : fsG} {X : List (Nat × Value)} {ls : Array Slot} {n i : Nat} {L : List (Nat × fsV)} {v : fsV} (hX : fg_X X) (hi : 0 < i) (h : lv_has ls n ((i, fs_v G.1 v) :: (X ++ fs_L G L).filter (fun q => !(q.1 == i) && (!(q.1 == i + 1) && !(q.1 + 1 == i && q.2.category == 2))))) : lv_has ls n (X ++ fs_L G (fs_s2 L i v)) := by
  refine ⟨h.1, h.2.1, fun q hq => h.2.2 q ?_⟩
  rcases List.mem_append.mp hq with hq | hq
  · obtain ⟨e1, e2⟩ := hX q hq
    refine List.mem_cons_of_mem _ (List.mem_filter.mpr ⟨List.mem_append_left _ hq, ?_⟩)
    rw [e1, e2]
    have h0 : ¬ 0 = i := by omega
    simp [h0]
  · rw [← fs_L_s2] at hq
    rcases List.mem_cons.mp hq with rfl | hq
    · exact List.mem_cons_self
    · obtain ⟨h1, h2⟩ := List.mem_filter.mp hq
      exact List.mem_cons_of_mem _ (List.mem_filter.mpr ⟨List.mem_append_right _ h1, h2⟩)
section FGR
variable {p : Program} {e : Env} {s : State} {m : MethodId} {args : Array Value} {below : List Frame} {meth : Method} {c : Code} {R : Room} {Z : State → Prop} {X : List (Nat × Value)} {G : fsG} {l : Launch} {M : fsM} {k n : Nat} {pc : Nat} {L : List (Nat × fsV)} {st : List fsV} {h : fsH}
theorem fg_iconst (C : fs_Ctx G M p s m args meth c) {i : Int} {v : Int32} (hd : decode M.2.1 pc = .ok (.iconst i, 1)) (hv : Int32.ofInt i = v) (kk : fgW p e s m args below meth c R Z X G l M k n (pc + 1) L (.inl v :: st) h) : fgW p e s m args below meth c R Z X G l M k n pc L (st) h := by
  intro H locs ls hR hS hl
  exact lv_iconst C.1 C.2.1 hd hv (kk H locs ls hR hS hl)
theorem fg_bipush (C : fs_Ctx G M p s m args meth c) {i : Int} {v : Int32} (hd : decode M.2.1 pc = .ok (.bipush i, 2)) (hv : (Int8.ofInt i).toInt32 = v) (kk : fgW p e s m args below meth c R Z X G l M k n (pc + 2) L (.inl v :: st) h) : fgW p e s m args below meth c R Z X G l M k n pc L (st) h := by
  intro H locs ls hR hS hl
  exact lv_bipush C.1 C.2.1 hd hv (kk H locs ls hR hS hl)
theorem fg_sipush (C : fs_Ctx G M p s m args meth c) {i : Int} {v : Int32} (hd : decode M.2.1 pc = .ok (.sipush i, 3)) (hv : (Int16.ofInt i).toInt32 = v) (kk : fgW p e s m args below meth c R Z X G l M k n (pc + 3) L (.inl v :: st) h) : fgW p e s m args below meth c R Z X G l M k n pc L (st) h := by
  intro H locs ls hR hS hl
  exact lv_sipush C.1 C.2.1 hd hv (kk H locs ls hR hS hl)
theorem fg_lconst (C : fs_Ctx G M p s m args meth c) {i : Fin 2} {v : Int64} (hd : decode M.2.1 pc = .ok (.lconst i, 1)) (hv : Int64.ofNat (i : Nat) = v) (kk : fgW p e s m args below meth c R Z X G l M k n (pc + 1) L (.inr (.inl v) :: st) h) : fgW p e s m args below meth c R Z X G l M k n pc L (st) h := by
  intro H locs ls hR hS hl
  exact lv_lconst C.1 C.2.1 hd hv (kk H locs ls hR hS hl)
theorem fg_null (C : fs_Ctx G M p s m args meth c)  (hd : decode M.2.1 pc = .ok (.aconst_null, 1)) (kk : fgW p e s m args below meth c R Z X G l M k n (pc + 1) L (.inr (.inr none) :: st) h) : fgW p e s m args below meth c R Z X G l M k n pc L (st) h := by
  intro H locs ls hR hS hl
  exact lv_null C.1 C.2.1 hd (kk H locs ls hR hS hl)
theorem fg_iload_n (C : fs_Ctx G M p s m args meth c) {j : Fin 4} {i : Nat} {x : Int32} (hd : decode M.2.1 pc = .ok (.iload_n j, 1)) (hi : (j : Nat) = i) (hv : fs_lk L i = some (.inl x)) (kk : fgW p e s m args below meth c R Z X G l M k n (pc + 1) L (.inl x :: st) h) : fgW p e s m args below meth c R Z X G l M k n pc L (st) h := by
  intro H locs ls hR hS hl
  exact lv_iload_n C.1 C.2.1 hd hi (fg_at_of hl hv) (kk H locs ls hR hS hl)
theorem fg_iload (C : fs_Ctx G M p s m args meth c) {i : Nat} {x : Int32} (hd : decode M.2.1 pc = .ok (.iload i, 2)) (hv : fs_lk L i = some (.inl x)) (kk : fgW p e s m args below meth c R Z X G l M k n (pc + 2) L (.inl x :: st) h) : fgW p e s m args below meth c R Z X G l M k n pc L (st) h := by
  intro H locs ls hR hS hl
  exact lv_iload C.1 C.2.1 hd (fg_at_of hl hv) (kk H locs ls hR hS hl)
theorem fg_lload_n (C : fs_Ctx G M p s m args meth c) {j : Fin 4} {i : Nat} {x : Int64} (hd : decode M.2.1 pc = .ok (.lload_n j, 1)) (hi : (j : Nat) = i) (hv : fs_lk L i = some (.inr (.inl x))) (kk : fgW p e s m args below meth c R Z X G l M k n (pc + 1) L (.inr (.inl x) :: st) h) : fgW p e s m args below meth c R Z X G l M k n pc L (st) h := by
  intro H locs ls hR hS hl
  exact lv_lload_n C.1 C.2.1 hd hi (fg_at_of hl hv) (kk H locs ls hR hS hl)
theorem fg_lload (C : fs_Ctx G M p s m args meth c) {i : Nat} {x : Int64} (hd : decode M.2.1 pc = .ok (.lload i, 2)) (hv : fs_lk L i = some (.inr (.inl x))) (kk : fgW p e s m args below meth c R Z X G l M k n (pc + 2) L (.inr (.inl x) :: st) h) : fgW p e s m args below meth c R Z X G l M k n pc L (st) h := by
  intro H locs ls hR hS hl
  exact lv_lload C.1 C.2.1 hd (fg_at_of hl hv) (kk H locs ls hR hS hl)
theorem fg_aload_n (C : fs_Ctx G M p s m args meth c) {j : Fin 4} {i : Nat} {r : Option Nat} (hd : decode M.2.1 pc = .ok (.aload_n j, 1)) (hi : (j : Nat) = i) (hv : fs_lk L i = some (.inr (.inr r))) (kk : fgW p e s m args below meth c R Z X G l M k n (pc + 1) L (.inr (.inr r) :: st) h) : fgW p e s m args below meth c R Z X G l M k n pc L st h := by
  intro H locs ls hR hS hl
  have h1 := fg_at_of hl hv
  have h2 := kk H locs ls hR hS hl
  cases r with
  | none => exact lv_aload_nN C.1 C.2.1 hd hi h1 h2
  | some a => exact lv_aload_n C.1 C.2.1 hd hi h1 h2
theorem fg_aload (C : fs_Ctx G M p s m args meth c) {i : Nat} {r : Option Nat} (hd : decode M.2.1 pc = .ok (.aload i, 2)) (hv : fs_lk L i = some (.inr (.inr r))) (kk : fgW p e s m args below meth c R Z X G l M k n (pc + 2) L (.inr (.inr r) :: st) h) : fgW p e s m args below meth c R Z X G l M k n pc L st h := by
  intro H locs ls hR hS hl
  have h1 := fg_at_of hl hv
  have h2 := kk H locs ls hR hS hl
  cases r with
  | none => exact lv_aloadN C.1 C.2.1 hd h1 h2
  | some a => exact lv_aload C.1 C.2.1 hd h1 h2
theorem fg_istore_n (C : fs_Ctx G M p s m args meth c) {j : Fin 4} {i : Nat} {x : Int32} {L' : List (Nat × fsV)} (hX : fg_X X) (hi0 : 0 < i) (hd : decode M.2.1 pc = .ok (.istore_n j, 1)) (hi : (j : Nat) = i) (hn : i < M.2.2.1) (hL : fs_s1 L i (.inl x) = L') (kk : fgW p e s m args below meth c R Z X G l M k n (pc + 1) L' st h) : fgW p e s m args below meth c R Z X G l M k n pc L (.inl x :: st) h := by
  intro H locs ls hR hS hl
  subst hL
  exact lv_istore_n C.1 C.2.1 hd hi hl hn rfl (fun ls' hl' => kk H locs ls' hR hS (fg_s1 (v := .inl x) hX hi0 hl'))
theorem fg_istore (C : fs_Ctx G M p s m args meth c) {i : Nat} {x : Int32} {L' : List (Nat × fsV)} (hX : fg_X X) (hi0 : 0 < i) (hd : decode M.2.1 pc = .ok (.istore i, 2)) (hn : i < M.2.2.1) (hL : fs_s1 L i (.inl x) = L') (kk : fgW p e s m args below meth c R Z X G l M k n (pc + 2) L' st h) : fgW p e s m args below meth c R Z X G l M k n pc L (.inl x :: st) h := by
  intro H locs ls hR hS hl
  subst hL
  exact lv_istore C.1 C.2.1 hd hl hn rfl (fun ls' hl' => kk H locs ls' hR hS (fg_s1 (v := .inl x) hX hi0 hl'))
theorem fg_lstore_n (C : fs_Ctx G M p s m args meth c) {j : Fin 4} {i : Nat} {x : Int64} {L' : List (Nat × fsV)} (hX : fg_X X) (hi0 : 0 < i) (hd : decode M.2.1 pc = .ok (.lstore_n j, 1)) (hi : (j : Nat) = i) (hn : i + 1 < M.2.2.1) (hL : fs_s2 L i (.inr (.inl x)) = L') (kk : fgW p e s m args below meth c R Z X G l M k n (pc + 1) L' st h) : fgW p e s m args below meth c R Z X G l M k n pc L (.inr (.inl x) :: st) h := by
  intro H locs ls hR hS hl
  subst hL
  exact lv_lstore_n C.1 C.2.1 hd hi hl hn rfl (fun ls' hl' => kk H locs ls' hR hS (fg_s2 (v := .inr (.inl x)) hX hi0 hl'))
theorem fg_lstore (C : fs_Ctx G M p s m args meth c) {i : Nat} {x : Int64} {L' : List (Nat × fsV)} (hX : fg_X X) (hi0 : 0 < i) (hd : decode M.2.1 pc = .ok (.lstore i, 2)) (hn : i + 1 < M.2.2.1) (hL : fs_s2 L i (.inr (.inl x)) = L') (kk : fgW p e s m args below meth c R Z X G l M k n (pc + 2) L' st h) : fgW p e s m args below meth c R Z X G l M k n pc L (.inr (.inl x) :: st) h := by
  intro H locs ls hR hS hl
  subst hL
  exact lv_lstore C.1 C.2.1 hd hl hn rfl (fun ls' hl' => kk H locs ls' hR hS (fg_s2 (v := .inr (.inl x)) hX hi0 hl'))
theorem fg_astore_n (C : fs_Ctx G M p s m args meth c) {j : Fin 4} {i : Nat} {r : Option Nat} {L' : List (Nat × fsV)} (hX : fg_X X) (hi0 : 0 < i) (hd : decode M.2.1 pc = .ok (.astore_n j, 1)) (hi : (j : Nat) = i) (hn : i < M.2.2.1) (hL : fs_s1 L i (.inr (.inr r)) = L') (kk : fgW p e s m args below meth c R Z X G l M k n (pc + 1) L' st h) : fgW p e s m args below meth c R Z X G l M k n pc L (.inr (.inr r) :: st) h := by
  intro H locs ls hR hS hl
  subst hL
  cases r with
  | none => exact lv_astore_nN C.1 C.2.1 hd hi hl hn rfl (fun ls' hl' => kk H locs ls' hR hS (fg_s1 (v := .inr (.inr none)) hX hi0 hl'))
  | some a => exact lv_astore_n C.1 C.2.1 hd hi hl hn rfl (fun ls' hl' => kk H locs ls' hR hS (fg_s1 (v := .inr (.inr (some a))) hX hi0 hl'))
theorem fg_astore (C : fs_Ctx G M p s m args meth c) {i : Nat} {r : Option Nat} {L' : List (Nat × fsV)} (hX : fg_X X) (hi0 : 0 < i) (hd : decode M.2.1 pc = .ok (.astore i, 2)) (hn : i < M.2.2.1) (hL : fs_s1 L i (.inr (.inr r)) = L') (kk : fgW p e s m args below meth c R Z X G l M k n (pc + 2) L' st h) : fgW p e s m args below meth c R Z X G l M k n pc L (.inr (.inr r) :: st) h := by
  intro H locs ls hR hS hl
  subst hL
  cases r with
  | none => exact lv_astoreN C.1 C.2.1 hd hl hn rfl (fun ls' hl' => kk H locs ls' hR hS (fg_s1 (v := .inr (.inr none)) hX hi0 hl'))
  | some a => exact lv_astore C.1 C.2.1 hd hl hn rfl (fun ls' hl' => kk H locs ls' hR hS (fg_s1 (v := .inr (.inr (some a))) hX hi0 hl'))
theorem fg_iinc (C : fs_Ctx G M p s m args meth c) {i : Nat} {z : Int} {x v : Int32} {L' : List (Nat × fsV)} (hX : fg_X X) (hi0 : 0 < i) (hd : decode M.2.1 pc = .ok (.iinc i z, 3)) (hv : fs_lk L i = some (.inl x)) (hz : x + Int32.ofInt z = v) (hn : i < M.2.2.1) (hL : fs_s1 L i (.inl v) = L') (kk : fgW p e s m args below meth c R Z X G l M k n (pc + 3) L' st h) : fgW p e s m args below meth c R Z X G l M k n pc L st h := by
  intro H locs ls hR hS hl
  subst hL
  obtain ⟨j, hj⟩ := List.getElem?_of_mem (List.mem_append_right X (List.mem_map.mpr ⟨(i, .inl x), fs_lk_mem hv, rfl⟩) : ((i, fs_v G.1 (.inl x)) : Nat × Value) ∈ X ++ fs_L G L)
  exact lv_iinc C.1 C.2.1 hd hl hj hz hn rfl (fun ls' hl' => kk H locs ls' hR hS (fg_s1 (v := .inl v) hX hi0 hl'))
theorem fg_iadd (C : fs_Ctx G M p s m args meth c) {x y : Int32} (hd : decode M.2.1 pc = .ok (.iadd, 1)) (kk : fgW p e s m args below meth c R Z X G l M k n (pc + 1) L (.inl (x + y) :: st) h) : fgW p e s m args below meth c R Z X G l M k n pc L (.inl y :: .inl x :: st) h := by
  intro H locs ls hR hS hl
  exact lv_iadd C.1 C.2.1 hd (kk H locs ls hR hS hl)
theorem fg_isub (C : fs_Ctx G M p s m args meth c) {x y : Int32} (hd : decode M.2.1 pc = .ok (.isub, 1)) (kk : fgW p e s m args below meth c R Z X G l M k n (pc + 1) L (.inl (x - y) :: st) h) : fgW p e s m args below meth c R Z X G l M k n pc L (.inl y :: .inl x :: st) h := by
  intro H locs ls hR hS hl
  exact lv_isub C.1 C.2.1 hd (kk H locs ls hR hS hl)
theorem fg_iand (C : fs_Ctx G M p s m args meth c) {x y : Int32} (hd : decode M.2.1 pc = .ok (.iand, 1)) (kk : fgW p e s m args below meth c R Z X G l M k n (pc + 1) L (.inl (x &&& y) :: st) h) : fgW p e s m args below meth c R Z X G l M k n pc L (.inl y :: .inl x :: st) h := by
  intro H locs ls hR hS hl
  exact lv_iand C.1 C.2.1 hd (kk H locs ls hR hS hl)
theorem fg_ior (C : fs_Ctx G M p s m args meth c) {x y : Int32} (hd : decode M.2.1 pc = .ok (.ior, 1)) (kk : fgW p e s m args below meth c R Z X G l M k n (pc + 1) L (.inl (x ||| y) :: st) h) : fgW p e s m args below meth c R Z X G l M k n pc L (.inl y :: .inl x :: st) h := by
  intro H locs ls hR hS hl
  exact lv_ior C.1 C.2.1 hd (kk H locs ls hR hS hl)
theorem fg_ladd (C : fs_Ctx G M p s m args meth c) {x y : Int64} (hd : decode M.2.1 pc = .ok (.ladd, 1)) (kk : fgW p e s m args below meth c R Z X G l M k n (pc + 1) L (.inr (.inl (x + y)) :: st) h) : fgW p e s m args below meth c R Z X G l M k n pc L (.inr (.inl y) :: .inr (.inl x) :: st) h := by
  intro H locs ls hR hS hl
  exact lv_ladd C.1 C.2.1 hd (kk H locs ls hR hS hl)
theorem fg_land (C : fs_Ctx G M p s m args meth c) {x y : Int64} (hd : decode M.2.1 pc = .ok (.land, 1)) (kk : fgW p e s m args below meth c R Z X G l M k n (pc + 1) L (.inr (.inl (x &&& y)) :: st) h) : fgW p e s m args below meth c R Z X G l M k n pc L (.inr (.inl y) :: .inr (.inl x) :: st) h := by
  intro H locs ls hR hS hl
  exact lv_land C.1 C.2.1 hd (kk H locs ls hR hS hl)
theorem fg_lor (C : fs_Ctx G M p s m args meth c) {x y : Int64} (hd : decode M.2.1 pc = .ok (.lor, 1)) (kk : fgW p e s m args below meth c R Z X G l M k n (pc + 1) L (.inr (.inl (x ||| y)) :: st) h) : fgW p e s m args below meth c R Z X G l M k n pc L (.inr (.inl y) :: .inr (.inl x) :: st) h := by
  intro H locs ls hR hS hl
  exact lv_lor C.1 C.2.1 hd (kk H locs ls hR hS hl)
theorem fg_i2l (C : fs_Ctx G M p s m args meth c) {x : Int32} (hd : decode M.2.1 pc = .ok (.i2l, 1)) (kk : fgW p e s m args below meth c R Z X G l M k n (pc + 1) L (.inr (.inl x.toInt64) :: st) h) : fgW p e s m args below meth c R Z X G l M k n pc L (.inl x :: st) h := by
  intro H locs ls hR hS hl
  exact lv_i2l C.1 C.2.1 hd rfl (kk H locs ls hR hS hl)
theorem fg_l2i (C : fs_Ctx G M p s m args meth c) {x : Int64} (hd : decode M.2.1 pc = .ok (.l2i, 1)) (kk : fgW p e s m args below meth c R Z X G l M k n (pc + 1) L (.inl x.toInt32 :: st) h) : fgW p e s m args below meth c R Z X G l M k n pc L (.inr (.inl x) :: st) h := by
  intro H locs ls hR hS hl
  exact lv_l2i C.1 C.2.1 hd rfl (kk H locs ls hR hS hl)
theorem fg_lshl (C : fs_Ctx G M p s m args meth c) {x : Int64} {y : Int32} (hd : decode M.2.1 pc = .ok (.lshl, 1)) (kk : fgW p e s m args below meth c R Z X G l M k n (pc + 1) L (.inr (.inl (x <<< (y.toInt64 &&& 63))) :: st) h) : fgW p e s m args below meth c R Z X G l M k n pc L (.inl y :: .inr (.inl x) :: st) h := by
  intro H locs ls hR hS hl
  exact lv_lshl C.1 C.2.1 hd rfl (kk H locs ls hR hS hl)
theorem fg_lcmp (C : fs_Ctx G M p s m args meth c) {x y : Int64} (hd : decode M.2.1 pc = .ok (.lcmp, 1)) (kk : fgW p e s m args below meth c R Z X G l M k n (pc + 1) L (.inl (lg_cmp x y) :: st) h) : fgW p e s m args below meth c R Z X G l M k n pc L (.inr (.inl y) :: .inr (.inl x) :: st) h := by
  intro H locs ls hR hS hl
  exact W.lcmp C.1 C.2.1 hd (kk H locs ls hR hS hl)
theorem fg_dup (C : fs_Ctx G M p s m args meth c) {v : fsV} (hd : decode M.2.1 pc = .ok (.dup, 1)) (hc : fs_cat v = 1) (kk : fgW p e s m args below meth c R Z X G l M k n (pc + 1) L (v :: v :: st) h) : fgW p e s m args below meth c R Z X G l M k n pc L (v :: st) h := by
  intro H locs ls hR hS hl
  exact lv_dup C.1 C.2.1 hd (by rw [fs_v_cat]; exact hc) (kk H locs ls hR hS hl)
theorem fg_pop (C : fs_Ctx G M p s m args meth c) {v : fsV} (hd : decode M.2.1 pc = .ok (.pop, 1)) (hc : fs_cat v = 1) (kk : fgW p e s m args below meth c R Z X G l M k n (pc + 1) L (st) h) : fgW p e s m args below meth c R Z X G l M k n pc L (v :: st) h := by
  intro H locs ls hR hS hl
  exact lv_pop C.1 C.2.1 hd (by rw [fs_v_cat]; exact hc) (kk H locs ls hR hS hl)
theorem fg_if_eq (C : fs_Ctx G M p s m args meth c) {x : Int32} {off : Int} (tgt : Nat) (hd : decode M.2.1 pc = .ok (.ifCond .eq off, 3)) (ht : (pc : Int) + off = (tgt : Int)) (kt : x = 0 → fgW p e s m args below meth c R Z X G l M k n tgt L st h) (kf : ¬ x = 0 → fgW p e s m args below meth c R Z X G l M k n (pc + 3) L st h) : fgW p e s m args below meth c R Z X G l M k n pc L (.inl x :: st) h := by
  intro H locs ls hR hS hl
  exact lv_if_eq C.1 C.2.1 hd ht (fun q => kt q H locs ls hR hS hl) (fun q => kf q H locs ls hR hS hl)
theorem fg_if_ne (C : fs_Ctx G M p s m args meth c) {x : Int32} {off : Int} (tgt : Nat) (hd : decode M.2.1 pc = .ok (.ifCond .ne off, 3)) (ht : (pc : Int) + off = (tgt : Int)) (kt : ¬ x = 0 → fgW p e s m args below meth c R Z X G l M k n tgt L st h) (kf : x = 0 → fgW p e s m args below meth c R Z X G l M k n (pc + 3) L st h) : fgW p e s m args below meth c R Z X G l M k n pc L (.inl x :: st) h := by
  intro H locs ls hR hS hl
  exact lv_if_ne C.1 C.2.1 hd ht (fun q => kt q H locs ls hR hS hl) (fun q => kf q H locs ls hR hS hl)
theorem fg_if_lt (C : fs_Ctx G M p s m args meth c) {x : Int32} {off : Int} (tgt : Nat) (hd : decode M.2.1 pc = .ok (.ifCond .lt off, 3)) (ht : (pc : Int) + off = (tgt : Int)) (kt : x < 0 → fgW p e s m args below meth c R Z X G l M k n tgt L st h) (kf : ¬ x < 0 → fgW p e s m args below meth c R Z X G l M k n (pc + 3) L st h) : fgW p e s m args below meth c R Z X G l M k n pc L (.inl x :: st) h := by
  intro H locs ls hR hS hl
  exact lv_if_lt C.1 C.2.1 hd ht (fun q => kt q H locs ls hR hS hl) (fun q => kf q H locs ls hR hS hl)
theorem fg_if_ge (C : fs_Ctx G M p s m args meth c) {x : Int32} {off : Int} (tgt : Nat) (hd : decode M.2.1 pc = .ok (.ifCond .ge off, 3)) (ht : (pc : Int) + off = (tgt : Int)) (kt : 0 ≤ x → fgW p e s m args below meth c R Z X G l M k n tgt L st h) (kf : ¬ 0 ≤ x → fgW p e s m args below meth c R Z X G l M k n (pc + 3) L st h) : fgW p e s m args below meth c R Z X G l M k n pc L (.inl x :: st) h := by
  intro H locs ls hR hS hl
  exact lv_if_ge C.1 C.2.1 hd ht (fun q => kt q H locs ls hR hS hl) (fun q => kf q H locs ls hR hS hl)
theorem fg_if_gt (C : fs_Ctx G M p s m args meth c) {x : Int32} {off : Int} (tgt : Nat) (hd : decode M.2.1 pc = .ok (.ifCond .gt off, 3)) (ht : (pc : Int) + off = (tgt : Int)) (kt : 0 < x → fgW p e s m args below meth c R Z X G l M k n tgt L st h) (kf : ¬ 0 < x → fgW p e s m args below meth c R Z X G l M k n (pc + 3) L st h) : fgW p e s m args below meth c R Z X G l M k n pc L (.inl x :: st) h := by
  intro H locs ls hR hS hl
  exact lv_if_gt C.1 C.2.1 hd ht (fun q => kt q H locs ls hR hS hl) (fun q => kf q H locs ls hR hS hl)
theorem fg_if_le (C : fs_Ctx G M p s m args meth c) {x : Int32} {off : Int} (tgt : Nat) (hd : decode M.2.1 pc = .ok (.ifCond .le off, 3)) (ht : (pc : Int) + off = (tgt : Int)) (kt : x ≤ 0 → fgW p e s m args below meth c R Z X G l M k n tgt L st h) (kf : ¬ x ≤ 0 → fgW p e s m args below meth c R Z X G l M k n (pc + 3) L st h) : fgW p e s m args below meth c R Z X G l M k n pc L (.inl x :: st) h := by
  intro H locs ls hR hS hl
  exact lv_if_le C.1 C.2.1 hd ht (fun q => kt q H locs ls hR hS hl) (fun q => kf q H locs ls hR hS hl)
theorem fg_icmp_eq (C : fs_Ctx G M p s m args meth c) {x y : Int32} {off : Int} (tgt : Nat) (hd : decode M.2.1 pc = .ok (.if_icmp .eq off, 3)) (ht : (pc : Int) + off = (tgt : Int)) (kt : x = y → fgW p e s m args below meth c R Z X G l M k n tgt L st h) (kf : ¬ x = y → fgW p e s m args below meth c R Z X G l M k n (pc + 3) L st h) : fgW p e s m args below meth c R Z X G l M k n pc L (.inl y :: .inl x :: st) h := by
  intro H locs ls hR hS hl
  exact lv_icmp_eq C.1 C.2.1 hd ht (fun q => kt q H locs ls hR hS hl) (fun q => kf q H locs ls hR hS hl)
theorem fg_icmp_ne (C : fs_Ctx G M p s m args meth c) {x y : Int32} {off : Int} (tgt : Nat) (hd : decode M.2.1 pc = .ok (.if_icmp .ne off, 3)) (ht : (pc : Int) + off = (tgt : Int)) (kt : ¬ x = y → fgW p e s m args below meth c R Z X G l M k n tgt L st h) (kf : x = y → fgW p e s m args below meth c R Z X G l M k n (pc + 3) L st h) : fgW p e s m args below meth c R Z X G l M k n pc L (.inl y :: .inl x :: st) h := by
  intro H locs ls hR hS hl
  exact lv_icmp_ne C.1 C.2.1 hd ht (fun q => kt q H locs ls hR hS hl) (fun q => kf q H locs ls hR hS hl)
theorem fg_icmp_lt (C : fs_Ctx G M p s m args meth c) {x y : Int32} {off : Int} (tgt : Nat) (hd : decode M.2.1 pc = .ok (.if_icmp .lt off, 3)) (ht : (pc : Int) + off = (tgt : Int)) (kt : x < y → fgW p e s m args below meth c R Z X G l M k n tgt L st h) (kf : ¬ x < y → fgW p e s m args below meth c R Z X G l M k n (pc + 3) L st h) : fgW p e s m args below meth c R Z X G l M k n pc L (.inl y :: .inl x :: st) h := by
  intro H locs ls hR hS hl
  exact lv_icmp_lt C.1 C.2.1 hd ht (fun q => kt q H locs ls hR hS hl) (fun q => kf q H locs ls hR hS hl)
theorem fg_icmp_ge (C : fs_Ctx G M p s m args meth c) {x y : Int32} {off : Int} (tgt : Nat) (hd : decode M.2.1 pc = .ok (.if_icmp .ge off, 3)) (ht : (pc : Int) + off = (tgt : Int)) (kt : y ≤ x → fgW p e s m args below meth c R Z X G l M k n tgt L st h) (kf : ¬ y ≤ x → fgW p e s m args below meth c R Z X G l M k n (pc + 3) L st h) : fgW p e s m args below meth c R Z X G l M k n pc L (.inl y :: .inl x :: st) h := by
  intro H locs ls hR hS hl
  exact lv_icmp_ge C.1 C.2.1 hd ht (fun q => kt q H locs ls hR hS hl) (fun q => kf q H locs ls hR hS hl)
theorem fg_icmp_gt (C : fs_Ctx G M p s m args meth c) {x y : Int32} {off : Int} (tgt : Nat) (hd : decode M.2.1 pc = .ok (.if_icmp .gt off, 3)) (ht : (pc : Int) + off = (tgt : Int)) (kt : y < x → fgW p e s m args below meth c R Z X G l M k n tgt L st h) (kf : ¬ y < x → fgW p e s m args below meth c R Z X G l M k n (pc + 3) L st h) : fgW p e s m args below meth c R Z X G l M k n pc L (.inl y :: .inl x :: st) h := by
  intro H locs ls hR hS hl
  exact lv_icmp_gt C.1 C.2.1 hd ht (fun q => kt q H locs ls hR hS hl) (fun q => kf q H locs ls hR hS hl)
theorem fg_icmp_le (C : fs_Ctx G M p s m args meth c) {x y : Int32} {off : Int} (tgt : Nat) (hd : decode M.2.1 pc = .ok (.if_icmp .le off, 3)) (ht : (pc : Int) + off = (tgt : Int)) (kt : x ≤ y → fgW p e s m args below meth c R Z X G l M k n tgt L st h) (kf : ¬ x ≤ y → fgW p e s m args below meth c R Z X G l M k n (pc + 3) L st h) : fgW p e s m args below meth c R Z X G l M k n pc L (.inl y :: .inl x :: st) h := by
  intro H locs ls hR hS hl
  exact lv_icmp_le C.1 C.2.1 hd ht (fun q => kt q H locs ls hR hS hl) (fun q => kf q H locs ls hR hS hl)
theorem fg_goto (C : fs_Ctx G M p s m args meth c) {off : Int} (tgt : Nat) (hd : decode M.2.1 pc = .ok (.goto off, 3)) (ht : (pc : Int) + off = (tgt : Int)) (kk : fgW p e s m args below meth c R Z X G l M k n tgt L st h) : fgW p e s m args below meth c R Z X G l M k n pc L st h := by
  intro H locs ls hR hS hl
  exact lv_goto C.1 C.2.1 hd ht (kk H locs ls hR hS hl)
theorem fg_ifnull (C : fs_Ctx G M p s m args meth c) {off : Int} {r : Option Nat} (tgt : Nat) (hd : decode M.2.1 pc = .ok (.ifnull off, 3)) (ht : (pc : Int) + off = (tgt : Int)) (kt : r = none → fgW p e s m args below meth c R Z X G l M k n tgt L st h) (kf : ∀ a, r = some a → fgW p e s m args below meth c R Z X G l M k n (pc + 3) L st h) : fgW p e s m args below meth c R Z X G l M k n pc L (.inr (.inr r) :: st) h := by
  intro H locs ls hR hS hl
  cases r with
  | none => exact lv_ifnullN C.1 C.2.1 hd ht (kt rfl H locs ls hR hS hl)
  | some a => exact lv_ifnull C.1 C.2.1 hd (kf a rfl H locs ls hR hS hl)
theorem fg_ifnonnull (C : fs_Ctx G M p s m args meth c) {off : Int} {r : Option Nat} (tgt : Nat) (hd : decode M.2.1 pc = .ok (.ifnonnull off, 3)) (ht : (pc : Int) + off = (tgt : Int)) (kt : ∀ a, r = some a → fgW p e s m args below meth c R Z X G l M k n tgt L st h) (kf : r = none → fgW p e s m args below meth c R Z X G l M k n (pc + 3) L st h) : fgW p e s m args below meth c R Z X G l M k n pc L (.inr (.inr r) :: st) h := by
  intro H locs ls hR hS hl
  cases r with
  | none => exact lv_ifnonnullN C.1 C.2.1 hd (kf rfl H locs ls hR hS hl)
  | some a => exact lv_ifnonnull C.1 C.2.1 hd ht (kt a rfl H locs ls hR hS hl)
theorem fg_tableOut (C : fs_Ctx G M p s m args meth c) {dflt lo hi : Int} {offs : Array Int} {len : Nat} {x : Int32} (tgt : Nat) (hd : decode M.2.1 pc = .ok (.tableswitch dflt lo hi offs, len)) (hx : x.toInt < lo ∨ hi < x.toInt) (ht : (pc : Int) + dflt = (tgt : Int)) (kk : fgW p e s m args below meth c R Z X G l M k n tgt L st h) : fgW p e s m args below meth c R Z X G l M k n pc L (.inl x :: st) h := by
  intro H locs ls hR hS hl
  exact lv_tableOut C.1 C.2.1 hd hx ht (kk H locs ls hR hS hl)
theorem fg_tableIn (C : fs_Ctx G M p s m args meth c) {dflt lo hi : Int} {offs : Array Int} {len : Nat} {x : Int32} {off : Int} (tgt : Nat) (hd : decode M.2.1 pc = .ok (.tableswitch dflt lo hi offs, len)) (h1 : ¬ x.toInt < lo) (h2 : ¬ hi < x.toInt) (ho : offs[(x.toInt - lo).toNat]? = some off) (ht : (pc : Int) + off = (tgt : Int)) (kk : fgW p e s m args below meth c R Z X G l M k n tgt L st h) : fgW p e s m args below meth c R Z X G l M k n pc L (.inl x :: st) h := by
  intro H locs ls hR hS hl
  exact lv_tableIn C.1 C.2.1 hd h1 h2 ho ht (kk H locs ls hR hS hl)
theorem fg_ldc2 (C : fs_Ctx G M p s m args meth c) {idx : Nat} {v : Int64} (hd : decode M.2.1 pc = .ok (.ldc2_w idx, 3)) (hw : Cond.constantLong M.1.cls idx v ∈ fs_T) (kk : fgW p e s m args below meth c R Z X G l M k n (pc + 3) L (.inr (.inl v) :: st) h) : fgW p e s m args below meth c R Z X G l M k n pc L st h := by
  intro H locs ls hR hS hl
  exact lv_ldc2 C.1 C.2.1 C.2.2.2.2.1 (C.2.2.2.2.2.1 _ hw) hd (kk H locs ls hR hS hl)
theorem fg_widen (C : fs_Ctx G M p s m args meth c) {k2 n2 : Nat} (h1 : k ≤ k2) (h2 : n ≤ n2) (kk : fgW p e s m args below meth c R Z X G l M k2 n2 pc L st h) : fgW p e s m args below meth c R Z X G l M k n pc L st h := by
  intro H locs ls hR hS hl
  exact W.widen h1 h2 (kk H locs ls hR hS hl)
theorem fg_getfield (C : fs_Ctx G M p s m args meth c) {idx ci kf a : Nat} {fs : List fsV} {v : fsV} (hd : decode M.2.1 pc = .ok (.getfield idx, 3)) (hf : fs_F M.1.cls idx ci kf) (hc : h[a]? = some (some (.inr (ci, fs)))) (hv : fs[kf]? = some v) (kk : fgW p e s m args below meth c R Z X G l M k n (pc + 3) L (v :: st) h) : fgW p e s m args below meth c R Z X G l M k n pc L (.inr (.inr (some a)) :: st) h := by
  intro H locs ls hR hS hl
  obtain ⟨Cn, T, N, h1, h2, h3, h4⟩ := hf
  exact va_get (D := G.2.1) (cl := vwCl) (tys := fs_tys G) C.1 C.2.1 (Ts := fs_T) C.2.2.2.2.2.1 h2 C.2.2.2.2.1 C.2.2.2.2.2.2.1.1 (fs_has_nil (hR.2 a _ hc)) 0 rfl h1 kf h3 (C.2.2.2.2.2.1 _ h4) (fun _ q => q) (by simp [hv]) hd (kk H locs ls hR hS hl)
theorem fg_putfield (C : fs_Ctx G M p s m args meth c) {idx ci kf a : Nat} {fs : List fsV} {v : fsV} {ty : FieldType} (hd : decode M.2.1 pc = .ok (.putfield idx, 3)) (hf : fs_FP M.1.cls idx ci kf ty false) (hc : h[a]? = some (some (.inr (ci, fs)))) (hn : narrow ty (fs_v G.1 v) = fs_v G.1 v) (hfit : fits ty (fs_v G.1 v) = true) (hl9 : kf < fs.length) (kk : fgW p e s m args below meth c R Z X G l M k n (pc + 3) L st (h.set a (some (.inr (ci, fs.set kf v))))) : fgW p e s m args below meth c R Z X G l M k n pc L (v :: .inr (.inr (some a)) :: st) h := by
  intro H locs ls hR hS hl
  obtain ⟨Cn, T, N, ty0, hc1, hin, hk, hlink, hty, hnm, ety, hfin, -⟩ := hf
  have hap := va_apart (own := M.1.cls) C.2.2.2.2.2.1 hin ty0 hty hnm C.2.2.2.2.2.2.1.1 hc1
  obtain ⟨r, h1, cell, q1, q2, q3, q4⟩ := hR.2 a _ hc
  have hr : r = (Cn, T, N) := Option.some.inj (h1.symm.trans hc1)
  subst hr
  obtain ⟨hSl, hfc, kC, hkC, hkind⟩ := C.2.2.2.2.2.2.1.1.1 ci _ hc1
  obtain ⟨cf, kf9, fi, f, hi, hsl⟩ := hSl kf hk
  have hlay := C.2.2.2.2.2.1 _ (hin _ (u_in_lay hk))
  unfold u_lay at hlay
  rw [if_neg (by rw [hfin]; decide)] at hlay
  have hst := (u_facts hfc hkC (u_lays C.2.2.2.2.2.1 hin hk) hi).1
  have h6 := u_store hfc hkC hkind hlay hi (hty kf hk) (by rw [ety]; exact hn) (by rw [ety]; exact hfit)
  refine W.putK C.1 C.2.1 (f := f) ⟨C.2.2.2.2.1, C.2.2.2.2.2.1 _ hlink, ⟨_, _, _, hi⟩, hst⟩ (by rw [q2]; exact h6) q1 q3 (by rw [hsl]; exact k2_hasslot (q4 kf hk)) rfl rfl hd fun H' e1 e2 e3 => ?_
  rw [hsl] at e1 ⊢
  refine kk H' _ ls (fs_Rel_set hR hc e2 e3 ?_) (hS.put e2 e3 (fs_A_in a)) hl
  refine ⟨_, hc1, t_OB.to (V := updV (vp_V (fs.map (fs_v G.1))) kf (fs_v G.1 v)) ⟨_, e1, q2, q3, t_set q4 hap hk _⟩ (fun j _ => ?_)⟩
  rw [vp_updV_set (by simp; exact hl9)]
  simp [fs_e, List.map_set]
theorem fg_new (C : fs_Ctx G M p s m args meth c) {idx ci N : Nat} {fs : List fsV} (hd : decode M.2.1 pc = .ok (.new idx, 3)) (hf : fs_NW M.1.cls idx ci N fs) (hk : k + 1 ≤ R.cells) (hn : n + N ≤ R.slots) (kk : fgW p e s m args below meth c R Z X G l M (k + 1) (n + N) (pc + 3) L (.inr (.inr (some h.length)) :: st) (h ++ [some (.inr (ci, fs))])) : fgW p e s m args below meth c R Z X G l M k n pc L st h := by
  intro H locs ls hR hS hl
  obtain ⟨Cn, T, ty, hc1, hin, hty, w1, w2, w3, hfs⟩ := hf
  have hKn := C.2.2.2.2.2.2.1.1.1 ci _ hc1
  refine W.newcK C.1 C.2.1 C.2.2.2.2.1 (C.2.2.2.2.2.1 _ w1) (C.2.2.2.2.2.1 _ w2) (C.2.2.2.2.2.1 _ w3) rfl hd hk hn hKn.2.1 hR.1 fun H1 kC hkC e1 z1 o1 => ?_
  rw [← hR.1] at z1 o1
  refine kk H1 locs ls (fs_Rel_push hR z1 o1 ?_) (fs_S_new hS z1 o1) hl
  intro c' hc'
  cases hc'
  exact ⟨_, hc1, (u_born ty C.2.2.2.2.2.1 hin hKn hkC e1 hty).to (hfs G.1)⟩
theorem fg_iaload (C : fs_Ctx G M p s m args meth c) {a N : Nat} {i : Int32} {f : Nat → Int32} (hd : decode M.2.1 pc = .ok (.iaload, 1)) (hc : h[a]? = some (some (.inl (1, N, .inl f)))) (hin : vp_in i N) (kk : fgW p e s m args below meth c R Z X G l M k n (pc + 1) L (.inl (f i.toNatClampNeg) :: st) h) : fgW p e s m args below meth c R Z X G l M k n pc L (.inl i :: .inr (.inr (some a)) :: st) h := by
  intro H locs ls hR hS hl
  exact va_iald (D := G.2.1) (cl := vwCl) (tys := fs_tys G) C.1 C.2.1 C.2.2.2.2.2.2.1.1 (fs_has_nil (hR.2 a _ hc)) 0 1 rfl rfl hin hd (kk H locs ls hR hS hl)
theorem fg_laload (C : fs_Ctx G M p s m args meth c) {a N : Nat} {i : Int32} {f : Nat → Int64} (hd : decode M.2.1 pc = .ok (.laload, 1)) (hc : h[a]? = some (some (.inl (2, N, .inr (.inl f))))) (hin : vp_in i N) (kk : fgW p e s m args below meth c R Z X G l M k n (pc + 1) L (.inr (.inl (f i.toNatClampNeg)) :: st) h) : fgW p e s m args below meth c R Z X G l M k n pc L (.inl i :: .inr (.inr (some a)) :: st) h := by
  intro H locs ls hR hS hl
  exact va_lald (D := G.2.1) (cl := vwCl) (tys := fs_tys G) C.1 C.2.1 C.2.2.2.2.2.2.1.1 (fs_has_nil (hR.2 a _ hc)) 0 2 rfl rfl hin hd (kk H locs ls hR hS hl)
theorem fg_lastore (C : fs_Ctx G M p s m args meth c) {a N : Nat} {i : Int32} {x : Int64} {f : Nat → Int64} (hd : decode M.2.1 pc = .ok (.lastore, 1)) (hc : h[a]? = some (some (.inl (2, N, .inr (.inl f))))) (hin : vp_in i N) (kk : fgW p e s m args below meth c R Z X G l M k n (pc + 1) L st (h.set a (some (.inl (2, N, .inr (.inl (vp_updL f i.toNatClampNeg x))))))) : fgW p e s m args below meth c R Z X G l M k n pc L (.inr (.inl x) :: .inl i :: .inr (.inr (some a)) :: st) h := by
  intro H locs ls hR hS hl
  refine W.last C.1 C.2.1 (hR.2 a _ hc) ((C.2.2.2.2.2.2.1.1.2 2 _ rfl).1 N (fun j => .long (f j))) (fun q => by cases q) (by show ¬ (i < 0 ∨ (arrV _ _ _).slots.size ≤ _); rw [arrV_size]; exact hin) rfl rfl hd fun H1 e1 z oq => ?_
  refine kk H1 _ ls (fs_Rel_set hR hc z oq ?_) (hS.put z oq (fs_A_in a)) hl
  show H1[G.1 + a]? = some (vp_cell _ _)
  rw [e1]
  show some ((vp_cell _ (N, .inr (.inl f))).setSlot _ _) = some (vp_cell _ (N, .inr (.inl (vp_updL f i.toNatClampNeg x))))
  rw [vp_cell_l, vp_cell_l, arrV_store]
  congr 2
  funext q
  by_cases hq : q = i.toNatClampNeg
  · subst hq
    simp [updV, upd, vp_updL, vp_nar]
    try rfl
  · simp [updV, upd, vp_updL, hq]
theorem fg_newJ (C : fs_Ctx G M p s m args meth c) {N : Nat} {x : Int32} (hd : decode M.2.1 pc = .ok (.newarray .long, 2)) (hw : Cond.arrayClass .long ∈ fs_T) (hx : ¬ x < 0) (hN : x.toNatClampNeg = N) (hb : N * 8 ≤ 536870912) (hk : k + 1 ≤ R.cells) (hn : n + N ≤ R.slots) (kk : fgW p e s m args below meth c R Z X G l M (k + 1) (n + N) (pc + 2) L (.inr (.inr (some h.length)) :: st) (h ++ [some (.inl (2, N, .inr (.inl (fun _ => 0))))])) : fgW p e s m args below meth c R Z X G l M k n pc L (.inl x :: st) h := by
  intro H locs ls hR hS hl
  refine va_newaK C.1 C.2.1 (atype := .long) (C.2.2.2.2.2.1 _ hw) rfl hd rfl hx hN hb hk hn hR.1 fun H1 cA e1 z1 o1 hAr hNm => ?_
  rw [← hR.1] at z1 o1
  refine kk H1 locs ls (fs_Rel_push hR z1 o1 ?_) (fs_S_new hS z1 o1) hl
  intro c' hc'
  cases hc'
  have h9 : cA = G.2.2 2 := Option.some.inj (hNm.symm.trans (C.2.2.2.2.2.2.1.1.2 2 _ rfl).2)
  subst h9
  exact e1
theorem fg_callV (C : fs_Ctx G M p s m args meth c) {idx nA d mc' ms' : Nat} {Y : fsM} {vs : List fsV} {st0 : List fsV} {Q' : Option fsV → fsH → Prop} {a ci : Nat} {fs : List fsV} (hd : decode M.2.1 pc = .ok (.invokevirtual idx, 3)) (hs : fs_SV M.1.cls idx Y nA) (hc : h[a]? = some (some (.inr (ci, fs)))) (hcl : ∃ rc, vwCl[ci]? = some rc ∧ rc.1 = Y.1.cls) (hM : fsMet G l Y d mc' ms' (.inr (.inr (some a)) :: vs) h Q') (h0 : st0 = vs.reverse ++ .inr (.inr (some a)) :: st) (hn : vs.length = nA) (hst : (st.map fs_cat).sum ≤ 8) (hD : d + 1 ≤ R.frames) (hD2 : 64 * d + 64 ≤ R.locals) (hk : k + mc' ≤ R.cells) (hk2 : n + ms' ≤ R.slots)
    (kk : ∀ (r : Option fsV) (h' : fsH), Q' r h' → fgW p e s m args below meth c R Z X G l M (k + mc') (n + ms') (pc + 3) L (r.toList ++ st) h') : fgW p e s m args below meth c R Z X G l M k n pc L st0 h := by
  subst h0
  intro H locs ls hR hS hl
  obtain ⟨w1, w2, w3, w4, w5, d1, d2, d3, d4⟩ := hs
  have hrecv : ∃ cellB : Cell, H[G.1 + a]? = some cellB ∧ cellB.vm.isStatics = false ∧ s.vm.findClass Y.1.cls = some cellB.cls := by
    obtain ⟨rc, hrc, hrn⟩ := hcl
    rw [← hrn]
    exact va_recv (D := G.2.1) (cl := vwCl) (tys := fs_tys G) C.2.2.2.2.2.2.1.1 (fs_has_nil (hR.2 a _ hc)) hrc (q0 := 0) rfl
  have hroom : (fs_Rm d mc' ms').frames + 1 ≤ R.frames ∧ 8 + (Y.2.2.1 + 11) + (fs_Rm d mc' ms').locals ≤ R.locals := ⟨hD, by show 8 + (Y.2.2.1 + 11) + 64 * d ≤ R.locals; omega⟩
  refine fs_after (G := G) (va_runV (C := Y.1.cls) (b := G.1 + a) (As := vs.map (fs_v G.1)) (rest := st.map (fs_v G.1)) (nL := M.2.2.1) (Ts := fs_T) (own := M.1.cls) ⟨C.1, C.2.1, C.2.2.2.1, C.2.2.2.2.1, C.2.2.2.2.2.1⟩ hM (cwV nA C.2.2.2.2.2.1 (fun w hw => by
    rcases List.mem_append.mp hw with hw | hw
    · simp only [List.mem_cons, List.not_mem_nil, or_false] at hw
      rcases hw with rfl | rfl | rfl | rfl <;> exact fs_T_good _ (by assumption)
    · exact fs_T_code w1 w hw) rfl rfl rfl ⟨rfl, d1, d2, d3⟩ hroom) ⟨fs_blind _, hrecv, fun U hU hW => ⟨by simp [fs_v, fs_rf, va_rf], by rw [hU]; exact hR, fs_K_warm hW C.2.2.2.2.2.2.1⟩⟩ rfl (by simp [hn]) hl.1 (by simp [fs_v, fs_rf, va_rf]) (lv_room (by rw [fs_catl]; exact hst)) hd ⟨hk, hk2⟩) hS ?_
  intro r h' H1 locs1 q1 q2 q3
  rw [fs_rl]
  exact kk r h' q1 H1 locs1 ls q2 q3 hl
theorem fg_callS (C : fs_Ctx G M p s m args meth c) {idx nA d mc' ms' : Nat} {Y : fsM} {vs : List fsV} {st0 : List fsV} {Q' : Option fsV → fsH → Prop} (hd : decode M.2.1 pc = .ok (.invokestatic idx, 3)) (hs : fs_SS M.1.cls idx Y nA) (hM : fsMet G l Y d mc' ms' vs h Q') (h0 : st0 = vs.reverse ++ st) (hn : vs.length = nA) (hst : (st.map fs_cat).sum ≤ 8) (hD : d + 1 ≤ R.frames) (hD2 : 64 * d + 64 ≤ R.locals) (hk : k + mc' ≤ R.cells) (hk2 : n + ms' ≤ R.slots)
    (kk : ∀ (r : Option fsV) (h' : fsH), Q' r h' → fgW p e s m args below meth c R Z X G l M (k + mc') (n + ms') (pc + 3) L (r.toList ++ st) h') : fgW p e s m args below meth c R Z X G l M k n pc L st0 h := by
  subst h0
  intro H locs ls hR hS hl
  obtain ⟨w1, w2, w3, w4, d1, d2, d3, d4⟩ := hs
  have hroom : (fs_Rm d mc' ms').frames + 1 ≤ R.frames ∧ 8 + (Y.2.2.1 + 11) + (fs_Rm d mc' ms').locals ≤ R.locals := ⟨hD, by show 8 + (Y.2.2.1 + 11) + 64 * d ≤ R.locals; omega⟩
  refine fs_after (G := G) (va_runS (As := vs.map (fs_v G.1)) (rest := st.map (fs_v G.1)) (nL := M.2.2.1) (Ts := fs_T) (own := M.1.cls) ⟨C.1, C.2.1, C.2.2.2.1, C.2.2.2.2.1, C.2.2.2.2.2.1⟩ hM (va_cwS nA C.2.2.2.2.2.1 (fun w hw => by
    rcases List.mem_append.mp hw with hw | hw
    · simp only [List.mem_cons, List.not_mem_nil, or_false] at hw
      rcases hw with rfl | rfl | rfl <;> exact fs_T_good _ (by assumption)
    · exact fs_T_code w1 w hw) rfl rfl rfl ⟨d1, d2, d3⟩ hroom) ⟨fs_blind _, fun U hU hW => ⟨by simp [fs_v, fs_rf, va_rf], by rw [hU]; exact hR, fs_K_warm hW C.2.2.2.2.2.2.1⟩⟩ rfl (by simp [hn]) hl.1 (by simp [fs_v, fs_rf, va_rf]) (lv_room (by rw [fs_catl]; exact hst)) hd ⟨hk, hk2⟩) hS ?_
  intro r h' H1 locs1 q1 q2 q3
  rw [fs_rl]
  exact kk r h' q1 H1 locs1 ls q2 q3 hl
theorem fg_callSN (C : fs_Ctx G M p s m args meth c) {idx nA d mc' ms' : Nat} {Y : fsM} {vs : List fsV} {st0 : List fsV} {Q' : Option fsV → fsH → Prop} (hd : decode M.2.1 pc = .ok (.invokestatic idx, 3)) (hs : fs_SSN M.1.cls idx Y nA) (hM : fsMet G l Y d mc' ms' vs h Q') (h0 : st0 = vs.reverse ++ st) (hn : vs.length = nA) (hst : (st.map fs_cat).sum ≤ 8) (hD : d + 1 ≤ R.frames) (hD2 : 64 * d + 64 ≤ R.locals) (hk : k + mc' ≤ R.cells) (hk2 : n + ms' ≤ R.slots)
    (kk : ∀ (r : Option fsV) (h' : fsH), Q' r h' → fgW p e s m args below meth c R Z X G l M (k + mc') (n + ms') (pc + 3) L (r.toList ++ st) h') : fgW p e s m args below meth c R Z X G l M k n pc L st0 h := by
  subst h0
  intro H locs ls hR hS hl
  obtain ⟨w1, ⟨host, w2⟩, w3, w4, d1, d2, d3, d4⟩ := hs
  have hroom : (fs_Rm d mc' ms').frames + 1 ≤ R.frames ∧ 8 + (Y.2.2.1 + 11) + (fs_Rm d mc' ms').locals ≤ R.locals := ⟨hD, by show 8 + (Y.2.2.1 + 11) + 64 * d ≤ R.locals; omega⟩
  refine fs_after (G := G) (va_runSN (host := host) (As := vs.map (fs_v G.1)) (rest := st.map (fs_v G.1)) (nL := M.2.2.1) (Ts := fs_T) (own := M.1.cls) ⟨C.1, C.2.1, C.2.2.2.1, C.2.2.2.2.1, C.2.2.2.2.2.1⟩ hM ⟨va_cnB nA C.2.2.2.2.2.1 (fs_T_code w1) rfl rfl rfl (C.2.2.2.2.2.2.1.2.1 _ w2) (C.2.2.2.2.2.1 _ w4) ⟨d1, d2, d3⟩ hroom, C.2.2.2.2.2.1 _ w3, trivial⟩ ⟨fs_blind _, fun U hU hW => ⟨by simp [fs_v, fs_rf, va_rf], by rw [hU]; exact hR, fs_K_warm hW C.2.2.2.2.2.2.1⟩⟩ rfl (by simp [hn]) hl.1 (by simp [fs_v, fs_rf, va_rf]) (lv_room (by rw [fs_catl]; exact hst)) hd ⟨hk, hk2⟩) hS ?_
  intro r h' H1 locs1 q1 q2 q3
  rw [fs_rl]
  exact kk r h' q1 H1 locs1 ls q2 q3 hl
theorem fg_callI (C : fs_Ctx G M p s m args meth c) {idx nA d mc' ms' : Nat} {Y : fsM} {vs : List fsV} {st0 : List fsV} {Q' : Option fsV → fsH → Prop} {a : Nat} (hd : decode M.2.1 pc = .ok (.invokespecial idx, 3)) (hs : fs_SI M.1.cls idx Y nA) (hM : fsMet G l Y d mc' ms' (.inr (.inr (some a)) :: vs) h Q') (h0 : st0 = vs.reverse ++ .inr (.inr (some a)) :: st) (hn : vs.length = nA) (hst : (st.map fs_cat).sum ≤ 8) (hD : d + 1 ≤ R.frames) (hD2 : 64 * d + 64 ≤ R.locals) (hk : k + mc' ≤ R.cells) (hk2 : n + ms' ≤ R.slots)
    (kk : ∀ (r : Option fsV) (h' : fsH), Q' r h' → fgW p e s m args below meth c R Z X G l M (k + mc') (n + ms') (pc + 3) L (r.toList ++ st) h') : fgW p e s m args below meth c R Z X G l M k n pc L st0 h := by
  subst h0
  intro H locs ls hR hS hl
  obtain ⟨w1, er, w2, w3, w4, dn, d1, d2, d3, d4⟩ := hs
  obtain ⟨Y1, Y2, Y3, Y4⟩ := Y
  dsimp only at er w1 d4
  subst er
  have hroom : (fs_Rm d mc' ms').frames + 1 ≤ R.frames ∧ 8 + (Y3 + 11) + (fs_Rm d mc' ms').locals ≤ R.locals := ⟨hD, by show 8 + (Y3 + 11) + 64 * d ≤ R.locals; omega⟩
  refine fs_after (G := G) (va_runI (b := G.1 + a) (As := vs.map (fs_v G.1)) (rest := st.map (fs_v G.1)) (nL := M.2.2.1) (Ts := fs_T) (own := M.1.cls) ⟨C.1, C.2.1, C.2.2.2.1, C.2.2.2.2.1, C.2.2.2.2.2.1⟩ hM (cwI nA C.2.2.2.2.2.1 (fs_T_code w1) rfl rfl rfl (C.2.2.2.2.2.1 _ w4) (C.2.2.2.2.2.1 _ w2) (C.2.2.2.2.2.1 _ w3) dn ⟨d1, d2, d3⟩ hroom) ⟨fs_blind _, fun U hU hW => ⟨by simp [fs_v, fs_rf, va_rf], by rw [hU]; exact hR, fs_K_warm hW C.2.2.2.2.2.2.1⟩⟩ rfl (by simp [hn]) hl.1 (by simp [fs_v, fs_rf, va_rf]) (lv_room (by rw [fs_catl]; exact hst)) hd ⟨hk, hk2⟩) hS ?_
  intro r h' H1 locs1 q1 q2 q3
  rw [fs_rl]
  exact kk r h' q1 H1 locs1 ls q2 q3 hl
theorem fg_callIN (C : fs_Ctx G M p s m args meth c) {idx nA d mc' ms' : Nat} {Y : fsM} {vs : List fsV} {st0 : List fsV} {Q' : Option fsV → fsH → Prop} {a : Nat} (hd : decode M.2.1 pc = .ok (.invokespecial idx, 3)) (hs : fs_SIN M.1.cls idx Y nA) (hM : fsMet G l Y d mc' ms' (.inr (.inr (some a)) :: vs) h Q') (h0 : st0 = vs.reverse ++ .inr (.inr (some a)) :: st) (hn : vs.length = nA) (hst : (st.map fs_cat).sum ≤ 8) (hD : d + 1 ≤ R.frames) (hD2 : 64 * d + 64 ≤ R.locals) (hk : k + mc' ≤ R.cells) (hk2 : n + ms' ≤ R.slots)
    (kk : ∀ (r : Option fsV) (h' : fsH), Q' r h' → fgW p e s m args below meth c R Z X G l M (k + mc') (n + ms') (pc + 3) L (r.toList ++ st) h') : fgW p e s m args below meth c R Z X G l M k n pc L st0 h := by
  subst h0
  intro H locs ls hR hS hl
  obtain ⟨w1, er, ⟨host, w2⟩, w3, w4, dn, d1, d2, d3, d4⟩ := hs
  obtain ⟨Y1, Y2, Y3, Y4⟩ := Y
  dsimp only at er w1 d4
  subst er
  have hroom : (fs_Rm d mc' ms').frames + 1 ≤ R.frames ∧ 8 + (Y3 + 11) + (fs_Rm d mc' ms').locals ≤ R.locals := ⟨hD, by show 8 + (Y3 + 11) + 64 * d ≤ R.locals; omega⟩
  refine fs_after (G := G) (va_runIN (host := host) (b := G.1 + a) (As := vs.map (fs_v G.1)) (rest := st.map (fs_v G.1)) (nL := M.2.2.1) (Ts := fs_T) (own := M.1.cls) ⟨C.1, C.2.1, C.2.2.2.1, C.2.2.2.2.1, C.2.2.2.2.2.1⟩ hM ⟨va_cnB nA C.2.2.2.2.2.1 (fs_T_code w1) rfl rfl rfl (C.2.2.2.2.2.2.1.2.1 _ w2) (C.2.2.2.2.2.1 _ w4) ⟨d1, d2, d3⟩ hroom, dn, C.2.2.2.2.2.1 _ w3⟩ ⟨fs_blind _, fun U hU hW => ⟨by simp [fs_v, fs_rf, va_rf], by rw [hU]; exact hR, fs_K_warm hW C.2.2.2.2.2.2.1⟩⟩ rfl (by simp [hn]) hl.1 (by simp [fs_v, fs_rf, va_rf]) (lv_room (by rw [fs_catl]; exact hst)) hd ⟨hk, hk2⟩) hS ?_
  intro r h' H1 locs1 q1 q2 q3
  rw [fs_rl]
  exact kk r h' q1 H1 locs1 ls q2 q3 hl
theorem fg_callV1 (C : fs_Ctx G M p s m args meth c) {idx nA d mc' ms' : Nat} {Y : fsM} {vs : List fsV} {st0 : List fsV} {h' : fsH} {v : fsV} {a ci : Nat} {fs : List fsV} (hd : decode M.2.1 pc = .ok (.invokevirtual idx, 3)) (hs : fs_SV M.1.cls idx Y nA) (hc : h[a]? = some (some (.inr (ci, fs)))) (hcl : ∃ rc, vwCl[ci]? = some rc ∧ rc.1 = Y.1.cls) (hM : fsFn G l Y d mc' ms' (.inr (.inr (some a)) :: vs) h (some v) h') (h0 : st0 = vs.reverse ++ .inr (.inr (some a)) :: st) (hn : vs.length = nA) (hst : (st.map fs_cat).sum ≤ 8) (hD : d + 1 ≤ R.frames) (hD2 : 64 * d + 64 ≤ R.locals) (hk : k + mc' ≤ R.cells) (hk2 : n + ms' ≤ R.slots)
    (kk : fgW p e s m args below meth c R Z X G l M (k + mc') (n + ms') (pc + 3) L (v :: st) h') : fgW p e s m args below meth c R Z X G l M k n pc L st0 h :=
  fg_callV C hd hs hc hcl hM h0 hn hst hD hD2 hk hk2 (fun r h1 q => by obtain ⟨rfl, rfl⟩ := q; exact kk)
theorem fg_callV0 (C : fs_Ctx G M p s m args meth c) {idx nA d mc' ms' : Nat} {Y : fsM} {vs : List fsV} {st0 : List fsV} {h' : fsH} {a ci : Nat} {fs : List fsV} (hd : decode M.2.1 pc = .ok (.invokevirtual idx, 3)) (hs : fs_SV M.1.cls idx Y nA) (hc : h[a]? = some (some (.inr (ci, fs)))) (hcl : ∃ rc, vwCl[ci]? = some rc ∧ rc.1 = Y.1.cls) (hM : fsFn G l Y d mc' ms' (.inr (.inr (some a)) :: vs) h none h') (h0 : st0 = vs.reverse ++ .inr (.inr (some a)) :: st) (hn : vs.length = nA) (hst : (st.map fs_cat).sum ≤ 8) (hD : d + 1 ≤ R.frames) (hD2 : 64 * d + 64 ≤ R.locals) (hk : k + mc' ≤ R.cells) (hk2 : n + ms' ≤ R.slots)
    (kk : fgW p e s m args below meth c R Z X G l M (k + mc') (n + ms') (pc + 3) L st h') : fgW p e s m args below meth c R Z X G l M k n pc L st0 h :=
  fg_callV C hd hs hc hcl hM h0 hn hst hD hD2 hk hk2 (fun r h1 q => by obtain ⟨rfl, rfl⟩ := q; exact kk)
theorem fg_reL (C : fs_Ctx G M p s m args meth c) {L' : List (Nat × fsV)} (ks : List Nat) (hk : ks.filterMap (fun j => L[j]?) = L') (kk : fgW p e s m args below meth c R Z X G l M k n pc L' st h) : fgW p e s m args below meth c R Z X G l M k n pc L st h := by
  intro H locs ls hR hS hl
  refine kk H locs ls hR hS ⟨hl.1, hl.2.1, fun q hq => hl.2.2 q ?_⟩
  rcases List.mem_append.mp hq with hq | hq
  · exact List.mem_append_left _ hq
  · obtain ⟨q', hq', rfl⟩ := List.mem_map.mp hq
    rw [← hk] at hq'
    obtain ⟨j, -, hj⟩ := List.mem_filterMap.mp hq'
    exact List.mem_append_right _ (List.mem_map.mpr ⟨q', List.mem_of_getElem? hj, rfl⟩)
theorem fg_ifnonnull' (C : fs_Ctx G M p s m args meth c) {off : Int} {r : Option Nat} (tgt : Nat) (hd : decode M.2.1 pc = .ok (.ifnonnull off, 3)) (ht : (pc : Int) + off = (tgt : Int)) (kt : ¬ r = none → fgW p e s m args below meth c R Z X G l M k n tgt L st h) (kf : r = none → fgW p e s m args below meth c R Z X G l M k n (pc + 3) L st h) : fgW p e s m args below meth c R Z X G l M k n pc L (.inr (.inr r) :: st) h :=
  fg_ifnonnull C tgt hd ht (fun a e => kt (by rw [e]; exact fun q => by cases q)) kf
theorem fgX0 : fg_X [] := fun q h => by cases h
variable {ht : Nat} {I : Nat → Int32} {A : Nat → Nat → Int32} {J : Nat → Nat → Int64} {it : Nat → Option Nat} {dyn : fsH}
theorem fgp_0 (C : fs_Ctx G M p s m args meth c) {idx : Nat} {v : Int32} (hd : decode M.2.1 pc = .ok (.putfield idx, 3)) (hf : fs_FP M.1.cls idx 6 0 .int false) (kk : fgW p e s m args below meth c R Z X G l M k n (pc + 3) L st (fs_mk ht (upd I 0 v) A J it dyn)) : fgW p e s m args below meth c R Z X G l M k n pc L (.inl v :: .inr (.inr (some 0)) :: st) (fs_mk ht I A J it dyn) := fg_putfield C hd hf rfl rfl rfl (Nat.le_of_ble_eq_true rfl) kk
theorem fgp_1 (C : fs_Ctx G M p s m args meth c) {idx : Nat} {v : Int32} (hd : decode M.2.1 pc = .ok (.putfield idx, 3)) (hf : fs_FP M.1.cls idx 6 1 .boolean false) (hv : v = 0 ∨ v = 1) (kk : fgW p e s m args below meth c R Z X G l M k n (pc + 3) L st (fs_mk ht (upd I 1 v) A J it dyn)) : fgW p e s m args below meth c R Z X G l M k n pc L (.inl v :: .inr (.inr (some 0)) :: st) (fs_mk ht I A J it dyn) := fg_putfield C hd hf rfl (by rcases hv with rfl | rfl <;> rfl) (by rcases hv with rfl | rfl <;> rfl) (Nat.le_of_ble_eq_true rfl) kk
end FGR
