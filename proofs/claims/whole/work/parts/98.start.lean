/-! THE LAW'S LOOP AND START, THE CLAIM OUT OF AN INVARIANT -/
def R_law : String := "FormSheetLaw"
def lw_P (b : Addr) (xs : List Int32) (args : Array Value) (s : State) : Prop := args = #[.ref b] ∧ s.IntsAt b xs ∧ xs.length ≤ 241 ∧ (Jvm.Cond.and given_1 narrow_1).before args s = true
def lw_Q (_ : Array Value) (s : State) (o : Outcome) (t : State) : Prop := o = .returned (some (.int 1)) ∧ Framed s o t [] 600096 7301352
def lw_Z (below : List Frame) (a : Array Value) (s : State) : State → Prop := fun t => ∃ o, t.status = .running ∧ Ended t below o ∧ lw_Q a s o t
/-- the law's own end, with 1 on the stack, nothing written that was there before, its room as the claim has it -/
theorem lw_ret {p : Program} {l : Launch} {e : Env} {s : State} {m : MethodId} {below : List Frame} {meth : Method} {c : Code} {b : Nat} (hx : p.tables.exec = Jvm.exec) (hb : c.code = code) (hr : meth.sig.returnType = ret) (hlocks : meth.locks = false) {pc : Nat} {H : Heap} {ls : Array Slot} (hdg : decode code pc = .ok (.ireturn, 1)) : W p l e room_1 s m #[Value.ref b] below meth c H [] 600096 7301352 (lw_Z below #[Value.ref b] s) (F0 m pc ls [.int 1]) := by
  intro T hT X
  obtain ⟨fs, hret, hrun, hended, hW, hframe⟩ := X.leave (v := some (.int 1)) (hlocks := hlocks) (fun h => by rw [hr] at h; cases h)
  have hmeth' : T.vm.method? m = some meth := X.method'
  refine ⟨T.setFrames fs, ?_, .returned (some (.int 1)), hrun, hended, rfl, ⟨_, rfl⟩, hW, hframe⟩
  jvm_step X.here [X.here.top, hx, hb, hdg, hmeth', hr, ret, narrow_b1]
  (try refine ⟨rfl, ?_⟩); (try refine ⟨rfl, ?_⟩)
  first | (intro acts; rw [hret _ acts rfl rfl rfl]) | rw [hret _ _ rfl rfl rfl]
  exact Steps.refl _
/-- what holds at the law's entry: the machine, the code, the tables' words (any of lw_tbl by 'hts w (by decide +kernel)'), the script of L ints xs at the cell b, what the Statement gives of the start (any of its parts by flat_of_before) -/
def lw_At (p : Program) (s : State) (m : MethodId) (meth : Method) (c : Code) (b L : Nat) (xs : Nat → Int32) : Prop :=
  p.tables.exec = Jvm.exec ∧ c.code = code ∧ meth.sig.returnType = ret ∧ c.maxLocals = 7 ∧ s.vm.findClass R_law = some m.cls ∧ (∀ w ∈ lw_tbl, w.before #[Value.ref b] s = true) ∧ va_X b L xs s s.heap ∧ b < s.heap.size ∧ meth.locks = false ∧ (Jvm.Cond.and given_1 narrow_1).before #[Value.ref b] s = true

theorem fz_and15 (x : Int32) : ∃ z : Nat, z < 16 ∧ x &&& 15 = nI z := by
  refine ⟨(x &&& 15).toBitVec.toNat, ?_, ?_⟩
  · have h1 : (x &&& 15).toBitVec = x.toBitVec &&& 15#32 := rfl
    rw [h1, BitVec.toNat_and]
    exact Nat.lt_of_le_of_lt Nat.and_le_right (by decide)
  · apply Int32.toBitVec_inj.mp
    show _ = BitVec.ofNat 32 _
    rw [BitVec.ofNat_toNat]
    simp
section FZL
variable {G : fsG} {l : Launch} {nm : String} {p : Program} {e : Env} {s : State} {m : MethodId} {below : List Frame} {meth : Method} {c : Code} {b Ln : Nat} {xs : Nat → Int32} {ht : Nat} {V : fzV}
theorem fz_head {Ln i : Nat} (hL : Ln ≤ 241) (hi : i < 1000) (q : ¬ Int32.ofNat Ln - 5 < nI i) : i + 4 < Ln := by
  rw [Int32.not_lt, Int32.le_iff_toInt_le, Int32.toInt_sub, nI_toInt (by omega)] at q
  have h1 : (Int32.ofNat Ln).toInt = (Ln : Int) := nI_toInt (n := Ln) (by omega)
  have h2 : (5 : Int32).toInt = 5 := by decide
  rw [h1, h2, Int.bmod_def] at q
  split at q <;> omega
theorem fz_loop (C : fs_Ctx G (mW nm) p s m #[Value.ref b] meth c) (hl0 : l.stackTraces = false) (hF : fx_K G s) (hN : fy_N s) (hX : va_X b Ln xs s s.heap) (hb : b < s.heap.size) (hG : G.1 = s.heap.size) (hL : Ln ≤ 241) (hops : fzOps ht V) : ∀ (f q : Nat), q + f = 49 → ∀ (I : Nat → Int32) (A : Nat → Nat → Int32) (J : Nat → Nat → Int64) (it : Nat → Option Nat) (dyn : fsH), V I A J it dyn →
    fgW p e s m #[Value.ref b] below meth c room_1 (lw_Z below #[Value.ref b] s) [(0, .ref b)] G l (mW nm) (41 + 3282 * q) (7773 + 22971 * q) 33 [(4, .inl (nI (5 * q + 1))), (3, .inr (.inr (some 40))), (2, .inr (.inr (some 14))), (1, .inr (.inr (some 0)))] [] (fs_mk ht I A J it dyn) := by
  obtain ⟨o_write, o_add, o_position, o_close, o_clear, o_rows, o_set, o_get, o_fault, o_message, o_place, o_pages, o_line, o_count⟩ := hops
  have hG' : b < G.1 := by rw [hG]; exact hb
  intro f
  induction f with
  | zero =>
    intro q hq I A J it dyn hV
    refine fg_iload C dL_law_33 rfl ?_
    refine fz_len C hX hb hG' dL_law_35 dL_law_36 ?_
    refine fg_iconst C dL_law_37 rfl ?_
    refine fg_isub C dL_law_38 ?_
    refine fg_icmp_gt C 613 dL_law_39 rfl (fun _ => ?_) (fun h9 => ?_)
    · refine fg_iconst C dL_law_613 rfl ?_
      intro H locs ls hR hS hl
      refine va_forget (fun z hz => by rw [← hG]; exact hS.2.2 z hz) ?_
      refine W.widen (k := 600096) (n := 7301352) (by omega) (by omega) ?_
      exact lw_ret C.1 C.2.1 C.2.2.1 C.2.2.2.2.2.2.2.2.1 dL_law_614
    · have := fz_head hL (by omega) h9
      omega
  | succ f ih =>
    intro q hq I A J it dyn hV
    refine fg_iload C dL_law_33 rfl ?_
    refine fz_len C hX hb hG' dL_law_35 dL_law_36 ?_
    refine fg_iconst C dL_law_37 rfl ?_
    refine fg_isub C dL_law_38 ?_
    refine fg_icmp_gt C 613 dL_law_39 rfl (fun _ => ?_) (fun h9 => ?_)
    · refine fg_iconst C dL_law_613 rfl ?_
      intro H locs ls hR hS hl
      refine va_forget (fun z hz => by rw [← hG]; exact hS.2.2 z hz) ?_
      refine W.widen (k := 600096) (n := 7301352) (by omega) (by omega) ?_
      exact lw_ret C.1 C.2.1 C.2.2.1 C.2.2.2.2.2.2.2.2.1 dL_law_614
    · have hi := fz_head hL (by omega) h9
      have hk : 41 + 3282 * q + 3282 ≤ 600096 := by omega
      have hn : 7773 + 22971 * q + 22971 ≤ 7301352 := by omega
      have kk : ∀ (I : Nat → Int32) (A : Nat → Nat → Int32) (J : Nat → Nat → Int64) (it : Nat → Option Nat) (dyn : fsH), V I A J it dyn → fgW p e s m #[Value.ref b] below meth c room_1 (lw_Z below #[Value.ref b] s) [(0, .ref b)] G l (mW nm) (41 + 3282 * q + 3282) (7773 + 22971 * q + 22971) 607 [(4, .inl (nI (5 * q + 1))), (3, .inr (.inr (some 40))), (2, .inr (.inr (some 14))), (1, .inr (.inr (some 0)))] [] (fs_mk ht I A J it dyn) := by
        intro I A J it dyn hV
        refine fg_iinc (L' := [(4, .inl (nI (5 * (q + 1) + 1))), (3, .inr (.inr (some 40))), (2, .inr (.inr (some 14))), (1, .inr (.inr (some 0)))]) C fzX0 (by decide) dL_law_607 rfl (v := nI (5 * (q + 1) + 1)) ?_ (Nat.le_of_ble_eq_true rfl) rfl ?_
        · show nI (5 * q + 1) + nI 5 = _
          rw [nI_add, show 5 * q + 1 + 5 = 5 * (q + 1) + 1 by omega]
        · refine fg_goto C 33 dL_law_610 rfl ?_
          have h1 := ih (q + 1) (by omega) I A J it dyn hV
          rw [show 41 + 3282 * (q + 1) = 41 + 3282 * q + 3282 by omega, show 7773 + 22971 * (q + 1) = 7773 + 22971 * q + 22971 by omega] at h1
          exact h1
      refine fz_lda C hX hb hG' (i := 5 * q + 1) (by omega) hL rfl dL_law_42 dL_law_43 dL_law_45 ?_
      refine fg_bipush C (v := 15) dL_law_46 rfl ?_
      refine fg_iand C dL_law_48 ?_
      obtain ⟨z, hz, e9⟩ := fz_and15 (xs (5 * q + 1))
      rw [e9]
      clear e9
      have hd : fgW p e s m #[Value.ref b] below meth c room_1 (lw_Z below #[Value.ref b] s) [(0, .ref b)] G l (mW nm) (41 + 3282 * q) (7773 + 22971 * q) 607 [(4, .inl (nI (5 * q + 1))), (3, .inr (.inr (some 40))), (2, .inr (.inr (some 14))), (1, .inr (.inr (some 0)))] [] (fs_mk ht I A J it dyn) := fg_widen C (by omega) (by omega) (kk I A J it dyn hV)
      match z, hz with
      | 0, _ => exact fg_tableIn C 120 dL_law_49 (by decide) (by decide) rfl rfl (fzC_write C hX hb hG' hL hi hk hn o_write I A J it dyn hV kk)
      | 1, _ => exact fg_tableIn C 177 dL_law_49 (by decide) (by decide) rfl rfl (fzC_add C hl0 hF hN hX hb hG' hL hi hk hn o_add I A J it dyn hV kk)
      | 2, _ => exact fg_tableIn C 221 dL_law_49 (by decide) (by decide) rfl rfl (fzC_position C hX hb hG' hL hi hk hn o_position I A J it dyn hV kk)
      | 3, _ => exact fg_tableIn C 234 dL_law_49 (by decide) (by decide) rfl rfl (fzC_close C hl0 hF hN hX hb hG' hL hi hk hn o_close I A J it dyn hV kk)
      | 4, _ => exact fg_tableIn C 278 dL_law_49 (by decide) (by decide) rfl rfl (fzC_clear C hX hb hG' hL hi hk hn o_clear I A J it dyn hV kk)
      | 5, _ => exact fg_tableIn C 289 dL_law_49 (by decide) (by decide) rfl rfl (fzC_rows C hX hb hG' hL hi hk hn o_rows I A J it dyn hV kk)
      | 6, _ => exact fg_tableIn C 314 dL_law_49 (by decide) (by decide) rfl rfl (fzC_set C hX hb hG' hL hi hk hn o_set I A J it dyn hV kk)
      | 7, _ => exact fg_tableIn C 395 dL_law_49 (by decide) (by decide) rfl rfl (fzC_get C hX hb hG' hL hi hk hn o_get I A J it dyn hV kk)
      | 8, _ => exact fg_tableIn C 433 dL_law_49 (by decide) (by decide) rfl rfl (fzC_fault C hX hb hG' hL hi hk hn o_fault I A J it dyn hV kk)
      | 9, _ => exact fg_tableIn C 470 dL_law_49 (by decide) (by decide) rfl rfl (fzC_message C hX hb hG' hL hi hk hn o_message I A J it dyn hV kk)
      | 10, _ => exact fg_tableIn C 495 dL_law_49 (by decide) (by decide) rfl rfl (fzC_place C hX hb hG' hL hi hk hn o_place I A J it dyn hV kk)
      | 11, _ => exact fg_tableIn C 532 dL_law_49 (by decide) (by decide) rfl rfl (fzC_pages C hX hb hG' hL hi hk hn o_pages I A J it dyn hV kk)
      | 12, _ => exact fg_tableIn C 545 dL_law_49 (by decide) (by decide) rfl rfl (fzC_line C hX hb hG' hL hi hk hn o_line I A J it dyn hV kk)
      | 13, _ => exact fg_tableIn C 582 dL_law_49 (by decide) (by decide) rfl rfl (fzC_count C hX hb hG' hL hi hk hn o_count I A J it dyn hV kk)
      | 14, _ => exact fg_tableOut C 607 dL_law_49 (by decide) rfl hd
      | 15, _ => exact fg_tableOut C 607 dL_law_49 (by decide) rfl hd
      | z + 16, hz => exact absurd hz (by omega)
end FZL
set_option maxHeartbeats 4000000 in
set_option maxRecDepth 100000 in
theorem whole_start (hops : fzAll) {p : Program} {e : Env} {s : State} {m : MethodId} {below : List Frame} {meth : Method} {c : Code} (l : Launch) (hl0 : l.stackTraces = false) {b L : Nat} {xs : Nat → Int32} (hL : L ≤ 241) (C0 : lw_At p s m meth c b L xs) : W p l e room_1 s m #[Value.ref b] below meth c s.heap [] 0 0 (lw_Z below #[Value.ref b] s) (entryFrame m ([Value.ref b] : List Value).toArray 7) := by
  obtain ⟨hx, hc, hr, hml, hown, hts, hX, hb, hlk, hgv⟩ := C0
  obtain ⟨G, hG, hK⟩ := fz_K hts
  obtain ⟨hF, hN⟩ := fz_X hG hts hgv
  have C : fs_Ctx G (mW meth.name) p s m #[Value.ref b] meth c := ⟨hx, hc, hr, hml, hown, fz_in hts, hK, rfl, hlk, by rw [hG]; omega⟩
  have hG' : b < G.1 := by rw [hG]; exact hb
  have hl := lv_entry [Value.ref b] (n := 7) (Nat.le_of_ble_eq_true rfl)
  rw [lg_entry_eq]
  generalize (lg_sl [Value.ref b] ++ List.replicate (7 - (lg_sl [Value.ref b]).length) Slot.unset).toArray = ls at hl ⊢
  have hl : lv_has ls (mW meth.name).2.2.1 ([(0, Value.ref b)] ++ fs_L G []) := hl
  have hR : fs_Rel G [] s.heap := ⟨by rw [hG]; rfl, fun k c hk => by cases hk⟩
  refine (?_ : fgW p e s m #[Value.ref b] below meth c room_1 (lw_Z below #[Value.ref b] s) [(0, .ref b)] G l (mW meth.name) 0 0 0 [] [] []) s.heap [] ls hR va_S.rf hl
  obtain ⟨V, hV, hV0⟩ := hops (fs_ht (fz_v L xs)) (fs_ht_in _).1 (fs_ht_in _).2
  refine fg_new C dL_law_0 sw_L_8 (by decide) (by decide) ?_
  refine fg_dup C dL_law_3 rfl ?_
  refine fz_cell C rfl hX hb hG' hL dL_law_4 dL_law_5 dL_law_6 (by decide) (by decide) (by decide) (by decide) (by decide) ?_
  refine fg_callI C dL_law_9 sv_L_26 (c_X7_init G l (fz_v L xs)) rfl rfl (Nat.le_of_ble_eq_true rfl) (by decide) (by decide) (by decide) (by decide) (fun r h1 q => ?_)
  obtain ⟨rfl, rfl⟩ := q
  refine fg_astore_n (L' := [(1, .inr (.inr (some 0)))]) C fzX0 (by decide) dL_law_12 rfl (Nat.le_of_ble_eq_true rfl) rfl ?_
  refine fg_new C dL_law_13 sw_L_29 (by decide) (by decide) ?_
  refine fg_dup C dL_law_16 rfl ?_
  refine fz_cell C rfl hX hb hG' hL dL_law_17 dL_law_18 dL_law_19 (Nat.le_of_ble_eq_true rfl) (by decide) (by decide) (by decide) (by decide) ?_
  refine fg_callI C dL_law_22 sv_L_31 (c_X8_init G l _ _ _ _ _ _ _ _ _ _ _ _ _ _ (fz_v L xs)) rfl rfl (Nat.le_of_ble_eq_true rfl) (by decide) (by decide) (by decide) (by decide) (fun r h1 q => ?_)
  obtain ⟨rfl, rfl⟩ := q
  refine fg_astore_n (L' := [(2, .inr (.inr (some 14))), (1, .inr (.inr (some 0)))]) C fzX0 (by decide) dL_law_25 rfl (Nat.le_of_ble_eq_true rfl) rfl ?_
  refine fg_iconst C dL_law_26 rfl ?_
  refine fg_newJ C (N := 1) dL_law_27 wa_long (by decide) (by decide) (by decide) (by decide) (by decide) ?_
  refine fg_astore_n (L' := [(3, .inr (.inr (some 40))), (2, .inr (.inr (some 14))), (1, .inr (.inr (some 0)))]) C fzX0 (by decide) dL_law_29 rfl (Nat.le_of_ble_eq_true rfl) rfl ?_
  refine fg_iconst C dL_law_30 rfl ?_
  refine fg_istore (L' := [(4, .inl (nI 1)), (3, .inr (.inr (some 40))), (2, .inr (.inr (some 14))), (1, .inr (.inr (some 0)))]) C fzX0 (by decide) dL_law_31 (Nat.le_of_ble_eq_true rfl) rfl ?_
  exact fz_loop C hl0 hF hN hX hb hG hL hV 49 0 rfl fz_I0 fz_A0 fz_J0 fz_it0 [] hV0
theorem fz_flags {l : Launch} (h : l.flags = flags0) : l.stackTraces = false := by
  unfold Launch.stackTraces
  rw [h]
  decide
set_option maxHeartbeats 4000000 in
theorem lw_walk (hops : fzAll) (l : Launch) (hl0 : l.stackTraces = false) (b : Addr) (xs : List Int32) : MetFree l x (headSpec (Jvm.Cond.code x code maxLocals ret :: tables_1) room_1) (lw_P b xs) (fun _ _ _ _ _ => True) lw_Q := by
  refine MetFree.of_bodyS (code := code) (maxLocals := maxLocals) (ret := ret) (by decide) ?_ ?_
  · intro args s m h hn
    obtain ⟨meth, c, h1, h2, h3, h4, h5, h6, -, -⟩ := Cond.code_spec hn (atoms_spec (ws := Jvm.Cond.code x code maxLocals ret :: tables_1) h _ List.mem_cons_self)
    exact ⟨meth, c, h1, h2, h3, h4, h5, h6⟩
  · intro p e s m args below meth c s₁ B hml0 hP _
    obtain ⟨rfl, hx, hbd, hgv⟩ := hP
    obtain ⟨scr, harrAt, hlist, hof, hsmall⟩ := hx
    obtain ⟨hcb, hkn, -, -⟩ := State.arrayAt?_spec harrAt
    have hown : s.vm.findClass R_law = some m.cls := findClass_of_methodNamed B.named
    have hts0 : ∀ c ∈ (Jvm.Cond.code x code maxLocals ret :: tables_1), c.before #[Value.ref b] s = true := atoms_spec (ws := Jvm.Cond.code x code maxLocals ret :: tables_1) B.pre
    have hts : ∀ w ∈ lw_tbl, w.before #[Value.ref b] s = true := k2_hts_sels lw_privs (fun w hw => hts0 w (List.mem_cons_of_mem _ hw)) lw_privs_ok
    have hml : c.maxLocals = 7 := B.maxLocals_eq (hts0 _ List.mem_cons_self)
    have X₀ : Stand p l e room_1 s m #[Value.ref b] below meth c s₁ [] 0 0 := Stand.of_body B
    have hh0 : s₁.heap = s.heap := by rw [B.state]; rfl
    have hsz : scr.slots.size = xs.length := by rw [← Array.length_toList, hlist, List.length_map]
    have hval : ∀ j : Nat, j < xs.length → scr.slots[j]? = some (.int (xs.getD j 0)) := fun j hj => by
      rw [← Array.getElem?_toList, hlist]
      simp [hj]
    have hbl : b < s.heap.size := (Array.getElem?_eq_some_iff.mp hcb).1
    have hX : va_X b xs.length (fun j => xs.getD j 0) s s.heap := ⟨scr, hcb, hof, hkn, hsz, hval⟩
    have K : W p l e room_1 s m #[Value.ref b] below meth c s₁.heap [] 0 0 (lw_Z below #[Value.ref b] s) (entryFrame m ([Value.ref b] : List Value).toArray 7) := by
      rw [hh0]
      exact whole_start hops l hl0 hbd ⟨B.exec, B.bytes, B.returns, hml, hown, hts, hX, hbl, B.notSynchronized, hgv⟩
    obtain ⟨t, a1, o, b1, b2, b3⟩ := K s₁ rfl X₀
    exact ⟨t, o, a1, b1, b2, b3⟩
theorem lw_pre_spec {args : Array Value} {s : State} (h : (Jvm.Cond.and given_1 narrow_1).before args s = true) (hr : rest_1_c.before args s = true) : ∃ (b : Addr) (xs : List Int32), lw_P b xs args s := by
  have hs := flat_of_before _ h
  have hq := flat_of_before _ hr
  have hc : (Cond.count 1).before args s = true := hs _ (by decide +kernel)
  have harr : (Cond.arrayOf (.arg 0) .int).before args s = true := hs _ (by decide +kernel)
  have hle : (Cond.le (.length (.arg 0)) (.int 241)).before args s = true := hs _ (by decide +kernel)
  have hlen : (Cond.isInt (.length (.arg 0))).before args s = true := hq _ (by decide +kernel)
  have hall : (Cond.all (.arg 0) (.isInt (.elem (.arg 0) (.index 0)))).before args s = true := hq _ (by decide +kernel)
  obtain ⟨b, xs, hb, hx⟩ := State.ints_of_pre rfl harr hlen hall
  have hsm : xs.length < 2 ^ 31 := hx.choose_spec.2.2.2
  have hev : (Term.length (.arg 0)).eval args s none [] s = some (.int xs.length.toInt32) := hx.length_eval hb
  have hv := Cond.le_ints hev (show (Term.int 241).eval args s none [] s = some (.int 241) from rfl)
  have hd : xs.length.toInt32 ≤ 241 := by
    simpa [Cond.before, Cond.holds, hv] using hle
  have hN : xs.length ≤ 241 := (Int32.ofNat_le_ofNat hsm (by decide)).mp (show Int32.ofNat xs.length ≤ Int32.ofNat 241 from hd)
  exact ⟨b, xs, Cond.one_arg hc (show args[0]? = some (.ref b) from hb), hx, hN, h⟩
theorem lw_comes (hops : fzAll) (l : Launch) (hl0 : l.stackTraces = false) : Comes l x (Jvm.Cond.code x code maxLocals ret :: tables_1) room_1 (fun tb e args s => Calls_1 tb e args s ∧ rest_1 tb e args s ∧ Pre_1 tb e args s)
    (fun _ _ args s o t => lw_Q args s o t) := by
  intro p e ha hc hk s m args below hf hfit hheap happ hpre
  obtain ⟨b, xs, hP⟩ := lw_pre_spec hpre.2.2 hpre.2.1
  obtain ⟨k, o, h1, h2, h3, hQ⟩ := lw_walk hops l hl0 b xs p e ha hc hk s m args below hf ((Spec.applies_iff_loose hf).mp happ).1 hP trivial
  exact ⟨k, o, h1, h2, h3, hQ⟩
theorem lw_frame {s t : State} {o : Outcome} {args : Array Value} (h : Framed s o t [] 600096 7301352) :
    Framed s o t (fieldLocs frame_1_writes args s ++ arrayLocs frame_1_arrays args s ++ staticLocs frame_1_statics s) 600096 7301352 := h
theorem lw_limb (hops : fzAll) (L : Cond) (hL : ∀ (args : Array Value) (s t : State), L.after args s (.returned (some (.int 1))) t = true) :
    ArmFor flags0 classFile x code maxLocals ret World_1 tables_1 room_1 Calls_1 rest_1 Pre_1
      (fun tb e a s o t => postC L tb e a s o t ∧ Framed s o t (fieldLocs frame_1_writes a s ++ arrayLocs frame_1_arrays a s ++ staticLocs frame_1_statics s) 600096 7301352) := by
  intro l hfl _ _ p e ha hc hk s m args below hf hfit hheap happ hpre
  obtain ⟨k, o, h1, h2, h3, rfl, hF⟩ := lw_comes hops l (fz_flags hfl) p e ha hc hk s m args below hf hfit hheap happ hpre
  exact ⟨k, _, h1, h2, h3, hL args s _, lw_frame hF⟩
theorem lw_claim (hops : fzAll) : Claimed_1_1 ∧ Claimed_1_2 := ⟨lw_limb hops limb_1_1 (fun args s t => by simp [limb_1_1, Cond.after, Cond.holds, Cond.value]), lw_limb hops limb_1_2 (fun args s t => Cond.after_iff.mpr (by
  first | (rw [show limb_1_2 = Cond.eq .result (.int 1) from rfl, Cond.eq_ints (x := 1) (y := 1) rfl rfl]; simp; done) | (simp [limb_1_2, Cond.value, Term.eval]; done)))⟩

