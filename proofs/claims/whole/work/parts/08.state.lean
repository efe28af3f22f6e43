/-! THE STATE AS VARIABLES. Scalars I: 0 errorAt, 1 closed, 2 length, 3 at, 4 size, 5 rowCount, 6 ordered, 7 page, 8 thrown, 9 typed, 10 wrong, 11 rows, 12 m.closed, 13 items, 14 p, 15 open, 16 messages, 17 m.page, 18 line, 19 pages. Arrays by their place: 2 codes, 4 items, 6 outcomes, 7 hangs, 8 order, 10 taken, 11 places, 12 highs, 13 lines, 15 text, 16 kind, 17 name, 18 repeats, 19 wide, 20 parts, 21 op, 22 first, 23 second, 24 third, 25 number, 26 has, 27 sign, 28 one, 29 two, 30 value, 31 fault, 32 m.hangs, 33 direct, 34 known, 35 partValue, 36 partFault, 37 message, 38 place, 39 m.lines, 40 out. -/
def fs_mk (ht : Nat) (I : Nat → Int32) (A : Nat → Nat → Int32) (J : Nat → Nat → Int64) (it : Nat → Option Nat) (dyn : fsH) : fsH :=
  some (.inr (6, [fsI (I 0), fsI (I 1), fsR (some 1), fsR (some 3), fsR (some 5), fsR (some 9)])) ::
  some (.inr (4, [fsR (some 2), fsI (I 2), fsI (I 3)])) ::
  some (.inl (0, 60, .inl (A 2))) ::
  some (.inr (0, [fsR (some 4), fsI (I 4), fsI (I 5)])) ::
  some (.inl (4, 16, .inr (.inr (.inr (.inr it))))) ::
  some (.inr (5, [fsR (some 3), fsR (some 6), fsR (some 7), fsR (some 8), fsI (I 6)])) ::
  some (.inl (2, 64, .inr (.inl (J 6)))) ::
  some (.inl (2, 64, .inr (.inl (J 7)))) ::
  some (.inl (1, 64, .inl (A 8))) ::
  some (.inr (2, [fsI (nI ht), fsR (some 3), fsR (some 5), fsR (some 13), fsR (some 10), fsR (some 11), fsR (some 12), fsI (I 7)])) ::
  some (.inl (1, 64, .inl (A 10))) ::
  some (.inl (1, 64, .inl (A 11))) ::
  some (.inl (1, 64, .inl (A 12))) ::
  some (.inl (1, (64 * ht), .inl (A 13))) ::
  some (.inr (7, [fsI (I 8), fsI (I 9), fsR (some 15), fsI (I 10), fsI (nI ht), fsI (I 11), fsI (I 12), fsI (I 13), fsR (some 16), fsR (some 17), fsR (some 18), fsR (some 19), fsR (some 20), fsR (some 21), fsR (some 22), fsR (some 23), fsR (some 24), fsR (some 25), fsI (I 14), fsI (I 15), fsR (some 26), fsR (some 27), fsR (some 28), fsR (some 29), fsR (some 30), fsR (some 31), fsR (some 32), fsR (some 33), fsR (some 34), fsR (some 35), fsR (some 36), fsI (I 16), fsR (some 37), fsI (I 17), fsI (I 18), fsI (I 19), fsR (some 38), fsR (some 39)])) ::
  some (.inl (0, 60, .inl (A 15))) ::
  some (.inl (1, 17, .inl (A 16))) ::
  some (.inl (1, 17, .inl (A 17))) ::
  some (.inl (3, 17, .inl (A 18))) ::
  some (.inl (1, 17, .inl (A 19))) ::
  some (.inl (1, 17, .inl (A 20))) ::
  some (.inl (1, 544, .inl (A 21))) ::
  some (.inl (1, 544, .inl (A 22))) ::
  some (.inl (1, 544, .inl (A 23))) ::
  some (.inl (1, 544, .inl (A 24))) ::
  some (.inl (2, 544, .inr (.inl (J 25)))) ::
  some (.inl (1, 7, .inl (A 26))) ::
  some (.inl (1, 7, .inl (A 27))) ::
  some (.inl (1, 7, .inl (A 28))) ::
  some (.inl (1, 7, .inl (A 29))) ::
  some (.inl (2, 64, .inr (.inl (J 30)))) ::
  some (.inl (1, 64, .inl (A 31))) ::
  some (.inl (2, 64, .inr (.inl (J 32)))) ::
  some (.inl (2, 64, .inr (.inl (J 33)))) ::
  some (.inl (3, 64, .inl (A 34))) ::
  some (.inl (2, 32, .inr (.inl (J 35)))) ::
  some (.inl (1, 32, .inl (A 36))) ::
  some (.inl (1, 64, .inl (A 37))) ::
  some (.inl (1, 68, .inl (A 38))) ::
  some (.inl (1, 2560, .inl (A 39))) ::
  some (.inl (2, 1, .inr (.inl (J 40)))) :: dyn
/-- a contract that says the answer and the heap behind it -/
def fsFn (G : fsG) (l : Launch) (M : fsM) (d mc ms : Nat) (vs : List fsV) (h : fsH) (r : Option fsV) (h' : fsH) : Prop := fsMet G l M d mc ms vs h (fun r1 h1 => r1 = r ∧ h1 = h')
theorem fs_mk_dyn (ht : Nat) (I : Nat → Int32) (A : Nat → Nat → Int32) (J : Nat → Nat → Int64) (it : Nat → Option Nat) (dyn : fsH) (j : Nat) : (fs_mk ht I A J it dyn)[j + 41]? = dyn[j]? := rfl
section FSK
variable {G : fsG} {l : Launch} {M : fsM} {D mc ms k n : Nat} {Q : Option fsV → fsH → Prop} {pc : Nat} {L : List (Nat × fsV)} {st : List fsV} {h : fsH} {ht : Nat} {I : Nat → Int32} {A : Nat → Nat → Int32} {J : Nat → Nat → Int64} {it : Nat → Option Nat} {dyn : fsH}
theorem fs_callV1 {idx nA d mc' ms' : Nat} {Y : fsM} {vs : List fsV} {st0 : List fsV} {h' : fsH} {v : fsV} {a ci : Nat} {fs : List fsV} (hd : decode M.2.1 pc = .ok (.invokevirtual idx, 3)) (hs : fs_SV M.1.cls idx Y nA) (hc : h[a]? = some (some (.inr (ci, fs)))) (hcl : ∃ rc, vwCl[ci]? = some rc ∧ rc.1 = Y.1.cls) (hM : fsFn G l Y d mc' ms' (.inr (.inr (some a)) :: vs) h (some v) h') (h0 : st0 = vs.reverse ++ .inr (.inr (some a)) :: st) (hn : vs.length = nA) (hst : (st.map fs_cat).sum ≤ 8) (hD : d + 1 ≤ D) (hk : k + mc' ≤ mc) (hk2 : n + ms' ≤ ms)
    (kk : fsW G l M D mc ms (k + mc') (n + ms') Q (pc + 3) L (v :: st) h') : fsW G l M D mc ms k n Q pc L st0 h :=
  fs_callV hd hs hc hcl hM h0 hn hst hD hk hk2 (fun r h1 q => by obtain ⟨rfl, rfl⟩ := q; exact kk)
theorem fs_callV0 {idx nA d mc' ms' : Nat} {Y : fsM} {vs : List fsV} {st0 : List fsV} {h' : fsH} {a ci : Nat} {fs : List fsV} (hd : decode M.2.1 pc = .ok (.invokevirtual idx, 3)) (hs : fs_SV M.1.cls idx Y nA) (hc : h[a]? = some (some (.inr (ci, fs)))) (hcl : ∃ rc, vwCl[ci]? = some rc ∧ rc.1 = Y.1.cls) (hM : fsFn G l Y d mc' ms' (.inr (.inr (some a)) :: vs) h none h') (h0 : st0 = vs.reverse ++ .inr (.inr (some a)) :: st) (hn : vs.length = nA) (hst : (st.map fs_cat).sum ≤ 8) (hD : d + 1 ≤ D) (hk : k + mc' ≤ mc) (hk2 : n + ms' ≤ ms)
    (kk : fsW G l M D mc ms (k + mc') (n + ms') Q (pc + 3) L st h') : fsW G l M D mc ms k n Q pc L st0 h :=
  fs_callV hd hs hc hcl hM h0 hn hst hD hk hk2 (fun r h1 q => by obtain ⟨rfl, rfl⟩ := q; exact kk)
theorem fs_callS1 {idx nA d mc' ms' : Nat} {Y : fsM} {vs : List fsV} {st0 : List fsV} {h' : fsH} {v : fsV} (hd : decode M.2.1 pc = .ok (.invokestatic idx, 3)) (hs : fs_SS M.1.cls idx Y nA) (hM : fsFn G l Y d mc' ms' vs h (some v) h') (h0 : st0 = vs.reverse ++ st) (hn : vs.length = nA) (hst : (st.map fs_cat).sum ≤ 8) (hD : d + 1 ≤ D) (hk : k + mc' ≤ mc) (hk2 : n + ms' ≤ ms)
    (kk : fsW G l M D mc ms (k + mc') (n + ms') Q (pc + 3) L (v :: st) h') : fsW G l M D mc ms k n Q pc L st0 h :=
  fs_callS hd hs hM h0 hn hst hD hk hk2 (fun r h1 q => by obtain ⟨rfl, rfl⟩ := q; exact kk)
theorem fs_callS0 {idx nA d mc' ms' : Nat} {Y : fsM} {vs : List fsV} {st0 : List fsV} {h' : fsH} (hd : decode M.2.1 pc = .ok (.invokestatic idx, 3)) (hs : fs_SS M.1.cls idx Y nA) (hM : fsFn G l Y d mc' ms' vs h none h') (h0 : st0 = vs.reverse ++ st) (hn : vs.length = nA) (hst : (st.map fs_cat).sum ≤ 8) (hD : d + 1 ≤ D) (hk : k + mc' ≤ mc) (hk2 : n + ms' ≤ ms)
    (kk : fsW G l M D mc ms (k + mc') (n + ms') Q (pc + 3) L st h') : fsW G l M D mc ms k n Q pc L st0 h :=
  fs_callS hd hs hM h0 hn hst hD hk hk2 (fun r h1 q => by obtain ⟨rfl, rfl⟩ := q; exact kk)
theorem fs_callSN1 {idx nA d mc' ms' : Nat} {Y : fsM} {vs : List fsV} {st0 : List fsV} {h' : fsH} {v : fsV} (hd : decode M.2.1 pc = .ok (.invokestatic idx, 3)) (hs : fs_SSN M.1.cls idx Y nA) (hM : fsFn G l Y d mc' ms' vs h (some v) h') (h0 : st0 = vs.reverse ++ st) (hn : vs.length = nA) (hst : (st.map fs_cat).sum ≤ 8) (hD : d + 1 ≤ D) (hk : k + mc' ≤ mc) (hk2 : n + ms' ≤ ms)
    (kk : fsW G l M D mc ms (k + mc') (n + ms') Q (pc + 3) L (v :: st) h') : fsW G l M D mc ms k n Q pc L st0 h :=
  fs_callSN hd hs hM h0 hn hst hD hk hk2 (fun r h1 q => by obtain ⟨rfl, rfl⟩ := q; exact kk)
theorem fs_callSN0 {idx nA d mc' ms' : Nat} {Y : fsM} {vs : List fsV} {st0 : List fsV} {h' : fsH} (hd : decode M.2.1 pc = .ok (.invokestatic idx, 3)) (hs : fs_SSN M.1.cls idx Y nA) (hM : fsFn G l Y d mc' ms' vs h none h') (h0 : st0 = vs.reverse ++ st) (hn : vs.length = nA) (hst : (st.map fs_cat).sum ≤ 8) (hD : d + 1 ≤ D) (hk : k + mc' ≤ mc) (hk2 : n + ms' ≤ ms)
    (kk : fsW G l M D mc ms (k + mc') (n + ms') Q (pc + 3) L st h') : fsW G l M D mc ms k n Q pc L st0 h :=
  fs_callSN hd hs hM h0 hn hst hD hk hk2 (fun r h1 q => by obtain ⟨rfl, rfl⟩ := q; exact kk)
theorem fs_callI1 {idx nA d mc' ms' : Nat} {Y : fsM} {vs : List fsV} {st0 : List fsV} {h' : fsH} {v : fsV} {a : Nat} (hd : decode M.2.1 pc = .ok (.invokespecial idx, 3)) (hs : fs_SI M.1.cls idx Y nA) (hM : fsFn G l Y d mc' ms' (.inr (.inr (some a)) :: vs) h (some v) h') (h0 : st0 = vs.reverse ++ .inr (.inr (some a)) :: st) (hn : vs.length = nA) (hst : (st.map fs_cat).sum ≤ 8) (hD : d + 1 ≤ D) (hk : k + mc' ≤ mc) (hk2 : n + ms' ≤ ms)
    (kk : fsW G l M D mc ms (k + mc') (n + ms') Q (pc + 3) L (v :: st) h') : fsW G l M D mc ms k n Q pc L st0 h :=
  fs_callI hd hs hM h0 hn hst hD hk hk2 (fun r h1 q => by obtain ⟨rfl, rfl⟩ := q; exact kk)
theorem fs_callI0 {idx nA d mc' ms' : Nat} {Y : fsM} {vs : List fsV} {st0 : List fsV} {h' : fsH} {a : Nat} (hd : decode M.2.1 pc = .ok (.invokespecial idx, 3)) (hs : fs_SI M.1.cls idx Y nA) (hM : fsFn G l Y d mc' ms' (.inr (.inr (some a)) :: vs) h none h') (h0 : st0 = vs.reverse ++ .inr (.inr (some a)) :: st) (hn : vs.length = nA) (hst : (st.map fs_cat).sum ≤ 8) (hD : d + 1 ≤ D) (hk : k + mc' ≤ mc) (hk2 : n + ms' ≤ ms)
    (kk : fsW G l M D mc ms (k + mc') (n + ms') Q (pc + 3) L st h') : fsW G l M D mc ms k n Q pc L st0 h :=
  fs_callI hd hs hM h0 hn hst hD hk hk2 (fun r h1 q => by obtain ⟨rfl, rfl⟩ := q; exact kk)
theorem fs_callIN1 {idx nA d mc' ms' : Nat} {Y : fsM} {vs : List fsV} {st0 : List fsV} {h' : fsH} {v : fsV} {a : Nat} (hd : decode M.2.1 pc = .ok (.invokespecial idx, 3)) (hs : fs_SIN M.1.cls idx Y nA) (hM : fsFn G l Y d mc' ms' (.inr (.inr (some a)) :: vs) h (some v) h') (h0 : st0 = vs.reverse ++ .inr (.inr (some a)) :: st) (hn : vs.length = nA) (hst : (st.map fs_cat).sum ≤ 8) (hD : d + 1 ≤ D) (hk : k + mc' ≤ mc) (hk2 : n + ms' ≤ ms)
    (kk : fsW G l M D mc ms (k + mc') (n + ms') Q (pc + 3) L (v :: st) h') : fsW G l M D mc ms k n Q pc L st0 h :=
  fs_callIN hd hs hM h0 hn hst hD hk hk2 (fun r h1 q => by obtain ⟨rfl, rfl⟩ := q; exact kk)
theorem fs_callIN0 {idx nA d mc' ms' : Nat} {Y : fsM} {vs : List fsV} {st0 : List fsV} {h' : fsH} {a : Nat} (hd : decode M.2.1 pc = .ok (.invokespecial idx, 3)) (hs : fs_SIN M.1.cls idx Y nA) (hM : fsFn G l Y d mc' ms' (.inr (.inr (some a)) :: vs) h none h') (h0 : st0 = vs.reverse ++ .inr (.inr (some a)) :: st) (hn : vs.length = nA) (hst : (st.map fs_cat).sum ≤ 8) (hD : d + 1 ≤ D) (hk : k + mc' ≤ mc) (hk2 : n + ms' ≤ ms)
    (kk : fsW G l M D mc ms (k + mc') (n + ms') Q (pc + 3) L st h') : fsW G l M D mc ms k n Q pc L st0 h :=
  fs_callIN hd hs hM h0 hn hst hD hk hk2 (fun r h1 q => by obtain ⟨rfl, rfl⟩ := q; exact kk)
theorem fsp_0 {idx : Nat} {v : Int32} (hd : decode M.2.1 pc = .ok (.putfield idx, 3)) (hf : fs_FP M.1.cls idx 6 0 .int false) (kk : fsW G l M D mc ms k n Q (pc + 3) L st (fs_mk ht (upd I 0 v) A J it dyn)) : fsW G l M D mc ms k n Q pc L (.inl v :: .inr (.inr (some 0)) :: st) (fs_mk ht I A J it dyn) := fs_putfield hd hf rfl rfl rfl (Nat.le_of_ble_eq_true rfl) kk
theorem fsp_1 {idx : Nat} {v : Int32} (hd : decode M.2.1 pc = .ok (.putfield idx, 3)) (hf : fs_FP M.1.cls idx 6 1 .boolean false) (hv : v = 0 ∨ v = 1) (kk : fsW G l M D mc ms k n Q (pc + 3) L st (fs_mk ht (upd I 1 v) A J it dyn)) : fsW G l M D mc ms k n Q pc L (.inl v :: .inr (.inr (some 0)) :: st) (fs_mk ht I A J it dyn) := fs_putfield hd hf rfl (by rcases hv with rfl | rfl <;> rfl) (by rcases hv with rfl | rfl <;> rfl) (Nat.le_of_ble_eq_true rfl) kk
theorem fsp_2 {idx : Nat} {v : Int32} (hd : decode M.2.1 pc = .ok (.putfield idx, 3)) (hf : fs_FP M.1.cls idx 4 1 .int false) (kk : fsW G l M D mc ms k n Q (pc + 3) L st (fs_mk ht (upd I 2 v) A J it dyn)) : fsW G l M D mc ms k n Q pc L (.inl v :: .inr (.inr (some 1)) :: st) (fs_mk ht I A J it dyn) := fs_putfield hd hf rfl rfl rfl (Nat.le_of_ble_eq_true rfl) kk
theorem fsp_3 {idx : Nat} {v : Int32} (hd : decode M.2.1 pc = .ok (.putfield idx, 3)) (hf : fs_FP M.1.cls idx 4 2 .int false) (kk : fsW G l M D mc ms k n Q (pc + 3) L st (fs_mk ht (upd I 3 v) A J it dyn)) : fsW G l M D mc ms k n Q pc L (.inl v :: .inr (.inr (some 1)) :: st) (fs_mk ht I A J it dyn) := fs_putfield hd hf rfl rfl rfl (Nat.le_of_ble_eq_true rfl) kk
theorem fsp_4 {idx : Nat} {v : Int32} (hd : decode M.2.1 pc = .ok (.putfield idx, 3)) (hf : fs_FP M.1.cls idx 0 1 .int false) (kk : fsW G l M D mc ms k n Q (pc + 3) L st (fs_mk ht (upd I 4 v) A J it dyn)) : fsW G l M D mc ms k n Q pc L (.inl v :: .inr (.inr (some 3)) :: st) (fs_mk ht I A J it dyn) := fs_putfield hd hf rfl rfl rfl (Nat.le_of_ble_eq_true rfl) kk
theorem fsp_5 {idx : Nat} {v : Int32} (hd : decode M.2.1 pc = .ok (.putfield idx, 3)) (hf : fs_FP M.1.cls idx 0 2 .int false) (kk : fsW G l M D mc ms k n Q (pc + 3) L st (fs_mk ht (upd I 5 v) A J it dyn)) : fsW G l M D mc ms k n Q pc L (.inl v :: .inr (.inr (some 3)) :: st) (fs_mk ht I A J it dyn) := fs_putfield hd hf rfl rfl rfl (Nat.le_of_ble_eq_true rfl) kk
theorem fsp_6 {idx : Nat} {v : Int32} (hd : decode M.2.1 pc = .ok (.putfield idx, 3)) (hf : fs_FP M.1.cls idx 5 4 .int false) (kk : fsW G l M D mc ms k n Q (pc + 3) L st (fs_mk ht (upd I 6 v) A J it dyn)) : fsW G l M D mc ms k n Q pc L (.inl v :: .inr (.inr (some 5)) :: st) (fs_mk ht I A J it dyn) := fs_putfield hd hf rfl rfl rfl (Nat.le_of_ble_eq_true rfl) kk
theorem fsp_7 {idx : Nat} {v : Int32} (hd : decode M.2.1 pc = .ok (.putfield idx, 3)) (hf : fs_FP M.1.cls idx 2 7 .int false) (kk : fsW G l M D mc ms k n Q (pc + 3) L st (fs_mk ht (upd I 7 v) A J it dyn)) : fsW G l M D mc ms k n Q pc L (.inl v :: .inr (.inr (some 9)) :: st) (fs_mk ht I A J it dyn) := fs_putfield hd hf rfl rfl rfl (Nat.le_of_ble_eq_true rfl) kk
theorem fsp_8 {idx : Nat} {v : Int32} (hd : decode M.2.1 pc = .ok (.putfield idx, 3)) (hf : fs_FP M.1.cls idx 7 0 .int false) (kk : fsW G l M D mc ms k n Q (pc + 3) L st (fs_mk ht (upd I 8 v) A J it dyn)) : fsW G l M D mc ms k n Q pc L (.inl v :: .inr (.inr (some 14)) :: st) (fs_mk ht I A J it dyn) := fs_putfield hd hf rfl rfl rfl (Nat.le_of_ble_eq_true rfl) kk
theorem fsp_9 {idx : Nat} {v : Int32} (hd : decode M.2.1 pc = .ok (.putfield idx, 3)) (hf : fs_FP M.1.cls idx 7 1 .int false) (kk : fsW G l M D mc ms k n Q (pc + 3) L st (fs_mk ht (upd I 9 v) A J it dyn)) : fsW G l M D mc ms k n Q pc L (.inl v :: .inr (.inr (some 14)) :: st) (fs_mk ht I A J it dyn) := fs_putfield hd hf rfl rfl rfl (Nat.le_of_ble_eq_true rfl) kk
theorem fsp_10 {idx : Nat} {v : Int32} (hd : decode M.2.1 pc = .ok (.putfield idx, 3)) (hf : fs_FP M.1.cls idx 7 3 .int false) (kk : fsW G l M D mc ms k n Q (pc + 3) L st (fs_mk ht (upd I 10 v) A J it dyn)) : fsW G l M D mc ms k n Q pc L (.inl v :: .inr (.inr (some 14)) :: st) (fs_mk ht I A J it dyn) := fs_putfield hd hf rfl rfl rfl (Nat.le_of_ble_eq_true rfl) kk
theorem fsp_11 {idx : Nat} {v : Int32} (hd : decode M.2.1 pc = .ok (.putfield idx, 3)) (hf : fs_FP M.1.cls idx 7 5 .int false) (kk : fsW G l M D mc ms k n Q (pc + 3) L st (fs_mk ht (upd I 11 v) A J it dyn)) : fsW G l M D mc ms k n Q pc L (.inl v :: .inr (.inr (some 14)) :: st) (fs_mk ht I A J it dyn) := fs_putfield hd hf rfl rfl rfl (Nat.le_of_ble_eq_true rfl) kk
theorem fsp_12 {idx : Nat} {v : Int32} (hd : decode M.2.1 pc = .ok (.putfield idx, 3)) (hf : fs_FP M.1.cls idx 7 6 .boolean false) (hv : v = 0 ∨ v = 1) (kk : fsW G l M D mc ms k n Q (pc + 3) L st (fs_mk ht (upd I 12 v) A J it dyn)) : fsW G l M D mc ms k n Q pc L (.inl v :: .inr (.inr (some 14)) :: st) (fs_mk ht I A J it dyn) := fs_putfield hd hf rfl (by rcases hv with rfl | rfl <;> rfl) (by rcases hv with rfl | rfl <;> rfl) (Nat.le_of_ble_eq_true rfl) kk
theorem fsp_13 {idx : Nat} {v : Int32} (hd : decode M.2.1 pc = .ok (.putfield idx, 3)) (hf : fs_FP M.1.cls idx 7 7 .int false) (kk : fsW G l M D mc ms k n Q (pc + 3) L st (fs_mk ht (upd I 13 v) A J it dyn)) : fsW G l M D mc ms k n Q pc L (.inl v :: .inr (.inr (some 14)) :: st) (fs_mk ht I A J it dyn) := fs_putfield hd hf rfl rfl rfl (Nat.le_of_ble_eq_true rfl) kk
theorem fsp_14 {idx : Nat} {v : Int32} (hd : decode M.2.1 pc = .ok (.putfield idx, 3)) (hf : fs_FP M.1.cls idx 7 18 .int false) (kk : fsW G l M D mc ms k n Q (pc + 3) L st (fs_mk ht (upd I 14 v) A J it dyn)) : fsW G l M D mc ms k n Q pc L (.inl v :: .inr (.inr (some 14)) :: st) (fs_mk ht I A J it dyn) := fs_putfield hd hf rfl rfl rfl (Nat.le_of_ble_eq_true rfl) kk
theorem fsp_15 {idx : Nat} {v : Int32} (hd : decode M.2.1 pc = .ok (.putfield idx, 3)) (hf : fs_FP M.1.cls idx 7 19 .int false) (kk : fsW G l M D mc ms k n Q (pc + 3) L st (fs_mk ht (upd I 15 v) A J it dyn)) : fsW G l M D mc ms k n Q pc L (.inl v :: .inr (.inr (some 14)) :: st) (fs_mk ht I A J it dyn) := fs_putfield hd hf rfl rfl rfl (Nat.le_of_ble_eq_true rfl) kk
theorem fsp_16 {idx : Nat} {v : Int32} (hd : decode M.2.1 pc = .ok (.putfield idx, 3)) (hf : fs_FP M.1.cls idx 7 31 .int false) (kk : fsW G l M D mc ms k n Q (pc + 3) L st (fs_mk ht (upd I 16 v) A J it dyn)) : fsW G l M D mc ms k n Q pc L (.inl v :: .inr (.inr (some 14)) :: st) (fs_mk ht I A J it dyn) := fs_putfield hd hf rfl rfl rfl (Nat.le_of_ble_eq_true rfl) kk
theorem fsp_17 {idx : Nat} {v : Int32} (hd : decode M.2.1 pc = .ok (.putfield idx, 3)) (hf : fs_FP M.1.cls idx 7 33 .int false) (kk : fsW G l M D mc ms k n Q (pc + 3) L st (fs_mk ht (upd I 17 v) A J it dyn)) : fsW G l M D mc ms k n Q pc L (.inl v :: .inr (.inr (some 14)) :: st) (fs_mk ht I A J it dyn) := fs_putfield hd hf rfl rfl rfl (Nat.le_of_ble_eq_true rfl) kk
theorem fsp_18 {idx : Nat} {v : Int32} (hd : decode M.2.1 pc = .ok (.putfield idx, 3)) (hf : fs_FP M.1.cls idx 7 34 .int false) (kk : fsW G l M D mc ms k n Q (pc + 3) L st (fs_mk ht (upd I 18 v) A J it dyn)) : fsW G l M D mc ms k n Q pc L (.inl v :: .inr (.inr (some 14)) :: st) (fs_mk ht I A J it dyn) := fs_putfield hd hf rfl rfl rfl (Nat.le_of_ble_eq_true rfl) kk
theorem fsp_19 {idx : Nat} {v : Int32} (hd : decode M.2.1 pc = .ok (.putfield idx, 3)) (hf : fs_FP M.1.cls idx 7 35 .int false) (kk : fsW G l M D mc ms k n Q (pc + 3) L st (fs_mk ht (upd I 19 v) A J it dyn)) : fsW G l M D mc ms k n Q pc L (.inl v :: .inr (.inr (some 14)) :: st) (fs_mk ht I A J it dyn) := fs_putfield hd hf rfl rfl rfl (Nat.le_of_ble_eq_true rfl) kk
theorem fss_2 {i x : Int32} (hd : decode M.2.1 pc = .ok (.castore, 1)) (hin : vp_in i 60) (kk : fsW G l M D mc ms k n Q (pc + 1) L st (fs_mk ht I (va_up A 2 (upd (A 2) i.toNatClampNeg (vp_nar .char x))) J it dyn)) : fsW G l M D mc ms k n Q pc L (.inl x :: .inl i :: .inr (.inr (some 2)) :: st) (fs_mk ht I A J it dyn) := fs_castore hd rfl hin kk
theorem fss_6 {i : Int32} {x : Int64} (hd : decode M.2.1 pc = .ok (.lastore, 1)) (hin : vp_in i 64) (kk : fsW G l M D mc ms k n Q (pc + 1) L st (fs_mk ht I A (va_up J 6 (vp_updL (J 6) i.toNatClampNeg x)) it dyn)) : fsW G l M D mc ms k n Q pc L (.inr (.inl x) :: .inl i :: .inr (.inr (some 6)) :: st) (fs_mk ht I A J it dyn) := fs_lastore hd rfl hin kk
theorem fss_7 {i : Int32} {x : Int64} (hd : decode M.2.1 pc = .ok (.lastore, 1)) (hin : vp_in i 64) (kk : fsW G l M D mc ms k n Q (pc + 1) L st (fs_mk ht I A (va_up J 7 (vp_updL (J 7) i.toNatClampNeg x)) it dyn)) : fsW G l M D mc ms k n Q pc L (.inr (.inl x) :: .inl i :: .inr (.inr (some 7)) :: st) (fs_mk ht I A J it dyn) := fs_lastore hd rfl hin kk
theorem fss_8 {i x : Int32} (hd : decode M.2.1 pc = .ok (.iastore, 1)) (hin : vp_in i 64) (kk : fsW G l M D mc ms k n Q (pc + 1) L st (fs_mk ht I (va_up A 8 (upd (A 8) i.toNatClampNeg x)) J it dyn)) : fsW G l M D mc ms k n Q pc L (.inl x :: .inl i :: .inr (.inr (some 8)) :: st) (fs_mk ht I A J it dyn) := fs_iastore hd rfl hin kk
theorem fss_10 {i x : Int32} (hd : decode M.2.1 pc = .ok (.iastore, 1)) (hin : vp_in i 64) (kk : fsW G l M D mc ms k n Q (pc + 1) L st (fs_mk ht I (va_up A 10 (upd (A 10) i.toNatClampNeg x)) J it dyn)) : fsW G l M D mc ms k n Q pc L (.inl x :: .inl i :: .inr (.inr (some 10)) :: st) (fs_mk ht I A J it dyn) := fs_iastore hd rfl hin kk
theorem fss_11 {i x : Int32} (hd : decode M.2.1 pc = .ok (.iastore, 1)) (hin : vp_in i 64) (kk : fsW G l M D mc ms k n Q (pc + 1) L st (fs_mk ht I (va_up A 11 (upd (A 11) i.toNatClampNeg x)) J it dyn)) : fsW G l M D mc ms k n Q pc L (.inl x :: .inl i :: .inr (.inr (some 11)) :: st) (fs_mk ht I A J it dyn) := fs_iastore hd rfl hin kk
theorem fss_12 {i x : Int32} (hd : decode M.2.1 pc = .ok (.iastore, 1)) (hin : vp_in i 64) (kk : fsW G l M D mc ms k n Q (pc + 1) L st (fs_mk ht I (va_up A 12 (upd (A 12) i.toNatClampNeg x)) J it dyn)) : fsW G l M D mc ms k n Q pc L (.inl x :: .inl i :: .inr (.inr (some 12)) :: st) (fs_mk ht I A J it dyn) := fs_iastore hd rfl hin kk
theorem fss_13 {i x : Int32} (hd : decode M.2.1 pc = .ok (.iastore, 1)) (hin : vp_in i (64 * ht)) (kk : fsW G l M D mc ms k n Q (pc + 1) L st (fs_mk ht I (va_up A 13 (upd (A 13) i.toNatClampNeg x)) J it dyn)) : fsW G l M D mc ms k n Q pc L (.inl x :: .inl i :: .inr (.inr (some 13)) :: st) (fs_mk ht I A J it dyn) := fs_iastore hd rfl hin kk
theorem fss_15 {i x : Int32} (hd : decode M.2.1 pc = .ok (.castore, 1)) (hin : vp_in i 60) (kk : fsW G l M D mc ms k n Q (pc + 1) L st (fs_mk ht I (va_up A 15 (upd (A 15) i.toNatClampNeg (vp_nar .char x))) J it dyn)) : fsW G l M D mc ms k n Q pc L (.inl x :: .inl i :: .inr (.inr (some 15)) :: st) (fs_mk ht I A J it dyn) := fs_castore hd rfl hin kk
theorem fss_16 {i x : Int32} (hd : decode M.2.1 pc = .ok (.iastore, 1)) (hin : vp_in i 17) (kk : fsW G l M D mc ms k n Q (pc + 1) L st (fs_mk ht I (va_up A 16 (upd (A 16) i.toNatClampNeg x)) J it dyn)) : fsW G l M D mc ms k n Q pc L (.inl x :: .inl i :: .inr (.inr (some 16)) :: st) (fs_mk ht I A J it dyn) := fs_iastore hd rfl hin kk
theorem fss_17 {i x : Int32} (hd : decode M.2.1 pc = .ok (.iastore, 1)) (hin : vp_in i 17) (kk : fsW G l M D mc ms k n Q (pc + 1) L st (fs_mk ht I (va_up A 17 (upd (A 17) i.toNatClampNeg x)) J it dyn)) : fsW G l M D mc ms k n Q pc L (.inl x :: .inl i :: .inr (.inr (some 17)) :: st) (fs_mk ht I A J it dyn) := fs_iastore hd rfl hin kk
theorem fss_18 {i x : Int32} (hd : decode M.2.1 pc = .ok (.bastore, 1)) (hin : vp_in i 17) (kk : fsW G l M D mc ms k n Q (pc + 1) L st (fs_mk ht I (va_up A 18 (upd (A 18) i.toNatClampNeg (vp_nar .boolean x))) J it dyn)) : fsW G l M D mc ms k n Q pc L (.inl x :: .inl i :: .inr (.inr (some 18)) :: st) (fs_mk ht I A J it dyn) := fs_zastore hd rfl hin kk
theorem fss_19 {i x : Int32} (hd : decode M.2.1 pc = .ok (.iastore, 1)) (hin : vp_in i 17) (kk : fsW G l M D mc ms k n Q (pc + 1) L st (fs_mk ht I (va_up A 19 (upd (A 19) i.toNatClampNeg x)) J it dyn)) : fsW G l M D mc ms k n Q pc L (.inl x :: .inl i :: .inr (.inr (some 19)) :: st) (fs_mk ht I A J it dyn) := fs_iastore hd rfl hin kk
theorem fss_20 {i x : Int32} (hd : decode M.2.1 pc = .ok (.iastore, 1)) (hin : vp_in i 17) (kk : fsW G l M D mc ms k n Q (pc + 1) L st (fs_mk ht I (va_up A 20 (upd (A 20) i.toNatClampNeg x)) J it dyn)) : fsW G l M D mc ms k n Q pc L (.inl x :: .inl i :: .inr (.inr (some 20)) :: st) (fs_mk ht I A J it dyn) := fs_iastore hd rfl hin kk
theorem fss_21 {i x : Int32} (hd : decode M.2.1 pc = .ok (.iastore, 1)) (hin : vp_in i 544) (kk : fsW G l M D mc ms k n Q (pc + 1) L st (fs_mk ht I (va_up A 21 (upd (A 21) i.toNatClampNeg x)) J it dyn)) : fsW G l M D mc ms k n Q pc L (.inl x :: .inl i :: .inr (.inr (some 21)) :: st) (fs_mk ht I A J it dyn) := fs_iastore hd rfl hin kk
theorem fss_22 {i x : Int32} (hd : decode M.2.1 pc = .ok (.iastore, 1)) (hin : vp_in i 544) (kk : fsW G l M D mc ms k n Q (pc + 1) L st (fs_mk ht I (va_up A 22 (upd (A 22) i.toNatClampNeg x)) J it dyn)) : fsW G l M D mc ms k n Q pc L (.inl x :: .inl i :: .inr (.inr (some 22)) :: st) (fs_mk ht I A J it dyn) := fs_iastore hd rfl hin kk
theorem fss_23 {i x : Int32} (hd : decode M.2.1 pc = .ok (.iastore, 1)) (hin : vp_in i 544) (kk : fsW G l M D mc ms k n Q (pc + 1) L st (fs_mk ht I (va_up A 23 (upd (A 23) i.toNatClampNeg x)) J it dyn)) : fsW G l M D mc ms k n Q pc L (.inl x :: .inl i :: .inr (.inr (some 23)) :: st) (fs_mk ht I A J it dyn) := fs_iastore hd rfl hin kk
theorem fss_24 {i x : Int32} (hd : decode M.2.1 pc = .ok (.iastore, 1)) (hin : vp_in i 544) (kk : fsW G l M D mc ms k n Q (pc + 1) L st (fs_mk ht I (va_up A 24 (upd (A 24) i.toNatClampNeg x)) J it dyn)) : fsW G l M D mc ms k n Q pc L (.inl x :: .inl i :: .inr (.inr (some 24)) :: st) (fs_mk ht I A J it dyn) := fs_iastore hd rfl hin kk
theorem fss_25 {i : Int32} {x : Int64} (hd : decode M.2.1 pc = .ok (.lastore, 1)) (hin : vp_in i 544) (kk : fsW G l M D mc ms k n Q (pc + 1) L st (fs_mk ht I A (va_up J 25 (vp_updL (J 25) i.toNatClampNeg x)) it dyn)) : fsW G l M D mc ms k n Q pc L (.inr (.inl x) :: .inl i :: .inr (.inr (some 25)) :: st) (fs_mk ht I A J it dyn) := fs_lastore hd rfl hin kk
theorem fss_26 {i x : Int32} (hd : decode M.2.1 pc = .ok (.iastore, 1)) (hin : vp_in i 7) (kk : fsW G l M D mc ms k n Q (pc + 1) L st (fs_mk ht I (va_up A 26 (upd (A 26) i.toNatClampNeg x)) J it dyn)) : fsW G l M D mc ms k n Q pc L (.inl x :: .inl i :: .inr (.inr (some 26)) :: st) (fs_mk ht I A J it dyn) := fs_iastore hd rfl hin kk
theorem fss_27 {i x : Int32} (hd : decode M.2.1 pc = .ok (.iastore, 1)) (hin : vp_in i 7) (kk : fsW G l M D mc ms k n Q (pc + 1) L st (fs_mk ht I (va_up A 27 (upd (A 27) i.toNatClampNeg x)) J it dyn)) : fsW G l M D mc ms k n Q pc L (.inl x :: .inl i :: .inr (.inr (some 27)) :: st) (fs_mk ht I A J it dyn) := fs_iastore hd rfl hin kk
theorem fss_28 {i x : Int32} (hd : decode M.2.1 pc = .ok (.iastore, 1)) (hin : vp_in i 7) (kk : fsW G l M D mc ms k n Q (pc + 1) L st (fs_mk ht I (va_up A 28 (upd (A 28) i.toNatClampNeg x)) J it dyn)) : fsW G l M D mc ms k n Q pc L (.inl x :: .inl i :: .inr (.inr (some 28)) :: st) (fs_mk ht I A J it dyn) := fs_iastore hd rfl hin kk
theorem fss_29 {i x : Int32} (hd : decode M.2.1 pc = .ok (.iastore, 1)) (hin : vp_in i 7) (kk : fsW G l M D mc ms k n Q (pc + 1) L st (fs_mk ht I (va_up A 29 (upd (A 29) i.toNatClampNeg x)) J it dyn)) : fsW G l M D mc ms k n Q pc L (.inl x :: .inl i :: .inr (.inr (some 29)) :: st) (fs_mk ht I A J it dyn) := fs_iastore hd rfl hin kk
theorem fss_30 {i : Int32} {x : Int64} (hd : decode M.2.1 pc = .ok (.lastore, 1)) (hin : vp_in i 64) (kk : fsW G l M D mc ms k n Q (pc + 1) L st (fs_mk ht I A (va_up J 30 (vp_updL (J 30) i.toNatClampNeg x)) it dyn)) : fsW G l M D mc ms k n Q pc L (.inr (.inl x) :: .inl i :: .inr (.inr (some 30)) :: st) (fs_mk ht I A J it dyn) := fs_lastore hd rfl hin kk
theorem fss_31 {i x : Int32} (hd : decode M.2.1 pc = .ok (.iastore, 1)) (hin : vp_in i 64) (kk : fsW G l M D mc ms k n Q (pc + 1) L st (fs_mk ht I (va_up A 31 (upd (A 31) i.toNatClampNeg x)) J it dyn)) : fsW G l M D mc ms k n Q pc L (.inl x :: .inl i :: .inr (.inr (some 31)) :: st) (fs_mk ht I A J it dyn) := fs_iastore hd rfl hin kk
theorem fss_32 {i : Int32} {x : Int64} (hd : decode M.2.1 pc = .ok (.lastore, 1)) (hin : vp_in i 64) (kk : fsW G l M D mc ms k n Q (pc + 1) L st (fs_mk ht I A (va_up J 32 (vp_updL (J 32) i.toNatClampNeg x)) it dyn)) : fsW G l M D mc ms k n Q pc L (.inr (.inl x) :: .inl i :: .inr (.inr (some 32)) :: st) (fs_mk ht I A J it dyn) := fs_lastore hd rfl hin kk
theorem fss_33 {i : Int32} {x : Int64} (hd : decode M.2.1 pc = .ok (.lastore, 1)) (hin : vp_in i 64) (kk : fsW G l M D mc ms k n Q (pc + 1) L st (fs_mk ht I A (va_up J 33 (vp_updL (J 33) i.toNatClampNeg x)) it dyn)) : fsW G l M D mc ms k n Q pc L (.inr (.inl x) :: .inl i :: .inr (.inr (some 33)) :: st) (fs_mk ht I A J it dyn) := fs_lastore hd rfl hin kk
theorem fss_34 {i x : Int32} (hd : decode M.2.1 pc = .ok (.bastore, 1)) (hin : vp_in i 64) (kk : fsW G l M D mc ms k n Q (pc + 1) L st (fs_mk ht I (va_up A 34 (upd (A 34) i.toNatClampNeg (vp_nar .boolean x))) J it dyn)) : fsW G l M D mc ms k n Q pc L (.inl x :: .inl i :: .inr (.inr (some 34)) :: st) (fs_mk ht I A J it dyn) := fs_zastore hd rfl hin kk
theorem fss_35 {i : Int32} {x : Int64} (hd : decode M.2.1 pc = .ok (.lastore, 1)) (hin : vp_in i 32) (kk : fsW G l M D mc ms k n Q (pc + 1) L st (fs_mk ht I A (va_up J 35 (vp_updL (J 35) i.toNatClampNeg x)) it dyn)) : fsW G l M D mc ms k n Q pc L (.inr (.inl x) :: .inl i :: .inr (.inr (some 35)) :: st) (fs_mk ht I A J it dyn) := fs_lastore hd rfl hin kk
theorem fss_36 {i x : Int32} (hd : decode M.2.1 pc = .ok (.iastore, 1)) (hin : vp_in i 32) (kk : fsW G l M D mc ms k n Q (pc + 1) L st (fs_mk ht I (va_up A 36 (upd (A 36) i.toNatClampNeg x)) J it dyn)) : fsW G l M D mc ms k n Q pc L (.inl x :: .inl i :: .inr (.inr (some 36)) :: st) (fs_mk ht I A J it dyn) := fs_iastore hd rfl hin kk
theorem fss_37 {i x : Int32} (hd : decode M.2.1 pc = .ok (.iastore, 1)) (hin : vp_in i 64) (kk : fsW G l M D mc ms k n Q (pc + 1) L st (fs_mk ht I (va_up A 37 (upd (A 37) i.toNatClampNeg x)) J it dyn)) : fsW G l M D mc ms k n Q pc L (.inl x :: .inl i :: .inr (.inr (some 37)) :: st) (fs_mk ht I A J it dyn) := fs_iastore hd rfl hin kk
theorem fss_38 {i x : Int32} (hd : decode M.2.1 pc = .ok (.iastore, 1)) (hin : vp_in i 68) (kk : fsW G l M D mc ms k n Q (pc + 1) L st (fs_mk ht I (va_up A 38 (upd (A 38) i.toNatClampNeg x)) J it dyn)) : fsW G l M D mc ms k n Q pc L (.inl x :: .inl i :: .inr (.inr (some 38)) :: st) (fs_mk ht I A J it dyn) := fs_iastore hd rfl hin kk
theorem fss_39 {i x : Int32} (hd : decode M.2.1 pc = .ok (.iastore, 1)) (hin : vp_in i 2560) (kk : fsW G l M D mc ms k n Q (pc + 1) L st (fs_mk ht I (va_up A 39 (upd (A 39) i.toNatClampNeg x)) J it dyn)) : fsW G l M D mc ms k n Q pc L (.inl x :: .inl i :: .inr (.inr (some 39)) :: st) (fs_mk ht I A J it dyn) := fs_iastore hd rfl hin kk
theorem fss_40 {i : Int32} {x : Int64} (hd : decode M.2.1 pc = .ok (.lastore, 1)) (hin : vp_in i 1) (kk : fsW G l M D mc ms k n Q (pc + 1) L st (fs_mk ht I A (va_up J 40 (vp_updL (J 40) i.toNatClampNeg x)) it dyn)) : fsW G l M D mc ms k n Q pc L (.inr (.inl x) :: .inl i :: .inr (.inr (some 40)) :: st) (fs_mk ht I A J it dyn) := fs_lastore hd rfl hin kk
theorem fss_4 {i : Int32} {v : Nat} {vs : List fsV} (hd : decode M.2.1 pc = .ok (.aastore, 1)) (hv : dyn[v]? = some (some (.inr (1, vs)))) (hin : vp_in i 16) (kk : fsW G l M D mc ms k n Q (pc + 1) L st (fs_mk ht I A J (va_up it i.toNatClampNeg (some (v + 41))) dyn)) : fsW G l M D mc ms k n Q pc L (.inr (.inr (some (v + 41))) :: .inl i :: .inr (.inr (some 4)) :: st) (fs_mk ht I A J it dyn) := fs_aastore hd rfl hv hin kk
theorem fsn_new {idx ci N : Nat} {fs : List fsV} (hd : decode M.2.1 pc = .ok (.new idx, 3)) (hf : fs_NW M.1.cls idx ci N fs) (hk : k + 1 ≤ mc) (hn : n + N ≤ ms) (kk : fsW G l M D mc ms (k + 1) (n + N) Q (pc + 3) L (.inr (.inr (some (dyn.length + 41))) :: st) (fs_mk ht I A J it (dyn ++ [some (.inr (ci, fs))]))) : fsW G l M D mc ms k n Q pc L st (fs_mk ht I A J it dyn) := fs_new hd hf hk hn kk
theorem fs_reL {L' : List (Nat × fsV)} (ks : List Nat) (hk : ks.filterMap (fun j => L[j]?) = L') (kk : fsW G l M D mc ms k n Q pc L' st h) : fsW G l M D mc ms k n Q pc L st h := by
  intro p e s m args below meth c H locs ls C hR hS hl
  refine kk p e s m args below meth c H locs ls C hR hS ⟨hl.1, hl.2.1, fun q hq => hl.2.2 q ?_⟩
  obtain ⟨q', hq', rfl⟩ := List.mem_map.mp hq
  rw [← hk] at hq'
  obtain ⟨j, -, hj⟩ := List.mem_filterMap.mp hq'
  exact List.mem_map.mpr ⟨q', List.mem_of_getElem? hj, rfl⟩
theorem fs_ifnull' {off : Int} {r : Option Nat} (tgt : Nat) (hd : decode M.2.1 pc = .ok (.ifnull off, 3)) (ht : (pc : Int) + off = (tgt : Int)) (kt : r = none → fsW G l M D mc ms k n Q tgt L st h) (kf : ¬ r = none → fsW G l M D mc ms k n Q (pc + 3) L st h) : fsW G l M D mc ms k n Q pc L (.inr (.inr r) :: st) h :=
  fs_ifnull tgt hd ht kt (fun a e => kf (by rw [e]; exact fun q => by cases q))
theorem fs_ifnonnull' {off : Int} {r : Option Nat} (tgt : Nat) (hd : decode M.2.1 pc = .ok (.ifnonnull off, 3)) (ht : (pc : Int) + off = (tgt : Int)) (kt : ¬ r = none → fsW G l M D mc ms k n Q tgt L st h) (kf : r = none → fsW G l M D mc ms k n Q (pc + 3) L st h) : fsW G l M D mc ms k n Q pc L (.inr (.inr r) :: st) h :=
  fs_ifnonnull tgt hd ht (fun a e => kt (by rw [e]; exact fun q => by cases q)) kf
/-- what a made cell holds -/
def fs_cell (dyn : fsH) (r : Option Nat) : List fsV := match r with
  | none => []
  | some a => match dyn[a - 41]? with
    | some (some (.inr (_, fs))) => fs
    | _ => []
def fs_dI (dyn : fsH) (r : Option Nat) (k : Nat) : Int32 := match (fs_cell dyn r)[k]? with
  | some (.inl x) => x
  | _ => 0
def fs_dJ (dyn : fsH) (r : Option Nat) (k : Nat) : Int64 := match (fs_cell dyn r)[k]? with
  | some (.inr (.inl x)) => x
  | _ => 0
def fs_dR (dyn : fsH) (r : Option Nat) (k : Nat) : Option Nat := match (fs_cell dyn r)[k]? with
  | some (.inr (.inr x)) => x
  | _ => none
def fs_okI (dyn : fsH) (r : Option Nat) : Prop := ∃ (j : Nat) (x0 x1 x2 : Int32) (x3 : Option Nat) (x4 : Int32), r = some (j + 41) ∧ dyn[j]? = some (some (.inr (1, [fsI x0, fsI x1, fsI x2, fsR x3, fsI x4])))
def fs_okP (dyn : fsH) (r : Option Nat) : Prop := ∃ (j : Nat) (x0 : Int32) (x1 : Int64) (x2 : Int32) (x3 x4 x5 : Option Nat) (x6 : Int32), r = some (j + 41) ∧ dyn[j]? = some (some (.inr (3, [fsI x0, fsJ x1, fsI x2, fsR x3, fsR x4, fsR x5, fsI x6])))
def fs_dset (dyn : fsH) (r : Option Nat) (k : Nat) (v : fsV) : fsH := match r with
  | none => dyn
  | some a => dyn.set (a - 41) (some (.inr (3, (fs_cell dyn r).set k v)))
theorem fsg_I0 {idx : Nat} {r : Option Nat} (hd : decode M.2.1 pc = .ok (.getfield idx, 3)) (hf : fs_F M.1.cls idx 1 0) (ho : fs_okI dyn r) (kk : fsW G l M D mc ms k n Q (pc + 3) L (.inl (fs_dI dyn r 0) :: st) (fs_mk ht I A J it dyn)) : fsW G l M D mc ms k n Q pc L (.inr (.inr r) :: st) (fs_mk ht I A J it dyn) := by
  obtain ⟨j, x0, x1, x2, x3, x4, rfl, hc⟩ := ho
  have e : fs_dI dyn (some (j + 41)) 0 = x0 := by simp [fs_dI, fs_cell, hc]
  rw [e] at kk
  exact fs_getfield hd hf hc rfl kk
theorem fsg_I1 {idx : Nat} {r : Option Nat} (hd : decode M.2.1 pc = .ok (.getfield idx, 3)) (hf : fs_F M.1.cls idx 1 1) (ho : fs_okI dyn r) (kk : fsW G l M D mc ms k n Q (pc + 3) L (.inl (fs_dI dyn r 1) :: st) (fs_mk ht I A J it dyn)) : fsW G l M D mc ms k n Q pc L (.inr (.inr r) :: st) (fs_mk ht I A J it dyn) := by
  obtain ⟨j, x0, x1, x2, x3, x4, rfl, hc⟩ := ho
  have e : fs_dI dyn (some (j + 41)) 1 = x1 := by simp [fs_dI, fs_cell, hc]
  rw [e] at kk
  exact fs_getfield hd hf hc rfl kk
theorem fsg_I2 {idx : Nat} {r : Option Nat} (hd : decode M.2.1 pc = .ok (.getfield idx, 3)) (hf : fs_F M.1.cls idx 1 2) (ho : fs_okI dyn r) (kk : fsW G l M D mc ms k n Q (pc + 3) L (.inl (fs_dI dyn r 2) :: st) (fs_mk ht I A J it dyn)) : fsW G l M D mc ms k n Q pc L (.inr (.inr r) :: st) (fs_mk ht I A J it dyn) := by
  obtain ⟨j, x0, x1, x2, x3, x4, rfl, hc⟩ := ho
  have e : fs_dI dyn (some (j + 41)) 2 = x2 := by simp [fs_dI, fs_cell, hc]
  rw [e] at kk
  exact fs_getfield hd hf hc rfl kk
theorem fsg_I3 {idx : Nat} {r : Option Nat} (hd : decode M.2.1 pc = .ok (.getfield idx, 3)) (hf : fs_F M.1.cls idx 1 3) (ho : fs_okI dyn r) (kk : fsW G l M D mc ms k n Q (pc + 3) L (.inr (.inr (fs_dR dyn r 3)) :: st) (fs_mk ht I A J it dyn)) : fsW G l M D mc ms k n Q pc L (.inr (.inr r) :: st) (fs_mk ht I A J it dyn) := by
  obtain ⟨j, x0, x1, x2, x3, x4, rfl, hc⟩ := ho
  have e : fs_dR dyn (some (j + 41)) 3 = x3 := by simp [fs_dR, fs_cell, hc]
  rw [e] at kk
  exact fs_getfield hd hf hc rfl kk
theorem fsg_I4 {idx : Nat} {r : Option Nat} (hd : decode M.2.1 pc = .ok (.getfield idx, 3)) (hf : fs_F M.1.cls idx 1 4) (ho : fs_okI dyn r) (kk : fsW G l M D mc ms k n Q (pc + 3) L (.inl (fs_dI dyn r 4) :: st) (fs_mk ht I A J it dyn)) : fsW G l M D mc ms k n Q pc L (.inr (.inr r) :: st) (fs_mk ht I A J it dyn) := by
  obtain ⟨j, x0, x1, x2, x3, x4, rfl, hc⟩ := ho
  have e : fs_dI dyn (some (j + 41)) 4 = x4 := by simp [fs_dI, fs_cell, hc]
  rw [e] at kk
  exact fs_getfield hd hf hc rfl kk
theorem fsg_P0 {idx : Nat} {r : Option Nat} (hd : decode M.2.1 pc = .ok (.getfield idx, 3)) (hf : fs_F M.1.cls idx 3 0) (ho : fs_okP dyn r) (kk : fsW G l M D mc ms k n Q (pc + 3) L (.inl (fs_dI dyn r 0) :: st) (fs_mk ht I A J it dyn)) : fsW G l M D mc ms k n Q pc L (.inr (.inr r) :: st) (fs_mk ht I A J it dyn) := by
  obtain ⟨j, x0, x1, x2, x3, x4, x5, x6, rfl, hc⟩ := ho
  have e : fs_dI dyn (some (j + 41)) 0 = x0 := by simp [fs_dI, fs_cell, hc]
  rw [e] at kk
  exact fs_getfield hd hf hc rfl kk
theorem fsg_P1 {idx : Nat} {r : Option Nat} (hd : decode M.2.1 pc = .ok (.getfield idx, 3)) (hf : fs_F M.1.cls idx 3 1) (ho : fs_okP dyn r) (kk : fsW G l M D mc ms k n Q (pc + 3) L (.inr (.inl (fs_dJ dyn r 1)) :: st) (fs_mk ht I A J it dyn)) : fsW G l M D mc ms k n Q pc L (.inr (.inr r) :: st) (fs_mk ht I A J it dyn) := by
  obtain ⟨j, x0, x1, x2, x3, x4, x5, x6, rfl, hc⟩ := ho
  have e : fs_dJ dyn (some (j + 41)) 1 = x1 := by simp [fs_dJ, fs_cell, hc]
  rw [e] at kk
  exact fs_getfield hd hf hc rfl kk
theorem fsg_P2 {idx : Nat} {r : Option Nat} (hd : decode M.2.1 pc = .ok (.getfield idx, 3)) (hf : fs_F M.1.cls idx 3 2) (ho : fs_okP dyn r) (kk : fsW G l M D mc ms k n Q (pc + 3) L (.inl (fs_dI dyn r 2) :: st) (fs_mk ht I A J it dyn)) : fsW G l M D mc ms k n Q pc L (.inr (.inr r) :: st) (fs_mk ht I A J it dyn) := by
  obtain ⟨j, x0, x1, x2, x3, x4, x5, x6, rfl, hc⟩ := ho
  have e : fs_dI dyn (some (j + 41)) 2 = x2 := by simp [fs_dI, fs_cell, hc]
  rw [e] at kk
  exact fs_getfield hd hf hc rfl kk
theorem fsg_P3 {idx : Nat} {r : Option Nat} (hd : decode M.2.1 pc = .ok (.getfield idx, 3)) (hf : fs_F M.1.cls idx 3 3) (ho : fs_okP dyn r) (kk : fsW G l M D mc ms k n Q (pc + 3) L (.inr (.inr (fs_dR dyn r 3)) :: st) (fs_mk ht I A J it dyn)) : fsW G l M D mc ms k n Q pc L (.inr (.inr r) :: st) (fs_mk ht I A J it dyn) := by
  obtain ⟨j, x0, x1, x2, x3, x4, x5, x6, rfl, hc⟩ := ho
  have e : fs_dR dyn (some (j + 41)) 3 = x3 := by simp [fs_dR, fs_cell, hc]
  rw [e] at kk
  exact fs_getfield hd hf hc rfl kk
theorem fsg_P4 {idx : Nat} {r : Option Nat} (hd : decode M.2.1 pc = .ok (.getfield idx, 3)) (hf : fs_F M.1.cls idx 3 4) (ho : fs_okP dyn r) (kk : fsW G l M D mc ms k n Q (pc + 3) L (.inr (.inr (fs_dR dyn r 4)) :: st) (fs_mk ht I A J it dyn)) : fsW G l M D mc ms k n Q pc L (.inr (.inr r) :: st) (fs_mk ht I A J it dyn) := by
  obtain ⟨j, x0, x1, x2, x3, x4, x5, x6, rfl, hc⟩ := ho
  have e : fs_dR dyn (some (j + 41)) 4 = x4 := by simp [fs_dR, fs_cell, hc]
  rw [e] at kk
  exact fs_getfield hd hf hc rfl kk
theorem fsg_P5 {idx : Nat} {r : Option Nat} (hd : decode M.2.1 pc = .ok (.getfield idx, 3)) (hf : fs_F M.1.cls idx 3 5) (ho : fs_okP dyn r) (kk : fsW G l M D mc ms k n Q (pc + 3) L (.inr (.inr (fs_dR dyn r 5)) :: st) (fs_mk ht I A J it dyn)) : fsW G l M D mc ms k n Q pc L (.inr (.inr r) :: st) (fs_mk ht I A J it dyn) := by
  obtain ⟨j, x0, x1, x2, x3, x4, x5, x6, rfl, hc⟩ := ho
  have e : fs_dR dyn (some (j + 41)) 5 = x5 := by simp [fs_dR, fs_cell, hc]
  rw [e] at kk
  exact fs_getfield hd hf hc rfl kk
theorem fsg_P6 {idx : Nat} {r : Option Nat} (hd : decode M.2.1 pc = .ok (.getfield idx, 3)) (hf : fs_F M.1.cls idx 3 6) (ho : fs_okP dyn r) (kk : fsW G l M D mc ms k n Q (pc + 3) L (.inl (fs_dI dyn r 6) :: st) (fs_mk ht I A J it dyn)) : fsW G l M D mc ms k n Q pc L (.inr (.inr r) :: st) (fs_mk ht I A J it dyn) := by
  obtain ⟨j, x0, x1, x2, x3, x4, x5, x6, rfl, hc⟩ := ho
  have e : fs_dI dyn (some (j + 41)) 6 = x6 := by simp [fs_dI, fs_cell, hc]
  rw [e] at kk
  exact fs_getfield hd hf hc rfl kk
theorem fsd_6 {idx : Nat} {r : Option Nat} {v : Int32} (hd : decode M.2.1 pc = .ok (.putfield idx, 3)) (hf : fs_FP M.1.cls idx 3 6 .int false) (ho : fs_okP dyn r) (kk : fsW G l M D mc ms k n Q (pc + 3) L st (fs_mk ht I A J it (fs_dset dyn r 6 (fsI v)))) : fsW G l M D mc ms k n Q pc L (.inl v :: .inr (.inr r) :: st) (fs_mk ht I A J it dyn) := by
  obtain ⟨j, x0, x1, x2, x3, x4, x5, x6, rfl, hc⟩ := ho
  have e : fs_dset dyn (some (j + 41)) 6 (fsI v) = dyn.set j (some (.inr (3, [fsI x0, fsJ x1, fsI x2, fsR x3, fsR x4, fsR x5, fsI x6].set 6 (fsI v)))) := by simp [fs_dset, fs_cell, hc]
  rw [e] at kk
  exact fs_putfield (fs := [fsI x0, fsJ x1, fsI x2, fsR x3, fsR x4, fsR x5, fsI x6]) hd hf hc rfl rfl (Nat.le_of_ble_eq_true rfl) kk
theorem fss_4' {i : Int32} {r : Option Nat} (hd : decode M.2.1 pc = .ok (.aastore, 1)) (ho : fs_okI dyn r) (hin : vp_in i 16) (kk : fsW G l M D mc ms k n Q (pc + 1) L st (fs_mk ht I A J (va_up it i.toNatClampNeg r) dyn)) : fsW G l M D mc ms k n Q pc L (.inr (.inr r) :: .inl i :: .inr (.inr (some 4)) :: st) (fs_mk ht I A J it dyn) := by
  obtain ⟨j, x0, x1, x2, x3, x4, rfl, hc⟩ := ho
  exact fss_4 hd hc hin kk
theorem fs_last (dyn : fsH) (c : Option fsC) (ht : Nat) (I : Nat → Int32) (A : Nat → Nat → Int32) (J : Nat → Nat → Int64) (it : Nat → Option Nat) : (fs_mk ht I A J it (dyn ++ [c]))[dyn.length + 41]? = some c := by
  rw [fs_mk_dyn, List.getElem?_append_right (Nat.le_refl _)]
  simp
theorem fs_lastset (dyn : fsH) (c c' : Option fsC) (ht : Nat) (I : Nat → Int32) (A : Nat → Nat → Int32) (J : Nat → Nat → Int64) (it : Nat → Option Nat) : (fs_mk ht I A J it (dyn ++ [c])).set (dyn.length + 41) c' = fs_mk ht I A J it (dyn ++ [c']) := by
  show fs_mk ht I A J it ((dyn ++ [c]).set dyn.length c') = _
  rw [List.set_append_right _ _ (Nat.le_refl _)]
  simp
/-- a final field of the cell just made -/
theorem fsq_F {idx ci kf : Nat} {fs : List fsV} {v : fsV} {ty : FieldType} (hd : decode M.2.1 pc = .ok (.putfield idx, 3)) (hf : fs_FP M.1.cls idx ci kf ty true) (hi : M.1.name = "<init>") (hn : narrow ty (fs_v G.1 v) = fs_v G.1 v) (hfit : fits ty (fs_v G.1 v) = true) (hl : kf < fs.length) (kk : fsW G l M D mc ms k n Q (pc + 3) L st (fs_mk ht I A J it (dyn ++ [some (.inr (ci, fs.set kf v))]))) : fsW G l M D mc ms k n Q pc L (v :: .inr (.inr (some (dyn.length + 41))) :: st) (fs_mk ht I A J it (dyn ++ [some (.inr (ci, fs))])) := by
  refine fs_putfinal hd hf hi (fs_last dyn _ ht I A J it) hn hfit hl ?_
  rw [fs_lastset]
  exact kk
theorem fsq_N {idx ci kf : Nat} {fs : List fsV} {v : fsV} {ty : FieldType} (hd : decode M.2.1 pc = .ok (.putfield idx, 3)) (hf : fs_FP M.1.cls idx ci kf ty false) (hn : narrow ty (fs_v G.1 v) = fs_v G.1 v) (hfit : fits ty (fs_v G.1 v) = true) (hl : kf < fs.length) (kk : fsW G l M D mc ms k n Q (pc + 3) L st (fs_mk ht I A J it (dyn ++ [some (.inr (ci, fs.set kf v))]))) : fsW G l M D mc ms k n Q pc L (v :: .inr (.inr (some (dyn.length + 41))) :: st) (fs_mk ht I A J it (dyn ++ [some (.inr (ci, fs))])) := by
  refine fs_putfield hd hf (fs_last dyn _ ht I A J it) hn hfit hl ?_
  rw [fs_lastset]
  exact kk
/-- a char -/
def fs_chr (x : Int32) : Prop := narrow .char (.int x) = .int x ∧ fits .char (.int x) = true
theorem fs_fitR (C : String) (b : Nat) (r : Option Nat) : narrow (.object C) (fs_v b (.inr (.inr r))) = fs_v b (.inr (.inr r)) ∧ fits (.object C) (fs_v b (.inr (.inr r))) = true := by cases r <;> exact ⟨rfl, rfl⟩
end FSK
