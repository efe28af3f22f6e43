/-! THE FORM, both sides -/
def pcellI (D : Nat) (q : aPart) (i : Int32) : Option fsC := some (.inr (3,
  if q.1 = 0 then [fsI 48, fsJ (lN q.2.2.2.2), fsI 0, fsR none, fsR none, fsR none, fsI i]
  else if q.1 = 1 then [fsI 97, fsJ 0, fsI (nI (cnm q.2.1)), fsR none, fsR none, fsR none, fsI i]
  else if q.1 = 2 then [fsI 35, fsJ 0, fsI (nI (cnm q.2.1)), fsR none, fsR none, fsR none, fsI i]
  else [fsI (nI q.1), fsJ 0, fsI 0, fsR (some (D + q.2.1 + 41)), fsR (some (D + q.2.2.1 + 41)), fsR (if q.1 = 63 then some (D + q.2.2.2.1 + 41) else none), fsI i]))
theorem pcellI_eq (D : Nat) (q : aPart) : pcell D q = pcellI D q (-1) := rfl
def kd (F : List aItem) (k : Nat) : Nat := match F[k]? with
  | some x => x.1
  | none => 3
def nmF (F : List aItem) (k : Nat) : Nat := match F[k]? with
  | some x => x.2.1
  | none => 0
def rp (F : List aItem) (k : Nat) : Nat := match F[k]? with
  | some x => x.2.2.1
  | none => 0
def wd (F : List aItem) (k : Nat) : Nat := match F[k]? with
  | some x => x.2.2.2.1
  | none => 0
def pl (F : List aItem) (k : Nat) : List aPart := match F[k]? with
  | some x => x.2.2.2.2
  | none => []
def rw1 (F : List aItem) (R k : Nat) : Nat := if k < F.length then (if rp F k = 0 then 1 else R) else 0
def frC (F : List aItem) (it : Nat → Option Nat) (dyn : fsH) : Prop := ∀ (k : Nat) (x : aItem), F[k]? = some x → ∃ r D : Nat, it k = some (r + 41) ∧ dyn[r]? = some (icell D x) ∧ ∀ (j : Nat) (q : aPart), x.2.2.2.2[j]? = some q → ∃ i : Int32, dyn[D + j]? = some (pcellI D q i)
def frM (F : List aItem) (A : Nat → Nat → Int32) (J : Nat → Nat → Int64) : Prop := ∀ (k : Nat) (x : aItem), F[k]? = some x → itM k A J x
def opS (s : Nat) : Prop := s = 43 ∨ s = 45 ∨ s = 42 ∨ s = 47 ∨ s = 60 ∨ s = 61
/-- a list of parts is a tree's, children ahead of their parent; P parts stand ahead of it -/
def PT : Nat → Nat → List aPart → Prop
  | 0, _, _ => False
  | n + 1, P, l => (∃ v : Nat, v < 10 ^ 9 ∧ l = [(0, 0, 0, 0, v)]) ∨ (∃ o nm : Nat, (o = 1 ∨ o = 2) ∧ 27 ≤ nm ∧ nm ≤ 728 ∧ l = [(o, nm, 0, 0, 0)]) ∨
    (∃ (s : Nat) (l1 l2 : List aPart), opS s ∧ PT n P l1 ∧ PT n (P + l1.length) l2 ∧ l = l1 ++ l2 ++ [(s, P + l1.length - 1, P + l1.length + l2.length - 1, 0, 0)]) ∨
    (∃ l1 l2 l3 : List aPart, PT n P l1 ∧ PT n (P + l1.length) l2 ∧ PT n (P + l1.length + l2.length) l3 ∧ l = l1 ++ l2 ++ l3 ++ [(63, P + l1.length - 1, P + l1.length + l2.length - 1, P + l1.length + l2.length + l3.length - 1, 0)])
def wfI (x : aItem) : Prop := x.1 ≤ 2 ∧ (x.1 = 0 → 27 ≤ x.2.1 ∧ x.2.1 ≤ 728) ∧ x.2.2.1 ≤ 1 ∧ (x.1 = 2 → x.2.2.1 = 0 ∧ x.2.2.2.2 = [] ∧ 1 ≤ x.2.2.2.1 ∧ x.2.2.2.1 ≤ 36) ∧ (x.1 = 1 → x.2.2.2.2 ≠ []) ∧ (x.2.2.2.2 = [] ∨ PT 7 0 x.2.2.2.2) ∧ x.2.2.2.2.length ≤ 31
def wfF (F : List aItem) : Prop := F.length ≤ 16 ∧ ∀ (k : Nat) (x : aItem), F[k]? = some x → wfI x
def CF (F : List aItem) (R : Nat) (I : Nat → Int32) (it : Nat → Option Nat) (dyn : fsH) : Prop := wfF F ∧ frC F it dyn ∧ I 4 = nI F.length ∧ I 5 = nI R ∧ R ≤ 4
def MF (F : List aItem) (R : Nat) (I : Nat → Int32) (A : Nat → Nat → Int32) (J : Nat → Nat → Int64) : Prop := wfF F ∧ frM F A J ∧ I 13 = nI F.length ∧ I 11 = nI R ∧ R ≤ 4
theorem cnm_lt {a : Nat} (h : 27 ≤ a ∧ a ≤ 728) : cnm a < 2 ^ 31 := by
  unfold cnm
  split <;> omega
theorem F_none {F : List aItem} {k : Nat} (h : F.length ≤ k) : F[k]? = none := List.getElem?_eq_none h
theorem F_lt {F : List aItem} {k : Nat} {x : aItem} (h : F[k]? = some x) : k < F.length := (List.getElem?_eq_some_iff.mp h).1
theorem F_some {F : List aItem} {k : Nat} (h : k < F.length) : ∃ x, F[k]? = some x := ⟨F[k], List.getElem?_eq_getElem h⟩
section FC
variable {ht : Nat} {F : List aItem} {R : Nat} {I : Nat → Int32} {A : Nat → Nat → Int32} {J : Nat → Nat → Int64} {it : Nat → Option Nat} {dyn : fsH}
theorem icell_ok {D r : Nat} {x : aItem} (h : dyn[r]? = some (icell D x)) : fs_okI dyn (some (r + 41)) ∧ fs_dI dyn (some (r + 41)) 0 = (if x.1 = 0 then 102 else if x.1 = 1 then 33 else 34) ∧ fs_dI dyn (some (r + 41)) 1 = (if x.1 = 0 then nI (cnm x.2.1) else 0) ∧ fs_dI dyn (some (r + 41)) 2 = nI x.2.2.1 ∧ fs_dR dyn (some (r + 41)) 3 = (if x.2.2.2.2 = [] then none else some (D + (x.2.2.2.2.length - 1) + 41)) ∧ fs_dI dyn (some (r + 41)) 4 = nI ((x.2.2.2.1 + 11) / 12) := by
  unfold icell at h
  refine ⟨⟨r, _, _, _, _, _, rfl, h⟩, ?_, ?_, ?_, ?_, ?_⟩ <;> simp [fs_dI, fs_dR, fs_cell, h]
theorem CF.at (h : CF F R I it dyn) {k : Nat} {x : aItem} (hx : F[k]? = some x) : ∃ D : Nat, fs_okI dyn (it k) ∧ fs_dI dyn (it k) 0 = (if x.1 = 0 then 102 else if x.1 = 1 then 33 else 34) ∧ fs_dI dyn (it k) 1 = (if x.1 = 0 then nI (cnm x.2.1) else 0) ∧ fs_dI dyn (it k) 2 = nI x.2.2.1 ∧ fs_dR dyn (it k) 3 = (if x.2.2.2.2 = [] then none else some (D + (x.2.2.2.2.length - 1) + 41)) ∧ fs_dI dyn (it k) 4 = nI ((x.2.2.2.1 + 11) / 12) ∧ wfI x ∧ k < 16 ∧ k < F.length ∧ ∀ (j : Nat) (q : aPart), x.2.2.2.2[j]? = some q → ∃ i : Int32, dyn[D + j]? = some (pcellI D q i) := by
  obtain ⟨r, D, e1, e2, e3⟩ := h.2.1 k x hx
  obtain ⟨a1, a2, a3, a4, a5, a6⟩ := icell_ok e2
  have hl := F_lt hx
  have hw := h.1.1
  rw [e1]
  exact ⟨D, a1, a2, a3, a4, a5, a6, h.1.2 k x hx, by omega, hl, e3⟩
theorem kind_C (h : CF F R I it dyn) {k : Nat} (hk : k < 2 ^ 31) : L_X1_isField_r ht I A J it dyn (nI k) = (if kd F k = 0 then 1 else 0) ∧ L_X1_isCheck_r ht I A J it dyn (nI k) = (if kd F k = 1 then 1 else 0) ∧ L_X1_isCaption_r ht I A J it dyn (nI k) = (if kd F k = 2 then 1 else 0) ∧ S_X1_isField ht I A J it dyn (nI k) ∧ S_X1_isCheck ht I A J it dyn (nI k) ∧ S_X1_isCaption ht I A J it dyn (nI k) := by
  have hl := h.1.1
  unfold L_X1_isField_r L_X1_isCheck_r L_X1_isCaption_r S_X1_isField S_X1_isCheck S_X1_isCaption L_X1_isOfKind_r S_X1_isOfKind kd
  have z0 : ¬ nI k < 0 := by rw [iL 0, nI_ltI hk (by omega)]; omega
  simp only [h.2.2.1, nI_clamp hk, if_neg z0]
  by_cases hf : k < F.length
  · obtain ⟨x, hx⟩ := F_some hf
    obtain ⟨D, a1, a2, a3, a4, a5, a6, w, k16, _, _⟩ := h.at hx
    have zl : ¬ nI F.length ≤ nI k := by rw [nI_leI (by omega) hk]; omega
    have hin : vp_in (nI k) 16 := nI_in (by omega) (by omega)
    simp only [hx, if_neg zl, a2]
    refine ⟨?_, ?_, ?_, fun _ _ => ⟨hin, a1⟩, fun _ _ => ⟨hin, a1⟩, fun _ _ => ⟨hin, a1⟩⟩
    · rcases (show x.1 = 0 ∨ x.1 = 1 ∨ x.1 = 2 by have := w.1; omega) with e | e | e <;> simp [e]
    · rcases (show x.1 = 0 ∨ x.1 = 1 ∨ x.1 = 2 by have := w.1; omega) with e | e | e <;> simp [e]
    · rcases (show x.1 = 0 ∨ x.1 = 1 ∨ x.1 = 2 by have := w.1; omega) with e | e | e <;> simp [e]
  · have zl : nI F.length ≤ nI k := by rw [nI_leI (by omega) hk]; omega
    simp only [F_none (Nat.le_of_not_lt hf), if_pos zl]
    exact ⟨rfl, rfl, rfl, fun _ h => absurd zl h, fun _ h => absurd zl h, fun _ h => absurd zl h⟩
theorem kind_C0 (x1 : Int32) (hx : x1 < 0) : L_X1_isField_r ht I A J it dyn x1 = 0 ∧ L_X1_isCheck_r ht I A J it dyn x1 = 0 ∧ L_X1_isCaption_r ht I A J it dyn x1 = 0 ∧ S_X1_isField ht I A J it dyn x1 ∧ S_X1_isCheck ht I A J it dyn x1 ∧ S_X1_isCaption ht I A J it dyn x1 ∧ L_X1_repeats_r ht I A J it dyn x1 = 0 ∧ S_X1_repeats ht I A J it dyn x1 ∧ L_X1_rowsOf_r ht I A J it dyn x1 = 0 ∧ S_X1_rowsOf ht I A J it dyn x1 := by
  unfold L_X1_isField_r L_X1_isCheck_r L_X1_isCaption_r S_X1_isField S_X1_isCheck S_X1_isCaption L_X1_isOfKind_r S_X1_isOfKind L_X1_repeats_r S_X1_repeats L_X1_rowsOf_r S_X1_rowsOf
  simp only [if_pos hx]
  exact ⟨trivial, trivial, trivial, fun h => absurd hx h, fun h => absurd hx h, fun h => absurd hx h, trivial, fun h => absurd hx h, trivial, fun h => absurd hx h⟩
theorem rep_C (h : CF F R I it dyn) {k : Nat} (hk : k < 2 ^ 31) : L_X1_repeats_r ht I A J it dyn (nI k) = nI (rp F k) ∧ S_X1_repeats ht I A J it dyn (nI k) ∧ L_X1_rowsOf_r ht I A J it dyn (nI k) = nI (rw1 F R k) ∧ S_X1_rowsOf ht I A J it dyn (nI k) ∧ rp F k ≤ 1 ∧ rw1 F R k ≤ 4 := by
  have hl := h.1.1
  have hR := h.2.2.2.2
  unfold L_X1_repeats_r S_X1_repeats L_X1_rowsOf_r S_X1_rowsOf rw1
  have z0 : ¬ nI k < 0 := by rw [iL 0, nI_ltI hk (by omega)]; omega
  simp only [h.2.2.1, h.2.2.2.1, nI_clamp hk, if_neg z0]
  by_cases hf : k < F.length
  · obtain ⟨x, hx⟩ := F_some hf
    obtain ⟨D, a1, a2, a3, a4, a5, a6, w, k16, _, _⟩ := h.at hx
    have zl : ¬ nI F.length ≤ nI k := by rw [nI_leI (by omega) hk]; omega
    have zl2 : nI k < nI F.length := by rw [nI_ltI hk (by omega)]; omega
    have hin : vp_in (nI k) 16 := nI_in (by omega) (by omega)
    have er : rp F k = x.2.2.1 := by unfold rp; rw [hx]
    simp only [er, if_neg zl, if_pos zl2, if_pos hf, a4]
    have w3 := w.2.2.1
    rcases (show x.2.2.1 = 0 ∨ x.2.2.1 = 1 by omega) with e | e
    · simp only [e]
      exact ⟨rfl, fun _ _ => ⟨hin, a1⟩, rfl, fun _ _ => ⟨hin, a1⟩, by omega, by simp⟩
    · simp only [e]
      exact ⟨rfl, fun _ _ => ⟨hin, a1⟩, rfl, fun _ _ => ⟨hin, a1⟩, by omega, by simpa using hR⟩
  · have zl : nI F.length ≤ nI k := by rw [nI_leI (by omega) hk]; omega
    have zl2 : ¬ nI k < nI F.length := by rw [nI_ltI hk (by omega)]; omega
    have er : rp F k = 0 := by unfold rp; rw [F_none (Nat.le_of_not_lt hf)]
    simp only [er, if_pos zl, if_neg zl2, if_neg hf]
    exact ⟨rfl, fun _ h => absurd zl h, rfl, fun _ h => absurd h zl2, by omega, by omega⟩
/-- first field of that name -/
def fld (F : List aItem) (nm : Nat) : Option Nat := F.findIdx? (fun x => decide (x.1 = 0 ∧ x.2.1 = nm))
def fnd (F : List aItem) (nm : Nat) : Nat → Nat → Int32
  | 0, _ => -1
  | n + 1, k => if kd F k = 0 ∧ nmF F k = nm then nI k else fnd F nm n (k + 1)
theorem fnd_C (h : CF F R I it dyn) {nm : Nat} (hnm : 27 ≤ nm ∧ nm ≤ 728) : ∀ (m n k : Nat), k + m = F.length → m < n → La_X1_fieldNamed_2_r n ht I A J it dyn (nI (cnm nm)) (nI k) = fnd F nm m k ∧ S_La_X1_fieldNamed_2 n ht I A J it dyn (nI (cnm nm)) (nI k) := by
  have hl := h.1.1
  intro m
  induction m with
  | zero =>
    intro n k hm hn
    obtain ⟨n, rfl⟩ : ∃ n', n = n' + 1 := ⟨n - 1, by omega⟩
    have zl : nI F.length ≤ nI k := by rw [nI_leI (by omega) (by omega)]; omega
    simp only [La_X1_fieldNamed_2_r, S_La_X1_fieldNamed_2, h.2.2.1, if_pos zl, fnd]
    exact ⟨trivial, fun h => absurd zl h⟩
  | succ m ih =>
    intro n k hm hn
    obtain ⟨n, rfl⟩ : ∃ n', n = n' + 1 := ⟨n - 1, by omega⟩
    have zl : ¬ nI F.length ≤ nI k := by rw [nI_leI (by omega) (by omega)]; omega
    obtain ⟨i1, i2⟩ := ih n (k + 1) (by omega) (by omega)
    have kk : k < 2 ^ 31 := by omega
    obtain ⟨f1, _, _, f4, _, _⟩ := kind_C (ht := ht) (A := A) (J := J) h kk
    obtain ⟨x, hx⟩ := F_some (F := F) (k := k) (by omega)
    obtain ⟨D, a1, a2, a3, a4, a5, a6, w, k16, _, _⟩ := h.at hx
    have e1 : kd F k = x.1 := by unfold kd; rw [hx]
    have e2 : nmF F k = x.2.1 := by unfold nmF; rw [hx]
    have hin : vp_in (nI k) 16 := nI_in (by omega) (by omega)
    simp only [La_X1_fieldNamed_2_r, S_La_X1_fieldNamed_2, h.2.2.1, if_neg zl, f1, nI_clamp kk, nI_1, i1, fnd, e1, e2, a3]
    by_cases h0 : x.1 = 0
    · have hn2 := w.2.1 h0
      have ec : (nI (cnm x.2.1) = nI (cnm nm)) ↔ x.2.1 = nm := by
        rw [nI_eq (cnm_lt hn2) (cnm_lt hnm), cnm_inj hn2 hnm]
      simp only [if_true, show ¬ (1 : Int32) = 0 by decide, if_false, ec, h0, true_and]
      exact fun _ => ⟨f4, fun h => h.elim, fun _ => ⟨hin, a1, fun _ => i2⟩⟩
    · simp only [if_neg h0, if_true, h0, false_and, if_false]
      exact ⟨trivial, fun _ => ⟨f4, fun _ => i2, fun h => absurd trivial h⟩⟩
theorem fieldNamed_C (h : CF F R I it dyn) {nm : Nat} (hnm : 27 ≤ nm ∧ nm ≤ 728) : L_X1_fieldNamed_r ht I A J it dyn (nI (cnm nm)) = fnd F nm F.length 0 ∧ S_X1_fieldNamed ht I A J it dyn (nI (cnm nm)) :=
  fnd_C h hnm F.length 70 0 (by omega) (by have := h.1.1; omega)
theorem fnd_M {m0 : Nat} (hM : ∀ (k : Nat) (x : aItem), F[k]? = some x → A 16 k = nI x.1 ∧ (x.1 = 0 → A 17 k = nI x.2.1)) (hw : wfF F) (hm0 : m0 = F.length) {nm : Nat} (hnm : 27 ≤ nm ∧ nm ≤ 728) : ∀ (m n k : Nat), k + m = m0 → m < n → La_X8_find_2_r n ht I A J it dyn (nI nm) (nI m0) (nI k) = fnd F nm m k ∧ S_La_X8_find_2 n ht I A J it dyn (nI nm) (nI m0) (nI k) := by
  have hl := hw.1
  intro m
  induction m with
  | zero =>
    intro n k hm hn
    obtain ⟨n, rfl⟩ : ∃ n', n = n' + 1 := ⟨n - 1, by omega⟩
    have zl : nI m0 ≤ nI k := by rw [nI_leI (by omega) (by omega)]; omega
    simp only [La_X8_find_2_r, S_La_X8_find_2, if_pos zl, fnd]
    exact ⟨trivial, fun h => absurd zl h⟩
  | succ m ih =>
    intro n k hm hn
    obtain ⟨n, rfl⟩ : ∃ n', n = n' + 1 := ⟨n - 1, by omega⟩
    have zl : ¬ nI m0 ≤ nI k := by rw [nI_leI (by omega) (by omega)]; omega
    obtain ⟨i1, i2⟩ := ih n (k + 1) (by omega) (by omega)
    have kk : k < 2 ^ 31 := by omega
    obtain ⟨x, hx⟩ := F_some (F := F) (k := k) (by omega)
    obtain ⟨b1, b2⟩ := hM k x hx
    have w := hw.2 k x hx
    have e1 : kd F k = x.1 := by unfold kd; rw [hx]
    have e2 : nmF F k = x.2.1 := by unfold nmF; rw [hx]
    have hin : vp_in (nI k) 17 := nI_in (by omega) (by omega)
    have z0 : (nI x.1 = 0) ↔ x.1 = 0 := by have := w.1; rw [iL 0, nI_eq (by omega) (by omega)]
    simp only [La_X8_find_2_r, S_La_X8_find_2, if_neg zl, nI_clamp kk, nI_1, i1, fnd, e1, e2, b1, z0]
    by_cases h0 : x.1 = 0
    · have hn2 := w.2.1 h0
      have ec : (nI x.2.1 = nI nm) ↔ x.2.1 = nm := by rw [nI_eq (by omega) (by omega)]
      simp only [if_true, b2 h0, ec, h0, true_and]
      exact fun _ => ⟨hin, fun _ => ⟨hin, fun _ => i2⟩, fun h => absurd trivial h⟩
    · simp only [if_neg h0, h0, false_and, if_false]
      exact ⟨trivial, fun _ => ⟨hin, fun h => absurd h (by simp), fun _ => i2⟩⟩
theorem find_M (h : MF F R I A J) {nm : Nat} (hnm : 27 ≤ nm ∧ nm ≤ 728) {m0 : Nat} (hm : m0 = F.length) : L_X8_find_r ht I A J it dyn (nI nm) (nI m0) = fnd F nm F.length 0 ∧ S_X8_find ht I A J it dyn (nI nm) (nI m0) := by
  subst hm
  exact fnd_M (fun k x hx => ⟨(h.2.1 k x hx).1, (h.2.1 k x hx).2.1⟩) h.1 rfl hnm F.length 70 0 (by omega) (by have := h.1.1; omega)
theorem fnd_b {nm : Nat} : ∀ (m k : Nat), (fnd F nm m k = -1 ∧ ∀ j : Nat, k ≤ j → j < k + m → ¬ (kd F j = 0 ∧ nmF F j = nm)) ∨ ∃ j : Nat, k ≤ j ∧ j < k + m ∧ kd F j = 0 ∧ nmF F j = nm ∧ fnd F nm m k = nI j := by
  intro m
  induction m with
  | zero => intro k; exact Or.inl ⟨rfl, fun j _ _ => by omega⟩
  | succ m ih =>
    intro k
    unfold fnd
    by_cases h : kd F k = 0 ∧ nmF F k = nm
    · rw [if_pos h]
      exact Or.inr ⟨k, by omega, by omega, h.1, h.2, rfl⟩
    · rw [if_neg h]
      rcases ih (k + 1) with ⟨e, h2⟩ | ⟨j, a, b, c, d, e⟩
      · refine Or.inl ⟨e, fun j a b => ?_⟩
        by_cases ek : j = k
        · subst ek; exact h
        · exact h2 j (by omega) (by omega)
      · exact Or.inr ⟨j, by omega, by omega, c, d, e⟩
end FC
