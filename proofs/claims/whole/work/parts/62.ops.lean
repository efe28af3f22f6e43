/-! THE INVARIANT, and the calls that leave a closed form as it is -/
def cl (F : List aItem) (R ht : Nat) (I : Nat → Int32) (A : Nat → Nat → Int32) (J : Nat → Nat → Int64) : Prop :=
  (∃ os, lnk F R os I A J) ∧ (∀ u : Nat, wkC F R u → fit F R (J 6) u) ∧ (∀ v : Nat, v < 64 → isf F R v → OC (J 6 v) (J 30 v) (A 31 v)) ∧ (∀ v : Nat, v < 64 → ¬ isf F R v → A 31 v = 0 ∧ J 30 v = 0) ∧ chk F R (J 6) A J ∧ LC ht (lyF ht F R (J 6)) I A ∧ LM ht (lyF ht F R (J 6)) I A ∧ MS (mall F R (J 6) F.length 0) I A ∧ (mall F R (J 6) F.length 0).length ≤ 64 ∧ inv ht 64 (lyF ht F R (J 6)) ∧ ∀ v : Nat, v < 64 → isf F R v → pl F (v / 4) = [] → J 6 v = J 30 v ∧ -1000000000000000 ≤ (J 30 v).toInt ∧ (J 30 v).toInt ≤ 1000000000000000
theorem cl.cg {F : List aItem} {R ht : Nat} {I I' : Nat → Int32} {A A' : Nat → Nat → Int32} {J J' : Nat → Nat → Int64} (h : cl F R ht I A J) (hI : ∀ q : Nat, q = 6 ∨ q = 7 ∨ (16 ≤ q ∧ q ≤ 19) → I' q = I q) (hA : ∀ m : Nat, m = 8 ∨ m = 10 ∨ m = 11 ∨ m = 13 ∨ m = 31 ∨ (37 ≤ m ∧ m ≤ 39) → A' m = A m) (hJ : ∀ m : Nat, m = 6 ∨ m = 7 ∨ m = 30 → J' m = J m) : cl F R ht I' A' J' := by
  obtain ⟨⟨os, l1, l2, l3, l4, l5⟩, h2, h3, h4, h5, h6, h7, h8, h9, h10, h11⟩ := h
  have j6 := hJ 6 (by omega)
  have j30 := hJ 30 (by omega)
  have a31 := hA 31 (by omega)
  have a38 := hA 38 (by omega)
  have a39 := hA 39 (by omega)
  refine ⟨⟨os, fun v hv u => by rw [hJ 7 (by omega)]; exact l1 v hv u, by rw [hI 6 (by omega)]; exact l2, fun i v hv => by rw [hA 8 (by omega)]; exact l3 i v hv, l4, l5⟩, by rw [j6]; exact h2, fun v a b => by rw [j6, j30, a31]; exact h3 v a b, fun v a b => by rw [j30, a31]; exact h4 v a b, by rw [j6]; exact h5.cg a31 j30, ?_, ?_, ?_, by rw [j6]; exact h9, by rw [j6]; exact h10, by rw [j6, j30]; exact h11⟩
  · rw [j6]
    exact ⟨by rw [hI 7 (by omega)]; exact h6.1, h6.2.1, by rw [hA 10 (by omega)]; exact h6.2.2.1, by rw [hA 11 (by omega)]; exact h6.2.2.2.1, by rw [hA 13 (by omega)]; exact h6.2.2.2.2⟩
  · rw [j6]
    exact ⟨by rw [hI 17 (by omega)]; exact h7.1, h7.2.1, by rw [hI 18 (by omega)]; exact h7.2.2.1, by rw [hI 19 (by omega)]; exact h7.2.2.2.1, by rw [a38]; exact h7.2.2.2.2.1, by rw [a39]; exact h7.2.2.2.2.2⟩
  · rw [j6]
    exact ⟨by rw [hI 16 (by omega)]; exact h8.1, by rw [hA 37 (by omega)]; exact h8.2⟩
/-- what holds between the calls -/
def VV (ht : Nat) : fzV := fun I A J it dyn => ∃ (t : List Nat) (F : List aItem) (R c : Nat), c ≤ 1 ∧ txR 2 2 I A t ∧ txR 9 15 I A t ∧ I 0 = I 10 ∧ I 1 = nI c ∧ I 12 = nI c ∧ CF F R I it dyn ∧ MF F R I A J ∧ (∀ u : Nat, okO (J 6 u)) ∧ (c = 0 → R = 1 ∧ ∀ q : Nat, q < 64 → J 30 q = 0) ∧ (c = 1 → nmOK F ∧ rsC F it dyn ∧ cl F R ht I A J)
theorem CF.ic {F : List aItem} {R : Nat} {I I' : Nat → Int32} {it : Nat → Option Nat} {dyn : fsH} (h : CF F R I it dyn) (h4 : I' 4 = I 4) (h5 : I' 5 = I 5) : CF F R I' it dyn := ⟨h.1, h.2.1, by rw [h4]; exact h.2.2.1, by rw [h5]; exact h.2.2.2.1, h.2.2.2.2⟩
theorem VV.cg {ht : Nat} {I I' : Nat → Int32} {A A' : Nat → Nat → Int32} {J J' : Nat → Nat → Int64} {it : Nat → Option Nat} {dyn : fsH} (h : VV ht I A J it dyn) (hI : ∀ q : Nat, q ≠ 8 → I' q = I q) (hA : ∀ m : Nat, m ≠ 36 → A' m = A m) (hJ : ∀ m : Nat, m ≠ 35 → m ≠ 40 → J' m = J m) : VV ht I' A' J' it dyn := by
  obtain ⟨t, F, R, c, h1, h2, h3, h4, h5, h6, h7, h8, h9, h10, h11⟩ := h
  refine ⟨t, F, R, c, h1, h2.get (hI 2 (by decide)) (hA 2 (by decide)), h3.get (hI 9 (by decide)) (hA 15 (by decide)), by rw [hI 0 (by decide), hI 10 (by decide)]; exact h4, by rw [hI 1 (by decide)]; exact h5, by rw [hI 12 (by decide)]; exact h6, h7.ic (hI 4 (by decide)) (hI 5 (by decide)), h8.cg (fun n a b => hA n (by omega)) (hJ 25 (by decide) (by decide)) (hI 13 (by decide)) (hI 11 (by decide)), fun u => by rw [hJ 6 (by decide) (by decide)]; exact h9 u, fun e => ⟨(h10 e).1, fun q hq => by rw [hJ 30 (by decide) (by decide)]; exact (h10 e).2 q hq⟩, fun e => ⟨(h11 e).1, (h11 e).2.1, (h11 e).2.2.cg (fun q hq => hI q (by omega)) (fun m hm => hA m (by omega)) (fun m hm => hJ m (by omega) (by omega))⟩⟩
theorem VV.i8 {ht : Nat} {I : Nat → Int32} {A : Nat → Nat → Int32} {J : Nat → Nat → Int64} {it : Nat → Option Nat} {dyn : fsH} (h : VV ht I A J it dyn) (x : Int32) : VV ht (upd I 8 x) A J it dyn := h.cg (fun q hq => upd_n _ _ hq) (fun _ _ => rfl) (fun _ _ _ => rfl)
theorem VV_0 (ht : Nat) : VV ht fz_I0 fz_A0 fz_J0 fz_it0 [] := by
  refine ⟨[], [], 1, 0, by decide, ⟨rfl, by decide, fun j hj => by simp at hj, fun c hc => by simp at hc⟩, ⟨rfl, by decide, fun j hj => by simp at hj, fun c hc => by simp at hc⟩, rfl, rfl, rfl, ⟨⟨by decide, fun k x hx => by simp at hx⟩, fun k x hx => by simp at hx, rfl, rfl, by decide⟩, ⟨⟨by decide, fun k x hx => by simp at hx⟩, fun k x hx => by simp at hx, rfl, rfl, by decide⟩, fun u => okO_0, fun _ => ⟨rfl, fun q _ => rfl⟩, fun e => by cases e⟩
theorem op_write (ht : Nat) : fzO_write ht (VV ht) := by
  intro I A J it dyn x h
  obtain ⟨t, F, R, c, h1, h2, h3, h4, h5, h6, h7, h8, h9, h10, h11⟩ := h
  obtain ⟨w1, w2, w3, w4, w5⟩ := write_C (ht := ht) (J := J) (it := it) (dyn := dyn) (w := x) h2
  have h3' : txR 9 15 (L_X7_write_I ht I A J it dyn x) (L_X7_write_A ht I A J it dyn x) t := h3.get (w4 9 (by decide)) (w5 15 (by decide))
  obtain ⟨m1, m2, m3, m4, m5⟩ := write_M (ht := ht) (J := J) (it := it) (dyn := dyn) (w := x) h3'
  have hI : ∀ q : Nat, q ≠ 2 → q ≠ 8 → q ≠ 9 → (L_X8_write_I ht (L_X7_write_I ht I A J it dyn x) (L_X7_write_A ht I A J it dyn x) J it dyn x) q = I q := fun q a b e => by rw [m4 q e, upd_n _ _ b, w4 q a]
  have hA : ∀ m : Nat, m ≠ 2 → m ≠ 15 → (L_X8_write_A ht (L_X7_write_I ht I A J it dyn x) (L_X7_write_A ht I A J it dyn x) J it dyn x) m = A m := fun m a b => by rw [m5 m b, w5 m a]
  refine ⟨w1, m1, by rw [w2, m2], ?_⟩
  refine ⟨_, F, R, c, h1, w3.get (by rw [m4 2 (by decide), upd_n _ _ (by decide)]) (m5 2 (by decide)), m3, by rw [hI 0 (by decide) (by decide) (by decide), hI 10 (by decide) (by decide) (by decide)]; exact h4, by rw [hI 1 (by decide) (by decide) (by decide)]; exact h5, by rw [hI 12 (by decide) (by decide) (by decide)]; exact h6, h7.ic (hI 4 (by decide) (by decide) (by decide)) (hI 5 (by decide) (by decide) (by decide)), h8.cg (fun n a b => hA n (by omega) (by omega)) rfl (hI 13 (by decide) (by decide) (by decide)) (hI 11 (by decide) (by decide) (by decide)), h9, h10, fun e => ⟨(h11 e).1, (h11 e).2.1, (h11 e).2.2.cg (fun q hq => hI q (by omega) (by omega) (by omega)) (fun m hm => hA m (by omega) (by omega)) (fun _ _ => rfl)⟩⟩
theorem op_position (ht : Nat) : fzO_position ht (VV ht) := by
  intro I A J it dyn h
  refine ⟨?_, h.i8 0⟩
  obtain ⟨t, F, R, c, h1, h2, h3, h4, _⟩ := h
  exact h4
theorem rsC.ap {F : List aItem} {it : Nat → Option Nat} {dyn : fsH} (h : rsC F it dyn) (e : fsH) : rsC F it (dyn ++ e) := by
  intro k x hx
  obtain ⟨r, D, h1, h2, h3⟩ := h k x hx
  have g : ∀ (i : Nat) (y : Option fsC), dyn[i]? = some y → (dyn ++ e)[i]? = some y := by
    intro i y hi
    rw [List.getElem?_append_left (List.getElem?_eq_some_iff.mp hi).1]
    exact hi
  exact ⟨r, D, h1, g _ _ h2, fun j q hj => by obtain ⟨i, hi, hi2⟩ := h3 j q hj; exact ⟨i, g _ _ hi, hi2⟩⟩
def addI (I I2 : Nat → Int32) : Prop := ∀ q : Nat, q ≠ 0 → q ≠ 2 → q ≠ 3 → q ≠ 4 → q ≠ 8 → q ≠ 9 → q ≠ 10 → q ≠ 13 → q ≠ 14 → q ≠ 15 → I2 q = I q
theorem addI.g {I I2 : Nat → Int32} (h : addI I I2) (q : Nat) (hq : q ∉ [0, 2, 3, 4, 8, 9, 10, 13, 14, 15]) : I2 q = I q := by
  simp at hq
  exact h q hq.1 hq.2.1 hq.2.2.1 hq.2.2.2.1 hq.2.2.2.2.1 hq.2.2.2.2.2.1 hq.2.2.2.2.2.2.1 hq.2.2.2.2.2.2.2.1 hq.2.2.2.2.2.2.2.2.1 hq.2.2.2.2.2.2.2.2.2
theorem VV_same {ht : Nat} {F : List aItem} {R c : Nat} {I I2 : Nat → Int32} {A A2 : Nat → Nat → Int32} {J J2 : Nat → Nat → Int64} {it : Nat → Option Nat} {dyn : fsH} (e : fsH) (h1 : c ≤ 1) (h5 : I 1 = nI c) (h6 : I 12 = nI c) (h7 : CF F R I it dyn) (h8 : MF F R I A J) (h9 : ∀ u : Nat, okO (J 6 u)) (h10 : c = 0 → R = 1 ∧ ∀ q : Nat, q < 64 → J 30 q = 0) (h11 : c = 1 → nmOK F ∧ rsC F it dyn ∧ cl F R ht I A J)
    (i0 : I2 0 = I2 10) (i2 : I2 2 = 0) (i9 : I2 9 = 0) (i4 : I2 4 = I 4) (i13 : I2 13 = nI F.length) (hI : addI I I2) (b7 : ∀ n : Nat, n < 16 ∨ n = 25 ∨ 29 < n → A2 n = A n) (b8 : frM F A2 J2) (b9 : ∀ m : Nat, m ≠ 25 → m ≠ 30 → m ≠ 40 → J2 m = J m) (b10 : c = 0 → ∀ q : Nat, q < 64 → J2 30 q = 0) (b11 : c = 1 → J2 30 = J 30) : VV ht I2 A2 J2 it (dyn ++ e) := by
  refine ⟨[], F, R, c, h1, ⟨by rw [i2]; rfl, by decide, fun i hi => by simp at hi, fun c hc => by simp at hc⟩, ⟨by rw [i9]; rfl, by decide, fun i hi => by simp at hi, fun c hc => by simp at hc⟩, i0, by rw [hI.g 1 (by decide)]; exact h5, by rw [hI.g 12 (by decide)]; exact h6, h7.cg i4 (hI.g 5 (by decide)) e, ⟨h8.1, b8, i13, by rw [hI.g 11 (by decide)]; exact h8.2.2.2.1, h8.2.2.2.2⟩, fun u => by rw [b9 6 (by decide) (by decide) (by decide)]; exact h9 u, fun e => ⟨(h10 e).1, b10 e⟩, fun e => ⟨(h11 e).1, (h11 e).2.1.ap _, (h11 e).2.2.cg (fun q hq => hI q (by omega) (by omega) (by omega) (by omega) (by omega) (by omega) (by omega) (by omega) (by omega) (by omega)) (fun m hm => b7 m (by omega)) (fun m hm => ?_)⟩⟩
  by_cases e2 : m = 30
  · subst e2; exact b11 e
  · exact b9 m (by omega) e2 (by omega)
theorem VV_new {ht : Nat} {F : List aItem} {R c : Nat} {I I2 : Nat → Int32} {A A2 : Nat → Nat → Int32} {J J2 : Nat → Nat → Int64} {it it1 : Nat → Option Nat} {dyn : fsH} {x : aItem} (e : fsH) (h1 : c = 0) (h5 : I 1 = nI c) (h6 : I 12 = nI c) (h7 : CF F R I it dyn) (h8 : MF F R I A J) (h9 : ∀ u : Nat, okO (J 6 u)) (h10 : c = 0 → R = 1 ∧ ∀ q : Nat, q < 64 → J 30 q = 0) (hx : wfI x) (hF : F.length < 16)
    (i0 : I2 0 = I2 10) (i2 : I2 2 = 0) (i9 : I2 9 = 0) (i4 : I2 4 = nI (F.length + 1)) (i13 : I2 13 = nI (F.length + 1)) (hI : addI I I2) (b8 : frM F A2 J2) (b8x : itM F.length A2 J2 x) (b9 : ∀ m : Nat, m ≠ 25 → m ≠ 30 → m ≠ 40 → J2 m = J m) (b10 : c = 0 → ∀ q : Nat, q < 64 → J2 30 q = 0)
    (k4 : it1 = va_up it F.length (some (dyn.length + x.2.2.2.2.length + 41))) (hc : ∃ e2, e = x.2.2.2.2.map (pcell dyn.length) ++ icell dyn.length x :: e2) : VV ht I2 A2 J2 it1 (dyn ++ e) := by
  have hwf : wfF (F ++ [x]) := ⟨by simp; omega, fun k y hy => by
    by_cases e : k < F.length
    · rw [List.getElem?_append_left e] at hy; exact h7.1.2 k y hy
    · have hk : k = F.length := by
        have := (List.getElem?_eq_some_iff.mp hy).1
        simp at this; omega
      subst hk
      rw [List.getElem?_append_right (Nat.le_refl _)] at hy
      simp at hy
      subst hy
      exact hx⟩
  refine ⟨[], F ++ [x], R, c, by omega, ⟨by rw [i2]; rfl, by decide, fun i hi => by simp at hi, fun c hc => by simp at hc⟩, ⟨by rw [i9]; rfl, by decide, fun i hi => by simp at hi, fun c hc => by simp at hc⟩, i0, by rw [hI.g 1 (by decide)]; exact h5, by rw [hI.g 12 (by decide)]; exact h6, ⟨hwf, ?_, by rw [i4]; simp, by rw [hI.g 5 (by decide)]; exact h7.2.2.2.1, h7.2.2.2.2⟩, ⟨hwf, ?_, by rw [i13]; simp, by rw [hI.g 11 (by decide)]; exact h8.2.2.2.1, h8.2.2.2.2⟩, fun u => by rw [b9 6 (by decide) (by decide) (by decide)]; exact h9 u, fun e => ⟨(h10 e).1, b10 e⟩, fun e => by omega⟩
  · intro k y hy
    rw [k4]
    by_cases e1 : k < F.length
    · rw [List.getElem?_append_left e1] at hy
      obtain ⟨r, D, f1, f2, f3⟩ := (h7.2.1.ap e) k y hy
      refine ⟨r, D, ?_, f2, f3⟩
      have : k ≠ F.length := by omega
      simp [va_up, this]
      exact f1
    · have hk : k = F.length := by
        have := (List.getElem?_eq_some_iff.mp hy).1
        simp at this; omega
      subst hk
      rw [List.getElem?_append_right (Nat.le_refl _)] at hy
      simp at hy
      subst hy
      obtain ⟨e2, he2⟩ := hc
      refine ⟨dyn.length + x.2.2.2.2.length, dyn.length, by simp [va_up], ?_, fun i q hq => ⟨-1, ?_⟩⟩
      · rw [he2, List.getElem?_append_right (by omega), List.getElem?_append_right (by simp)]
        simp
      · have hql := (List.getElem?_eq_some_iff.mp hq).1
        rw [he2, List.getElem?_append_right (by omega), List.getElem?_append_left (by simp; omega)]
        rw [show dyn.length + i - dyn.length = i by omega, List.getElem?_map, hq]
        rfl
  · intro k y hy
    by_cases e : k < F.length
    · rw [List.getElem?_append_left e] at hy; exact b8 k y hy
    · have hk : k = F.length := by
        have := (List.getElem?_eq_some_iff.mp hy).1
        simp at this; omega
      subst hk
      rw [List.getElem?_append_right (Nat.le_refl _)] at hy
      simp at hy
      subst hy
      exact b8x
theorem op_add (ht : Nat) : fzO_add ht (VV ht) := by
  intro I A J it dyn h
  obtain ⟨t, F, R, c, h1, h2, h3, h4, h5, h6, h7, h8, h9, h10, h11⟩ := h
  have hl := h7.1.1
  obtain ⟨a1, a2, a3, a4, a5⟩ := add_C (ht := ht) (J := J) h2 h7 h1 h5
  refine ⟨a1, fun j => ?_⟩
  rw [a5]
  clear a1 a5
  generalize L_X7_add_I ht I A J it dyn = I1 at *
  generalize L_X7_add_k ht I A J it dyn = kk at *
  generalize L_X7_add_r ht I A J it dyn = rr at *
  generalize L_X7_add_it ht I A J it dyn = it1 at *
  have hI : ∀ q : Nat, q ≠ 0 → q ≠ 2 → q ≠ 3 → q ≠ 4 → I1 q = I q := by
    intro q b1 b2 b3 b4
    by_cases hr : rdOK t
    · obtain ⟨⟨x, hx⟩, he⟩ := hr
      by_cases hc : c = 0 ∧ canT F x
      · rw [(a4 x hx he hc.1 hc.2).2.2.1, upd_n _ _ b4, upd_n _ _ b1, upd_n _ _ b2, upd_n _ _ b3]
      · rw [(a3 x hx he hc).2.1, upd_n _ _ b1, upd_n _ _ b2, upd_n _ _ b3]
    · rw [(a2 hr).2.1, upd_n _ _ b1, upd_n _ _ b2, upd_n _ _ b3]
  have hJ1 : ∀ m : Nat, m ≠ 40 → (if kk = 0 then va_up J 40 (vp_updL (J 40) 0 rr.toInt64) else J) m = J m := by
    intro m hm
    split
    · simp [va_up, hm]
    · rfl
  generalize hJ1d : (if kk = 0 then va_up J 40 (vp_updL (J 40) 0 rr.toInt64) else J) = J1 at *
  have h3' : txR 9 15 I1 A t := h3.get (hI 9 (by decide) (by decide) (by decide) (by decide)) rfl
  have h8' : MF F R I1 A J1 := h8.cg (fun _ _ _ => rfl) (hJ1 25 (by decide)) (hI 13 (by decide) (by decide) (by decide) (by decide)) (hI 11 (by decide) (by decide) (by decide) (by decide))
  have hdy : dyn ++ (rd t).2.2.map (pcell dyn.length) ++ icL dyn.length (rd t).1 ++ List.replicate j none = dyn ++ ((rd t).2.2.map (pcell dyn.length) ++ icL dyn.length (rd t).1 ++ List.replicate j none) := by simp
  rw [hdy]
  generalize he : (rd t).2.2.map (pcell dyn.length) ++ icL dyn.length (rd t).1 ++ List.replicate j none = e
  obtain ⟨b1, b2, b3, b4, b5, b6, b7, b8, b9, b10, b11⟩ := add_M (ht := ht) (it := it1) (dyn := dyn ++ e) (J := J1) h3' h8' h1 (by rw [hI 12 (by decide) (by decide) (by decide) (by decide)]; exact h6) (fun e q hq => by rw [hJ1 30 (by decide)]; exact (h10 e).2 q hq)
  refine ⟨b1, ?_⟩
  clear b1
  unfold L_X8_thrown_r
  generalize L_X8_add_I ht I1 A J1 it1 (dyn ++ e) = I2 at *
  generalize L_X8_add_A ht I1 A J1 it1 (dyn ++ e) = A2 at *
  generalize L_X8_add_J ht I1 A J1 it1 (dyn ++ e) = J2 at *
  generalize L_X8_add_r ht I1 A J1 it1 (dyn ++ e) = r2 at *
  have hI2 : addI I I2 := fun q c0 c2 c3 c4 c8 c9 c10 c13 c14 c15 => by rw [b6 q c8 c9 c10 c13 c14 c15, hI q c0 c2 c3 c4]
  have hx2 : ∀ q : Nat, q = 0 ∨ q = 2 ∨ q = 3 ∨ q = 4 → I2 q = I1 q := fun q hq => b6 q (by omega) (by omega) (by omega) (by omega) (by omega) (by omega)
  have hJ2 : ∀ m : Nat, m ≠ 25 → m ≠ 30 → m ≠ 40 → J2 m = J m := fun m x1 x2 x3 => by rw [b9 m x1 x2, hJ1 m x3]
  have h40 : J2 40 = J1 40 := b9 40 (by decide) (by decide)
  have same : it1 = it → I1 4 = I 4 → I1 2 = 0 → I1 0 = I2 10 → I2 13 = nI F.length → VV ht I2 A2 J2 it1 (dyn ++ e) := by
    intro e1 e2 e3 e4 e5
    subst e1
    exact VV_same e h1 h5 h6 h7 h8 h9 h10 h11 (by rw [hx2 0 (by omega)]; exact e4) (by rw [hx2 2 (by omega)]; exact e3) b5 (by rw [hx2 4 (by omega)]; exact e2) e5 hI2 b7 b8 hJ2 b10 (fun h => by rw [b11 h, hJ1 30 (by decide)])
  by_cases hr : rdOK t
  · obtain ⟨⟨x, hx⟩, hle⟩ := hr
    by_cases hc : c = 0 ∧ canT F x
    · obtain ⟨k1, k2, k3, k4⟩ := a4 x hx hle hc.1 hc.2
      obtain ⟨m1, m2, m3, m4, m5⟩ := b4 x hx hle hc.1 hc.2
      obtain ⟨w, hp⟩ := rd_wf h2.2.1 hx
      refine ⟨by rw [m1, k1], fun _ => ?_, ?_⟩
      · rw [h40, ← hJ1d, if_pos k1, m4, k2]
        simp [va_up, vp_updL]
      · rw [hp] at k4 he
        rw [hx] at he
        exact VV_new e hc.1 h5 h6 h7 h8 h9 h10 w hc.2.1 (by rw [hx2 0 (by omega), k3, m2]; simp [upd]) (by rw [hx2 2 (by omega), k3]; simp [upd]) b5 (by rw [hx2 4 (by omega), k3]; simp [upd]) m3 hI2 b8 m5 hJ2 b10 k4 ⟨List.replicate j none, by rw [← he]; simp [icL]⟩
    · obtain ⟨k1, k2, k3⟩ := a3 x hx hle hc
      obtain ⟨m1, m2, m3⟩ := b3 x hx hle hc
      exact ⟨by rw [m1, k1], fun e => by rw [k1] at e; exact absurd e (by decide), same k3 (by rw [k2]; simp [upd]) (by rw [k2]; simp [upd]) (by rw [m2, k2]; simp [upd]) m3⟩
  · obtain ⟨k1, k2, k3⟩ := a2 hr
    obtain ⟨m1, m2, m3⟩ := b2 hr
    exact ⟨by rw [m1, k1], fun e => by rw [k1] at e; exact absurd e (by decide), same k3 (by rw [k2]; simp [upd]) (by rw [k2]; simp [upd]) (by rw [m2, k2]; simp [upd]) m3⟩
theorem op_clear (ht : Nat) : fzO_clear ht (VV ht) := by
  intro I A J it dyn h
  obtain ⟨t, F, R, c, h1, h2, h3, h4, h5, h6, h7, h8, h9, h10, h11⟩ := h
  unfold S_X8_clear L_X8_clear_I L_X8_clear_J L_X7_clear_I L_X1_empty_I
  generalize hI1 : upd (upd (upd I 1 0) 4 0) 5 1 = I1
  have r : S_Lb_X8_clear_22 70 ht (upd (upd (upd (upd I1 8 0) 13 0) 12 0) 11 1) A J it dyn 0 ∧ ((∀ v : Nat, v < 64 → (Lb_X8_clear_22_J 70 ht (upd (upd (upd (upd I1 8 0) 13 0) 12 0) 11 1) A J it dyn 0) 30 v = 0) ∧ ∀ n : Nat, n ≠ 30 → (Lb_X8_clear_22_J 70 ht (upd (upd (upd (upd I1 8 0) 13 0) 12 0) 11 1) A J it dyn 0) n = J n) := by
    refine lp (F := fun n J' v => Lb_X8_clear_22_J n ht (upd (upd (upd (upd I1 8 0) 13 0) 12 0) 11 1) A J' it dyn v) (SF := fun n J' v => S_Lb_X8_clear_22 n ht (upd (upd (upd (upd I1 8 0) 13 0) 12 0) 11 1) A J' it dyn v) 64 (fun b J' => (∀ v : Nat, v < b → J' 30 v = 0) ∧ ∀ n : Nat, n ≠ 30 → J' n = J n) (fun J' i => va_up J' 30 (vp_updL (J' 30) i 0)) ?_ ?_ 64 70 0 J rfl (by decide) ⟨fun v hv => by omega, fun _ _ => rfl⟩
    · intro n J' i hi hP
      left
      simp only [Lb_X8_clear_22_J, S_Lb_X8_clear_22, if_neg (n64 hi), c64 hi, nI_1]
      refine ⟨trivial, ⟨fun v hv => ?_, fun n hn => by simp [va_up, hn]; exact hP.2 n hn⟩, fun h _ => ⟨i64 hi, h⟩⟩
      by_cases e : v = i
      · subst e; simp [va_up, vp_updL]
      · simp [va_up, vp_updL, e]; exact hP.1 v (by omega)
    · intro n J' hP
      simp only [Lb_X8_clear_22_J, S_Lb_X8_clear_22, if_pos n64e]
      exact ⟨trivial, fun h => absurd n64e h⟩
  refine ⟨r.1, ?_⟩
  obtain ⟨_, r1, r2⟩ := r
  refine ⟨t, [], 1, 0, by decide, h2.get (by rw [← hI1]; simp [upd]) rfl, h3.get (by rw [← hI1]; simp [upd]) rfl, by rw [← hI1]; simp [upd]; exact h4, by rw [← hI1]; simp [upd]; rfl, by rw [← hI1]; simp [upd]; rfl, ⟨⟨by decide, fun k x hx => by simp at hx⟩, fun k x hx => by simp at hx, by rw [← hI1]; simp [upd]; rfl, by rw [← hI1]; simp [upd]; rfl, by decide⟩, ⟨⟨by decide, fun k x hx => by simp at hx⟩, fun k x hx => by simp at hx, by rw [← hI1]; simp [upd]; rfl, by rw [← hI1]; simp [upd]; rfl, by decide⟩, fun u => by rw [r2 6 (by decide)]; exact h9 u, fun _ => ⟨rfl, fun q hq => r1 q hq⟩, fun e => by cases e⟩
