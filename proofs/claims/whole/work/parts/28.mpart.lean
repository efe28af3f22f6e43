/-! PARTS: the reference -/
def ptAt (k : Nat) (A : Nat → Nat → Int32) (J : Nat → Nat → Int64) (ps : List aPart) : Prop := ∀ (j : Nat) (q : aPart), ps[j]? = some q → A 21 (32 * k + j) = nI q.1 ∧ A 22 (32 * k + j) = nI q.2.1 ∧ A 23 (32 * k + j) = nI q.2.2.1 ∧ A 24 (32 * k + j) = nI q.2.2.2.1 ∧ J 25 (32 * k + j) = lN q.2.2.2.2
/-- what the reference's reading leaves alone: item k is read, d brackets are open -/
def mfr (k d : Nat) (I : Nat → Int32) (A : Nat → Nat → Int32) (J : Nat → Nat → Int64) (I' : Nat → Int32) (A' : Nat → Nat → Int32) (J' : Nat → Nat → Int64) : Prop :=
  (∀ q : Nat, q ≠ 14 → q ≠ 15 → I' q = I q) ∧ (∀ n : Nat, n < 20 ∨ n = 25 ∨ 29 < n → A' n = A n) ∧ (∀ j : Nat, j ≠ k → A' 20 j = A 20 j) ∧ (∀ n : Nat, 21 ≤ n → n ≤ 24 → ∀ i : Nat, i < 32 * k → A' n i = A n i) ∧ (∀ n : Nat, 26 ≤ n → n ≤ 29 → ∀ b : Nat, b < d → A' n b = A n b) ∧ (∀ n : Nat, n ≠ 25 → J' n = J n) ∧ ∀ i : Nat, i < 32 * k → J' 25 i = J 25 i
theorem mfr.rf {k d : Nat} {I : Nat → Int32} {A : Nat → Nat → Int32} {J : Nat → Nat → Int64} : mfr k d I A J I A J := ⟨fun _ _ _ => rfl, fun _ _ => rfl, fun _ _ => rfl, fun _ _ _ _ _ => rfl, fun _ _ _ _ _ => rfl, fun _ _ => rfl, fun _ _ => rfl⟩
theorem mfr.tr {k d d' : Nat} {I I1 I2 : Nat → Int32} {A A1 A2 : Nat → Nat → Int32} {J J1 J2 : Nat → Nat → Int64} (hd : d ≤ d') (h : mfr k d I A J I1 A1 J1) (h' : mfr k d' I1 A1 J1 I2 A2 J2) : mfr k d I A J I2 A2 J2 :=
  ⟨fun q a b => (h'.1 q a b).trans (h.1 q a b), fun n a => (h'.2.1 n a).trans (h.2.1 n a), fun j a => (h'.2.2.1 j a).trans (h.2.2.1 j a), fun n a b i c => (h'.2.2.2.1 n a b i c).trans (h.2.2.2.1 n a b i c), fun n a b i c => (h'.2.2.2.2.1 n a b i (by omega)).trans (h.2.2.2.2.1 n a b i c), fun n a => (h'.2.2.2.2.2.1 n a).trans (h.2.2.2.2.2.1 n a), fun i a => (h'.2.2.2.2.2.2 i a).trans (h.2.2.2.2.2.2 i a)⟩
theorem mfr.dn {k d d' : Nat} {I I1 : Nat → Int32} {A A1 : Nat → Nat → Int32} {J J1 : Nat → Nat → Int64} (hd : d ≤ d') (h : mfr k d' I A J I1 A1 J1) : mfr k d I A J I1 A1 J1 := mfr.tr hd mfr.rf h
/-- where the reference is in its reading: item k, place p, d brackets open, the parts so far -/
def mst (k : Nat) (t : List Nat) (p d : Nat) (ps : List aPart) (I : Nat → Int32) (A : Nat → Nat → Int32) (J : Nat → Nat → Int64) : Prop :=
  txR 9 15 I A t ∧ I 13 = nI k ∧ k ≤ 16 ∧ I 14 = nI p ∧ p ≤ t.length ∧ I 15 = nI d ∧ d ≤ 6 ∧ A 20 k = nI ps.length ∧ ptAt k A J ps
section MP
variable {ht : Nat} {I : Nat → Int32} {A : Nat → Nat → Int32} {J : Nat → Nat → Int64} {it : Nat → Option Nat} {dyn : fsH} {t : List Nat} {p d k : Nat} {ps : List aPart}
theorem mst.at (h : mst k t p d ps I A J) {I' : Nat → Int32} {p' d' : Nat} (h1 : I' 14 = nI p') (h2 : p' ≤ t.length) (h3 : I' 15 = nI d') (h4 : d' ≤ 6) (h5 : ∀ q : Nat, q ≠ 14 → q ≠ 15 → I' q = I q) : mst k t p' d' ps I' A J :=
  ⟨h.1.get (h5 9 (by decide) (by decide)) rfl, by rw [h5 13 (by decide) (by decide)]; exact h.2.1, h.2.2.1, h1, h2, h3, h4, h.2.2.2.2.2.2.2⟩
theorem part_M (h : mst k t p d ps I A J) (hn : ps.length ≤ 31) (x1 x2 x3 x4 : Nat) (v : Nat) :
    L_X8_part_r ht I A J it dyn (nI x1) (nI x2) (nI x3) (nI x4) (lN v) = nI ps.length ∧ mst k t p d (ps ++ [(x1, x2, x3, x4, v)]) I (L_X8_part_A ht I A J it dyn (nI x1) (nI x2) (nI x3) (nI x4) (lN v)) (L_X8_part_J ht I A J it dyn (nI x1) (nI x2) (nI x3) (nI x4) (lN v)) ∧ mfr k 7 I A J I (L_X8_part_A ht I A J it dyn (nI x1) (nI x2) (nI x3) (nI x4) (lN v)) (L_X8_part_J ht I A J it dyn (nI x1) (nI x2) (nI x3) (nI x4) (lN v)) ∧ S_X8_part ht I A J it dyn (nI x1) (nI x2) (nI x3) (nI x4) (lN v) := by
  obtain ⟨hT, hk, hk16, hp, hpl, hd, hd6, h20, hps⟩ := h
  have hK : ((32 : Int32) * nI k + nI ps.length) = nI (32 * k + ps.length) := by rw [iL 32, nI_mul, nI_add]
  have hKc : (nI (32 * k + ps.length)).toNatClampNeg = 32 * k + ps.length := nI_clamp (by omega)
  have hkc : (nI k).toNatClampNeg = k := nI_clamp (by omega)
  have hin : vp_in (nI (32 * k + ps.length)) 544 := nI_in (by omega) (by omega)
  have hin2 : vp_in (nI k) 17 := nI_in (by omega) (by omega)
  unfold L_X8_part_r L_X8_part_A L_X8_part_J S_X8_part
  simp only [hk, hkc, h20, hK, hKc, hin, hin2, and_self]
  refine ⟨?_, ⟨hT.get rfl (by simp [va_up]), hk, hk16, hp, hpl, hd, hd6, ?_, ?_⟩, ?_, trivial⟩
  · simp [va_up, upd, h20]
  · simp [va_up, upd, h20, nI_1]
  · intro j q hj
    by_cases e : j = ps.length
    · subst e
      rw [List.getElem?_append_right (Nat.le_refl _)] at hj
      simp at hj
      subst hj
      simp [va_up, upd, vp_updL]
    · have hj2 : j < ps.length := by
        have := (List.getElem?_eq_some_iff.mp hj).1
        simp at this; omega
      rw [List.getElem?_append_left hj2] at hj
      have := hps j q hj
      have e2 : ¬ 32 * k + j = 32 * k + ps.length := by omega
      simp [va_up, upd, vp_updL, e]
      exact this
  · refine ⟨fun _ _ _ => rfl, fun n hn => ?_, fun j hj => ?_, fun n h1 h2 i hi => ?_, fun n h1 h2 b hb => ?_, fun n hn => ?_, fun i hi => ?_⟩
    · have a1 : n ≠ 20 := by omega
      have a2 : n ≠ 21 := by omega
      have a3 : n ≠ 22 := by omega
      have a4 : n ≠ 23 := by omega
      have a5 : n ≠ 24 := by omega
      simp [va_up, a1, a2, a3, a4, a5]
    · simp [va_up, upd, hj]
    · have e2 : ¬ i = 32 * k + ps.length := by omega
      have a1 : n ≠ 20 := by omega
      rcases (show n = 21 ∨ n = 22 ∨ n = 23 ∨ n = 24 by omega) with rfl | rfl | rfl | rfl <;> simp [va_up, upd, e2]
    · have a1 : n ≠ 20 := by omega
      have a2 : n ≠ 21 := by omega
      have a3 : n ≠ 22 := by omega
      have a4 : n ≠ 23 := by omega
      have a5 : n ≠ 24 := by omega
      simp [va_up, a1, a2, a3, a4, a5]
    · simp [va_up, hn]
    · have e2 : ¬ i = 32 * k + ps.length := by omega
      simp [va_up, vp_updL, e2]
end MP
