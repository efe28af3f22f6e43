/-! GOING ON: the reference -/
section GN
variable {ht : Nat} {I : Nat → Int32} {A : Nat → Nat → Int32} {J : Nat → Nat → Int64} {it : Nat → Option Nat} {dyn : fsH} {t : List Nat} {p d k : Nat} {ps : List aPart}
theorem go_B (A : Nat → Nat → Int32) (d h : Nat) : ∃ B, va_up A 26 (upd (A 26) d (nI (h + 1))) = B ∧ B 26 d = nI (h + 1) ∧ (∀ n : Nat, n ≠ 26 → B n = A n) ∧ ∀ b : Nat, b ≠ d → B 26 b = A 26 b :=
  ⟨_, rfl, by simp [va_up, upd], fun n hn => by simp [va_up, hn], fun b hb => by simp [va_up, upd, hb]⟩
theorem go_1 (h : mst k t p (d + 1) ps I A J) (h0 : A 26 d = nI 0) (x : Int32) : S_X8_goOn ht I A J it dyn x ∧
    ((ch t p = 43 ∨ ch t p = 45 ∨ ch t p = 42 ∨ ch t p = 47 ∨ ch t p = 60 ∨ ch t p = 61 ∨ ch t p = 63) → L_X8_goOn_r ht I A J it dyn x = -1 ∧ mst k t (p + 1) (d + 1) ps (L_X8_goOn_I ht I A J it dyn x) (L_X8_goOn_A ht I A J it dyn x) (L_X8_goOn_J ht I A J it dyn x) ∧ (L_X8_goOn_A ht I A J it dyn x) 26 d = nI 1 ∧ (L_X8_goOn_A ht I A J it dyn x) 27 d = nI (ch t p) ∧ (L_X8_goOn_A ht I A J it dyn x) 28 d = x) ∧
    (¬ (ch t p = 43 ∨ ch t p = 45 ∨ ch t p = 42 ∨ ch t p = 47 ∨ ch t p = 60 ∨ ch t p = 61 ∨ ch t p = 63) → L_X8_goOn_r ht I A J it dyn x = -2 ∧ (L_X8_goOn_I ht I A J it dyn x) 14 = nI p) ∧ mfr k d I A J (L_X8_goOn_I ht I A J it dyn x) (L_X8_goOn_A ht I A J it dyn x) (L_X8_goOn_J ht I A J it dyn x) := by
  have hd6 := h.2.2.2.2.2.2.1
  have h15 : I 15 - 1 = nI d := by rw [h.2.2.2.2.2.1, nI_pred]
  have zc : (nI d).toNatClampNeg = d := nI_clamp (by omega)
  have hin : vp_in (nI d) 7 := nI_in (by omega) (by omega)
  obtain ⟨B, hB, b1, b2, b3⟩ := go_B A d 0
  have hBm := h.ar (A' := B) (fun n hn => b2 n (by omega))
  obtain ⟨e0, s0, c0⟩ := hBm.hr (ht := ht) (it := it) (dyn := dyn)
  have z1 : nI (0 + 1) = 1 := rfl
  unfold L_X8_goOn_r L_X8_goOn_I L_X8_goOn_A L_X8_goOn_J S_X8_goOn
  simp only [h15, zc, h0, nI_1, hB, b1]
  simp only [z1, if_true, e0, isS_M c0, h.2.2.2.1, nI_1]
  have fr : ∀ y : Int32, mfr k d I A J (upd I 14 y) (va_up (va_up B 28 (upd (B 28) d x)) 27 (upd ((va_up B 28 (upd (B 28) d x)) 27) d (nI (ch t p)))) J := by
    intro y
    refine ⟨fun q a b => upd_n _ _ a, fun n hn => ?_, fun j _ => ?_, fun n h1 h2 i hi => ?_, fun n h1 h2 b hb => ?_, fun _ _ => rfl, fun _ _ => rfl⟩
    · have a1 : n ≠ 26 := by omega
      have a2 : n ≠ 27 := by omega
      have a3 : n ≠ 28 := by omega
      simp [va_up, a2, a3, b2 n a1]
    · simp [va_up, b2 20 (by decide)]
    · have a1 : n ≠ 26 := by omega
      have a2 : n ≠ 27 := by omega
      have a3 : n ≠ 28 := by omega
      simp [va_up, a2, a3, b2 n a1]
    · have hbd : b ≠ d := by omega
      rcases (show n = 26 ∨ n = 27 ∨ n = 28 ∨ n = 29 by omega) with rfl | rfl | rfl | rfl
      · simp [va_up, b3 b hbd]
      · simp [va_up, upd, hbd, b2 27 (by decide)]
      · simp [va_up, upd, hbd, b2 28 (by decide)]
      · simp [va_up, b2 29 (by decide)]
  refine ⟨?_, fun hs => ?_, fun hs => ?_, fr _⟩
  · simp [hin, s0]
  · have hpl : p < t.length := ch_in (by omega)
    simp only [if_pos hs, show ¬ (1 : Int32) = 0 by decide, if_false]
    refine ⟨trivial, ((hBm.mv (p' := p + 1) hpl).ar (fun n hn => ?_)), (by simp [va_up, b1]; rfl), by simp [va_up, upd], by simp [va_up, upd]⟩
    have a2 : n ≠ 27 := by omega
    have a3 : n ≠ 28 := by omega
    simp [va_up, a2, a3]
  · simp only [if_neg hs, if_true]
    exact ⟨trivial, upd_s _ _ _⟩
theorem go_2 (h : mst k t p (d + 1) ps I A J) (h0 : A 26 d = nI 1) (h63 : A 27 d = nI 63) (x : Int32) : S_X8_goOn ht I A J it dyn x ∧
    (ch t p = 58 → L_X8_goOn_r ht I A J it dyn x = -1 ∧ mst k t (p + 1) (d + 1) ps (L_X8_goOn_I ht I A J it dyn x) (L_X8_goOn_A ht I A J it dyn x) (L_X8_goOn_J ht I A J it dyn x) ∧ (L_X8_goOn_A ht I A J it dyn x) 26 d = nI 2 ∧ (L_X8_goOn_A ht I A J it dyn x) 27 d = nI 63 ∧ (L_X8_goOn_A ht I A J it dyn x) 28 d = A 28 d ∧ (L_X8_goOn_A ht I A J it dyn x) 29 d = x) ∧
    (¬ ch t p = 58 → L_X8_goOn_r ht I A J it dyn x = -2 ∧ (L_X8_goOn_I ht I A J it dyn x) 14 = nI p) ∧ mfr k d I A J (L_X8_goOn_I ht I A J it dyn x) (L_X8_goOn_A ht I A J it dyn x) (L_X8_goOn_J ht I A J it dyn x) := by
  have hd6 := h.2.2.2.2.2.2.1
  have h15 : I 15 - 1 = nI d := by rw [h.2.2.2.2.2.1, nI_pred]
  have zc : (nI d).toNatClampNeg = d := nI_clamp (by omega)
  have hin : vp_in (nI d) 7 := nI_in (by omega) (by omega)
  obtain ⟨B, hB, b1, b2, b3⟩ := go_B A d 1
  have hBm := h.ar (A' := B) (fun n hn => b2 n (by omega))
  obtain ⟨e0, s0, c0⟩ := hBm.hr (ht := ht) (it := it) (dyn := dyn)
  have z1 : ¬ nI (1 + 1) = 1 := by decide
  have z2 : nI (1 + 1) = 2 := rfl
  have b27 : B 27 d = 63 := by rw [b2 27 (by decide), h63]; rfl
  have z58 : (nI (ch t p) = 58) ↔ ch t p = 58 := by rw [iL 58, nI_eq (by omega) (by omega)]
  unfold L_X8_goOn_r L_X8_goOn_I L_X8_goOn_A L_X8_goOn_J S_X8_goOn
  simp only [h15, zc, h0, nI_1, hB, b1, if_neg z1, if_pos z2, b27, if_true, e0, h.2.2.2.1, z58]
  have fr : ∀ y : Int32, mfr k d I A J (upd I 14 y) (va_up B 29 (upd (B 29) d x)) J := by
    intro y
    refine ⟨fun q a b => upd_n _ _ a, fun n hn => ?_, fun j _ => ?_, fun n h1 h2 i hi => ?_, fun n h1 h2 b hb => ?_, fun _ _ => rfl, fun _ _ => rfl⟩
    · have a1 : n ≠ 26 := by omega
      have a2 : n ≠ 29 := by omega
      simp [va_up, a2, b2 n a1]
    · simp [va_up, b2 20 (by decide)]
    · have a1 : n ≠ 26 := by omega
      have a2 : n ≠ 29 := by omega
      simp [va_up, a2, b2 n a1]
    · have hbd : b ≠ d := by omega
      rcases (show n = 26 ∨ n = 27 ∨ n = 28 ∨ n = 29 by omega) with rfl | rfl | rfl | rfl
      · simp [va_up, b3 b hbd]
      · simp [va_up, b2 27 (by decide)]
      · simp [va_up, b2 28 (by decide)]
      · simp [va_up, upd, hbd, b2 29 (by decide)]
  refine ⟨?_, fun hs => ?_, fun hs => ?_, fr _⟩
  · simp [hin, s0, z1, z2]
  · have hpl : p < t.length := ch_in (by omega)
    simp only [if_pos hs]
    refine ⟨trivial, ((hBm.mv (p' := p + 1) hpl).ar (fun n hn => ?_)), by simp [va_up, b1], by simp [va_up, b27]; rfl, by simp [va_up, b2 28 (by decide)], by simp [va_up, upd]⟩
    have a2 : n ≠ 29 := by omega
    simp [va_up, a2]
  · simp only [if_neg hs]
    exact ⟨trivial, upd_s _ _ _⟩
theorem mfr_B {B : Nat → Nat → Int32} (b2 : ∀ n : Nat, n ≠ 26 → B n = A n) (b3 : ∀ b : Nat, b ≠ d → B 26 b = A 26 b) {I' : Nat → Int32} (hI : ∀ q : Nat, q ≠ 14 → q ≠ 15 → I' q = I q) : mfr k d I A J I' B J := by
  refine ⟨hI, fun n hn => b2 n (by omega), fun j _ => by rw [b2 20 (by decide)], fun n h1 h2 i hi => by rw [b2 n (by omega)], fun n h1 h2 b hb => ?_, fun _ _ => rfl, fun _ _ => rfl⟩
  by_cases e : n = 26
  · subst e; exact b3 b (by omega)
  · rw [b2 n e]
theorem go_3 (h : mst k t p (d + 1) ps I A J) (hn : ps.length ≤ 31) {s a : Nat} (h0 : A 26 d = nI 1) (h63 : A 27 d = nI s) (hs : s < 127) (hs63 : s ≠ 63) (h28 : A 28 d = nI a) (x : Nat) : S_X8_goOn ht I A J it dyn (nI x) ∧
    (ch t p = 41 → L_X8_goOn_r ht I A J it dyn (nI x) = nI ps.length ∧ mst k t (p + 1) d (ps ++ [(s, a, x, 0, 0)]) (L_X8_goOn_I ht I A J it dyn (nI x)) (L_X8_goOn_A ht I A J it dyn (nI x)) (L_X8_goOn_J ht I A J it dyn (nI x))) ∧
    (¬ ch t p = 41 → L_X8_goOn_r ht I A J it dyn (nI x) = -2 ∧ (L_X8_goOn_I ht I A J it dyn (nI x)) 14 = nI p) ∧ mfr k d I A J (L_X8_goOn_I ht I A J it dyn (nI x)) (L_X8_goOn_A ht I A J it dyn (nI x)) (L_X8_goOn_J ht I A J it dyn (nI x)) := by
  have hd6 := h.2.2.2.2.2.2.1
  have h15 : I 15 - 1 = nI d := by rw [h.2.2.2.2.2.1, nI_pred]
  have zc : (nI d).toNatClampNeg = d := nI_clamp (by omega)
  have hin : vp_in (nI d) 7 := nI_in (by omega) (by omega)
  obtain ⟨B, hB, b1, b2, b3⟩ := go_B A d 1
  have hBm := h.ar (A' := B) (fun n hn => b2 n (by omega))
  obtain ⟨e0, s0, c0⟩ := hBm.hr (ht := ht) (it := it) (dyn := dyn)
  have z1 : ¬ nI (1 + 1) = 1 := by decide
  have z2 : nI (1 + 1) = 2 := rfl
  have b27 : B 27 d = nI s := by rw [b2 27 (by decide), h63]
  have b28 : B 28 d = nI a := by rw [b2 28 (by decide), h28]
  have z63 : ¬ nI s = 63 := by rw [iL 63, nI_eq (by omega) (by omega)]; exact hs63
  have z41 : (nI (ch t p) = 41) ↔ ch t p = 41 := by rw [iL 41, nI_eq (by omega) (by omega)]
  unfold L_X8_goOn_r L_X8_goOn_I L_X8_goOn_A L_X8_goOn_J S_X8_goOn
  simp only [h15, zc, h0, nI_1, hB, b1, if_neg z1, if_pos z2, b27, b28, if_neg z63, e0, h.2.2.2.1, z41]
  by_cases h41 : ch t p = 41
  · have hpl : p < t.length := ch_in (by omega)
    have hI : ∀ q : Nat, q ≠ 14 → q ≠ 15 → (upd (upd I 14 (nI (p + 1))) 15 (nI d)) q = I q := fun q a b => by rw [upd_n _ _ b, upd_n _ _ a]
    have h2 := hBm.at (I' := upd (upd I 14 (nI (p + 1))) 15 (nI d)) (p' := p + 1) (d' := d) (by rw [upd_n _ _ (by decide), upd_s]) hpl (upd_s _ _ _) (by omega) hI
    obtain ⟨q1, q2, q3, q4⟩ := part_M (ht := ht) (it := it) (dyn := dyn) h2 hn s a x 0 0
    simp only [if_pos h41]
    refine ⟨?_, fun _ => ⟨q1, q2⟩, fun hh => absurd h41 hh, mfr.tr (d' := 7) (by omega) (mfr_B b2 b3 hI) q3⟩
    refine ⟨hin, hin, s0, hin, fun h => absurd h z1, fun _ => ⟨hin, fun _ => ⟨hin, fun h => absurd h z63, fun _ _ => ⟨hin, hin, hin, q4⟩⟩, fun h => absurd z2 h⟩⟩
  · simp only [if_neg h41]
    refine ⟨?_, fun hh => absurd hh h41, fun _ => ⟨trivial, h.2.2.2.1⟩, mfr_B b2 b3 (fun _ _ _ => rfl)⟩
    refine ⟨hin, hin, s0, hin, fun h => absurd h z1, fun _ => ⟨hin, fun _ => ⟨hin, fun h => absurd h z63, fun _ h => absurd h h41⟩, fun h => absurd z2 h⟩⟩
theorem go_4 (h : mst k t p (d + 1) ps I A J) (hn : ps.length ≤ 31) {a b : Nat} (h0 : A 26 d = nI 2) (h63 : A 27 d = nI 63) (h28 : A 28 d = nI a) (h29 : A 29 d = nI b) (x : Nat) : S_X8_goOn ht I A J it dyn (nI x) ∧
    (ch t p = 41 → L_X8_goOn_r ht I A J it dyn (nI x) = nI ps.length ∧ mst k t (p + 1) d (ps ++ [(63, a, b, x, 0)]) (L_X8_goOn_I ht I A J it dyn (nI x)) (L_X8_goOn_A ht I A J it dyn (nI x)) (L_X8_goOn_J ht I A J it dyn (nI x))) ∧
    (¬ ch t p = 41 → L_X8_goOn_r ht I A J it dyn (nI x) = -2 ∧ (L_X8_goOn_I ht I A J it dyn (nI x)) 14 = nI p) ∧ mfr k d I A J (L_X8_goOn_I ht I A J it dyn (nI x)) (L_X8_goOn_A ht I A J it dyn (nI x)) (L_X8_goOn_J ht I A J it dyn (nI x)) := by
  have hd6 := h.2.2.2.2.2.2.1
  have h15 : I 15 - 1 = nI d := by rw [h.2.2.2.2.2.1, nI_pred]
  have zc : (nI d).toNatClampNeg = d := nI_clamp (by omega)
  have hin : vp_in (nI d) 7 := nI_in (by omega) (by omega)
  obtain ⟨B, hB, b1, b2, b3⟩ := go_B A d 2
  have hBm := h.ar (A' := B) (fun n hn => b2 n (by omega))
  obtain ⟨e0, s0, c0⟩ := hBm.hr (ht := ht) (it := it) (dyn := dyn)
  have z1 : ¬ nI (2 + 1) = 1 := by decide
  have z2 : ¬ nI (2 + 1) = 2 := by decide
  have b27 : B 27 d = 63 := by rw [b2 27 (by decide), h63]; rfl
  have b28 : B 28 d = nI a := by rw [b2 28 (by decide), h28]
  have b29 : B 29 d = nI b := by rw [b2 29 (by decide), h29]
  have z41 : (nI (ch t p) = 41) ↔ ch t p = 41 := by rw [iL 41, nI_eq (by omega) (by omega)]
  unfold L_X8_goOn_r L_X8_goOn_I L_X8_goOn_A L_X8_goOn_J S_X8_goOn
  simp only [h15, zc, h0, nI_1, hB, b1, if_neg z1, if_neg z2, b27, b28, b29, if_true, e0, h.2.2.2.1, z41]
  by_cases h41 : ch t p = 41
  · have hpl : p < t.length := ch_in (by omega)
    have hI : ∀ q : Nat, q ≠ 14 → q ≠ 15 → (upd (upd I 14 (nI (p + 1))) 15 (nI d)) q = I q := fun q a b => by rw [upd_n _ _ b, upd_n _ _ a]
    have h2 := hBm.at (I' := upd (upd I 14 (nI (p + 1))) 15 (nI d)) (p' := p + 1) (d' := d) (by rw [upd_n _ _ (by decide), upd_s]) hpl (upd_s _ _ _) (by omega) hI
    obtain ⟨q1, q2, q3, q4⟩ := part_M (ht := ht) (it := it) (dyn := dyn) h2 hn 63 a b x 0
    simp only [if_pos h41]
    refine ⟨?_, fun _ => ⟨q1, q2⟩, fun hh => absurd h41 hh, mfr.tr (d' := 7) (by omega) (mfr_B b2 b3 hI) q3⟩
    exact ⟨hin, hin, s0, hin, fun h => absurd h z1, fun _ => ⟨hin, fun h => absurd h z2, fun _ _ => ⟨hin, fun _ => ⟨hin, hin, q4⟩, fun h => absurd trivial h⟩⟩⟩
  · simp only [if_neg h41]
    refine ⟨?_, fun hh => absurd hh h41, fun _ => ⟨trivial, h.2.2.2.1⟩, mfr_B b2 b3 (fun _ _ _ => rfl)⟩
    exact ⟨hin, hin, s0, hin, fun h => absurd h z1, fun _ => ⟨hin, fun h => absurd h z2, fun _ h => absurd h h41⟩⟩
end GN
