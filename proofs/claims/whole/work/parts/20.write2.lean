/-! WRITE, the first loop and the whole -/
section WR
variable {ht : Nat} {J : Nat → Nat → Int64} {it : Nat → Option Nat} {dyn : fsH} {w : Int64}
theorem wr1 (I : Nat → Int32) (A : Nat → Nat → Int32) : ∀ (k n q : Nat), k < n → q + k ≤ 8 →
    La_X5_append_6_r n ht I A J it dyn w (nI q) (v8 k) = (if okc (wcs w k) = true ∧ nI (q + (nz (wcs w k)).length) ≤ 60 - I 2 then 1 else 0) ∧
    La_X5_append_6_I n ht I A J it dyn w (nI q) (v8 k) = (if okc (wcs w k) = true ∧ nI (q + (nz (wcs w k)).length) ≤ 60 - I 2 then Lb_X5_append_76_I 70 ht I A J it dyn w (nI (q + (nz (wcs w k)).length)) (v8 8) else I) ∧
    La_X5_append_6_A n ht I A J it dyn w (nI q) (v8 k) = (if okc (wcs w k) = true ∧ nI (q + (nz (wcs w k)).length) ≤ 60 - I 2 then Lb_X5_append_76_A 70 ht I A J it dyn w (nI (q + (nz (wcs w k)).length)) (v8 8) else A) ∧
    ((okc (wcs w k) = true ∧ nI (q + (nz (wcs w k)).length) ≤ 60 - I 2 → S_Lb_X5_append_76 70 ht I A J it dyn w (nI (q + (nz (wcs w k)).length)) (v8 8)) → S_La_X5_append_6 n ht I A J it dyn w (nI q) (v8 k)) := by
  intro k
  induction k with
  | zero =>
    intro n q hn hk
    obtain ⟨n, rfl⟩ : ∃ n', n = n' + 1 := ⟨n - 1, by omega⟩
    have h0 : v8 0 < 0 := by decide
    have e : okc (wcs w 0) = true := rfl
    simp only [La_X5_append_6_r, La_X5_append_6_I, La_X5_append_6_A, S_La_X5_append_6, if_pos h0, e, true_and]
    exact ⟨rfl, rfl, rfl, fun h => ⟨fun _ => h, fun h9 => absurd h0 h9⟩⟩
  | succ k ih =>
    intro n q hn hk
    obtain ⟨n, rfl⟩ : ∃ n', n = n' + 1 := ⟨n - 1, by omega⟩
    have h0 := v8_p k (by omega)
    have hs := v8_s k (by omega)
    have hc : L_X5_codeIn_r ht I A J it dyn w (v8 (k + 1)) = nI (wb w k) := wb_c (by omega)
    have hw := wb_lt w k
    simp only [La_X5_append_6_r, La_X5_append_6_I, La_X5_append_6_A, S_La_X5_append_6, if_neg h0, hs, hc]
    rw [show wcs w (k + 1) = wb w k :: wcs w k from rfl]
    simp only [okc_cons]
    by_cases hz : wb w k = 0
    · have hz' : nI (wb w k) = 0 := (nI_z hw).mpr hz
      rw [hz, nz_zero]
      obtain ⟨h1, h2, h3, h4⟩ := ih n q (by omega) (by omega)
      rw [show nI q + 0 = nI q from by rw [iL 0, nI_add]; rfl]
      simp only [show nI 0 = 0 from rfl, if_true, true_or, true_and]
      exact ⟨h1, h2, h3, fun h => ⟨fun h9 => absurd h9 h0, fun _ => ⟨fun _ => h4 h, fun h9 => absurd trivial h9⟩⟩⟩
    · have hz' : ¬ nI (wb w k) = 0 := fun h => hz ((nI_z hw).mp h)
      rw [nz_cons hz]
      simp only [if_neg hz']
      by_cases h32 : nI (wb w k) < 32
      · have h9 : ¬ 32 ≤ wb w k := by rw [iL 32, nI_ltI (by omega) (by omega)] at h32; omega
        have hf : ¬ ((wb w k = 0 ∨ 32 ≤ wb w k ∧ wb w k ≤ 126) ∧ okc (wcs w k) = true) := by
          rintro ⟨h | h, -⟩
          · exact hz h
          · exact h9 h.1
        simp only [if_pos h32, hf, false_and, if_false]
        exact ⟨trivial, trivial, trivial, fun _ => ⟨fun h8 => absurd h8 h0, fun _ => ⟨fun h8 => absurd h8 hz', fun _ h8 => absurd h32 h8⟩⟩⟩
      · have h9 : 32 ≤ wb w k := by rw [iL 32, nI_ltI (by omega) (by omega)] at h32; omega
        simp only [if_neg h32]
        by_cases h126 : nI (wb w k) ≤ 126
        · have h7 : wb w k ≤ 126 := by rw [iL 126, nI_leI (by omega) (by omega)] at h126; omega
          have ht9 : (wb w k = 0 ∨ 32 ≤ wb w k ∧ wb w k ≤ 126) := Or.inr ⟨h9, h7⟩
          obtain ⟨h1, h2, h3, h4⟩ := ih n (q + 1) (by omega) (by omega)
          rw [show nI q + 1 = nI (q + 1) from nI_1 q]
          simp only [if_pos h126, ht9, true_and, List.length_cons]
          rw [show q + ((nz (wcs w k)).length + 1) = q + 1 + (nz (wcs w k)).length by omega]
          exact ⟨h1, h2, h3, fun h => ⟨fun h9 => absurd h9 h0, fun _ => ⟨fun h8 => absurd h8 hz', fun _ _ _ => h4 h⟩⟩⟩
        · have h7 : ¬ wb w k ≤ 126 := by rw [iL 126, nI_leI (by omega) (by omega)] at h126; omega
          have hf : ¬ ((wb w k = 0 ∨ 32 ≤ wb w k ∧ wb w k ≤ 126) ∧ okc (wcs w k) = true) := by
            rintro ⟨h | h, -⟩
            · exact hz h
            · exact h7 h.2
          simp only [if_neg h126, hf, false_and, if_false]
          exact ⟨trivial, trivial, trivial, fun _ => ⟨fun h8 => absurd h8 h0, fun _ => ⟨fun h8 => absurd h8 hz', fun _ _ h8 => absurd h8 h126⟩⟩⟩
theorem write_C {I : Nat → Int32} {A : Nat → Nat → Int32} {t : List Nat} (h : txR 2 2 I A t) :
    S_X7_write ht I A J it dyn w ∧ (L_X7_write_r ht I A J it dyn w = if okc (wcs w 8) = true ∧ t.length + (nz (wcs w 8)).length ≤ 60 then 1 else 0) ∧
    txR 2 2 (L_X7_write_I ht I A J it dyn w) (L_X7_write_A ht I A J it dyn w) (if okc (wcs w 8) = true ∧ t.length + (nz (wcs w 8)).length ≤ 60 then t ++ nz (wcs w 8) else t) ∧
    (∀ q : Nat, q ≠ 2 → L_X7_write_I ht I A J it dyn w q = I q) ∧ (∀ q : Nat, q ≠ 2 → L_X7_write_A ht I A J it dyn w q = A q) := by
  obtain ⟨h1, h2, h3, h4⟩ := wr1 (ht := ht) (J := J) (it := it) (dyn := dyn) (w := w) I A 8 70 0 (by omega) (by omega)
  have hn := nz_le (wcs w 8)
  rw [wcs_len] at hn
  have hc : (nI (0 + (nz (wcs w 8)).length) ≤ 60 - I 2) ↔ t.length + (nz (wcs w 8)).length ≤ 60 := by
    have := h.2.1
    rw [h.1, iL 60, nI_subN h.2.1, nI_leI (by omega) (by omega)]
    omega
  rw [hc] at h4
  have h1 : L_X7_write_r ht I A J it dyn w = _ := h1
  have h2 : L_X7_write_I ht I A J it dyn w = _ := h2
  have h3 : L_X7_write_A ht I A J it dyn w = _ := h3
  simp only [hc] at h1 h2 h3
  by_cases hk : okc (wcs w 8) = true ∧ t.length + (nz (wcs w 8)).length ≤ 60
  · obtain ⟨⟨g1, g2, g3⟩, g4⟩ := wr2 (ht := ht) (J := J) (it := it) (dyn := dyn) (w := w) (nI (0 + (nz (wcs w 8)).length)) 8 70 I A t (by omega) (by omega) h hk.1 hk.2
    rw [if_pos hk] at h1 h2 h3
    rw [h1, h2, h3, if_pos hk, if_pos hk]
    exact ⟨h4 (fun _ => g4), rfl, g1, g2, g3⟩
  · rw [if_neg hk] at h1 h2 h3
    rw [h1, h2, h3, if_neg hk, if_neg hk]
    exact ⟨h4 (fun h9 => absurd h9 hk), rfl, h, fun _ _ => rfl, fun _ _ => rfl⟩
theorem mr2 (v3 : Int32) : ∀ (k n : Nat) (I : Nat → Int32) (A : Nat → Nat → Int32) (t : List Nat), k < n → k ≤ 8 → txR 9 15 I A t → okc (wcs w k) = true → t.length + (nz (wcs w k)).length ≤ 60 →
    (txR 9 15 (Lb_X8_write_87_I n ht I A J it dyn w v3 (v1k k)) (Lb_X8_write_87_A n ht I A J it dyn w v3 (v1k k)) (t ++ nz (wcs w k)) ∧ (∀ q : Nat, q ≠ 9 → Lb_X8_write_87_I n ht I A J it dyn w v3 (v1k k) q = I q) ∧ (∀ q : Nat, q ≠ 15 → Lb_X8_write_87_A n ht I A J it dyn w v3 (v1k k) q = A q)) ∧ S_Lb_X8_write_87 n ht I A J it dyn w v3 (v1k k) := by
  intro k
  induction k with
  | zero =>
    intro n I A t hn _ ht9 _ _
    obtain ⟨n, rfl⟩ : ∃ n', n = n' + 1 := ⟨n - 1, by omega⟩
    have h0 : v1k 0 < 0 := by decide
    simp only [Lb_X8_write_87_I, Lb_X8_write_87_A, S_Lb_X8_write_87, if_pos h0]
    exact ⟨⟨by simpa [wcs, nz] using ht9, fun _ _ => trivial, fun _ _ => trivial⟩, fun h => absurd h0 h⟩
  | succ k ih =>
    intro n I A t hn hk ht9 hok hlen
    obtain ⟨n, rfl⟩ : ∃ n', n = n' + 1 := ⟨n - 1, by omega⟩
    have h0 := v1_p k (by omega)
    have hs := v1_s k (by omega)
    have hc : (((w.toUInt64 >>> ((8 * (v1k (k + 1))).toInt64.toUInt64 &&& Int64.toUInt64 63)).toInt64).toInt32 &&& 255) = nI (wb w k) := wb_m (by omega)
    simp only [Lb_X8_write_87_I, Lb_X8_write_87_A, S_Lb_X8_write_87, if_neg h0, hs, hc]
    rw [show wcs w (k + 1) = wb w k :: wcs w k from rfl] at hok hlen ⊢
    rw [okc_cons] at hok
    by_cases hz : wb w k = 0
    · have hz' : nI (wb w k) = 0 := (nI_z (wb_lt w k)).mpr hz
      simp only [if_pos hz']
      rw [hz, nz_zero] at hlen
      rw [hz, nz_zero]
      obtain ⟨h1, h2⟩ := ih n I A t (by omega) (by omega) ht9 hok.2 hlen
      exact ⟨h1, fun _ => ⟨fun h => absurd rfl h, h2⟩⟩
    · have hr : 32 ≤ wb w k ∧ wb w k ≤ 126 := hok.1.resolve_left hz
      rw [nz_cons hz] at hlen ⊢
      simp only [List.length_cons] at hlen
      have hz' : ¬ nI (wb w k) = 0 := fun h => hz ((nI_z (wb_lt w k)).mp h)
      simp only [if_neg hz']
      have ht8 := ht9.snoc hr (by omega) (y := vp_nar .char (((nI (wb w k)).toUInt32 % 65536).toInt32)) (nI_cc hr.2)
      obtain ⟨⟨h1, h2, h3⟩, h4⟩ := ih n _ _ _ (by omega) (by omega) ht8 hok.2 (by simp; omega)
      refine ⟨⟨by simpa using h1, fun q hq => by rw [h2 q hq, upd_n _ _ hq], fun q hq => by rw [h3 q hq, va_up_ne _ _ hq]⟩, fun _ => ⟨fun _ => ?_, h4⟩⟩
      rw [ht9.1]
      exact nI_in (by omega) (by omega)
theorem mr1 (I : Nat → Int32) (A : Nat → Nat → Int32) : ∀ (k n q : Nat), k < n → q + k ≤ 8 →
    La_X8_write_11_r n ht I A J it dyn w (nI q) (v1k k) = (if okc (wcs w k) = true ∧ I 9 + nI (q + (nz (wcs w k)).length) ≤ 60 then 1 else 0) ∧
    La_X8_write_11_I n ht I A J it dyn w (nI q) (v1k k) = (if okc (wcs w k) = true ∧ I 9 + nI (q + (nz (wcs w k)).length) ≤ 60 then Lb_X8_write_87_I 70 ht I A J it dyn w (nI (q + (nz (wcs w k)).length)) (v1k 8) else I) ∧
    La_X8_write_11_A n ht I A J it dyn w (nI q) (v1k k) = (if okc (wcs w k) = true ∧ I 9 + nI (q + (nz (wcs w k)).length) ≤ 60 then Lb_X8_write_87_A 70 ht I A J it dyn w (nI (q + (nz (wcs w k)).length)) (v1k 8) else A) ∧
    ((okc (wcs w k) = true ∧ I 9 + nI (q + (nz (wcs w k)).length) ≤ 60 → S_Lb_X8_write_87 70 ht I A J it dyn w (nI (q + (nz (wcs w k)).length)) (v1k 8)) → S_La_X8_write_11 n ht I A J it dyn w (nI q) (v1k k)) := by
  intro k
  induction k with
  | zero =>
    intro n q hn hk
    obtain ⟨n, rfl⟩ : ∃ n', n = n' + 1 := ⟨n - 1, by omega⟩
    have h0 : v1k 0 < 0 := by decide
    have e : okc (wcs w 0) = true := rfl
    simp only [La_X8_write_11_r, La_X8_write_11_I, La_X8_write_11_A, S_La_X8_write_11, if_pos h0, e, true_and]
    exact ⟨rfl, rfl, rfl, fun h => ⟨fun _ => h, fun h9 => absurd h0 h9⟩⟩
  | succ k ih =>
    intro n q hn hk
    obtain ⟨n, rfl⟩ : ∃ n', n = n' + 1 := ⟨n - 1, by omega⟩
    have h0 := v1_p k (by omega)
    have hs := v1_s k (by omega)
    have hc : (((w.toUInt64 >>> ((8 * (v1k (k + 1))).toInt64.toUInt64 &&& Int64.toUInt64 63)).toInt64).toInt32 &&& 255) = nI (wb w k) := wb_m (by omega)
    have hw := wb_lt w k
    simp only [La_X8_write_11_r, La_X8_write_11_I, La_X8_write_11_A, S_La_X8_write_11, if_neg h0, hs, hc]
    rw [show wcs w (k + 1) = wb w k :: wcs w k from rfl]
    simp only [okc_cons]
    by_cases hz : wb w k = 0
    · have hz' : nI (wb w k) = 0 := (nI_z hw).mpr hz
      rw [hz, nz_zero]
      obtain ⟨h1, h2, h3, h4⟩ := ih n q (by omega) (by omega)
      simp only [show nI 0 = 0 from rfl, if_true, true_or, true_and]
      exact ⟨h1, h2, h3, fun h => ⟨fun h9 => absurd h9 h0, fun _ => ⟨fun _ => h4 h, fun h9 => absurd trivial h9⟩⟩⟩
    · have hz' : ¬ nI (wb w k) = 0 := fun h => hz ((nI_z hw).mp h)
      rw [nz_cons hz]
      simp only [if_neg hz']
      by_cases h32 : nI (wb w k) < 32
      · have h9 : ¬ 32 ≤ wb w k := by rw [iL 32, nI_ltI (by omega) (by omega)] at h32; omega
        have hf : ¬ ((wb w k = 0 ∨ 32 ≤ wb w k ∧ wb w k ≤ 126) ∧ okc (wcs w k) = true) := by
          rintro ⟨h | h, -⟩
          · exact hz h
          · exact h9 h.1
        simp only [if_pos h32, hf, false_and, if_false]
        exact ⟨trivial, trivial, trivial, fun _ => ⟨fun h8 => absurd h8 h0, fun _ => ⟨fun h8 => absurd h8 hz', fun _ h8 => absurd h32 h8⟩⟩⟩
      · have h9 : 32 ≤ wb w k := by rw [iL 32, nI_ltI (by omega) (by omega)] at h32; omega
        simp only [if_neg h32]
        by_cases h126 : nI (wb w k) ≤ 126
        · have h7 : wb w k ≤ 126 := by rw [iL 126, nI_leI (by omega) (by omega)] at h126; omega
          have ht9 : (wb w k = 0 ∨ 32 ≤ wb w k ∧ wb w k ≤ 126) := Or.inr ⟨h9, h7⟩
          obtain ⟨h1, h2, h3, h4⟩ := ih n (q + 1) (by omega) (by omega)
          rw [show nI q + 1 = nI (q + 1) from nI_1 q]
          simp only [if_pos h126, ht9, true_and, List.length_cons]
          rw [show q + ((nz (wcs w k)).length + 1) = q + 1 + (nz (wcs w k)).length by omega]
          exact ⟨h1, h2, h3, fun h => ⟨fun h9 => absurd h9 h0, fun _ => ⟨fun h8 => absurd h8 hz', fun _ _ _ => h4 h⟩⟩⟩
        · have h7 : ¬ wb w k ≤ 126 := by rw [iL 126, nI_leI (by omega) (by omega)] at h126; omega
          have hf : ¬ ((wb w k = 0 ∨ 32 ≤ wb w k ∧ wb w k ≤ 126) ∧ okc (wcs w k) = true) := by
            rintro ⟨h | h, -⟩
            · exact hz h
            · exact h7 h.2
          simp only [if_neg h126, hf, false_and, if_false]
          exact ⟨trivial, trivial, trivial, fun _ => ⟨fun h8 => absurd h8 h0, fun _ => ⟨fun h8 => absurd h8 hz', fun _ _ h8 => absurd h8 h126⟩⟩⟩
theorem write_M {I : Nat → Int32} {A : Nat → Nat → Int32} {t : List Nat} (h : txR 9 15 I A t) :
    S_X8_write ht I A J it dyn w ∧ (L_X8_write_r ht I A J it dyn w = if okc (wcs w 8) = true ∧ t.length + (nz (wcs w 8)).length ≤ 60 then 1 else 0) ∧
    txR 9 15 (L_X8_write_I ht I A J it dyn w) (L_X8_write_A ht I A J it dyn w) (if okc (wcs w 8) = true ∧ t.length + (nz (wcs w 8)).length ≤ 60 then t ++ nz (wcs w 8) else t) ∧
    (∀ q : Nat, q ≠ 9 → L_X8_write_I ht I A J it dyn w q = upd I 8 0 q) ∧ (∀ q : Nat, q ≠ 15 → L_X8_write_A ht I A J it dyn w q = A q) := by
  obtain ⟨h1, h2, h3, h4⟩ := mr1 (ht := ht) (J := J) (it := it) (dyn := dyn) (w := w) (upd I 8 0) A 8 70 0 (by omega) (by omega)
  have hn := nz_le (wcs w 8)
  rw [wcs_len] at hn
  have h : txR 9 15 (upd I 8 0) A t := h.get (upd_n _ _ (by decide)) rfl
  have hc : ((upd I 8 0) 9 + nI (0 + (nz (wcs w 8)).length) ≤ 60) ↔ t.length + (nz (wcs w 8)).length ≤ 60 := by
    have := h.2.1
    rw [h.1, iL 60, nI_add, nI_leI (by omega) (by omega)]
    omega
  rw [hc] at h4
  have h1 : L_X8_write_r ht I A J it dyn w = _ := h1
  have h2 : L_X8_write_I ht I A J it dyn w = _ := h2
  have h3 : L_X8_write_A ht I A J it dyn w = _ := h3
  simp only [hc] at h1 h2 h3
  by_cases hk : okc (wcs w 8) = true ∧ t.length + (nz (wcs w 8)).length ≤ 60
  · obtain ⟨⟨g1, g2, g3⟩, g4⟩ := mr2 (ht := ht) (J := J) (it := it) (dyn := dyn) (w := w) (nI (0 + (nz (wcs w 8)).length)) 8 70 (upd I 8 0) A t (by omega) (by omega) h hk.1 hk.2
    rw [if_pos hk] at h1 h2 h3
    rw [h1, h2, h3, if_pos hk, if_pos hk]
    exact ⟨h4 (fun _ => g4), rfl, g1, g2, g3⟩
  · rw [if_neg hk] at h1 h2 h3
    rw [h1, h2, h3, if_neg hk, if_neg hk]
    exact ⟨h4 (fun h9 => absurd h9 hk), rfl, h, fun _ _ => rfl, fun _ _ => rfl⟩
end WR
