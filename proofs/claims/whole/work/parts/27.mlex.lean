/-! LETTERS, DIGITS, NAMES, NUMBERS: the reference -/
section MX
variable {ht : Nat} {I : Nat → Int32} {A : Nat → Nat → Int32} {J : Nat → Nat → Int64} {it : Nat → Option Nat} {dyn : fsH} {t : List Nat} {p : Nat}
theorem isL_M {c : Nat} (h : c < 127) : L_X8_letter_r ht I A J it dyn (nI c) = if 97 ≤ c ∧ c ≤ 122 then 1 else 0 := (by decide +kernel : ∀ c : Nat, c < 127 → (if nI c < 97 then (0 : Int32) else if 122 < nI c then 0 else 1) = if 97 ≤ c ∧ c ≤ 122 then 1 else 0) c h
theorem isD_M {c : Nat} (h : c < 127) : L_X8_digit_r ht I A J it dyn (nI c) = if 48 ≤ c ∧ c ≤ 57 then 1 else 0 := (by decide +kernel : ∀ c : Nat, c < 127 → (if nI c < 48 then (0 : Int32) else if 57 < nI c then 0 else 1) = if 48 ≤ c ∧ c ≤ 57 then 1 else 0) c h
theorem isS_M {c : Nat} (h : c < 127) : L_X8_isSign_r ht I A J it dyn (nI c) = if c = 43 ∨ c = 45 ∨ c = 42 ∨ c = 47 ∨ c = 60 ∨ c = 61 ∨ c = 63 then 1 else 0 := (by decide +kernel : ∀ c : Nat, c < 127 → (if nI c = 43 then (1 : Int32) else if nI c = 45 then 1 else if nI c = 42 then 1 else if nI c = 47 then 1 else if nI c = 60 then 1 else if nI c = 61 then 1 else if nI c = 63 then 1 else 0) = if c = 43 ∨ c = 45 ∨ c = 42 ∨ c = 47 ∨ c = 60 ∨ c = 61 ∨ c = 63 then 1 else 0) c h
theorem next_M (hT : txR 9 15 I A t) (hp : p ≤ 62) : L_X8_here_r ht (upd I 14 (nI p)) A J it dyn = nI (ch t p) ∧ S_X8_here ht (upd I 14 (nI p)) A J it dyn := by
  have hl := hT.2.1
  have e : L_X8_here_r ht (upd I 14 (nI p)) A J it dyn = nI (ch t p) := by
    unfold L_X8_here_r
    rw [upd_n _ _ (by decide), upd_s, hT.1, nI_clamp (by omega)]
    simp (disch := omega) only [nI_leI]
    by_cases h : t.length ≤ p
    · rw [if_pos h, ch_end h]; rfl
    · rw [if_neg h, hT.2.2.1 p (by omega)]; rfl
  refine ⟨e, ?_, ?_⟩
  · rw [upd_n _ _ (by decide), upd_s, hT.1, nI_leI (by omega) (by omega)]
    intro h
    exact nI_in (by omega) (by omega)
  · unfold L_X8_here_r at e
    rw [e]
    exact nar_chr _ (ch_lt hT.2.2.2)
theorem isL_M0 {c : Nat} (h : c < 127) : (L_X8_letter_r ht I A J it dyn (nI c) = 0) ↔ ¬ (97 ≤ c ∧ c ≤ 122) := by
  rw [isL_M h]
  by_cases h1 : 97 ≤ c ∧ c ≤ 122
  · rw [if_pos h1]; exact ⟨fun h => absurd h (by decide), fun h => absurd h1 h⟩
  · rw [if_neg h1]; exact ⟨fun _ => h1, fun _ => rfl⟩
theorem isD_M0 {c : Nat} (h : c < 127) : (L_X8_digit_r ht I A J it dyn (nI c) = 0) ↔ ¬ (48 ≤ c ∧ c ≤ 57) := by
  rw [isD_M h]
  by_cases h1 : 48 ≤ c ∧ c ≤ 57
  · rw [if_pos h1]; exact ⟨fun h => absurd h (by decide), fun h => absurd h1 h⟩
  · rw [if_neg h1]; exact ⟨fun _ => h1, fun _ => rfl⟩
theorem nameM (hT : txR 9 15 I A t) (hp : p ≤ 60) (hL : 97 ≤ ch t p ∧ ch t p ≤ 122) : L_X8_readName_r ht (upd I 14 (nI p)) A J it dyn = nI (pnm t p).1 ∧ L_X8_readName_I ht (upd I 14 (nI p)) A J it dyn = upd I 14 (nI (pnm t p).2) ∧ S_X8_readName ht (upd I 14 (nI p)) A J it dyn := by
  obtain ⟨e, hs⟩ := next_M (ht := ht) (J := J) (it := it) (dyn := dyn) hT (p := p) (by omega)
  obtain ⟨e1, hs1⟩ := next_M (ht := ht) (J := J) (it := it) (dyn := dyn) hT (p := p + 1) (by omega)
  have hc := ch_lt (p := p) hT.2.2.2
  have hc1 := ch_lt (p := p + 1) hT.2.2.2
  unfold L_X8_readName_r L_X8_readName_I S_X8_readName
  simp only [upd_s, nI_1, upd_upd, e, e1, isL_M0 hc, isL_M0 hc1, hL, not_true_eq_false, if_false, and_self]
  unfold pnm
  have ea : (27 : Int32) * (nI (ch t p) - 97 + 1) = nI (27 * (ch t p - 96)) := by
    rw [iL 97, nI_subN hL.1, nI_1, iL 27, nI_mul]; congr 2; omega
  by_cases hL1 : 97 ≤ ch t (p + 1) ∧ ch t (p + 1) ≤ 122
  · have eb : nI (ch t (p + 1)) - 97 + 1 = nI (ch t (p + 1) - 96) := by
      rw [iL 97, nI_subN hL1.1, nI_1]; congr 1; omega
    simp only [ea, eb, nI_add, hL1, and_self, not_true_eq_false, if_false, if_true]
    exact ⟨trivial, trivial, hs, fun _ => ⟨hs, hs1, fun _ => hs1⟩⟩
  · simp only [ea, if_pos hL1, if_neg hL1]
    exact ⟨trivial, trivial, hs, fun _ => ⟨hs, hs1, fun _ => hs1⟩⟩
theorem nameM0 (hT : txR 9 15 I A t) (hp : p ≤ 60) (hL : ¬ (97 ≤ ch t p ∧ ch t p ≤ 122)) : L_X8_readName_r ht (upd I 14 (nI p)) A J it dyn = -1 ∧ L_X8_readName_I ht (upd I 14 (nI p)) A J it dyn = upd I 14 (nI p) ∧ S_X8_readName ht (upd I 14 (nI p)) A J it dyn := by
  obtain ⟨e, hs⟩ := next_M (ht := ht) (J := J) (it := it) (dyn := dyn) hT (p := p) (by omega)
  have hc := ch_lt (p := p) hT.2.2.2
  unfold L_X8_readName_r L_X8_readName_I S_X8_readName
  simp only [e, isL_M0 hc, if_pos hL]
  exact ⟨trivial, trivial, hs, fun h => absurd hL h⟩
theorem digM (hT : txR 9 15 I A t) : ∀ (k n q p v : Nat), k < n → q + k = 6 → p ≤ t.length → (v + 1) * 10 ^ k ≤ 10 ^ 8 →
    Lb_X8_readNumber_4_v1 n ht (upd I 14 (nI p)) A J it dyn (lN v) (nI q) = lN (pdg t k p v).1 ∧ Lb_X8_readNumber_4_I n ht (upd I 14 (nI p)) A J it dyn (lN v) (nI q) = upd I 14 (nI (pdg t k p v).2) ∧ S_Lb_X8_readNumber_4 n ht (upd I 14 (nI p)) A J it dyn (lN v) (nI q) := by
  intro k
  induction k with
  | zero =>
    intro n q p v hn hq hp hv
    obtain ⟨n, rfl⟩ : ∃ n', n = n' + 1 := ⟨n - 1, by omega⟩
    have hz : (6 : Int32) ≤ nI q := nI_le (a := 6) (by omega) (by omega)
    simp only [Lb_X8_readNumber_4_v1, Lb_X8_readNumber_4_I, S_Lb_X8_readNumber_4, if_pos hz, pdg]
    exact ⟨trivial, trivial, fun h => absurd hz h⟩
  | succ k ih =>
    intro n q p v hn hq hp hv
    have hl60 := hT.2.1
    obtain ⟨n, rfl⟩ : ∃ n', n = n' + 1 := ⟨n - 1, by omega⟩
    have hz : ¬ (6 : Int32) ≤ nI q := by rw [iL 6, nI_leI (by omega) (by omega)]; omega
    obtain ⟨e, hs⟩ := next_M (ht := ht) (J := J) (it := it) (dyn := dyn) hT (p := p) (by omega)
    have hc := ch_lt (p := p) hT.2.2.2
    simp only [Lb_X8_readNumber_4_v1, Lb_X8_readNumber_4_I, S_Lb_X8_readNumber_4, if_neg hz, e, upd_s, upd_upd, nI_1, isD_M0 hc]
    unfold pdg
    by_cases hd : 48 ≤ ch t p ∧ ch t p ≤ 57
    · have hp' : p < t.length := ch_in (by omega)
      have hnn : ¬ ¬ (48 ≤ ch t p ∧ ch t p ≤ 57) := fun h => h hd
      have ev : (10 : Int64) * lN v + (nI (ch t p)).toInt64 - 48 = lN (10 * v + (ch t p - 48)) := by
        rw [nI_l (by omega), show (10 : Int64) = lN 10 from rfl, lN_mul, lN_add, show (48 : Int64) = lN 48 from rfl, lN_sub (by omega)]
        congr 1; omega
      simp only [if_neg hnn, if_pos hd, ev]
      obtain ⟨h1, h2, h3⟩ := ih n (q + 1) (p + 1) (10 * v + (ch t p - 48)) (by omega) (by omega) (by omega) (by
        refine Nat.le_trans ?_ hv
        rw [Nat.pow_succ, Nat.mul_comm (10 ^ k) 10, ← Nat.mul_assoc]
        exact Nat.mul_le_mul_right _ (by omega))
      exact ⟨h1, h2, fun _ => ⟨hs, fun _ => ⟨hs, h3⟩⟩⟩
    · simp only [if_pos hd, if_neg hd]
      exact ⟨trivial, trivial, fun _ => ⟨hs, fun h => absurd hd h⟩⟩
def numM (v : Option Nat) : Int64 := match v with
  | some v => lN v
  | none => -1
theorem numberM (hT : txR 9 15 I A t) (hp : p ≤ t.length) : L_X8_readNumber_r ht (upd I 14 (nI p)) A J it dyn = numM (pnum t p).1 ∧ L_X8_readNumber_I ht (upd I 14 (nI p)) A J it dyn = upd I 14 (nI (pnum t p).2) ∧ S_X8_readNumber ht (upd I 14 (nI p)) A J it dyn := by
  have hl := hT.2.1
  obtain ⟨b1, b2, b3⟩ := pdg_b t 6 p 0 hp
  have d6 := digM (ht := ht) (J := J) (it := it) (dyn := dyn) hT 6 70 0 p 0 (by decide) rfl hp (by decide)
  have d6r : Lb_X8_readNumber_4_v1 70 ht (upd I 14 (nI p)) A J it dyn 0 0 = lN (pdg t 6 p 0).1 := d6.1
  have d6i : Lb_X8_readNumber_4_I 70 ht (upd I 14 (nI p)) A J it dyn 0 0 = upd I 14 (nI (pdg t 6 p 0).2) := d6.2.1
  have d6s : S_Lb_X8_readNumber_4 70 ht (upd I 14 (nI p)) A J it dyn 0 0 := d6.2.2
  unfold pnum
  unfold L_X8_readNumber_r L_X8_readNumber_I S_X8_readNumber
  simp only [d6r, d6i]
  generalize (pdg t 6 p 0).2 = p1 at *
  generalize (pdg t 6 p 0).1 = v1 at *
  obtain ⟨e0, hs0⟩ := next_M (ht := ht) (J := J) (it := it) (dyn := dyn) hT (p := p1) (by omega)
  obtain ⟨e1, hs1⟩ := next_M (ht := ht) (J := J) (it := it) (dyn := dyn) hT (p := p1 + 1) (by omega)
  obtain ⟨e2, hs2⟩ := next_M (ht := ht) (J := J) (it := it) (dyn := dyn) hT (p := p1 + 2) (by omega)
  have hc0 := ch_lt (p := p1) hT.2.2.2
  have hc1 := ch_lt (p := p1 + 1) hT.2.2.2
  have hc2 := ch_lt (p := p1 + 2) hT.2.2.2
  have z46 : (nI (ch t p1) = 46) ↔ ch t p1 = 46 := by rw [iL 46, nI_eq (by omega) (by omega)]
  simp only [upd_s, upd_upd, nI_1, e0, e1, e2, isD_M0 hc1, isD_M0 hc2, z46, show p1 + 1 + 1 = p1 + 2 from rfl]
  by_cases h46 : ch t p1 = 46
  · simp only [if_pos h46]
    by_cases hd : 48 ≤ ch t (p1 + 1) ∧ ch t (p1 + 1) ≤ 57
    · have hnd : ¬ ¬ (48 ≤ ch t (p1 + 1) ∧ ch t (p1 + 1) ≤ 57) := fun h => h hd
      have ea : (100 : Int64) * lN v1 + (10 * (nI (ch t (p1 + 1)) - 48)).toInt64 = lN (100 * v1 + 10 * (ch t (p1 + 1) - 48)) := by
        rw [iL 48, nI_subN hd.1, iL 10, nI_mul, nI_l (by omega), show (100 : Int64) = lN 100 from rfl, lN_mul, lN_add]
      simp only [if_neg hnd, if_pos hd, ea]
      by_cases hd2 : 48 ≤ ch t (p1 + 2) ∧ ch t (p1 + 2) ≤ 57
      · have hnd2 : ¬ ¬ (48 ≤ ch t (p1 + 2) ∧ ch t (p1 + 2) ≤ 57) := fun h => h hd2
        have eb : lN (100 * v1 + 10 * (ch t (p1 + 1) - 48)) + (nI (ch t (p1 + 2)) - 48).toInt64 = lN (100 * v1 + (10 * (ch t (p1 + 1) - 48) + (ch t (p1 + 2) - 48))) := by
          rw [iL 48, nI_subN hd2.1, nI_l (by omega), lN_add, Nat.add_assoc]
        simp only [if_neg hnd2, if_pos hd2, eb, numM]
        exact ⟨trivial, trivial, d6s, hs0, fun _ => ⟨hs1, fun _ => ⟨hs1, hs2, fun _ => hs2⟩⟩⟩
      · simp only [if_pos hd2, if_neg hd2, numM]
        exact ⟨trivial, trivial, d6s, hs0, fun _ => ⟨hs1, fun _ => ⟨hs1, hs2, fun _ => hs2⟩⟩⟩
    · simp only [if_pos hd, if_neg hd, numM]
      exact ⟨trivial, trivial, d6s, hs0, fun _ => ⟨hs1, fun h => absurd hd h⟩⟩
  · simp only [if_neg h46, numM]
    rw [show (100 : Int64) = lN 100 from rfl, lN_mul]
    exact ⟨rfl, trivial, d6s, hs0, fun h => absurd h h46⟩
end MX
