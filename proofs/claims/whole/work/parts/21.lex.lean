/-! LETTERS, DIGITS, NAMES, NUMBERS: the class -/
def ch (t : List Nat) (p : Nat) : Nat := t.getD p 0
def isL (c : Nat) : Prop := 97 ≤ c ∧ c ≤ 122
def isD (c : Nat) : Prop := 48 ≤ c ∧ c ≤ 57
def isS (c : Nat) : Prop := c = 43 ∨ c = 45 ∨ c = 42 ∨ c = 47 ∨ c = 60 ∨ c = 61 ∨ c = 63
theorem ch_end {t : List Nat} {p : Nat} (h : t.length ≤ p) : ch t p = 0 := by
  unfold ch
  rw [List.getD_eq_getElem?_getD, List.getElem?_eq_none h]; rfl
theorem ch_lt {t : List Nat} {p : Nat} (h : ∀ c ∈ t, 32 ≤ c ∧ c ≤ 126) : ch t p < 127 := by
  by_cases hp : p < t.length
  · unfold ch
    rw [List.getD_eq_getElem?_getD, List.getElem?_eq_getElem hp]
    have := h _ (List.getElem_mem hp)
    simp only [Option.getD_some]; omega
  · rw [ch_end (by omega)]; decide
theorem ch_in {t : List Nat} {p : Nat} (h : ch t p ≠ 0) : p < t.length := Nat.lt_of_not_le fun h1 => h (ch_end h1)
/-- the name's number in the reference, and behind which character it ends -/
def pnm (t : List Nat) (p : Nat) : Nat × Nat := if 97 ≤ ch t (p + 1) ∧ ch t (p + 1) ≤ 122 then (27 * (ch t p - 96) + (ch t (p + 1) - 96), p + 2) else (27 * (ch t p - 96), p + 1)
/-- the name's number in the class -/
def cnm (n : Nat) : Nat := if n % 27 = 0 then n / 27 + 96 else 128 * (n / 27 + 96) + (n % 27 + 96)
theorem cnm_inj {a b : Nat} (ha : 27 ≤ a ∧ a ≤ 728) (hb : 27 ≤ b ∧ b ≤ 728) : cnm a = cnm b ↔ a = b := by
  constructor
  · intro h
    unfold cnm at h
    split at h <;> split at h <;> omega
  · rintro rfl; rfl
theorem pnm_in {t : List Nat} {p : Nat} (h : isL (ch t p)) : 27 ≤ (pnm t p).1 ∧ (pnm t p).1 ≤ 728 := by
  unfold pnm
  obtain ⟨h1, h2⟩ := h
  split <;> simp only <;> omega
def pdg (t : List Nat) : Nat → Nat → Nat → Nat × Nat
  | 0, p, v => (v, p)
  | k + 1, p, v => if 48 ≤ ch t p ∧ ch t p ≤ 57 then pdg t k (p + 1) (10 * v + (ch t p - 48)) else (v, p)
def pnum (t : List Nat) (p : Nat) : Option Nat × Nat :=
  if ch t (pdg t 6 p 0).2 = 46 then
    (if 48 ≤ ch t ((pdg t 6 p 0).2 + 1) ∧ ch t ((pdg t 6 p 0).2 + 1) ≤ 57 then
      (if 48 ≤ ch t ((pdg t 6 p 0).2 + 2) ∧ ch t ((pdg t 6 p 0).2 + 2) ≤ 57 then (some (100 * (pdg t 6 p 0).1 + (10 * (ch t ((pdg t 6 p 0).2 + 1) - 48) + (ch t ((pdg t 6 p 0).2 + 2) - 48))), (pdg t 6 p 0).2 + 3)
      else (some (100 * (pdg t 6 p 0).1 + 10 * (ch t ((pdg t 6 p 0).2 + 1) - 48)), (pdg t 6 p 0).2 + 2))
    else (none, (pdg t 6 p 0).2 + 1))
  else (some (100 * (pdg t 6 p 0).1), (pdg t 6 p 0).2)
theorem pdg_b (t : List Nat) : ∀ (k p v : Nat), p ≤ t.length → p ≤ (pdg t k p v).2 ∧ (pdg t k p v).2 ≤ t.length ∧ (pdg t k p v).1 < (v + 1) * 10 ^ k := by
  intro k
  induction k with
  | zero => intro p v hp; exact ⟨Nat.le_refl _, hp, by simp [pdg]⟩
  | succ k ih =>
    intro p v hp
    unfold pdg
    split
    · rename_i h
      have hp' : p < t.length := ch_in (by omega)
      obtain ⟨h1, h2, h3⟩ := ih (p + 1) (10 * v + (ch t p - 48)) (by omega)
      refine ⟨by omega, h2, Nat.lt_of_lt_of_le h3 ?_⟩
      rw [Nat.pow_succ, Nat.mul_comm (10 ^ k) 10, ← Nat.mul_assoc]
      exact Nat.mul_le_mul_right _ (by omega)
    · refine ⟨Nat.le_refl _, hp, ?_⟩
      have : 1 ≤ 10 ^ (k + 1) := Nat.one_le_pow _ _ (by decide)
      calc v < v + 1 := by omega
        _ = (v + 1) * 1 := by omega
        _ ≤ (v + 1) * 10 ^ (k + 1) := Nat.mul_le_mul_left _ this
section LX
variable {ht : Nat} {I : Nat → Int32} {A : Nat → Nat → Int32} {J : Nat → Nat → Int64} {it : Nat → Option Nat} {dyn : fsH} {t : List Nat} {p : Nat}
theorem isL_C {c : Nat} (h : c < 127) : L_X7_isLetter_r ht I A J it dyn (nI c) = if 97 ≤ c ∧ c ≤ 122 then 1 else 0 := (by decide +kernel : ∀ c : Nat, c < 127 → (if nI c < 97 then (0 : Int32) else if 122 < nI c then 0 else 1) = if 97 ≤ c ∧ c ≤ 122 then 1 else 0) c h
theorem isD_C {c : Nat} (h : c < 127) : L_X7_isDigit_r ht I A J it dyn (nI c) = if 48 ≤ c ∧ c ≤ 57 then 1 else 0 := (by decide +kernel : ∀ c : Nat, c < 127 → (if nI c < 48 then (0 : Int32) else if 57 < nI c then 0 else 1) = if 48 ≤ c ∧ c ≤ 57 then 1 else 0) c h
theorem isS_C {c : Nat} (h : c < 127) : L_X5_isSign_r ht I A J it dyn (nI c) = if c = 43 ∨ c = 45 ∨ c = 42 ∨ c = 47 ∨ c = 60 ∨ c = 61 ∨ c = 63 then 1 else 0 := (by decide +kernel : ∀ c : Nat, c < 127 → (if nI c = 43 then (1 : Int32) else if nI c = 45 then 1 else if nI c = 42 then 1 else if nI c = 47 then 1 else if nI c = 60 then 1 else if nI c = 61 then 1 else if nI c = 63 then 1 else 0) = if c = 43 ∨ c = 45 ∨ c = 42 ∨ c = 47 ∨ c = 60 ∨ c = 61 ∨ c = 63 then 1 else 0) c h
theorem next_C (hT : txR 2 2 I A t) (hp : p ≤ 62) : L_X5_next_r ht (upd I 3 (nI p)) A J it dyn = nI (ch t p) ∧ S_X5_next ht (upd I 3 (nI p)) A J it dyn := by
  have hl := hT.2.1
  have e : L_X5_next_r ht (upd I 3 (nI p)) A J it dyn = nI (ch t p) := by
    unfold L_X5_next_r
    rw [upd_n _ _ (by decide), upd_s, hT.1, nI_clamp (by omega)]
    simp (disch := omega) only [nI_leI]
    by_cases h : t.length ≤ p
    · rw [if_pos h, ch_end h]; rfl
    · rw [if_neg h, hT.2.2.1 p (by omega)]; rfl
  refine ⟨e, ?_, ?_⟩
  · rw [upd_n _ _ (by decide), upd_s, hT.1, nI_leI (by omega) (by omega)]
    intro h
    exact nI_in (by omega) (by omega)
  · unfold L_X5_next_r at e
    rw [e]
    exact nar_chr _ (ch_lt hT.2.2.2)
theorem skip_C (hT : txR 2 2 I A t) (hp : p ≤ 62) (x : Nat) (hx : x < 127) : L_X5_skip_r ht (upd I 3 (nI p)) A J it dyn (nI x) = (if ch t p = x then 1 else 0) ∧ L_X5_skip_I ht (upd I 3 (nI p)) A J it dyn (nI x) = upd I 3 (nI (if ch t p = x then p + 1 else p)) ∧ S_X5_skip ht (upd I 3 (nI p)) A J it dyn (nI x) := by
  obtain ⟨e, hs⟩ := next_C (ht := ht) (J := J) (it := it) (dyn := dyn) hT hp
  have hc := ch_lt (p := p) hT.2.2.2
  refine ⟨?_, ?_, hs⟩
  · unfold L_X5_skip_r
    rw [e]
    simp (disch := omega) only [nI_eq]
  · unfold L_X5_skip_I
    rw [e, upd_s, nI_1, upd_upd]
    simp (disch := omega) only [nI_eq]
    split <;> rfl
theorem isL_0 {c : Nat} (h : c < 127) : (L_X7_isLetter_r ht I A J it dyn (nI c) = 0) ↔ ¬ (97 ≤ c ∧ c ≤ 122) := by
  rw [isL_C h]
  by_cases h1 : 97 ≤ c ∧ c ≤ 122
  · rw [if_pos h1]; exact ⟨fun h => absurd h (by decide), fun h => absurd h1 h⟩
  · rw [if_neg h1]; exact ⟨fun _ => h1, fun _ => rfl⟩
theorem isD_0 {c : Nat} (h : c < 127) : (L_X7_isDigit_r ht I A J it dyn (nI c) = 0) ↔ ¬ (48 ≤ c ∧ c ≤ 57) := by
  rw [isD_C h]
  by_cases h1 : 48 ≤ c ∧ c ≤ 57
  · rw [if_pos h1]; exact ⟨fun h => absurd h (by decide), fun h => absurd h1 h⟩
  · rw [if_neg h1]; exact ⟨fun _ => h1, fun _ => rfl⟩
theorem name_C0 (n : Nat) (hT : txR 2 2 I A t) (hp : p ≤ 60) (hL : 97 ≤ ch t p ∧ ch t p ≤ 122) : Lb_X5_nameCode_4_v1 (n + 1 + 1 + 1) ht (upd I 3 (nI p)) A J it dyn 0 0 = nI (cnm (pnm t p).1) ∧ Lb_X5_nameCode_4_I (n + 1 + 1 + 1) ht (upd I 3 (nI p)) A J it dyn 0 0 = upd I 3 (nI (pnm t p).2) ∧ S_Lb_X5_nameCode_4 (n + 1 + 1 + 1) ht (upd I 3 (nI p)) A J it dyn 0 0 := by
  obtain ⟨e, hs⟩ := next_C (ht := ht) (J := J) (it := it) (dyn := dyn) hT (p := p) (by omega)
  obtain ⟨e1, hs1⟩ := next_C (ht := ht) (J := J) (it := it) (dyn := dyn) hT (p := p + 1) (by omega)
  have hc := ch_lt (p := p) hT.2.2.2
  have hc1 := ch_lt (p := p + 1) hT.2.2.2
  have z0 : ¬ (2 : Int32) ≤ 0 := by decide
  have z1 : ¬ (2 : Int32) ≤ 0 + 1 := by decide
  have z2 : (2 : Int32) ≤ 0 + 1 + 1 := by decide
  have hl0 : ¬ L_X7_isLetter_r ht (upd I 3 (nI p)) A J it dyn (nI (ch t p)) = 0 := fun h => ((isL_0 hc).mp h) hL
  have eI : upd (upd I 3 (nI p)) 3 ((upd I 3 (nI p)) 3 + 1) = upd I 3 (nI (p + 1)) := by rw [upd_s, nI_1, upd_upd]
  have eI1 : upd (upd I 3 (nI (p + 1))) 3 ((upd I 3 (nI (p + 1))) 3 + 1) = upd I 3 (nI (p + 2)) := by rw [upd_s, nI_1, upd_upd]
  simp only [Lb_X5_nameCode_4_I, Lb_X5_nameCode_4_v1, S_Lb_X5_nameCode_4, if_neg z0, if_neg z1, if_pos z2, e, if_neg hl0, eI, e1, eI1]
  by_cases hL1 : 97 ≤ ch t (p + 1) ∧ ch t (p + 1) ≤ 122
  · have hl1 : ¬ L_X7_isLetter_r ht (upd I 3 (nI (p + 1))) A J it dyn (nI (ch t (p + 1))) = 0 := fun h => ((isL_0 hc1).mp h) hL1
    unfold pnm
    simp only [if_neg hl1, if_pos hL1]
    refine ⟨?_, trivial, fun _ => ⟨hs, fun _ => ⟨hs, fun _ => ⟨hs1, fun _ => ⟨hs1, fun h => absurd z2 h⟩⟩⟩⟩⟩
    rw [iL 128, iL 0, nI_mul, nI_add, nI_mul, nI_add]
    congr 1
    unfold cnm
    rw [if_neg (by omega)]
    omega
  · have hl1 : L_X7_isLetter_r ht (upd I 3 (nI (p + 1))) A J it dyn (nI (ch t (p + 1))) = 0 := (isL_0 hc1).mpr hL1
    unfold pnm
    simp only [if_pos hl1, if_neg hL1]
    refine ⟨?_, trivial, fun _ => ⟨hs, fun _ => ⟨hs, fun _ => ⟨hs1, fun h => absurd hl1 h⟩⟩⟩⟩
    rw [iL 128, iL 0, nI_mul, nI_add]
    congr 1
    unfold cnm
    rw [if_pos (by omega)]
    omega
theorem name_C (hT : txR 2 2 I A t) (hp : p ≤ 60) (hL : 97 ≤ ch t p ∧ ch t p ≤ 122) : L_X5_nameCode_r ht (upd I 3 (nI p)) A J it dyn = nI (cnm (pnm t p).1) ∧ L_X5_nameCode_I ht (upd I 3 (nI p)) A J it dyn = upd I 3 (nI (pnm t p).2) ∧ S_X5_nameCode ht (upd I 3 (nI p)) A J it dyn := name_C0 67 hT hp hL
theorem dig_C (hT : txR 2 2 I A t) (k0 : Nat) (hk0 : k0 ≤ 6) : ∀ (k n q p v : Nat), k < n → q + k = k0 → p ≤ t.length → (v + 1) * 10 ^ k ≤ 10 ^ 8 →
    Lb_X5_digits_5_v2 n ht (upd I 3 (nI p)) A J it dyn (nI k0) (lN v) (nI q) = lN (pdg t k p v).1 ∧ Lb_X5_digits_5_I n ht (upd I 3 (nI p)) A J it dyn (nI k0) (lN v) (nI q) = upd I 3 (nI (pdg t k p v).2) ∧ S_Lb_X5_digits_5 n ht (upd I 3 (nI p)) A J it dyn (nI k0) (lN v) (nI q) := by
  intro k
  induction k with
  | zero =>
    intro n q p v hn hq hp hv
    obtain ⟨n, rfl⟩ : ∃ n', n = n' + 1 := ⟨n - 1, by omega⟩
    have hz : nI k0 ≤ nI q := nI_le (by omega) (by omega)
    simp only [Lb_X5_digits_5_v2, Lb_X5_digits_5_I, S_Lb_X5_digits_5, if_pos hz, pdg]
    exact ⟨trivial, trivial, fun h => absurd hz h⟩
  | succ k ih =>
    intro n q p v hn hq hp hv
    have hl60 := hT.2.1
    obtain ⟨n, rfl⟩ : ∃ n', n = n' + 1 := ⟨n - 1, by omega⟩
    have hz : ¬ nI k0 ≤ nI q := by rw [nI_leI (by omega) (by omega)]; omega
    obtain ⟨e, hs⟩ := next_C (ht := ht) (J := J) (it := it) (dyn := dyn) hT (p := p) (by omega)
    have hc := ch_lt (p := p) hT.2.2.2
    have eI : upd (upd I 3 (nI p)) 3 ((upd I 3 (nI p)) 3 + 1) = upd I 3 (nI (p + 1)) := by rw [upd_s, nI_1, upd_upd]
    simp only [Lb_X5_digits_5_v2, Lb_X5_digits_5_I, S_Lb_X5_digits_5, if_neg hz, e, eI, nI_1]
    unfold pdg
    by_cases hd : 48 ≤ ch t p ∧ ch t p ≤ 57
    · have hl : ¬ L_X7_isDigit_r ht (upd I 3 (nI p)) A J it dyn (nI (ch t p)) = 0 := fun h => ((isD_0 hc).mp h) hd
      have hp' : p < t.length := ch_in (by omega)
      have ev : (10 : Int64) * lN v + (nI (ch t p) - 48).toInt64 = lN (10 * v + (ch t p - 48)) := by
        rw [iL 48, nI_subN hd.1, nI_l (by omega), show (10 : Int64) = lN 10 from rfl, lN_mul, lN_add]
      simp only [if_neg hl, if_pos hd, ev]
      obtain ⟨h1, h2, h3⟩ := ih n (q + 1) (p + 1) (10 * v + (ch t p - 48)) (by omega) (by omega) (by omega) (by
        refine Nat.le_trans ?_ hv
        rw [Nat.pow_succ, Nat.mul_comm (10 ^ k) 10, ← Nat.mul_assoc]
        exact Nat.mul_le_mul_right _ (by omega))
      exact ⟨h1, h2, fun _ => ⟨hs, fun _ => ⟨hs, h3⟩⟩⟩
    · have hl : L_X7_isDigit_r ht (upd I 3 (nI p)) A J it dyn (nI (ch t p)) = 0 := (isD_0 hc).mpr hd
      simp only [if_pos hl, if_neg hd]
      exact ⟨trivial, trivial, fun _ => ⟨hs, fun h => absurd hl h⟩⟩
end LX
