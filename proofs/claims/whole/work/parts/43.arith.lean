/-! DECIMALS, both sides -/
def rnd (a b : Nat) : Nat := if b < 2 * (a % b) ∨ (2 * (a % b) = b ∧ (a / b) % 2 = 1) then a / b + 1 else a / b
theorem lL (n : Nat) : (OfNat.ofNat n : Int64) = lN n := rfl
theorem lc_le {a b : Nat} (ha : a < 2 ^ 63) (hb : b < 2 ^ 63) : (lg_cmp (lN a) (lN b) ≤ 0) ↔ a ≤ b := by rw [lg_cmp_le, pk_lLE ha hb]
theorem lc_lt {a b : Nat} (ha : a < 2 ^ 63) (hb : b < 2 ^ 63) : (0 < lg_cmp (lN a) (lN b)) ↔ b < a := by rw [lg_cmp_gt, pk_lLT hb ha]
theorem lc_eq {a b : Nat} (ha : a < 2 ^ 63) (hb : b < 2 ^ 63) : (lg_cmp (lN a) (lN b) = 0) ↔ a = b := by rw [lg_cmp_eq, pk_lEQ ha hb]
theorem lc_ge {a b : Nat} (ha : a < 2 ^ 63) (hb : b < 2 ^ 63) : (0 ≤ lg_cmp (lN a) (lN b)) ↔ b ≤ a := by rw [lg_cmp_ge, pk_lLE hb ha]
theorem lN_and1 (w : Nat) : lN w &&& 1 = lN (w % 2) := by
  apply Int64.toBitVec_inj.mp
  apply BitVec.eq_of_toNat_eq
  rw [Int64.toBitVec_and, BitVec.toNat_and]
  show (BitVec.ofNat 64 w).toNat &&& (BitVec.ofNat 64 1).toNat = (BitVec.ofNat 64 (w % 2)).toNat
  rw [BitVec.toNat_ofNat, BitVec.toNat_ofNat, BitVec.toNat_ofNat, show 1 % 2 ^ 64 = 1 from rfl, Nat.and_one_is_mod]
  omega
/-- a size with its sign -/
def sg (s : Bool) (a : Nat) : Int64 := if s then -lN a else lN a
def sgok (s : Bool) (a : Nat) : Prop := s = true → 0 < a
theorem neg_lN_toInt {a : Nat} (h : a < 2 ^ 63) : (-lN a).toInt = -(a : Int) := by
  rw [Int64.toInt_neg, pk_lT h]
  have : (-(a : Int)).bmod (2 ^ 64) = -(a : Int) := by
    rw [Int.bmod_def]
    split <;> omega
  exact this
theorem neg_neg64 (x : Int64) : - -x = x := Int64.neg_neg
theorem neg_0 : -lN 0 = lN 0 := by decide
theorem sg_0 (s : Bool) : sg s 0 = lN 0 := by cases s <;> decide
theorem sg_ge {s : Bool} {a : Nat} (h : a < 2 ^ 63) (ho : sgok s a) : (0 ≤ lg_cmp (sg s a) 0) ↔ s = false := by
  rw [lg_cmp_ge, Int64.le_iff_toInt_le, Int64.toInt_zero]
  cases s with
  | false =>
    simp only [sg, Bool.false_eq_true, if_false, pk_lT h]
    exact ⟨fun _ => trivial, fun _ => by omega⟩
  | true =>
    have := ho rfl
    simp only [sg, if_true, neg_lN_toInt h]
    constructor
    · intro h2; omega
    · intro h2; cases h2
theorem sg_absC {s : Bool} {a : Nat} (h : a < 2 ^ 63) (ho : sgok s a) : (if 0 < sg s a then sg s a else -sg s a) = lN a := by
  cases s with
  | false =>
    have e : sg false a = lN a := rfl
    rw [e]
    by_cases h0 : a = 0
    · subst h0; decide
    · rw [if_pos]
      rw [Int64.lt_iff_toInt_lt, Int64.toInt_zero, pk_lT h]
      omega
  | true =>
    have := ho rfl
    have e : sg true a = -lN a := rfl
    rw [e, if_neg, neg_neg64]
    rw [Int64.lt_iff_toInt_lt, Int64.toInt_zero, neg_lN_toInt h]
    omega
theorem sg_absM {s : Bool} {a : Nat} (h : a < 2 ^ 63) (ho : sgok s a) : (if 0 ≤ lg_cmp (sg s a) 0 then sg s a else -sg s a) = lN a := by
  simp only [sg_ge h ho]
  cases s with
  | false => rfl
  | true => simp [sg, neg_neg64]
theorem sg_of {x : Int64} (h1 : -1000000000000000 ≤ x.toInt) (h2 : x.toInt ≤ 1000000000000000) : ∃ (s : Bool) (a : Nat), a ≤ 1000000000000000 ∧ sgok s a ∧ x = sg s a := by
  by_cases h : 0 ≤ x.toInt
  · refine ⟨false, x.toInt.toNat, by omega, fun h => (by cases h), ?_⟩
    apply Int64.toInt_inj.mp
    rw [show sg false x.toInt.toNat = lN x.toInt.toNat from rfl, pk_lT (by omega)]
    omega
  · refine ⟨true, (-x.toInt).toNat, by omega, fun _ => by omega, ?_⟩
    apply Int64.toInt_inj.mp
    rw [show sg true (-x.toInt).toNat = -lN (-x.toInt).toNat from rfl, neg_lN_toInt (by omega)]
    omega
section AR
variable {ht : Nat} {I : Nat → Int32} {A : Nat → Nat → Int32} {J : Nat → Nat → Int64} {it : Nat → Option Nat} {dyn : fsH}
theorem rounded_C {a b : Nat} (ha : a < 2 ^ 62) (hb0 : 0 < b) (hb : b < 2 ^ 62) : L_X0_rounded_r ht I A J it dyn (lN a) (lN b) = lN (rnd a b) ∧ S_X0_rounded ht I A J it dyn (lN a) (lN b) := by
  have hm := Nat.mod_lt a hb0
  have hd := Nat.div_le_self a b
  have hne : ¬ lN b = 0 := by rw [lL 0, pk_lEQ (by omega) (by omega)]; omega
  unfold L_X0_rounded_r S_X0_rounded
  have hp : 0 < lg_cmp (lN b) 0 := by rw [lL 0, lc_lt (by omega) (by omega)]; exact hb0
  refine ⟨?_, fun _ => ⟨hne, hne⟩⟩
  rw [if_pos hp, pk_lRem (by omega) hb0 (by omega), pk_lDiv (by omega) hb0 (by omega), lL 2, lN_mul, lN_and1, lL 1, lN_add]
  simp only [lc_lt (show 2 * (a % b) < 2 ^ 63 by omega) (show b < 2 ^ 63 by omega), lc_eq (show 2 * (a % b) < 2 ^ 63 by omega) (show b < 2 ^ 63 by omega), lc_eq (show a / b % 2 < 2 ^ 63 by omega) (show 1 < 2 ^ 63 by omega)]
  unfold rnd
  by_cases h1 : b < 2 * (a % b)
  · simp [h1]
  · by_cases h2 : 2 * (a % b) = b
    · by_cases h3 : a / b % 2 = 1
      · simp [h2, h3]
      · simp [h2, h3]
    · simp [h1, h2]
theorem divided_M {a b : Nat} (ha : a < 2 ^ 62) (hb0 : 0 < b) (hb : b < 2 ^ 62) (s : Bool) (ho : sgok s a) : L_X8_divided_r ht I A J it dyn (sg s a) (lN b) = sg s (rnd a b) ∧ S_X8_divided ht I A J it dyn (sg s a) (lN b) := by
  have hm := Nat.mod_lt a hb0
  have hd := Nat.div_le_self a b
  have hne : ¬ lN b = 0 := by rw [lL 0, pk_lEQ (by omega) (by omega)]; omega
  refine ⟨?_, hne, hne⟩
  unfold L_X8_divided_r
  simp only [sg_absM (show a < 2 ^ 63 by omega) ho, pk_lRem (show a < 2 ^ 63 by omega) hb0 (show b < 2 ^ 63 by omega)]
  simp only [pk_lDiv (show a < 2 ^ 63 by omega) hb0 (show b < 2 ^ 63 by omega), lL 2, lL 1]
  simp only [pk_lRem (show a / b < 2 ^ 63 by omega) (show 0 < 2 by decide) (show 2 < 2 ^ 63 by decide), lN_add, lN_sub (show a % b ≤ b by omega)]
  simp only [lc_lt (show a % b < 2 ^ 63 by omega) (show b - a % b < 2 ^ 63 by omega), lc_eq (show a % b < 2 ^ 63 by omega) (show b - a % b < 2 ^ 63 by omega), lc_eq (show a / b % 2 < 2 ^ 63 by omega) (show 1 < 2 ^ 63 by omega)]
  have key : (if b - a % b < a % b then lN (a / b + 1) else if a % b = b - a % b then (if a / b % 2 = 1 then lN (a / b + 1) else lN (a / b)) else lN (a / b)) = lN (rnd a b) := by
    unfold rnd
    by_cases h1 : b < 2 * (a % b)
    · rw [if_pos (by omega), if_pos (Or.inl h1)]
    · rw [if_neg (by omega)]
      by_cases h2 : 2 * (a % b) = b
      · rw [if_pos (by omega)]
        by_cases h3 : a / b % 2 = 1
        · rw [if_pos h3, if_pos (Or.inr ⟨h2, h3⟩)]
        · rw [if_neg h3, if_neg (by omega)]
      · rw [if_neg (by omega), if_neg (by omega)]
  rw [key]
  simp only [sg_ge (show a < 2 ^ 63 by omega) ho]
  cases s with
  | false => rfl
  | true => simp [sg]
/-- an outcome of the class is a value and a fault of the reference -/
def OC (o v : Int64) (f : Int32) : Prop := (f = 0 ∧ o = v ∧ -1000000000000000 ≤ v.toInt ∧ v.toInt ≤ 1000000000000000) ∨ (∃ n : Nat, 1 ≤ n ∧ n ≤ 3 ∧ f = nI n ∧ v = 0 ∧ o = lN (10000000000000000 + n))
def cmF (v : Int64) (f : Int32) : Int32 := if f = 0 then (if v.toInt < -1000000000000000 ∨ 1000000000000000 < v.toInt then 1 else 0) else f
def cmV (v : Int64) (f : Int32) : Int64 := if cmF v f = 0 then v else 0
theorem limN : (-1000000000000000 : Int64).toInt = -1000000000000000 := by decide
theorem limP : (1000000000000000 : Int64).toInt = 1000000000000000 := by decide
theorem isIn_M (v : Int64) : (L_X8_isIn_r ht I A J it dyn v = 0 ↔ (v.toInt < -1000000000000000 ∨ 1000000000000000 < v.toInt)) ∧ (L_X8_isIn_r ht I A J it dyn v = 0 ∨ L_X8_isIn_r ht I A J it dyn v = 1) := by
  unfold L_X8_isIn_r
  simp only [lg_cmp_lt, lg_cmp_gt, Int64.lt_iff_toInt_lt, limN, limP]
  by_cases h1 : v.toInt < -1000000000000000
  · rw [if_pos h1]; exact ⟨⟨fun _ => Or.inl h1, fun _ => rfl⟩, Or.inl rfl⟩
  · rw [if_neg h1]
    by_cases h2 : 1000000000000000 < v.toInt
    · rw [if_pos h2]; exact ⟨⟨fun _ => Or.inr h2, fun _ => rfl⟩, Or.inl rfl⟩
    · rw [if_neg h2]
      exact ⟨⟨fun h => absurd h (by decide), fun h => h.elim (fun h => absurd h h1) (fun h => absurd h h2)⟩, Or.inr rfl⟩
theorem come_M {j : Nat} (hj : j < 32) (v : Int64) (f : Int32) : L_X8_come_A ht I A J it dyn (nI j) v f = va_up A 36 (upd (A 36) j (cmF v f)) ∧ L_X8_come_J ht I A J it dyn (nI j) v f = va_up J 35 (vp_updL (J 35) j (cmV v f)) ∧ S_X8_come ht I A J it dyn (nI j) v f := by
  have hin : vp_in (nI j) 32 := nI_in (by omega) (by omega)
  have e : (if f = 0 then (if L_X8_isIn_r ht I A J it dyn v = 0 then (1 : Int32) else 0) else f) = cmF v f := by
    unfold cmF
    simp only [(isIn_M (ht := ht) (I := I) (A := A) (J := J) (it := it) (dyn := dyn) v).1]
  unfold L_X8_come_A L_X8_come_J S_X8_come
  rw [nI_clamp (show j < 2 ^ 31 by omega), e]
  refine ⟨rfl, ?_, hin, hin, hin⟩
  unfold cmV
  simp [va_up, upd]
theorem lim_C (z : Int64) : OC (L_X0_limited_r ht I A J it dyn z) (cmV z 0) (cmF z 0) := by
  unfold L_X0_limited_r OC cmV cmF
  simp only [lg_cmp_lt, lg_cmp_le, Int64.lt_iff_toInt_lt, Int64.le_iff_toInt_le, limN, limP, if_true]
  by_cases h1 : z.toInt < -1000000000000000
  · rw [if_pos h1, if_pos (Or.inl h1)]
    exact Or.inr ⟨1, by decide, by decide, rfl, rfl, rfl⟩
  · by_cases h2 : z.toInt ≤ 1000000000000000
    · rw [if_neg h1, if_pos h2, if_neg (by omega)]
      exact Or.inl ⟨rfl, rfl, by simp only [if_true]; omega, by simp only [if_true]; omega⟩
    · rw [if_neg h1, if_neg h2, if_pos (Or.inr (by omega))]
      exact Or.inr ⟨1, by decide, by decide, rfl, rfl, rfl⟩
theorem OC_f {o v : Int64} {f : Int32} (h : OC o v f) : (L_X7_isFault_r ht I A J it dyn o = 0 ↔ f = 0) := by
  unfold L_X7_isFault_r
  simp only [lg_cmp_le, Int64.le_iff_toInt_le, limP]
  rcases h with ⟨e1, e2, e3, e4⟩ | ⟨n, n1, n2, e1, e2, e3⟩
  · subst e2
    rw [if_pos e4, e1]
  · rw [e3, pk_lT (by omega), if_neg (by omega), e1]
    constructor
    · intro h; exact absurd h (by decide)
    · intro h; rw [iL 0, nI_eq (by omega) (by omega)] at h; omega
theorem come_OC {o v : Int64} {f : Int32} (h : OC o v f) : cmF v f = f ∧ cmV v f = v := by
  unfold cmV cmF
  rcases h with ⟨e1, e2, e3, e4⟩ | ⟨n, n1, n2, e1, e2, e3⟩
  · rw [if_pos e1, if_neg (by omega), e1]
    exact ⟨rfl, by rw [if_pos rfl]⟩
  · have hn : ¬ f = 0 := by rw [e1, iL 0, nI_eq (by omega) (by omega)]; omega
    rw [if_neg hn, if_neg hn]
    exact ⟨rfl, e2.symm⟩
end AR
