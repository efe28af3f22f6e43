/-! DECIMALS: products, quotients, all operations -/
theorem split9 (a b : Nat) : a * b = (a / 1000000000 * (b / 1000000000)) * 1000000000000000000 + (a / 1000000000 * (b % 1000000000) + a % 1000000000 * (b / 1000000000)) * 1000000000 + a % 1000000000 * (b % 1000000000) := by
  have ea := Nat.div_add_mod a 1000000000
  have eb := Nat.div_add_mod b 1000000000
  generalize a / 1000000000 = a1 at *
  generalize a % 1000000000 = a0 at *
  generalize b / 1000000000 = b1 at *
  generalize b % 1000000000 = b0 at *
  subst ea
  subst eb
  rw [Nat.add_mul, Nat.mul_add, Nat.mul_add]
  have e1 : 1000000000 * a1 * (1000000000 * b1) = 1000000000000000000 * (a1 * b1) := by rw [Nat.mul_mul_mul_comm]
  have e2 : 1000000000 * a1 * b0 = 1000000000 * (a1 * b0) := by rw [Nat.mul_assoc]
  have e3 : a0 * (1000000000 * b1) = 1000000000 * (a0 * b1) := by rw [Nat.mul_left_comm]
  rw [e1, e2, e3]
  generalize a1 * b1 = p1
  generalize a1 * b0 = p2
  generalize a0 * b1 = p3
  generalize a0 * b0 = p4
  omega
theorem sg_neg (s : Bool) (n : Nat) : sg (!s) n = -sg s n := by
  cases s with
  | false => rfl
  | true => simp [sg, neg_neg64]
theorem sg_toInt {s : Bool} {n : Nat} (h : n < 2 ^ 63) : (sg s n).toInt = if s then -(n : Int) else (n : Int) := by
  cases s with
  | false => simp [sg, pk_lT h]
  | true => simp [sg, neg_lN_toInt h]
section PR
variable {ht : Nat} {I : Nat → Int32} {A : Nat → Nat → Int32} {J : Nat → Nat → Int64} {it : Nat → Option Nat} {dyn : fsH}
theorem same_s {s1 s2 : Bool} {a b : Nat} (ha : a < 2 ^ 63) (hb : b < 2 ^ 63) (h1 : sgok s1 a) (h2 : sgok s2 b) : ((if 0 ≤ lg_cmp (sg s1 a) 0 then (0 : Int32) else 1) = (if 0 ≤ lg_cmp (sg s2 b) 0 then 0 else 1)) ↔ s1 = s2 := by
  simp only [sg_ge ha h1, sg_ge hb h2]
  cases s1 <;> cases s2 <;> simp
theorem far_OC {z : Int64} (h : z.toInt < -1000000000000000 ∨ 1000000000000000 < z.toInt) : OC 10000000000000001 (cmV z 0) (cmF z 0) := by
  have e : cmF z 0 = 1 := by unfold cmF; rw [if_pos rfl, if_pos h]
  unfold cmV
  rw [e]
  exact Or.inr ⟨1, by decide, by decide, rfl, rfl, rfl⟩
theorem prod_eq {s1 s2 : Bool} {a b : Nat} (ha : a ≤ 1000000000000000) (hb : b ≤ 1000000000000000) (h1 : sgok s1 a) (h2 : sgok s2 b) :
    OC (L_X0_product_r ht I A J it dyn (sg s1 a) (sg s2 b)) (cmV (L_X8_product_r ht I A J it dyn (sg s1 a) (sg s2 b)) 0) (cmF (L_X8_product_r ht I A J it dyn (sg s1 a) (sg s2 b)) 0) ∧ S_X0_product ht I A J it dyn (sg s1 a) (sg s2 b) ∧ S_X8_product ht I A J it dyn (sg s1 a) (sg s2 b) := by
  have ha3 : a < 2 ^ 63 := by omega
  have hb3 : b < 2 ^ 63 := by omega
  have hsp := split9 a b
  -- sizes of the pieces
  have a1 : a / 1000000000 ≤ 1000000 := by omega
  have b1 : b / 1000000000 ≤ 1000000 := by omega
  have a0 : a % 1000000000 < 1000000000 := Nat.mod_lt _ (by decide)
  have b0 : b % 1000000000 < 1000000000 := Nat.mod_lt _ (by decide)
  have m11 := Nat.mul_le_mul a1 b1
  have m10 := Nat.mul_le_mul a1 (Nat.le_of_lt b0)
  have m01 := Nat.mul_le_mul (Nat.le_of_lt a0) b1
  have m00 := Nat.mul_le_mul (Nat.le_of_lt a0) (Nat.le_of_lt b0)
  unfold L_X0_product_r L_X8_product_r S_X0_product S_X8_product
  simp only [sg_absC ha3 h1, sg_absC hb3 h2, sg_absM ha3 h1, sg_absM hb3 h2, same_s ha3 hb3 h1 h2, lL 1000000000, pk_lRem ha3 (show 0 < 1000000000 by decide) (show 1000000000 < 2 ^ 63 by decide), pk_lRem hb3 (show 0 < 1000000000 by decide) (show 1000000000 < 2 ^ 63 by decide)]
  simp only [pk_lDiv ha3 (show 0 < 1000000000 by decide) (show 1000000000 < 2 ^ 63 by decide), pk_lDiv hb3 (show 0 < 1000000000 by decide) (show 1000000000 < 2 ^ 63 by decide), lN_mul, lN_add]
  generalize a / 1000000000 * (b / 1000000000) = hi at *
  generalize hmid : a / 1000000000 * (b % 1000000000) + a % 1000000000 * (b / 1000000000) = mid at *
  generalize a % 1000000000 * (b % 1000000000) = lo at *
  have hmid2 : mid ≤ 2000000000000000 := by omega
  have hlo : lo ≤ 1000000000000000000 := by omega
  have hhi : hi ≤ 1000000000000 := by omega
  have c1 : (0 < lg_cmp (lN hi) 0) ↔ 0 < hi := lc_lt (by omega) (by decide)
  have c2 : (lg_cmp (lN mid) 200000000 ≤ 0) ↔ mid ≤ 200000000 := lc_le (by omega) (by decide)
  have c3 : (lg_cmp (lN a) 0 = 0) ↔ a = 0 := lc_eq (by omega) (by decide)
  have c4 : (lN a = 0) ↔ a = 0 := pk_lEQ (by omega) (by decide)
  simp only [c1, c2, c3, c4]
  have sR : mid ≤ 200000000 → L_X8_divided_r ht I A J it dyn (lN (mid * 1000000000 + lo)) 100 = lN (rnd (mid * 1000000000 + lo) 100) ∧ S_X8_divided ht I A J it dyn (lN (mid * 1000000000 + lo)) 100 := fun hm => divided_M (s := false) (by omega) (by decide) (by decide) (fun h => by cases h)
  have z1 : ∀ {c : Prop} [Decidable c], ((if c then (0 : Int32) else 1) = 0) ↔ c := by
    intro c _
    by_cases hc : c
    · simp [hc]
    · simp [hc]
  simp only [z1]
  -- the reference's answer
  have e2p : (2000000000000000 : Int64).toInt = 2000000000000000 := by decide
  have e2n : (-2000000000000000 : Int64).toInt = -2000000000000000 := by decide
  have far2 : OC 10000000000000001 (cmV (if s1 = s2 then (2000000000000000 : Int64) else -2000000000000000) 0) (cmF (if s1 = s2 then (2000000000000000 : Int64) else -2000000000000000) 0) := by
    apply far_OC
    split
    · rw [e2p]; omega
    · rw [e2n]; omega
  refine ⟨?_, fun hne => ⟨hne, fun hle => ?_⟩, fun hh hm => (sR hm).2⟩
  · by_cases hP : a * b ≤ 100000000000000050
    · have hh : ¬ 0 < hi := by omega
      have hm : mid ≤ 200000000 := by omega
      rw [if_neg hh, if_pos hm, (sR hm).1]
      have hw : mid * 1000000000 + lo = a * b := by omega
      rw [hw]
      by_cases h0 : a = 0
      · subst h0
        rw [if_pos rfl, Nat.zero_mul, show rnd 0 100 = 0 from rfl, neg_0]
        have : (if s1 = s2 then lN 0 else lN 0) = lN 0 := by split <;> rfl
        rw [this]
        exact Or.inl ⟨by decide, by decide, by decide, by decide⟩
      · have hle : lg_cmp (lN b) (100000000000000050 / lN a) ≤ 0 := by
          rw [lL 100000000000000050, pk_lDiv (by decide) (by omega) (by omega), lc_le (by omega) (by have := Nat.div_le_self 100000000000000050 a; omega), Nat.le_div_iff_mul_le (by omega)]
          rw [Nat.mul_comm]; exact hP
        rw [if_neg h0, if_pos hle]
        have hr := (rounded_C (ht := ht) (I := I) (A := A) (J := J) (it := it) (dyn := dyn) (a := a * b) (b := 100) (by omega) (by decide) (by decide)).1
        have hr : L_X0_rounded_r ht I A J it dyn (lN (a * b)) 100 = lN (rnd (a * b) 100) := hr
        rw [hr]
        exact lim_C _
    · have h0 : ¬ a = 0 := by intro h; subst h; omega
      have hle : ¬ lg_cmp (lN b) (100000000000000050 / lN a) ≤ 0 := by
        rw [lL 100000000000000050, pk_lDiv (by decide) (by omega) (by omega), lc_le (by omega) (by have := Nat.div_le_self 100000000000000050 a; omega), Nat.le_div_iff_mul_le (by omega)]
        rw [Nat.mul_comm]; exact hP
      rw [if_neg h0, if_neg hle]
      by_cases hh : 0 < hi
      · rw [if_pos hh]; exact far2
      · rw [if_neg hh]
        by_cases hm : mid ≤ 200000000
        · rw [if_pos hm, (sR hm).1]
          have hw : mid * 1000000000 + lo = a * b := by omega
          have hbig : 1000000000000000 < rnd (mid * 1000000000 + lo) 100 := by
            unfold rnd
            split <;> omega
          have hsm : rnd (mid * 1000000000 + lo) 100 < 2 ^ 63 := by
            unfold rnd
            split <;> omega
          apply far_OC
          split
          · rw [pk_lT hsm]; omega
          · rw [neg_lN_toInt hsm]; omega
        · rw [if_neg hm]; exact far2
  · have hle2 : a * b ≤ 100000000000000050 := by
      rw [lL 100000000000000050, pk_lDiv (by decide) (by omega) (by omega), lc_le (by omega) (by have := Nat.div_le_self 100000000000000050 a; omega), Nat.le_div_iff_mul_le (by omega)] at hle
      rw [Nat.mul_comm]; exact hle
    exact (rounded_C (ht := ht) (I := I) (A := A) (J := J) (it := it) (dyn := dyn) (a := a * b) (b := 100) (by omega) (by decide) (by decide)).2
theorem quot_eq {s1 s2 : Bool} {a b : Nat} (ha : a ≤ 1000000000000000) (hb : b ≤ 1000000000000000) (h1 : sgok s1 a) (h2 : sgok s2 b) (hb0 : 0 < b) :
    ∃ z : Int64, (if 0 ≤ lg_cmp (sg s2 b) 0 then L_X8_divided_r ht I A J it dyn (100 * sg s1 a) (sg s2 b) else L_X8_divided_r ht I A J it dyn (-100 * sg s1 a) (-sg s2 b)) = z ∧ OC (L_X0_quotient_r ht I A J it dyn (sg s1 a) (sg s2 b)) (cmV z 0) (cmF z 0) ∧ S_X0_quotient ht I A J it dyn (sg s1 a) (sg s2 b) ∧ (0 ≤ lg_cmp (sg s2 b) 0 → S_X8_divided ht I A J it dyn (100 * sg s1 a) (sg s2 b)) ∧ (¬ 0 ≤ lg_cmp (sg s2 b) 0 → S_X8_divided ht I A J it dyn (-100 * sg s1 a) (-sg s2 b)) := by
  have ha3 : a < 2 ^ 63 := by omega
  have hb3 : b < 2 ^ 63 := by omega
  obtain ⟨r1, r2⟩ := rounded_C (ht := ht) (I := I) (A := A) (J := J) (it := it) (dyn := dyn) (a := 100 * a) (b := b) (by omega) hb0 (by omega)
  have hne : ¬ lg_cmp (sg s2 b) 0 = 0 := by
    rw [lg_cmp_eq]
    intro h
    have := congrArg Int64.toInt h
    rw [sg_toInt hb3, Int64.toInt_zero] at this
    split at this <;> omega
  have m1 : ∀ s : Bool, (100 : Int64) * sg s a = sg s (100 * a) := by
    intro s
    cases s with
    | false => rw [show sg false a = lN a from rfl, lL 100, lN_mul]; rfl
    | true => rw [show sg true a = -lN a from rfl, Int64.mul_neg, lL 100, lN_mul]; rfl
  have m2 : (-100 : Int64) * sg s1 a = sg (!s1) (100 * a) := by
    rw [sg_neg, ← m1 s1, ← Int64.neg_mul]
  unfold L_X0_quotient_r S_X0_quotient
  simp only [if_neg hne, sg_absC ha3 h1, sg_absC hb3 h2, same_s ha3 hb3 h1 h2, lL 100, lN_mul, r1]
  refine ⟨_, rfl, ?_, fun _ => r2, ?_, ?_⟩
  · have ez : (if 0 ≤ lg_cmp (sg s2 b) 0 then L_X8_divided_r ht I A J it dyn (lN 100 * sg s1 a) (sg s2 b) else L_X8_divided_r ht I A J it dyn (-lN 100 * sg s1 a) (-sg s2 b)) = (if s1 = s2 then lN (rnd (100 * a) b) else -lN (rnd (100 * a) b)) := by
      simp only [sg_ge hb3 h2]
      cases s2 with
      | false =>
        rw [if_pos rfl, ← lL 100, m1 s1]
        have d := (divided_M (ht := ht) (I := I) (A := A) (J := J) (it := it) (dyn := dyn) (a := 100 * a) (b := b) (by omega) hb0 (by omega) s1 (fun h => by have := h1 h; omega)).1
        rw [show sg false b = lN b from rfl, d]
        cases s1 <;> simp [sg]
      | true =>
        rw [if_neg (by decide), show -lN 100 * sg s1 a = sg (!s1) (100 * a) from m2, show -sg true b = lN b from neg_neg64 _]
        by_cases h0 : a = 0
        · subst h0
          rw [Nat.mul_zero, sg_0]
          have d := (divided_M (ht := ht) (I := I) (A := A) (J := J) (it := it) (dyn := dyn) (a := 0) (b := b) (by omega) hb0 (by omega) false (fun h => by cases h)).1
          have hr0 : rnd 0 b = 0 := by unfold rnd; simp
          rw [show sg false 0 = lN 0 from rfl] at d
          rw [d, hr0, neg_0]
          cases s1 <;> simp [sg]
        · have d := (divided_M (ht := ht) (I := I) (A := A) (J := J) (it := it) (dyn := dyn) (a := 100 * a) (b := b) (by omega) hb0 (by omega) (!s1) (fun h => by omega)).1
          rw [d]
          cases s1 <;> simp [sg]
    rw [ez]
    exact lim_C _
  · intro hge
    have hs : s2 = false := (sg_ge hb3 h2).mp hge
    subst hs
    rw [← lL 100, m1 s1]
    exact (divided_M (ht := ht) (I := I) (A := A) (J := J) (it := it) (dyn := dyn) (a := 100 * a) (b := b) (by omega) hb0 (by omega) s1 (fun h => by have := h1 h; omega)).2
  · intro hge
    have hs : s2 = true := by
      cases s2 with
      | true => rfl
      | false => exact absurd ((sg_ge hb3 h2).mpr rfl) hge
    subst hs
    rw [show -sg true b = lN b from neg_neg64 _]
    have hne : ¬ lN b = 0 := by rw [lL 0, pk_lEQ (by omega) (by omega)]; omega
    exact ⟨hne, hne⟩
end PR
