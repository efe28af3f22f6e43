/-! SMALL NUMBERS -/
theorem nI_mul (a b : Nat) : nI a * nI b = nI (a * b) := (Int32.ofNat_mul a b).symm
theorem nI_subN {a b : Nat} (h : b ≤ a) : nI a - nI b = nI (a - b) := (Int32.ofNat_sub a b h).symm
theorem iL (n : Nat) : (OfNat.ofNat n : Int32) = nI n := rfl
theorem upd_s (f : Nat → Int32) (k : Nat) (x : Int32) : upd f k x k = x := by simp [upd]
theorem upd_n (f : Nat → Int32) {k j : Nat} (x : Int32) (h : j ≠ k) : upd f k x j = f j := by simp [upd, h]
theorem upd_upd (f : Nat → Int32) (k : Nat) (x y : Int32) : upd (upd f k x) k y = upd f k y := by
  funext j
  by_cases h : j = k <;> simp [upd, h]
theorem upd_id (f : Nat → Int32) (k : Nat) : upd f k (f k) = f := by
  funext j
  by_cases h : j = k <;> simp [upd, h]
theorem nar_chr : ∀ c : Nat, c < 127 → narrow .char (.int (nI c)) = .int (nI c) := by decide +kernel
theorem nar_c {c : Nat} (h : c < 127) : vp_nar .char (nI c) = nI c := by
  unfold vp_nar
  rw [nar_chr c h]
theorem int32_nat {x : Int32} (h : ¬ x < 0) : ∃ n : Nat, n < 2 ^ 31 ∧ x = nI n := by
  refine ⟨x.toInt.toNat, ?_, ?_⟩
  · have := x.toInt_lt
    omega
  · apply Int32.toInt_inj.mp
    have h1 : ¬ x.toInt < 0 := fun h2 => h (by rw [Int32.lt_iff_toInt_lt]; exact h2)
    have := x.toInt_lt
    rw [nI_toInt (by omega)]
    omega
