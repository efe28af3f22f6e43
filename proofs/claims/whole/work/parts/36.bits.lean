/-! SETS OF CELLS IN A LONG -/
def bt (x : Int64) (u : Nat) : Prop := x.toBitVec.getLsbD u = true
def sb (c : Nat) : Int64 := 1 <<< ((nI c).toInt64 &&& 63)
theorem sb_bit : ∀ c : Nat, c < 64 → ∀ u : Nat, u < 64 → (sb c).toBitVec.getLsbD u = decide (u = c) := by decide +kernel
theorem bt_lt {x : Int64} {u : Nat} (h : bt x u) : u < 64 := Nat.lt_of_not_le fun h2 => by
  unfold bt at h
  rw [BitVec.getLsbD_of_ge _ _ h2] at h
  cases h
theorem bt_or (x y : Int64) (u : Nat) : bt (x ||| y) u ↔ bt x u ∨ bt y u := by
  unfold bt
  rw [Int64.toBitVec_or, BitVec.getLsbD_or, Bool.or_eq_true]
theorem bt_and (x y : Int64) (u : Nat) : bt (x &&& y) u ↔ bt x u ∧ bt y u := by
  unfold bt
  rw [Int64.toBitVec_and, BitVec.getLsbD_and, Bool.and_eq_true]
theorem bt_0 (u : Nat) : ¬ bt 0 u := by
  unfold bt
  rw [Int64.toBitVec_zero]
  simp
theorem bt_sb {c : Nat} (hc : c < 64) (u : Nat) : bt (sb c) u ↔ u = c := by
  constructor
  · intro h
    have hu := bt_lt h
    unfold bt at h
    rw [sb_bit c hc u hu] at h
    exact of_decide_eq_true h
  · rintro rfl
    unfold bt
    rw [sb_bit u hc u hc]
    simp
theorem bt_ext {x y : Int64} (h : ∀ u : Nat, bt x u ↔ bt y u) : x = y := by
  apply Int64.toBitVec_inj.mp
  apply BitVec.eq_of_getLsbD_eq
  intro i hi
  have := h i
  unfold bt at this
  exact Bool.eq_iff_iff.mpr this
theorem bt_z (x : Int64) : lg_cmp x 0 = 0 ↔ ∀ u : Nat, ¬ bt x u := by
  rw [lg_cmp_eq]
  constructor
  · rintro rfl u; exact bt_0 u
  · intro h
    exact bt_ext fun u => ⟨fun h2 => absurd h2 (h u), fun h2 => absurd h2 (bt_0 u)⟩
theorem bt_C (x : Int64) {c : Nat} (hc : c < 64) : lg_cmp (x &&& (1 <<< ((nI c).toInt64 &&& 63))) 0 = 0 ↔ ¬ bt x c := by
  rw [show (1 <<< ((nI c).toInt64 &&& 63) : Int64) = sb c from rfl, bt_z]
  constructor
  · intro h h2
    exact h c ((bt_and _ _ _).mpr ⟨h2, (bt_sb hc c).mpr rfl⟩)
  · intro h u h2
    obtain ⟨a, b⟩ := (bt_and _ _ _).mp h2
    rw [(bt_sb hc u).mp b] at a
    exact h a
theorem sm64 : ∀ u : Nat, u < 64 → (((nI u).toInt64 &&& 63).toBitVec.smod 64).toNat = u := by decide +kernel
theorem bt_1 (u : Nat) : bt 1 u ↔ u = 0 := by
  constructor
  · intro h
    have hu := bt_lt h
    unfold bt at h
    exact (by decide +kernel : ∀ u : Nat, u < 64 → (1 : Int64).toBitVec.getLsbD u = true → u = 0) u hu h
  · rintro rfl
    unfold bt
    decide
theorem bt_shr (x : Int64) {c : Nat} (hc : c < 64) : bt (x >>> ((nI c).toInt64 &&& 63)) 0 ↔ bt x c := by
  unfold bt
  rw [Int64.toBitVec_shiftRight, BitVec.sshiftRight', sm64 c hc, BitVec.getLsbD_sshiftRight]
  simp [hc]
theorem bt_M (x : Int64) {c : Nat} (hc : c < 64) : lg_cmp ((x >>> ((nI c).toInt64 &&& 63)) &&& 1) 1 = 0 ↔ bt x c := by
  rw [lg_cmp_eq, ← bt_shr x hc]
  constructor
  · intro h
    have h1 : bt ((x >>> ((nI c).toInt64 &&& 63)) &&& 1) 0 := by rw [h]; exact (bt_1 0).mpr rfl
    exact ((bt_and _ _ _).mp h1).1
  · intro h
    refine bt_ext fun u => ?_
    rw [bt_and, bt_1]
    constructor
    · exact fun h2 => h2.2
    · rintro rfl; exact ⟨h, rfl⟩
theorem bt_M0 (x : Int64) {c : Nat} (hc : c < 64) : lg_cmp ((x >>> ((nI c).toInt64 &&& 63)) &&& 1) 0 = 0 ↔ ¬ bt x c := by
  rw [lg_cmp_eq, ← bt_shr x hc]
  constructor
  · intro h h2
    have h1 : bt ((x >>> ((nI c).toInt64 &&& 63)) &&& 1) 0 := (bt_and _ _ _).mpr ⟨h2, (bt_1 0).mpr rfl⟩
    rw [h] at h1
    exact bt_0 0 h1
  · intro h
    refine bt_ext fun u => ?_
    rw [bt_and, bt_1]
    constructor
    · rintro ⟨a, rfl⟩; exact absurd a h
    · intro h2; exact absurd h2 (bt_0 u)
/-! WHAT HANGS ON WHAT: one step at a time, and sixty-four rounds -/
/-- after the cells below b have stood between -/
def wsh (D : Nat → Nat → Prop) : Nat → Nat → Nat → Prop
  | 0, v, u => D v u
  | b + 1, v, u => wsh D b v u ∨ (wsh D b v b ∧ wsh D b b u)
theorem wsh_s (D : Nat → Nat → Prop) : ∀ (b v u : Nat), wsh D b v u → Relation.TransGen D v u := by
  intro b
  induction b with
  | zero => intro v u h; exact Relation.TransGen.single h
  | succ b ih =>
    intro v u h
    rcases h with h | ⟨h1, h2⟩
    · exact ih v u h
    · exact Relation.TransGen.trans (ih _ _ h1) (ih _ _ h2)
theorem wsh_t (D : Nat → Nat → Prop) : ∀ (b w v u : Nat), w < b → wsh D b v w → wsh D b w u → wsh D b v u := by
  intro b
  induction b with
  | zero => intro w v u h; omega
  | succ b ih =>
    intro w v u hw h1 h2
    by_cases e : w = b
    · subst e
      have a1 : wsh D w v w := h1.elim id (fun h => h.1)
      have a2 : wsh D w w u := h2.elim id (fun h => h.2)
      exact Or.inr ⟨a1, a2⟩
    · have hw2 : w < b := by omega
      rcases h1 with h1 | ⟨h1, h1'⟩
      · rcases h2 with h2 | ⟨h2, h2'⟩
        · exact Or.inl (ih w v u hw2 h1 h2)
        · exact Or.inr ⟨ih w v b hw2 h1 h2, h2'⟩
      · rcases h2 with h2 | ⟨h2, h2'⟩
        · exact Or.inr ⟨h1, ih w b u hw2 h1' h2⟩
        · exact Or.inr ⟨h1, h2'⟩
theorem wsh_0 (D : Nat → Nat → Prop) : ∀ (b v u : Nat), D v u → wsh D b v u := by
  intro b
  induction b with
  | zero => intro v u h; exact h
  | succ b ih => intro v u h; exact Or.inl (ih v u h)
/-- all hanging: the sixty-four steps are the whole -/
theorem wsh_all {D : Nat → Nat → Prop} (hD : ∀ v u : Nat, D v u → u < 64) (v u : Nat) : wsh D 64 v u ↔ Relation.TransGen D v u := by
  constructor
  · exact wsh_s D 64 v u
  · intro h
    induction h with
    | single h => exact wsh_0 D 64 _ _ h
    | tail h1 h2 ih =>
      rename_i b c
      have hb : b < 64 := by
        cases h1 with
        | single h => exact hD _ _ h
        | tail _ h => exact hD _ _ h
      exact wsh_t D 64 b _ _ hb ih (wsh_0 D 64 _ _ h2)
