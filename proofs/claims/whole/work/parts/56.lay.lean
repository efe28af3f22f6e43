/-! PAGES: putting lines, turning, both sides. A layout: page, lines taken of each page, places of cells, what stands -/
abbrev Ly : Type := Nat × (Nat → Nat) × (Nat → Int32) × (Nat → Nat → Int32)
def aput (k r n : Nat) (s : Ly) : Ly := (s.1, fun q => if q = s.1 then s.2.1 q + n else s.2.1 q, fun v => if v = 4 * k + r ∧ 0 < n ∧ s.2.2.1 v = -1 then nI (32 * s.1 + s.2.1 s.1) else s.2.2.1 v, fun q j => if q = s.1 ∧ s.2.1 s.1 ≤ j ∧ j < s.2.1 s.1 + n then nI (8 * k + r) else s.2.2.2 q j)
def atrn (ht n : Nat) (s : Ly) : Bool := decide (¬ (n ≤ ht - s.2.1 s.1 ∨ s.2.1 s.1 = 0))
def aturn (ht n : Nat) (s : Ly) : Ly := if atrn ht n s then (s.1 + 1, s.2) else s
def bnd (ht : Nat) (s : Ly) : Prop := (∀ q : Nat, s.2.1 q ≤ ht) ∧ ∀ q : Nat, s.1 < q → s.2.1 q = 0
def LC (ht : Nat) (s : Ly) (I : Nat → Int32) (A : Nat → Nat → Int32) : Prop := I 7 = nI s.1 ∧ s.1 < 64 ∧ (∀ q : Nat, q < 64 → A 10 q = nI (s.2.1 q)) ∧ (∀ v : Nat, v < 64 → A 11 v = s.2.2.1 v) ∧ ∀ q : Nat, q < 64 → ∀ j : Nat, j < s.2.1 q → A 13 (q * ht + j) = s.2.2.2 q j
def LM (ht : Nat) (s : Ly) (I : Nat → Int32) (A : Nat → Nat → Int32) : Prop := I 17 = nI s.1 ∧ s.1 < 64 ∧ I 18 = nI (s.2.1 s.1) ∧ I 19 = nI (if s.2.1 s.1 = 0 then s.1 else s.1 + 1) ∧ (∀ v : Nat, v < 64 → A 38 v = s.2.2.1 v) ∧ ∀ q : Nat, q < 80 → ∀ j : Nat, j < 32 → A 39 (32 * q + j) = if j < s.2.1 q then s.2.2.2 q j else -1
theorem bnd.put {ht : Nat} {s : Ly} (h : bnd ht s) {k r n : Nat} (hf : s.2.1 s.1 + n ≤ ht) : bnd ht (aput k r n s) := by
  refine ⟨fun q => ?_, fun q hq => ?_⟩
  · show (if q = s.1 then s.2.1 q + n else s.2.1 q) ≤ ht
    split
    · rename_i e; subst e; exact hf
    · exact h.1 q
  · show (if q = s.1 then s.2.1 q + n else s.2.1 q) = 0
    have hq : s.1 < q := hq
    rw [if_neg (by omega)]
    exact h.2 q hq
theorem bnd.turn {ht : Nat} {s : Ly} (h : bnd ht s) (n : Nat) : bnd ht (aturn ht n s) := by
  unfold aturn
  split
  · exact ⟨h.1, fun q hq => h.2 q (by have : s.1 + 1 < q := hq; omega)⟩
  · exact h
theorem idx_ne {ht p q i j : Nat} (hi : i < ht) (hj : j < ht) (h : p * ht + i = q * ht + j) : p = q ∧ i = j := by
  rcases Nat.lt_trichotomy p q with e | e | e
  · have := Nat.mul_le_mul_right ht (show p + 1 ≤ q by omega)
    rw [Nat.add_mul] at this
    omega
  · subst e; exact ⟨rfl, by omega⟩
  · have := Nat.mul_le_mul_right ht (show q + 1 ≤ p by omega)
    rw [Nat.add_mul] at this
    omega
section PL
variable {ht : Nat} {I : Nat → Int32} {A : Nat → Nat → Int32} {J : Nat → Nat → Int64} {it : Nat → Option Nat} {dyn : fsH} {s : Ly}
theorem putLines_C (h4 : 4 ≤ ht) (h20 : ht ≤ 20) (hb : bnd ht s) (h : LC ht s I A) {k r n : Nat} (hc : 4 * k + r < 64) (hn : A 12 (4 * k + r) = nI n) (hf : s.2.1 s.1 + n ≤ ht) : S_X3_putLines ht I A J it dyn (nI k) (nI r) ∧ LC ht (aput k r n s) I (L_X3_putLines_A ht I A J it dyn (nI k) (nI r)) ∧ ∀ m : Nat, m ≠ 10 → m ≠ 11 → m ≠ 13 → (L_X3_putLines_A ht I A J it dyn (nI k) (nI r)) m = A m := by
  obtain ⟨l1, l2, l3, l4, l5⟩ := h
  have hp7 : (nI s.1).toNatClampNeg = s.1 := nI_clamp (by omega)
  have ht10 := l3 s.1 l2
  have em : (if nI ht - nI (s.2.1 s.1) < nI n then nI ht - nI (s.2.1 s.1) else nI n) = nI n := by
    rw [nI_subN (by omega), if_neg]
    rw [nI_ltI (by omega) (by omega)]
    omega
  have zn : (nI n ≤ 0) ↔ n = 0 := by rw [iL 0, nI_leI (by omega) (by omega)]; omega
  have hi7 : vp_in (nI s.1) 64 := i64 l2
  have hic : vp_in (nI (4 * k + r)) 64 := i64 hc
  have e32 : (32 : Int32) * nI s.1 + nI (s.2.1 s.1) = nI (32 * s.1 + s.2.1 s.1) := by rw [iL 32, nI_mul, nI_add]
  have e8 : (8 : Int32) * nI k + nI r = nI (8 * k + r) := by rw [iL 8, nI_mul, nI_add]
  -- the loop
  have loop : ∀ A1 : Nat → Nat → Int32, A1 10 = A 10 → S_Lb_X3_putLines_72 70 ht I A1 J it dyn (nI k) (nI r) (nI (4 * k + r)) (nI n) 0 ∧ ((∀ q : Nat, q ≠ s.1 → (Lb_X3_putLines_72_A 70 ht I A1 J it dyn (nI k) (nI r) (nI (4 * k + r)) (nI n) 0) 10 q = A1 10 q) ∧ (Lb_X3_putLines_72_A 70 ht I A1 J it dyn (nI k) (nI r) (nI (4 * k + r)) (nI n) 0) 10 s.1 = nI (s.2.1 s.1 + n) ∧ (∀ j : Nat, j < n → (Lb_X3_putLines_72_A 70 ht I A1 J it dyn (nI k) (nI r) (nI (4 * k + r)) (nI n) 0) 13 (s.1 * ht + (s.2.1 s.1 + j)) = nI (8 * k + r)) ∧ (∀ x : Nat, (∀ j : Nat, j < n → x ≠ s.1 * ht + (s.2.1 s.1 + j)) → (Lb_X3_putLines_72_A 70 ht I A1 J it dyn (nI k) (nI r) (nI (4 * k + r)) (nI n) 0) 13 x = A1 13 x) ∧ ∀ m : Nat, m ≠ 10 → m ≠ 13 → (Lb_X3_putLines_72_A 70 ht I A1 J it dyn (nI k) (nI r) (nI (4 * k + r)) (nI n) 0) m = A1 m) := by
    intro A1 hA1
    refine lp (F := fun m A' v => Lb_X3_putLines_72_A m ht I A' J it dyn (nI k) (nI r) (nI (4 * k + r)) (nI n) v) (SF := fun m A' v => S_Lb_X3_putLines_72 m ht I A' J it dyn (nI k) (nI r) (nI (4 * k + r)) (nI n) v) n
      (fun i A' => (∀ q : Nat, q ≠ s.1 → A' 10 q = A1 10 q) ∧ A' 10 s.1 = nI (s.2.1 s.1 + i) ∧ (∀ j : Nat, j < i → A' 13 (s.1 * ht + (s.2.1 s.1 + j)) = nI (8 * k + r)) ∧ (∀ x : Nat, (∀ j : Nat, j < i → x ≠ s.1 * ht + (s.2.1 s.1 + j)) → A' 13 x = A1 13 x) ∧ ∀ m : Nat, m ≠ 10 → m ≠ 13 → A' m = A1 m)
      (fun A' i => va_up (va_up A' 13 (upd (A' 13) (s.1 * ht + (s.2.1 s.1 + i)) (nI (8 * k + r)))) 10 (upd ((va_up A' 13 (upd (A' 13) (s.1 * ht + (s.2.1 s.1 + i)) (nI (8 * k + r)))) 10) s.1 (nI (s.2.1 s.1 + i + 1)))) ?_ ?_ n 70 0 A1 (by omega) (by omega) ⟨fun _ _ => rfl, by rw [hA1, Nat.add_zero]; exact ht10, fun j hj => by omega, fun _ _ => rfl, fun _ _ _ => rfl⟩
    · rintro m A' i hi ⟨p1, p2, p3, p4, p5⟩
      left
      have zl : ¬ nI n ≤ nI i := by rw [nI_leI (by omega) (by omega)]; omega
      have hmul : s.1 * ht ≤ 63 * 20 := Nat.mul_le_mul (by omega) h20
      have eidx : nI s.1 * nI ht + nI (s.2.1 s.1 + i) = nI (s.1 * ht + (s.2.1 s.1 + i)) := by rw [nI_mul, nI_add]
      have hlt : s.1 * ht + (s.2.1 s.1 + i) < 64 * ht := by
        have := Nat.mul_le_mul_right ht (show s.1 + 1 ≤ 64 by omega)
        rw [Nat.add_mul] at this
        omega
      have hin13 : vp_in (nI (s.1 * ht + (s.2.1 s.1 + i))) (64 * ht) := nI_in hlt (by omega)
      have e10 : (va_up A' 13 (upd (A' 13) (s.1 * ht + (s.2.1 s.1 + i)) (nI (8 * k + r)))) 10 s.1 = nI (s.2.1 s.1 + i) := by
        have : (va_up A' 13 (upd (A' 13) (s.1 * ht + (s.2.1 s.1 + i)) (nI (8 * k + r)))) 10 = A' 10 := by simp [va_up]
        rw [this]; exact p2
      simp only [Lb_X3_putLines_72_A, S_Lb_X3_putLines_72, if_neg zl, l1, hp7, p2, eidx, nI_clamp (show s.1 * ht + (s.2.1 s.1 + i) < 2 ^ 31 by omega), e8, e10, nI_1]
      refine ⟨trivial, ⟨fun q hq => ?_, ?_, fun j hj => ?_, fun x hx => ?_, fun m a b => ?_⟩, fun hh _ => ⟨hi7, hin13, hi7, hi7, hh⟩⟩
      · simp [va_up, upd, hq]; exact p1 q hq
      · simp [va_up, upd]; rfl
      · by_cases e : j = i
        · subst e; simp [va_up, upd]
        · have : ¬ s.1 * ht + (s.2.1 s.1 + j) = s.1 * ht + (s.2.1 s.1 + i) := by omega
          simp only [va_up, upd]
          simp only [show ¬ (13 : Nat) = 10 by decide, if_false, if_true, if_neg this]
          rw [upd_n _ _ this]
          exact p3 j (by omega)
      · have := hx i (by omega)
        simp only [va_up, upd]
        simp only [show ¬ (13 : Nat) = 10 by decide, if_false, if_true, if_neg this]
        rw [upd_n _ _ this]
        exact p4 x (fun j hj => hx j (by omega))
      · simp [va_up, a, b]; exact p5 m a b
    · rintro m A' hP
      have zl : nI n ≤ nI n := by rw [nI_leI (by omega) (by omega)]; omega
      simp only [Lb_X3_putLines_72_A, S_Lb_X3_putLines_72, if_pos zl]
      exact ⟨trivial, fun h => absurd zl h⟩
  have fin : ∀ A1 : Nat → Nat → Int32, A1 10 = A 10 → A1 13 = A 13 → (∀ m : Nat, m ≠ 11 → A1 m = A m) → (∀ v : Nat, v < 64 → A1 11 v = (aput k r n s).2.2.1 v) → S_Lb_X3_putLines_72 70 ht I A1 J it dyn (nI k) (nI r) (nI (4 * k + r)) (nI n) 0 ∧ LC ht (aput k r n s) I (Lb_X3_putLines_72_A 70 ht I A1 J it dyn (nI k) (nI r) (nI (4 * k + r)) (nI n) 0) ∧ ∀ m : Nat, m ≠ 10 → m ≠ 11 → m ≠ 13 → (Lb_X3_putLines_72_A 70 ht I A1 J it dyn (nI k) (nI r) (nI (4 * k + r)) (nI n) 0) m = A m := by
    intro A1 h10 h13 hm h11
    obtain ⟨s1, q1, q2, q3, q4, q5⟩ := loop A1 h10
    generalize Lb_X3_putLines_72_A 70 ht I A1 J it dyn (nI k) (nI r) (nI (4 * k + r)) (nI n) 0 = A2 at *
    refine ⟨s1, ⟨l1, l2, fun q hq => ?_, fun v hv => ?_, fun q hq j hj => ?_⟩, fun m a b c => by rw [q5 m a c, hm m b]⟩
    · show A2 10 q = nI (if q = s.1 then s.2.1 q + n else s.2.1 q)
      by_cases e : q = s.1
      · subst e; rw [if_pos rfl, q2]
      · rw [if_neg e, q1 q e, h10]; exact l3 q hq
    · rw [q5 11 (by decide) (by decide)]; exact h11 v hv
    · have hj : j < (if q = s.1 then s.2.1 q + n else s.2.1 q) := hj
      show A2 13 (q * ht + j) = (if q = s.1 ∧ s.2.1 s.1 ≤ j ∧ j < s.2.1 s.1 + n then nI (8 * k + r) else s.2.2.2 q j)
      by_cases e : q = s.1
      · subst e
        rw [if_pos rfl] at hj
        by_cases e2 : s.2.1 s.1 ≤ j
        · rw [if_pos ⟨rfl, e2, hj⟩]
          have := q3 (j - s.2.1 s.1) (by omega)
          rw [show s.1 * ht + (s.2.1 s.1 + (j - s.2.1 s.1)) = s.1 * ht + j by omega] at this
          exact this
        · rw [if_neg (by omega), q4 _ (fun i hi => by omega), h13]
          exact l5 s.1 hq j (by omega)
      · rw [if_neg e] at hj
        rw [if_neg (by omega), q4 _ (fun i hi hx => ?_), h13]
        · exact l5 q hq j hj
        · have hb1 := hb.1 q
          exact e (idx_ne (by omega) (by omega) hx).1
  unfold S_X3_putLines L_X3_putLines_A
  simp only [cellOf_C, c64 hc, l1, hp7, ht10, hn, em, zn, e32]
  by_cases hn0 : n = 0
  · simp only [if_pos hn0]
    obtain ⟨t1, t2, t3⟩ := fin A rfl rfl (fun _ _ => rfl) (fun v hv => by
      show A 11 v = (if v = 4 * k + r ∧ 0 < n ∧ s.2.2.1 v = -1 then nI (32 * s.1 + s.2.1 s.1) else s.2.2.1 v)
      rw [if_neg (by omega)]; exact l4 v hv)
    exact ⟨⟨hic, hi7, fun h => absurd hn0 h, t1⟩, t2, t3⟩
  · simp only [if_neg hn0]
    by_cases h11 : A 11 (4 * k + r) = -1
    · simp only [if_pos h11]
      obtain ⟨t1, t2, t3⟩ := fin (va_up A 11 (upd (A 11) (4 * k + r) (nI (32 * s.1 + s.2.1 s.1)))) (by simp [va_up]) (by simp [va_up]) (fun m hm => by simp [va_up, hm]) (fun v hv => by
        show (va_up A 11 (upd (A 11) (4 * k + r) (nI (32 * s.1 + s.2.1 s.1)))) 11 v = (if v = 4 * k + r ∧ 0 < n ∧ s.2.2.1 v = -1 then nI (32 * s.1 + s.2.1 s.1) else s.2.2.1 v)
        by_cases e : v = 4 * k + r
        · subst e
          rw [if_pos ⟨rfl, by omega, by rw [← l4 _ hv]; exact h11⟩]
          simp [va_up, upd]
        · rw [if_neg (fun h => e h.1)]
          simp [va_up, upd, e]
          exact l4 v hv)
      exact ⟨⟨hic, hi7, fun _ => ⟨hic, fun _ => ⟨hi7, hic⟩⟩, t1⟩, t2, t3⟩
    · simp only [if_neg h11]
      obtain ⟨t1, t2, t3⟩ := fin A rfl rfl (fun _ _ => rfl) (fun v hv => by
        show A 11 v = (if v = 4 * k + r ∧ 0 < n ∧ s.2.2.1 v = -1 then nI (32 * s.1 + s.2.1 s.1) else s.2.2.1 v)
        rw [if_neg (fun h => h11 (by rw [← h.1, l4 v hv]; exact h.2.2))]; exact l4 v hv)
      exact ⟨⟨hic, hi7, fun _ => ⟨hic, fun h => absurd h h11⟩, t1⟩, t2, t3⟩
theorem turn_C (h4 : 4 ≤ ht) (h20 : ht ≤ 20) (hb : bnd ht s) (h : LC ht s I A) {n : Nat} (hn : n ≤ 64) (hp : 0 < s.2.1 s.1 → s.1 ≤ 62) : S_X3_turnPage ht I A J it dyn (nI n) ∧ LC ht (aturn ht n s) (L_X3_turnPage_I ht I A J it dyn (nI n)) A ∧ (atrn ht n s = true → L_X3_turnPage_r ht I A J it dyn (nI n) = 1) ∧ (atrn ht n s = false → L_X3_turnPage_r ht I A J it dyn (nI n) = 0) ∧ ∀ q : Nat, q ≠ 7 → (L_X3_turnPage_I ht I A J it dyn (nI n)) q = I q := by
  obtain ⟨l1, l2, l3, l4, l5⟩ := h
  have hb1 := hb.1 s.1
  have hp7 : (nI s.1).toNatClampNeg = s.1 := nI_clamp (by omega)
  have ht10 := l3 s.1 l2
  have hi7 : vp_in (nI s.1) 64 := i64 l2
  have z0 : (nI (s.2.1 s.1) = 0) ↔ s.2.1 s.1 = 0 := by rw [iL 0, nI_eq (by omega) (by omega)]
  have zl : (nI n ≤ nI ht - nI (s.2.1 s.1)) ↔ n ≤ ht - s.2.1 s.1 := by rw [nI_subN (by omega), nI_leI (by omega) (by omega)]
  have z64 : (nI (s.1 + 1) < 64) ↔ s.1 + 1 < 64 := by rw [iL 64, nI_ltI (by omega) (by omega)]
  unfold S_X3_turnPage L_X3_turnPage_I L_X3_turnPage_r aturn atrn
  simp only [l1, hp7, ht10, z0, zl, nI_1, z64]
  by_cases h0 : s.2.1 s.1 = 0
  · simp only [if_pos h0]
    refine ⟨⟨hi7, fun h => absurd h0 h⟩, ?_, fun h => ?_, fun _ => trivial, fun _ _ => trivial⟩
    · simp [h0]; exact ⟨l1, l2, l3, l4, l5⟩
    · simp [h0] at h
  · simp only [if_neg h0]
    by_cases h1 : n ≤ ht - s.2.1 s.1
    · simp only [if_pos h1]
      refine ⟨⟨hi7, fun _ => hi7⟩, ?_, fun h => ?_, fun _ => trivial, fun _ _ => trivial⟩
      · simp [h1]; exact ⟨l1, l2, l3, l4, l5⟩
      · simp [h1] at h
    · have h62 := hp (by omega)
      have h64 : s.1 + 1 < 64 := by omega
      simp only [if_neg h1, if_pos h64]
      refine ⟨⟨hi7, fun _ => hi7⟩, ?_, fun _ => trivial, fun h => ?_, fun q hq => upd_n _ _ hq⟩
      · simp [h0, h1]
        exact ⟨upd_s _ _ _, by show s.1 + 1 < 64; omega, l3, l4, l5⟩
      · simp [h0, h1] at h
theorem turn_M (h4 : 4 ≤ ht) (h20 : ht ≤ 20) (hb : bnd ht s) (h : LM ht s I A) {n : Nat} (hn : n ≤ 64) (hp : 0 < s.2.1 s.1 → s.1 ≤ 62) : LM ht (aturn ht n s) (L_X8_turn_I ht I A J it dyn (nI n)) A ∧ (atrn ht n s = true → L_X8_turn_r ht I A J it dyn (nI n) = 1) ∧ (atrn ht n s = false → L_X8_turn_r ht I A J it dyn (nI n) = 0) ∧ ∀ q : Nat, q ≠ 17 → q ≠ 18 → (L_X8_turn_I ht I A J it dyn (nI n)) q = I q := by
  obtain ⟨l1, l2, l3, l4, l5, l6⟩ := h
  have hb1 := hb.1 s.1
  have z0 : (nI (s.2.1 s.1) = 0) ↔ s.2.1 s.1 = 0 := by rw [iL 0, nI_eq (by omega) (by omega)]
  have zl : (nI n ≤ nI ht - nI (s.2.1 s.1)) ↔ n ≤ ht - s.2.1 s.1 := by rw [nI_subN (by omega), nI_leI (by omega) (by omega)]
  unfold L_X8_turn_I L_X8_turn_r aturn atrn
  simp only [l1, l3, z0, zl, nI_1]
  by_cases h1 : n ≤ ht - s.2.1 s.1
  · simp only [if_pos h1]
    refine ⟨?_, fun h => ?_, fun _ => trivial, fun _ _ _ => trivial⟩
    · simp [h1]; exact ⟨l1, l2, l3, l4, l5, l6⟩
    · simp [h1] at h
  · simp only [if_neg h1]
    by_cases h0 : s.2.1 s.1 = 0
    · simp only [if_pos h0]
      refine ⟨?_, fun h => ?_, fun _ => trivial, fun _ _ _ => trivial⟩
      · simp [h0]; exact ⟨l1, l2, l3, l4, l5, l6⟩
      · simp [h0] at h
    · simp only [if_neg h0]
      have h62 := hp (by omega)
      refine ⟨?_, fun _ => trivial, fun h => ?_, fun q a b => by rw [upd_n _ _ b, upd_n _ _ a]⟩
      · simp [h0, h1]
        have hz : s.2.1 (s.1 + 1) = 0 := hb.2 _ (by omega)
        refine ⟨by rw [upd_n _ _ (by decide), upd_s], by show s.1 + 1 < 64; omega, ?_, ?_, l5, l6⟩
        · show _ = nI (s.2.1 (s.1 + 1))
          rw [upd_s, hz]; rfl
        · show _ = nI (if s.2.1 (s.1 + 1) = 0 then s.1 + 1 else s.1 + 1 + 1)
          rw [upd_n _ _ (by decide), upd_n _ _ (by decide), l4, if_neg h0, if_pos hz]
      · simp [h0, h1] at h
end PL
