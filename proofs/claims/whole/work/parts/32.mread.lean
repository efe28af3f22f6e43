/-! READING AN ITEM: the reference -/
def itM (k : Nat) (A : Nat → Nat → Int32) (J : Nat → Nat → Int64) (x : aItem) : Prop :=
  A 16 k = nI x.1 ∧ (x.1 = 0 → A 17 k = nI x.2.1) ∧ A 18 k = nI x.2.2.1 ∧ (x.1 = 2 → A 19 k = nI x.2.2.2.1) ∧ A 20 k = nI x.2.2.2.2.length ∧ ptAt k A J x.2.2.2.2
/-- what reading item k leaves alone -/
def rfr (k : Nat) (I : Nat → Int32) (A : Nat → Nat → Int32) (J : Nat → Nat → Int64) (I' : Nat → Int32) (A' : Nat → Nat → Int32) (J' : Nat → Nat → Int64) : Prop :=
  (∀ q : Nat, q ≠ 14 → q ≠ 15 → I' q = I q) ∧ (∀ n : Nat, n < 16 ∨ n = 25 ∨ 29 < n → A' n = A n) ∧ (∀ n : Nat, 16 ≤ n → n ≤ 20 → ∀ j : Nat, j ≠ k → A' n j = A n j) ∧ (∀ n : Nat, 21 ≤ n → n ≤ 24 → ∀ i : Nat, i < 32 * k → A' n i = A n i) ∧ (∀ n : Nat, n ≠ 25 → J' n = J n) ∧ ∀ i : Nat, i < 32 * k → J' 25 i = J 25 i
theorem va_B (A : Nat → Nat → Int32) (n k : Nat) (x : Int32) : ∃ B, va_up A n (upd (A n) k x) = B ∧ B n k = x ∧ (∀ m : Nat, m ≠ n → B m = A m) ∧ ∀ j : Nat, j ≠ k → B n j = A n j :=
  ⟨_, rfl, by simp [va_up, upd], fun m hm => by simp [va_up, hm], fun j hj => by simp [va_up, upd, hj]⟩
section RF
variable {ht : Nat} {I I' : Nat → Int32} {A A' : Nat → Nat → Int32} {J J' : Nat → Nat → Int64} {it : Nat → Option Nat} {dyn : fsH} {t : List Nat} {k : Nat}
theorem rfr.rf : rfr k I A J I A J := ⟨fun _ _ _ => rfl, fun _ _ => rfl, fun _ _ _ _ _ => rfl, fun _ _ _ _ _ => rfl, fun _ _ => rfl, fun _ _ => rfl⟩
theorem rfr.up (h : rfr k I A J I' A' J') {n : Nat} (h1 : 16 ≤ n) (h2 : n ≤ 20) {B : Nat → Nat → Int32} (b2 : ∀ m : Nat, m ≠ n → B m = A' m) (b3 : ∀ j : Nat, j ≠ k → B n j = A' n j) : rfr k I A J I' B J' :=
  ⟨h.1, fun m hm => by rw [b2 m (by omega)]; exact h.2.1 m hm, fun m a b j hj => by
    by_cases e : m = n
    · subst e; rw [b3 j hj]; exact h.2.2.1 m a b j hj
    · rw [b2 m e]; exact h.2.2.1 m a b j hj, fun m a b i hi => by rw [b2 m (by omega)]; exact h.2.2.2.1 m a b i hi, h.2.2.2.2⟩
theorem rfr.mv (h : rfr k I A J I' A' J') (x : Int32) : rfr k I A J (upd I' 14 x) A' J' := ⟨fun q a b => by rw [upd_n _ _ a]; exact h.1 q a b, h.2⟩
theorem rfr.ex (h : rfr k I A J I' A' J') {I2 : Nat → Int32} {A2 : Nat → Nat → Int32} {J2 : Nat → Nat → Int64} (g : mfr k 0 I' A' J' I2 A2 J2) : rfr k I A J I2 A2 J2 :=
  ⟨fun q a b => by rw [g.1 q a b]; exact h.1 q a b, fun n hn => by rw [g.2.1 n (by omega)]; exact h.2.1 n hn, fun n a b j hj => by
    by_cases e : n = 20
    · subst e; rw [g.2.2.1 j hj]; exact h.2.2.1 20 a b j hj
    · rw [g.2.1 n (by omega)]; exact h.2.2.1 n a b j hj, fun n a b i hi => by rw [g.2.2.2.1 n a b i hi]; exact h.2.2.2.1 n a b i hi, fun n hn => by rw [g.2.2.2.2.2.1 n hn]; exact h.2.2.2.2.1 n hn, fun i hi => by rw [g.2.2.2.2.2.2 i hi]; exact h.2.2.2.2.2 i hi⟩
theorem star_M (hT : txR 9 15 I A t) {p : Nat} (hp : p ≤ t.length) : L_X8_star_r ht (upd I 14 (nI p)) A J it dyn = nI (st01 t p) ∧ L_X8_star_I ht (upd I 14 (nI p)) A J it dyn = upd I 14 (nI (p + st01 t p)) ∧ S_X8_star ht (upd I 14 (nI p)) A J it dyn ∧ p + st01 t p ≤ t.length ∧ (st01 t p = 0 ∨ st01 t p = 1) := by
  have hl := hT.2.1
  obtain ⟨e, hs⟩ := next_M (ht := ht) (J := J) (it := it) (dyn := dyn) hT (p := p) (by omega)
  have hc := ch_lt (p := p) hT.2.2.2
  have z : (nI (ch t p) = 42) ↔ ch t p = 42 := by rw [iL 42, nI_eq (by omega) (by omega)]
  unfold L_X8_star_r L_X8_star_I S_X8_star st01
  simp only [e, z, upd_s, nI_1, upd_upd]
  by_cases h : ch t p = 42
  · have : p < t.length := ch_in (by omega)
    simp only [if_pos h, show ¬ (1 : Int32) = 0 by decide, if_false]
    exact ⟨rfl, trivial, hs, by omega, Or.inr trivial⟩
  · simp only [if_neg h, if_true]
    exact ⟨rfl, rfl, hs, by omega, Or.inl trivial⟩
theorem nar01 {n : Nat} (h : n = 0 ∨ n = 1) : vp_nar .boolean (nI n) = nI n := by
  rcases h with rfl | rfl <;> decide
theorem narb {x : Int32} (h : x = 0 ∨ x = 1) : narrow .boolean (.int x) = .int x := by
  rcases h with rfl | rfl <;> rfl
/-- the answer of the reference's reading -/
def rdOK (t : List Nat) : Prop := (∃ x, (rd t).1 = some x) ∧ (rd t).2.1 = t.length
def rdM (k : Nat) (t : List Nat) (r : Int32) (I' : Nat → Int32) (A' : Nat → Nat → Int32) (J' : Nat → Nat → Int64) : Prop :=
  (rdOK t → r = 1) ∧ (¬ rdOK t → r = 0 ∧ I' 14 = nI (rd t).2.1) ∧ ∀ x, (rd t).1 = some x → (rd t).2.1 = t.length → itM k A' J' x
theorem ex_rdM {I0 : Nat → Int32} {A0 : Nat → Nat → Int32} {p kd nm rep : Nat} (hT : txR 9 15 I0 A0 t) (hk : I0 13 = nI k) (hk16 : k ≤ 16) (h14 : I0 14 = nI p) (hpl : p ≤ t.length) (hp : 1 ≤ p) (h20 : A0 20 k = nI 0) (h16 : A0 16 k = nI kd) (hkd : kd ≠ 2) (h17 : kd = 0 → A0 17 k = nI nm) (h18 : A0 18 k = nI rep) (hrd : rd t = rdE kd nm rep (px t 8 0 p 0)) :
    S_X8_expression ht I0 A0 J it dyn ∧ narrow .boolean (.int (L_X8_expression_r ht I0 A0 J it dyn)) = .int (L_X8_expression_r ht I0 A0 J it dyn) ∧ mfr k 0 I0 A0 J (L_X8_expression_I ht I0 A0 J it dyn) (L_X8_expression_A ht I0 A0 J it dyn) (L_X8_expression_J ht I0 A0 J it dyn) ∧ rdM k t (L_X8_expression_r ht I0 A0 J it dyn) (L_X8_expression_I ht I0 A0 J it dyn) (L_X8_expression_A ht I0 A0 J it dyn) (L_X8_expression_J ht I0 A0 J it dyn) := by
  obtain ⟨e1, e2, e3, e4, e5⟩ := ex_M (ht := ht) (J := J) (it := it) (dyn := dyn) hT hk hk16 h14 hpl hp h20
  unfold rdM rdOK
  rw [hrd]
  unfold rdE
  cases hx : (px t 8 0 p 0).1 with
  | none =>
    have er := e4 hx
    refine ⟨e1, narb (Or.inl er), e3, ?_, fun _ => ⟨er, e2⟩, fun x hx => by cases hx⟩
    rintro ⟨⟨x, hx⟩, _⟩
    cases hx
  | some j =>
    obtain ⟨er, ep, e20⟩ := e5 j hx
    refine ⟨e1, narb ?_, e3, ?_, ?_, ?_⟩
    · rw [er]; split
      · exact Or.inr rfl
      · exact Or.inl rfl
    · rintro ⟨_, h⟩
      rw [er, if_pos h]
    · intro h
      have hne : ¬ (px t 8 0 p 0).2.1 = t.length := fun h1 => h ⟨⟨_, rfl⟩, h1⟩
      exact ⟨by rw [er, if_neg hne], e2⟩
    · intro x hx2 hl
      cases hx2
      refine ⟨?_, ?_, ?_, fun h => absurd h hkd, e20, ep⟩
      · rw [e3.2.1 16 (by decide)]; exact h16
      · intro h; rw [e3.2.1 17 (by decide)]; exact h17 h
      · rw [e3.2.1 18 (by decide)]; exact h18
theorem read_M (hT : txR 9 15 I A t) (hk : I 13 = nI k) (hk16 : k ≤ 16) : S_X8_read ht I A J it dyn ∧ rfr k I A J (L_X8_read_I ht I A J it dyn) (L_X8_read_A ht I A J it dyn) (L_X8_read_J ht I A J it dyn) ∧ rdM k t (L_X8_read_r ht I A J it dyn) (L_X8_read_I ht I A J it dyn) (L_X8_read_A ht I A J it dyn) (L_X8_read_J ht I A J it dyn) := by
  have hl := hT.2.1
  have kc : (nI k).toNatClampNeg = k := nI_clamp (by omega)
  have hin : vp_in (nI k) 17 := nI_in (by omega) (by omega)
  have hn0 : vp_nar .boolean 0 = 0 := by decide
  obtain ⟨A1, hA1, a1, a2, a3⟩ := va_B A 20 k 0
  obtain ⟨B0, hB0, b1, b2, b3⟩ := va_B A1 18 k 0
  have F0 : rfr k I A J I B0 J := (rfr.rf.up (n := 20) (by decide) (by decide) a2 a3).up (n := 18) (by decide) (by decide) b2 b3
  have T0 : txR 9 15 I B0 t := hT.get rfl (by rw [b2 15 (by decide), a2 15 (by decide)])
  have B20 : B0 20 k = nI 0 := by rw [b2 20 (by decide), a1]; rfl
  obtain ⟨e0, s0⟩ := next_M (ht := ht) (J := J) (it := it) (dyn := dyn) T0 (p := 0) (by omega)
  have e0 : L_X8_here_r ht (upd I 14 0) B0 J it dyn = nI (ch t 0) := e0
  have s0 : S_X8_here ht (upd I 14 0) B0 J it dyn := s0
  have c0 := ch_lt (p := 0) hT.2.2.2
  have z34 : (nI (ch t 0) = 34) ↔ ch t 0 = 34 := by rw [iL 34, nI_eq (by omega) (by omega)]
  have z33 : (nI (ch t 0) = 33) ↔ ch t 0 = 33 := by rw [iL 33, nI_eq (by omega) (by omega)]
  unfold L_X8_read_r L_X8_read_I L_X8_read_A L_X8_read_J S_X8_read
  simp only [hk, kc, hn0, hA1, hB0, e0, z34, z33, isL_M0 c0]
  by_cases h34 : ch t 0 = 34
  · have h0 : 0 < t.length := ch_in (by omega)
    obtain ⟨BQ, hBQ, q1, q2, q3⟩ := va_B B0 16 k 2
    obtain ⟨BR, hBR, r1, r2, r3⟩ := va_B BQ 19 k (nI (t.length - 1))
    have e9 : I 9 - 1 = nI (t.length - 1) := by
      rw [hT.1, iL 1, nI_subN (by omega)]
    simp only [if_pos h34, hBQ, e9, hBR]
    have hrd : rd t = (if t.length = 1 then (none, 1, []) else (some (2, 0, 0, min (t.length - 1) 36, []), 1 + min (t.length - 1) 36, [])) := by
      unfold rd
      rw [if_neg (by omega), if_neg (by omega), if_pos h34]
    refine ⟨⟨hin, hin, s0, fun _ => ⟨hin, hin⟩, fun h => absurd h34 h⟩, ((((F0.up (n := 16) (by decide) (by decide) q2 q3).up (n := 19) (by decide) (by decide) r2 r3).mv _).mv _), ?_⟩
    unfold rdM rdOK
    rw [hrd, hT.1, iL 1, iL 37]
    simp (disch := omega) only [nI_leI, nI_ltI, nI_eq]
    by_cases h1 : t.length = 1
    · simp only [if_pos h1]
      refine ⟨?_, fun _ => ⟨by rw [if_pos (by omega)], upd_s _ _ _⟩, fun x hx => by cases hx⟩
      rintro ⟨⟨x, hx⟩, _⟩
      cases hx
    · simp only [if_neg h1]
      refine ⟨?_, ?_, ?_⟩
      · rintro ⟨_, h⟩
        rw [if_neg (by omega), if_neg (by omega)]
      · intro h
        have h37 : 37 < t.length := Nat.lt_of_not_le fun h2 => h ⟨⟨_, rfl⟩, by omega⟩
        refine ⟨by rw [if_neg (by omega), if_pos h37], ?_⟩
        rw [upd_s, Nat.min_eq_right (by omega)]
      · intro x hx hlen
        cases hx
        refine ⟨by rw [r2 16 (by decide), q1]; rfl, fun h => by simp at h, by rw [r2 18 (by decide), q2 18 (by decide), b1]; rfl, fun _ => ?_, by rw [r2 20 (by decide), q2 20 (by decide), B20]; rfl, fun j q hj => by simp at hj⟩
        rw [r1, Nat.min_eq_left (by omega)]
  · simp only [if_neg h34]
    by_cases h33 : ch t 0 = 33
    · have h0 : 0 < t.length := ch_in (by omega)
      obtain ⟨BC, hBC, q1, q2, q3⟩ := va_B B0 16 k 1
      have TC : txR 9 15 I BC t := T0.get rfl (q2 15 (by decide))
      obtain ⟨s1, s2, s3, s4, s5⟩ := star_M (ht := ht) (J := J) (it := it) (dyn := dyn) TC (p := 1) (by omega)
      have z1 : (0 : Int32) + 1 = nI 1 := rfl
      simp only [if_pos h33, hBC, upd_upd, z1, s1, s2, nar01 s5]
      obtain ⟨BD, hBD, r1, r2, r3⟩ := va_B BC 18 k (nI (st01 t 1))
      simp only [hBD]
      have hrd : rd t = rdE 1 0 (st01 t 1) (px t 8 0 (1 + st01 t 1) 0) := by
        unfold rd
        rw [if_neg (by omega), if_pos h33]
      obtain ⟨E1, E2, E3, E4⟩ := ex_rdM (ht := ht) (J := J) (it := it) (dyn := dyn) (t := t) (k := k) (I0 := upd I 14 (nI (1 + st01 t 1))) (A0 := BD) (p := 1 + st01 t 1) (kd := 1) (nm := 0) (rep := st01 t 1) (TC.get (upd_n _ _ (by decide)) (r2 15 (by decide))) (by rw [upd_n _ _ (by decide)]; exact hk) hk16 (upd_s _ _ _) s4 (by omega) (by rw [r2 20 (by decide), q2 20 (by decide)]; exact B20) (by rw [r2 16 (by decide), q1]; rfl) (by decide) (fun h => by simp at h) r1 hrd
      refine ⟨⟨hin, hin, s0, fun h => absurd h h34, fun _ => ⟨fun _ => ⟨hin, s3, hin, E1, E2⟩, fun h => absurd h33 h⟩⟩, ?_, E4⟩
      exact (((F0.up (n := 16) (by decide) (by decide) q2 q3).up (n := 18) (by decide) (by decide) r2 r3).mv _).ex E3
    · simp only [if_neg h33]
      by_cases hL : 97 ≤ ch t 0 ∧ ch t 0 ≤ 122
      · have hnn : ¬ ¬ (97 ≤ ch t 0 ∧ ch t 0 ≤ 122) := fun h => h hL
        simp only [if_neg hnn]
        obtain ⟨BF, hBF, q1, q2, q3⟩ := va_B B0 16 k 0
        have TF : txR 9 15 I BF t := T0.get rfl (q2 15 (by decide))
        obtain ⟨m1, m2, m3⟩ := nameM (ht := ht) (J := J) (it := it) (dyn := dyn) TF (p := 0) (by omega) hL
        have m1 : L_X8_readName_r ht (upd I 14 0) BF J it dyn = _ := m1
        have m2 : L_X8_readName_I ht (upd I 14 0) BF J it dyn = _ := m2
        have m3 : S_X8_readName ht (upd I 14 0) BF J it dyn := m3
        obtain ⟨B2, hB2, t1, t2, t3⟩ := va_B BF 17 k (nI (pnm t 0).1)
        have T2 : txR 9 15 I B2 t := TF.get rfl (t2 15 (by decide))
        have hle := pnm_le hL
        obtain ⟨s1, s2, s3, s4, s5⟩ := star_M (ht := ht) (J := J) (it := it) (dyn := dyn) T2 (p := (pnm t 0).2) hle.2
        simp only [hBF, m1, m2, hB2, s1, s2, nar01 s5]
        obtain ⟨B3, hB3, r1, r2, r3⟩ := va_B B2 18 k (nI (st01 t (pnm t 0).2))
        have T3 : txR 9 15 I B3 t := T2.get rfl (r2 15 (by decide))
        simp only [hB3, upd_s, upd_upd, nI_1, show (upd I 14 (nI ((pnm t 0).2 + st01 t (pnm t 0).2))) 9 = nI t.length from hT.1]
        have hp1 : 1 ≤ (pnm t 0).2 := pnm_gt t 0
        have hrd : rd t = (if ch t ((pnm t 0).2 + st01 t (pnm t 0).2) = 61 then rdE 0 (pnm t 0).1 (st01 t (pnm t 0).2) (px t 8 0 ((pnm t 0).2 + st01 t (pnm t 0).2 + 1) 0)
          else (some (0, (pnm t 0).1, st01 t (pnm t 0).2, 0, []), (pnm t 0).2 + st01 t (pnm t 0).2, [])) := by
          unfold rd
          rw [if_pos hL]
        have B16 : B3 16 k = nI 0 := by rw [r2 16 (by decide), t2 16 (by decide), q1]; rfl
        have B17 : B3 17 k = nI (pnm t 0).1 := by rw [r2 17 (by decide), t1]
        have B320 : B3 20 k = nI 0 := by rw [r2 20 (by decide), t2 20 (by decide), q2 20 (by decide)]; exact B20
        have F3 : rfr k I A J I B3 J := (((F0.up (n := 16) (by decide) (by decide) q2 q3).up (n := 17) (by decide) (by decide) t2 t3).up (n := 18) (by decide) (by decide) r2 r3)
        generalize (pnm t 0).2 = p1 at *
        generalize (pnm t 0).1 = nm at *
        generalize st01 t p1 = rep at *
        have zl : (nI (p1 + rep) = nI t.length) ↔ p1 + rep = t.length := by rw [nI_eq (by omega) (by omega)]
        obtain ⟨e3, hs3⟩ := next_M (ht := ht) (J := J) (it := it) (dyn := dyn) T3 (p := p1 + rep) (by omega)
        have c3 := ch_lt (p := p1 + rep) hT.2.2.2
        have z61 : (nI (ch t (p1 + rep)) = 61) ↔ ch t (p1 + rep) = 61 := by rw [iL 61, nI_eq (by omega) (by omega)]
        simp only [zl, e3, z61]
        by_cases hend : p1 + rep = t.length
        · have h61 : ¬ ch t (p1 + rep) = 61 := by rw [ch_end (by omega)]; decide
          rw [if_neg h61] at hrd
          simp only [if_pos hend]
          refine ⟨⟨hin, hin, s0, fun h => absurd h h34, fun _ => ⟨fun h => absurd h h33, fun _ _ => ⟨hin, m3, hin, s3, hin, fun h => absurd hend h⟩⟩⟩, F3.mv _, ?_⟩
          unfold rdM rdOK
          rw [hrd]
          refine ⟨fun _ => rfl, fun h => absurd ⟨⟨_, rfl⟩, hend⟩ h, fun x hx _ => ?_⟩
          cases hx
          exact ⟨B16, fun _ => B17, r1, fun h => by simp at h, B320, fun j q hj => by simp at hj⟩
        · simp only [if_neg hend]
          by_cases h61 : ch t (p1 + rep) = 61
          · rw [if_pos h61] at hrd
            have hlt : p1 + rep < t.length := ch_in (by omega)
            obtain ⟨E1, E2, E3, E4⟩ := ex_rdM (ht := ht) (J := J) (it := it) (dyn := dyn) (t := t) (k := k) (I0 := upd I 14 (nI (p1 + rep + 1))) (A0 := B3) (p := p1 + rep + 1) (kd := 0) (nm := nm) (rep := rep) (T3.get (upd_n _ _ (by decide)) rfl) (by rw [upd_n _ _ (by decide)]; exact hk) hk16 (upd_s _ _ _) (by omega) (by omega) B320 B16 (by decide) (fun _ => B17) r1 hrd
            simp only [if_pos h61]
            refine ⟨⟨hin, hin, s0, fun h => absurd h h34, fun _ => ⟨fun h => absurd h h33, fun _ _ => ⟨hin, m3, hin, s3, hin, fun _ => ⟨hs3, fun _ => ⟨E1, E2⟩⟩⟩⟩⟩, (F3.mv _).ex E3, E4⟩
          · rw [if_neg h61] at hrd
            simp only [if_neg h61]
            refine ⟨⟨hin, hin, s0, fun h => absurd h h34, fun _ => ⟨fun h => absurd h h33, fun _ _ => ⟨hin, m3, hin, s3, hin, fun _ => ⟨hs3, fun h => absurd h h61⟩⟩⟩⟩, F3.mv _, ?_⟩
            unfold rdM rdOK
            rw [hrd]
            refine ⟨fun h => absurd h.2 hend, fun _ => ⟨rfl, upd_s _ _ _⟩, fun x hx h => absurd h hend⟩
      · have hrd : rd t = (none, 0, []) := by
          unfold rd
          rw [if_neg hL, if_neg h33, if_neg h34]
        simp only [if_pos hL]
        refine ⟨⟨hin, hin, s0, fun h => absurd h h34, fun _ => ⟨fun h => absurd h h33, fun _ h => absurd hL h⟩⟩, F0.mv _, ?_⟩
        unfold rdM rdOK
        rw [hrd]
        refine ⟨?_, fun _ => ⟨rfl, upd_s _ _ _⟩, fun x hx => by cases hx⟩
        rintro ⟨⟨x, hx⟩, _⟩
        cases hx
end RF
