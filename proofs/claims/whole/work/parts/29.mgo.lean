/-! THE REFERENCE'S LOOPS, said forward -/
def gO (ht : Nat) (it : Nat → Option Nat) (dyn : fsH) (n : Nat) (v1 : Int32) (I : Nat → Int32) (A : Nat → Nat → Int32) (J : Nat → Nat → Int64) (Q : Int32 → (Nat → Int32) → (Nat → Nat → Int32) → (Nat → Nat → Int64) → Prop) : Prop :=
  S_La_X8_expression_7 n ht I A J it dyn v1 ∧ Q (La_X8_expression_7_r n ht I A J it dyn v1) (La_X8_expression_7_I n ht I A J it dyn v1) (La_X8_expression_7_A n ht I A J it dyn v1) (La_X8_expression_7_J n ht I A J it dyn v1)
def gC (ht : Nat) (it : Nat → Option Nat) (dyn : fsH) (n m : Nat) (v1 g : Int32) (I : Nat → Int32) (A : Nat → Nat → Int32) (J : Nat → Nat → Int64) (Q : Int32 → (Nat → Int32) → (Nat → Nat → Int32) → (Nat → Nat → Int64) → Prop) : Prop :=
  S_Lc_X8_expression_27 m ht I A J it dyn v1 g ∧
  (Lc_X8_expression_27_f m ht I A J it dyn v1 g = true → Q (Lc_X8_expression_27_r m ht I A J it dyn v1 g) (Lc_X8_expression_27_I m ht I A J it dyn v1 g) (Lc_X8_expression_27_A m ht I A J it dyn v1 g) (Lc_X8_expression_27_J m ht I A J it dyn v1 g)) ∧
  (¬ Lc_X8_expression_27_f m ht I A J it dyn v1 g = true → Lc_X8_expression_27_v2 m ht I A J it dyn v1 g < 0 → gO ht it dyn n (v1 + 1) (Lc_X8_expression_27_I m ht I A J it dyn v1 g) (Lc_X8_expression_27_A m ht I A J it dyn v1 g) (Lc_X8_expression_27_J m ht I A J it dyn v1 g) Q) ∧
  (¬ Lc_X8_expression_27_f m ht I A J it dyn v1 g = true → ¬ Lc_X8_expression_27_v2 m ht I A J it dyn v1 g < 0 → Q (if (Lc_X8_expression_27_I m ht I A J it dyn v1 g) 14 = (Lc_X8_expression_27_I m ht I A J it dyn v1 g) 9 then 1 else 0) (Lc_X8_expression_27_I m ht I A J it dyn v1 g) (Lc_X8_expression_27_A m ht I A J it dyn v1 g) (Lc_X8_expression_27_J m ht I A J it dyn v1 g))
section GO
variable {ht : Nat} {I : Nat → Int32} {A : Nat → Nat → Int32} {J : Nat → Nat → Int64} {it : Nat → Option Nat} {dyn : fsH} {Q : Int32 → (Nat → Int32) → (Nat → Nat → Int32) → (Nat → Nat → Int64) → Prop}
theorem gO_step {n : Nat} {v1 : Int32} (h1 : ¬ 200 ≤ v1) (h2 : S_X8_begin ht I A J it dyn) (h3 : L_X8_begin_r ht I A J it dyn = -2 → Q 0 (L_X8_begin_I ht I A J it dyn) (L_X8_begin_A ht I A J it dyn) (L_X8_begin_J ht I A J it dyn)) (h4 : ¬ L_X8_begin_r ht I A J it dyn = -2 → gC ht it dyn n 70 v1 (L_X8_begin_r ht I A J it dyn) (L_X8_begin_I ht I A J it dyn) (L_X8_begin_A ht I A J it dyn) (L_X8_begin_J ht I A J it dyn) Q) : gO ht it dyn (n + 1) v1 I A J Q := by
  unfold gO
  rw [La_X8_expression_7_r, La_X8_expression_7_I, La_X8_expression_7_A, La_X8_expression_7_J, S_La_X8_expression_7]
  simp only [if_neg h1]
  by_cases hb : L_X8_begin_r ht I A J it dyn = -2
  · simp only [if_pos hb]
    exact ⟨fun _ => ⟨h2, fun h => absurd hb h⟩, h3 hb⟩
  · simp only [if_neg hb]
    obtain ⟨c1, c2, c3, c4⟩ := h4 hb
    unfold gO at c3
    generalize S_Lc_X8_expression_27 70 ht (L_X8_begin_I ht I A J it dyn) (L_X8_begin_A ht I A J it dyn) (L_X8_begin_J ht I A J it dyn) it dyn v1 (L_X8_begin_r ht I A J it dyn) = zS at *
    generalize Lc_X8_expression_27_f 70 ht (L_X8_begin_I ht I A J it dyn) (L_X8_begin_A ht I A J it dyn) (L_X8_begin_J ht I A J it dyn) it dyn v1 (L_X8_begin_r ht I A J it dyn) = zf at *
    generalize Lc_X8_expression_27_r 70 ht (L_X8_begin_I ht I A J it dyn) (L_X8_begin_A ht I A J it dyn) (L_X8_begin_J ht I A J it dyn) it dyn v1 (L_X8_begin_r ht I A J it dyn) = zr at *
    generalize Lc_X8_expression_27_v2 70 ht (L_X8_begin_I ht I A J it dyn) (L_X8_begin_A ht I A J it dyn) (L_X8_begin_J ht I A J it dyn) it dyn v1 (L_X8_begin_r ht I A J it dyn) = zv at *
    generalize Lc_X8_expression_27_I 70 ht (L_X8_begin_I ht I A J it dyn) (L_X8_begin_A ht I A J it dyn) (L_X8_begin_J ht I A J it dyn) it dyn v1 (L_X8_begin_r ht I A J it dyn) = zI at *
    generalize Lc_X8_expression_27_A 70 ht (L_X8_begin_I ht I A J it dyn) (L_X8_begin_A ht I A J it dyn) (L_X8_begin_J ht I A J it dyn) it dyn v1 (L_X8_begin_r ht I A J it dyn) = zA at *
    generalize Lc_X8_expression_27_J 70 ht (L_X8_begin_I ht I A J it dyn) (L_X8_begin_A ht I A J it dyn) (L_X8_begin_J ht I A J it dyn) it dyn v1 (L_X8_begin_r ht I A J it dyn) = zJ at *
    by_cases hf : zf = true
    · simp only [if_pos hf]
      exact ⟨fun _ => ⟨h2, fun _ => ⟨c1, fun h => absurd hf h⟩⟩, c2 hf⟩
    · simp only [if_neg hf]
      by_cases hv : zv < 0
      · simp only [if_pos hv]
        exact ⟨fun _ => ⟨h2, fun _ => ⟨c1, fun _ _ => (c3 hf hv).1⟩⟩, (c3 hf hv).2⟩
      · simp only [if_neg hv]
        exact ⟨fun _ => ⟨h2, fun _ => ⟨c1, fun _ h => absurd h hv⟩⟩, c4 hf hv⟩
theorem gC_go {n m : Nat} {v1 g : Int32} (hg : ¬ g < 0) (ho : ¬ I 15 ≤ 0) (h2 : S_X8_goOn ht I A J it dyn g) (h3 : L_X8_goOn_r ht I A J it dyn g = -2 → Q 0 (L_X8_goOn_I ht I A J it dyn g) (L_X8_goOn_A ht I A J it dyn g) (L_X8_goOn_J ht I A J it dyn g)) (h4 : ¬ L_X8_goOn_r ht I A J it dyn g = -2 → gC ht it dyn n m v1 (L_X8_goOn_r ht I A J it dyn g) (L_X8_goOn_I ht I A J it dyn g) (L_X8_goOn_A ht I A J it dyn g) (L_X8_goOn_J ht I A J it dyn g) Q) : gC ht it dyn n (m + 1) v1 g I A J Q := by
  unfold gC
  rw [Lc_X8_expression_27_r, Lc_X8_expression_27_I, Lc_X8_expression_27_A, Lc_X8_expression_27_J, Lc_X8_expression_27_f, Lc_X8_expression_27_v2, S_Lc_X8_expression_27]
  simp only [if_neg hg, if_neg ho]
  by_cases hb : L_X8_goOn_r ht I A J it dyn g = -2
  · simp only [if_pos hb]
    exact ⟨fun _ _ => ⟨h2, fun h => absurd hb h⟩, fun _ => h3 hb, fun h => absurd trivial h, fun h => absurd trivial h⟩
  · simp only [if_neg hb]
    obtain ⟨c1, c2, c3, c4⟩ := h4 hb
    exact ⟨fun _ _ => ⟨h2, fun _ => c1⟩, c2, c3, c4⟩
theorem gC_next {n m : Nat} {v1 g : Int32} (hg : g < 0) (h : gO ht it dyn n (v1 + 1) I A J Q) : gC ht it dyn n (m + 1) v1 g I A J Q := by
  unfold gC
  rw [Lc_X8_expression_27_r, Lc_X8_expression_27_I, Lc_X8_expression_27_A, Lc_X8_expression_27_J, Lc_X8_expression_27_f, Lc_X8_expression_27_v2, S_Lc_X8_expression_27]
  simp only [if_pos hg]
  exact ⟨fun h => absurd hg h, fun h => absurd h (by decide), fun _ _ => h, fun _ h => absurd hg h⟩
theorem gC_end {n m : Nat} {v1 g : Int32} (hg : ¬ g < 0) (ho : I 15 ≤ 0) (h : Q (if I 14 = I 9 then 1 else 0) I A J) : gC ht it dyn n (m + 1) v1 g I A J Q := by
  unfold gC
  rw [Lc_X8_expression_27_r, Lc_X8_expression_27_I, Lc_X8_expression_27_A, Lc_X8_expression_27_J, Lc_X8_expression_27_f, Lc_X8_expression_27_v2, S_Lc_X8_expression_27]
  simp only [if_neg hg, if_pos ho]
  exact ⟨fun _ h => absurd ho h, fun h => absurd h (by decide), fun _ h => absurd h hg, fun _ _ => h⟩
end GO
section BG
variable {ht : Nat} {I : Nat → Int32} {A : Nat → Nat → Int32} {J : Nat → Nat → Int64} {it : Nat → Option Nat} {dyn : fsH} {t : List Nat} {p d k : Nat} {ps : List aPart}
theorem mst.eI (h : mst k t p d ps I A J) : upd I 14 (nI p) = I := by
  rw [← h.2.2.2.1]; exact upd_id I 14
theorem mst.hr (h : mst k t p d ps I A J) : L_X8_here_r ht I A J it dyn = nI (ch t p) ∧ S_X8_here ht I A J it dyn ∧ ch t p < 127 := by
  have e := next_M (ht := ht) (J := J) (it := it) (dyn := dyn) h.1 (p := p) (by have := h.1.2.1; have := h.2.2.2.2.1; omega)
  rw [h.eI] at e
  exact ⟨e.1, e.2, ch_lt h.1.2.2.2⟩
theorem mst.ar (h : mst k t p d ps I A J) {A' : Nat → Nat → Int32} (e : ∀ n : Nat, n < 26 → A' n = A n) : mst k t p d ps I A' J :=
  ⟨h.1.get rfl (e 15 (by decide)), h.2.1, h.2.2.1, h.2.2.2.1, h.2.2.2.2.1, h.2.2.2.2.2.1, h.2.2.2.2.2.2.1, by rw [e 20 (by decide)]; exact h.2.2.2.2.2.2.2.1, fun j q hj => by
    rw [e 21 (by decide), e 22 (by decide), e 23 (by decide), e 24 (by decide)]
    exact h.2.2.2.2.2.2.2.2 j q hj⟩
theorem mst.mv (h : mst k t p d ps I A J) {p' : Nat} (h2 : p' ≤ t.length) : mst k t p' d ps (upd I 14 (nI p')) A J :=
  h.at (upd_s _ _ _) h2 (by rw [upd_n _ _ (by decide)]; exact h.2.2.2.2.2.1) h.2.2.2.2.2.2.1 (fun q h1 _ => upd_n _ _ h1)
theorem mfr.mv {A1 : Nat → Nat → Int32} {J1 : Nat → Nat → Int64} {x : Int32} (h : mfr k d (upd I 14 x) A J (upd I 14 x) A1 J1) : mfr k d I A J (upd I 14 x) A1 J1 :=
  ⟨fun q h1 _ => upd_n _ _ h1, h.2⟩
theorem neg2 (n : Nat) (h : n ≤ 100) : ¬ nI n = -2 := (by decide +kernel : ∀ n : Nat, n < 101 → ¬ nI n = -2) n (by omega)
theorem neg0 (n : Nat) (h : n ≤ 100) : ¬ nI n < 0 := (by decide +kernel : ∀ n : Nat, n < 101 → ¬ nI n < 0) n (by omega)
theorem pnum_lt (hp : p ≤ t.length) {v : Nat} (h : (pnum t p).1 = some v) : v < 10 ^ 9 := by
  obtain ⟨b1, b2, b3⟩ := pdg_b t 6 p 0 hp
  have b3 : (pdg t 6 p 0).1 < 1000000 := b3
  unfold pnum at h
  generalize (pdg t 6 p 0).2 = p1 at *
  generalize (pdg t 6 p 0).1 = v1 at *
  split at h
  · split at h
    · split at h
      · cases h; omega
      · cases h; omega
    · cases h
  · cases h; omega
theorem lg_pos {v : Nat} (h : v < 10 ^ 9) : 0 ≤ lg_cmp (lN v) 0 := by
  rw [lg_cmp_ge, Int64.le_iff_toInt_le, show lN v = Int64.ofNat v from rfl, lg_ofNat_toInt (by omega), Int64.toInt_zero]
  omega
theorem beg_num (h : mst k t p d ps I A J) (hn : ps.length ≤ 31) (hd : 48 ≤ ch t p ∧ ch t p ≤ 57) : S_X8_begin ht I A J it dyn ∧
    (∀ v : Nat, (pnum t p).1 = some v → L_X8_begin_r ht I A J it dyn = nI ps.length ∧ mst k t (pnum t p).2 d (ps ++ [(0, 0, 0, 0, v)]) (L_X8_begin_I ht I A J it dyn) (L_X8_begin_A ht I A J it dyn) (L_X8_begin_J ht I A J it dyn)) ∧
    ((pnum t p).1 = none → L_X8_begin_r ht I A J it dyn = -2) ∧ (L_X8_begin_I ht I A J it dyn) 14 = nI (pnum t p).2 ∧ mfr k 7 I A J (L_X8_begin_I ht I A J it dyn) (L_X8_begin_A ht I A J it dyn) (L_X8_begin_J ht I A J it dyn) := by
  obtain ⟨e0, s0, c0⟩ := h.hr (ht := ht) (it := it) (dyn := dyn)
  have hT := h.1
  have nm := numberM (ht := ht) (J := J) (it := it) (dyn := dyn) hT (p := p) h.2.2.2.2.1
  rw [h.eI] at nm
  obtain ⟨n1, n2, n3⟩ := nm
  have hb := (number_C (ht := ht) (I := upd I 2 (I 9)) (A := fun n => A 15) (J := J) (it := it) (t := t) ⟨by rw [upd_s]; exact hT.1, hT.2.1, hT.2.2.1, hT.2.2.2⟩ 0 p [] h.2.2.2.2.1).2.2.2.2
  have hd0 : ¬ L_X8_digit_r ht I A J it dyn (nI (ch t p)) = 0 := by rw [isD_M0 c0]; exact fun h => h hd
  unfold L_X8_begin_r L_X8_begin_I L_X8_begin_A L_X8_begin_J S_X8_begin
  simp only [e0, if_neg hd0, n1, n2]
  generalize (pnum t p).2 = p1 at *
  have h2 := h.mv (p' := p1) hb
  cases hv : (pnum t p).1 with
  | none =>
    have hneg : ¬ 0 ≤ lg_cmp (numM none) 0 := by decide
    simp only [if_neg hneg]
    refine ⟨⟨s0, fun h => absurd h hd0, fun _ => ⟨n3, fun h => ?_⟩⟩, fun v h => (by cases h), fun _ => trivial, upd_s _ _ _, mfr.mv mfr.rf⟩
    exact absurd h hneg
  | some v =>
    have hv8 : v < 10 ^ 9 := pnum_lt h.2.2.2.2.1 hv
    have hpos : 0 ≤ lg_cmp (numM (some v)) 0 := lg_pos hv8
    simp only [if_pos hpos]
    obtain ⟨q1, q2, q3, q4⟩ := part_M (ht := ht) (it := it) (dyn := dyn) h2 hn 0 0 0 0 v
    refine ⟨⟨s0, fun h => absurd h hd0, fun _ => ⟨n3, fun h => ?_⟩⟩, fun w hw => ?_, fun h => (by cases h), upd_s _ _ _, mfr.mv q3⟩
    · exact q4
    · cases hw
      exact ⟨q1, q2⟩
theorem beg_name (h : mst k t p d ps I A J) (hn : ps.length ≤ 31) (hL : 97 ≤ ch t p ∧ ch t p ≤ 122) : S_X8_begin ht I A J it dyn ∧
    L_X8_begin_r ht I A J it dyn = nI ps.length ∧ mst k t (pnm t p).2 d (ps ++ [(1, (pnm t p).1, 0, 0, 0)]) (L_X8_begin_I ht I A J it dyn) (L_X8_begin_A ht I A J it dyn) (L_X8_begin_J ht I A J it dyn) ∧ mfr k 7 I A J (L_X8_begin_I ht I A J it dyn) (L_X8_begin_A ht I A J it dyn) (L_X8_begin_J ht I A J it dyn) := by
  obtain ⟨e0, s0, c0⟩ := h.hr (ht := ht) (it := it) (dyn := dyn)
  have hl := h.1.2.1
  have hpl := h.2.2.2.2.1
  have nm := nameM (ht := ht) (J := J) (it := it) (dyn := dyn) h.1 (p := p) (by omega) hL
  rw [h.eI] at nm
  obtain ⟨n1, n2, n3⟩ := nm
  have hd0 : L_X8_digit_r ht I A J it dyn (nI (ch t p)) = 0 := by rw [isD_M0 c0]; omega
  have hl0 : ¬ L_X8_letter_r ht I A J it dyn (nI (ch t p)) = 0 := by rw [isL_M0 c0]; exact fun h => h hL
  have hle := (pnm_le hL).2
  unfold L_X8_begin_r L_X8_begin_I L_X8_begin_A L_X8_begin_J S_X8_begin
  simp only [e0, if_pos hd0, if_neg hl0, n1, n2]
  generalize (pnm t p).2 = p1 at *
  generalize (pnm t p).1 = nm at *
  obtain ⟨q1, q2, q3, q4⟩ := part_M (ht := ht) (it := it) (dyn := dyn) (h.mv (p' := p1) hle) hn 1 nm 0 0 0
  exact ⟨⟨s0, fun _ => ⟨fun h => absurd h hl0, fun _ => ⟨n3, q4⟩⟩, fun h => absurd hd0 h⟩, q1, q2, mfr.mv q3⟩
theorem beg_sum (h : mst k t p d ps I A J) (hn : ps.length ≤ 31) (h35 : ch t p = 35) (hL : 97 ≤ ch t (p + 1) ∧ ch t (p + 1) ≤ 122) : S_X8_begin ht I A J it dyn ∧
    L_X8_begin_r ht I A J it dyn = nI ps.length ∧ mst k t (pnm t (p + 1)).2 d (ps ++ [(2, (pnm t (p + 1)).1, 0, 0, 0)]) (L_X8_begin_I ht I A J it dyn) (L_X8_begin_A ht I A J it dyn) (L_X8_begin_J ht I A J it dyn) ∧ mfr k 7 I A J (L_X8_begin_I ht I A J it dyn) (L_X8_begin_A ht I A J it dyn) (L_X8_begin_J ht I A J it dyn) := by
  obtain ⟨e0, s0, c0⟩ := h.hr (ht := ht) (it := it) (dyn := dyn)
  have hl := h.1.2.1
  have hpl : p < t.length := ch_in (by omega)
  obtain ⟨n1, n2, n3⟩ := nameM (ht := ht) (J := J) (it := it) (dyn := dyn) h.1 (p := p + 1) (by omega) hL
  have hd0 : L_X8_digit_r ht I A J it dyn (nI (ch t p)) = 0 := by rw [isD_M0 c0]; omega
  have hl0 : L_X8_letter_r ht I A J it dyn (nI (ch t p)) = 0 := by rw [isL_M0 c0]; omega
  have h35' : nI (ch t p) = 35 := by rw [h35]; rfl
  have hle := (pnm_le hL).2
  have hin := pnm_in (t := t) (p := p + 1) hL
  have hpos : (0 : Int32) ≤ nI (pnm t (p + 1)).1 := by rw [iL 0, nI_leI (by omega) (by omega)]; omega
  unfold L_X8_begin_r L_X8_begin_I L_X8_begin_A L_X8_begin_J S_X8_begin
  simp only [e0, if_pos hd0, if_pos hl0, if_pos h35', h.2.2.2.1, nI_1, n1, n2, if_pos hpos]
  generalize (pnm t (p + 1)).2 = p1 at *
  generalize (pnm t (p + 1)).1 = nm at *
  obtain ⟨q1, q2, q3, q4⟩ := part_M (ht := ht) (it := it) (dyn := dyn) (h.mv (p' := p1) hle) hn 2 nm 0 0 0
  exact ⟨⟨s0, fun _ => ⟨fun _ => ⟨fun _ => ⟨n3, fun _ => q4⟩, fun h => absurd h35' h⟩, fun h => absurd hl0 h⟩, fun h => absurd hd0 h⟩, q1, q2, mfr.mv q3⟩
theorem beg_sum0 (h : mst k t p d ps I A J) (h35 : ch t p = 35) (hL : ¬ (97 ≤ ch t (p + 1) ∧ ch t (p + 1) ≤ 122)) : S_X8_begin ht I A J it dyn ∧
    L_X8_begin_r ht I A J it dyn = -2 ∧ (L_X8_begin_I ht I A J it dyn) 14 = nI (p + 1) ∧ mfr k 7 I A J (L_X8_begin_I ht I A J it dyn) (L_X8_begin_A ht I A J it dyn) (L_X8_begin_J ht I A J it dyn) := by
  obtain ⟨e0, s0, c0⟩ := h.hr (ht := ht) (it := it) (dyn := dyn)
  have hl := h.1.2.1
  have hpl : p < t.length := ch_in (by omega)
  obtain ⟨n1, n2, n3⟩ := nameM0 (ht := ht) (J := J) (it := it) (dyn := dyn) h.1 (p := p + 1) (by omega) hL
  have hd0 : L_X8_digit_r ht I A J it dyn (nI (ch t p)) = 0 := by rw [isD_M0 c0]; omega
  have hl0 : L_X8_letter_r ht I A J it dyn (nI (ch t p)) = 0 := by rw [isL_M0 c0]; omega
  have h35' : nI (ch t p) = 35 := by rw [h35]; rfl
  have hpos : ¬ (0 : Int32) ≤ -1 := by decide
  unfold L_X8_begin_r L_X8_begin_I L_X8_begin_A L_X8_begin_J S_X8_begin
  simp only [e0, if_pos hd0, if_pos hl0, if_pos h35', h.2.2.2.1, nI_1, n1, n2, if_neg hpos]
  exact ⟨⟨s0, fun _ => ⟨fun _ => ⟨fun _ => ⟨n3, fun h => absurd h hpos⟩, fun h => absurd h35' h⟩, fun h => absurd hl0 h⟩, fun h => absurd hd0 h⟩, trivial, upd_s _ _ _, mfr.mv mfr.rf⟩
theorem beg_no (h : mst k t p d ps I A J) (hD : ¬ (48 ≤ ch t p ∧ ch t p ≤ 57)) (hL : ¬ (97 ≤ ch t p ∧ ch t p ≤ 122)) (h35 : ¬ ch t p = 35) (h40 : ¬ (d < 6 ∧ ch t p = 40)) : S_X8_begin ht I A J it dyn ∧
    L_X8_begin_r ht I A J it dyn = -2 ∧ (L_X8_begin_I ht I A J it dyn) 14 = nI p ∧ mfr k 7 I A J (L_X8_begin_I ht I A J it dyn) (L_X8_begin_A ht I A J it dyn) (L_X8_begin_J ht I A J it dyn) := by
  obtain ⟨e0, s0, c0⟩ := h.hr (ht := ht) (it := it) (dyn := dyn)
  have hd0 : L_X8_digit_r ht I A J it dyn (nI (ch t p)) = 0 := by rw [isD_M0 c0]; omega
  have hl0 : L_X8_letter_r ht I A J it dyn (nI (ch t p)) = 0 := by rw [isL_M0 c0]; omega
  have h35' : ¬ nI (ch t p) = 35 := by rw [iL 35, nI_eq (by omega) (by omega)]; exact h35
  have z40 : (nI (ch t p) = 40) ↔ ch t p = 40 := by rw [iL 40, nI_eq (by omega) (by omega)]
  have hd6 := h.2.2.2.2.2.2.1
  have z6 : (nI d = 6) ↔ d = 6 := by rw [iL 6, nI_eq (by omega) (by omega)]
  unfold L_X8_begin_r L_X8_begin_I L_X8_begin_A L_X8_begin_J S_X8_begin
  simp only [e0, if_pos hd0, if_pos hl0, if_neg h35', h.2.2.2.2.2.1, z40, z6]
  by_cases hc : ch t p = 40
  · have hdd : d = 6 := by omega
    simp only [if_pos hc, if_pos hdd]
    exact ⟨⟨s0, fun _ => ⟨fun _ => ⟨fun h => absurd h h35', fun _ _ h => absurd hdd h⟩, fun h => absurd hl0 h⟩, fun h => absurd hd0 h⟩, trivial, h.2.2.2.1, mfr.rf⟩
  · simp only [if_neg hc]
    exact ⟨⟨s0, fun _ => ⟨fun _ => ⟨fun h => absurd h h35', fun _ h => absurd h hc⟩, fun h => absurd hl0 h⟩, fun h => absurd hd0 h⟩, trivial, h.2.2.2.1, mfr.rf⟩
theorem beg_open (h : mst k t p d ps I A J) (h40 : ch t p = 40) (hd : d < 6) : S_X8_begin ht I A J it dyn ∧
    L_X8_begin_r ht I A J it dyn = -1 ∧ mst k t (p + 1) (d + 1) ps (L_X8_begin_I ht I A J it dyn) (L_X8_begin_A ht I A J it dyn) (L_X8_begin_J ht I A J it dyn) ∧ (L_X8_begin_A ht I A J it dyn) 26 d = 0 ∧ mfr k d I A J (L_X8_begin_I ht I A J it dyn) (L_X8_begin_A ht I A J it dyn) (L_X8_begin_J ht I A J it dyn) := by
  obtain ⟨e0, s0, c0⟩ := h.hr (ht := ht) (it := it) (dyn := dyn)
  have hpl : p < t.length := ch_in (by omega)
  have hd0 : L_X8_digit_r ht I A J it dyn (nI (ch t p)) = 0 := by rw [isD_M0 c0]; omega
  have hl0 : L_X8_letter_r ht I A J it dyn (nI (ch t p)) = 0 := by rw [isL_M0 c0]; omega
  have h35' : ¬ nI (ch t p) = 35 := by rw [iL 35, nI_eq (by omega) (by omega)]; omega
  have z40 : nI (ch t p) = 40 := by rw [h40]; rfl
  have z6 : ¬ nI d = 6 := by rw [iL 6, nI_eq (by omega) (by omega)]; omega
  have zc : (nI d).toNatClampNeg = d := nI_clamp (by omega)
  unfold L_X8_begin_r L_X8_begin_I L_X8_begin_A L_X8_begin_J S_X8_begin
  simp only [e0, if_pos hd0, if_pos hl0, if_neg h35', h.2.2.2.2.2.1, h.2.2.2.1, if_pos z40, if_neg z6, zc, nI_1]
  refine ⟨⟨s0, fun _ => ⟨fun _ => ⟨fun h => absurd h h35', fun _ _ _ => nI_in (by omega) (by omega)⟩, fun h => absurd hl0 h⟩, fun h => absurd hd0 h⟩, trivial, ?_, by simp [va_up, upd], ?_⟩
  · exact (h.at (I' := upd (upd I 14 (nI (p + 1))) 15 (nI (d + 1))) (by rw [upd_n _ _ (by decide), upd_s]) hpl (upd_s _ _ _) (by omega) (fun q a b => by rw [upd_n _ _ b, upd_n _ _ a])).ar (fun n hn => by simp [va_up]; omega)
  · refine ⟨fun q a b => by rw [upd_n _ _ b, upd_n _ _ a], fun n hn => ?_, fun j _ => rfl, fun n h1 h2 i hi => ?_, fun n h1 h2 b hb => ?_, fun _ _ => rfl, fun _ _ => rfl⟩
    · have : n ≠ 26 := by omega
      simp [va_up, this]
    · have : n ≠ 26 := by omega
      simp [va_up, this]
    · by_cases e : n = 26
      · subst e
        have : b ≠ d := by omega
        simp [va_up, upd, this]
      · simp [va_up, e]
end BG
