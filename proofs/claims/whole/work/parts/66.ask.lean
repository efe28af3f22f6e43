/-! ASKING -/
theorem op_get (ht : Nat) : fzO_get ht (VV ht) := by
  intro I A J it dyn x1 x2 h
  have h' := h
  obtain ⟨t, F, R, c, g1, g2, g3, g4, g5, g6, g7, g8, g9, g10, g11⟩ := h'
  have hl := g7.1.1
  have hR4 := g7.2.2.2.2
  obtain ⟨t1, t2, t3⟩ := there_C (ht := ht) (A := A) (J := J) g7 g1 g5 x1 x2
  have z1 : ¬ (1 : Int32) = 0 := by decide
  have g8' : MF F R (upd I 8 0) A J := g8.cg (fun _ _ _ => rfl) rfl (upd_n _ _ (by decide)) (upd_n _ _ (by decide))
  have g6' : (upd I 8 0) 12 = nI c := by rw [upd_n _ _ (by decide)]; exact g6
  obtain ⟨m1, m2, m3⟩ := there_M (ht := ht) (it := it) (dyn := dyn) g8' g1 g6' x1 x2
  unfold L_X7_get_r S_X7_get L_X8_get_r L_X8_get_I S_X8_get
  by_cases hth : thr F R c x1 x2
  · have hth' := hth
    obtain ⟨hc, k, r, rfl, rfl, hk, hr⟩ := hth
    subst hc
    have hr4 := rw1_4 (F := F) hR4 k
    obtain ⟨_, _, y3, _⟩ := (g11 rfl).2.2
    obtain ⟨y1, y2, _⟩ := MF_kd g8 hk
    obtain ⟨k1, _, _, k4, _⟩ := kind_C (ht := ht) (A := A) (J := J) g7 (show k < 2 ^ 31 by omega)
    obtain ⟨o1, o2⟩ := outc_C (ht := ht) (A := A) (J := J) g7 hk hr
    have zk : (nI (kd F k) = 0) ↔ kd F k = 0 := by rw [iL 0, nI_eq (by omega) (by omega)]
    have hin17 : vp_in (nI k) 17 := nI_in (by omega) (by omega)
    have hv64 : 4 * k + r < 64 := by omega
    have e4 : (4 : Int32) * nI k + nI r = nI (4 * k + r) := by rw [iL 4, nI_mul, nI_add]
    have hck : (nI k).toNatClampNeg = k := nI_clamp (by omega)
    simp only [t2 hth', m2 hth', if_neg z1, k1, o1, hck, y1, zk, e4, nI_clamp (show 4 * k + r < 2 ^ 31 by omega)]
    refine ⟨⟨t1, fun _ => ⟨k4, fun _ => o2⟩⟩, ⟨m1, fun _ => ⟨hin17, fun _ => ⟨i64 hv64, fun _ => i64 hv64⟩⟩⟩, ?_, h.i8 0⟩
    by_cases e : kd F k = 0
    · simp only [if_pos e, if_neg z1]
      have hoc := y3 (4 * k + r) hv64 ⟨by rw [show (4 * k + r) / 4 = k by omega]; exact hk, by rw [show (4 * k + r) / 4 = k by omega]; exact e, by rw [show (4 * k + r) / 4 = k by omega, show (4 * k + r) % 4 = r by omega]; exact hr⟩
      have hf := OC_f (ht := ht) (I := I) (A := A) (J := J) (it := it) (dyn := dyn) hoc
      simp only [hf]
      by_cases e2 : A 31 (4 * k + r) = 0
      · rw [if_pos e2, if_pos e2]
        rw [e2] at hoc
        exact (OC_0 hoc).1
      · rw [if_neg e2, if_neg e2]
    · simp only [if_neg e, if_true]
  · simp only [t3 hth, m3 hth, if_true]
    exact ⟨⟨t1, fun hh => absurd trivial hh⟩, ⟨m1, fun hh => absurd trivial hh⟩, trivial, h.i8 0⟩
theorem OC_code {o v : Int64} {f : Int32} (h : OC o v f) (hf : ¬ f = 0) : (o - 10000000000000000).toInt32 = f := by
  rcases h with ⟨e, _⟩ | ⟨n, h1, h2, h3, h4, h5⟩
  · exact absurd e hf
  · rw [h3, h5]
    obtain rfl | rfl | rfl : n = 1 ∨ n = 2 ∨ n = 3 := by omega
    all_goals decide
theorem op_fault (ht : Nat) : fzO_fault ht (VV ht) := by
  intro I A J it dyn x1 x2 h
  have h' := h
  obtain ⟨t, F, R, c, g1, g2, g3, g4, g5, g6, g7, g8, g9, g10, g11⟩ := h'
  have hl := g7.1.1
  have hR4 := g7.2.2.2.2
  obtain ⟨t1, t2, t3⟩ := there_C (ht := ht) (A := A) (J := J) g7 g1 g5 x1 x2
  have z1 : ¬ (1 : Int32) = 0 := by decide
  have g8' : MF F R (upd I 8 0) A J := g8.cg (fun _ _ _ => rfl) rfl (upd_n _ _ (by decide)) (upd_n _ _ (by decide))
  have g6' : (upd I 8 0) 12 = nI c := by rw [upd_n _ _ (by decide)]; exact g6
  obtain ⟨m1, m2, m3⟩ := there_M (ht := ht) (it := it) (dyn := dyn) g8' g1 g6' x1 x2
  unfold L_X7_fault_r S_X7_fault L_X8_fault_r L_X8_fault_I L_X8_fault_A L_X8_fault_J S_X8_fault
  by_cases hth : thr F R c x1 x2
  · have hth' := hth
    obtain ⟨hc, k, r, rfl, rfl, hk, hr⟩ := hth
    subst hc
    have hr4 := rw1_4 (F := F) hR4 k
    obtain ⟨p1, _, p3⟩ := g11 rfl
    obtain ⟨_, _, y3, _, y5, _⟩ := p3
    obtain ⟨y1, y2, _⟩ := MF_kd g8 hk
    obtain ⟨_, k2, k3, _, k5, k6⟩ := kind_C (ht := ht) (A := A) (J := J) g7 (show k < 2 ^ 31 by omega)
    obtain ⟨o1, o2⟩ := outc_C (ht := ht) (A := A) (J := J) g7 hk hr
    have zk : (nI (kd F k) = 0) ↔ kd F k = 0 := by rw [iL 0, nI_eq (by omega) (by omega)]
    have zk2 : (nI (kd F k) = 2) ↔ kd F k = 2 := by rw [iL 2, nI_eq (by omega) (by omega)]
    have hin17 : vp_in (nI k) 17 := nI_in (by omega) (by omega)
    have hv64 : 4 * k + r < 64 := by omega
    have e4 : (4 : Int32) * nI k + nI r = nI (4 * k + r) := by rw [iL 4, nI_mul, nI_add]
    have hck : (nI k).toNatClampNeg = k := nI_clamp (by omega)
    simp only [t2 hth', m2 hth', if_neg z1, k2, k3, o1, hck, y1, zk, zk2, e4, nI_clamp (show 4 * k + r < 2 ^ 31 by omega)]
    by_cases e2 : kd F k = 2
    · simp only [if_pos e2, if_neg z1]
      exact ⟨⟨t1, fun _ => ⟨k6, fun hh => absurd hh z1⟩⟩, ⟨m1, fun _ => ⟨hin17, fun hh => absurd e2 hh⟩⟩, trivial, h.i8 0⟩
    simp only [if_neg e2, if_true]
    by_cases e1 : kd F k = 1
    · have e0 : ¬ kd F k = 0 := by omega
      obtain ⟨f1, f2, f3⟩ := fails_C (ht := ht) (A := A) (J := J) g7 hk hr
      obtain ⟨b1, b2, b3, b4, b5⟩ := fails_M (ht := ht) (it := it) (dyn := dyn) g8' p1 y5 hk hr e1
      simp only [if_pos e1, if_neg z1, if_neg e0]
      refine ⟨⟨t1, fun _ => ⟨k6, fun _ => ⟨k5, fun hh => absurd hh z1, fun _ => f1⟩⟩⟩, ⟨m1, fun _ => ⟨hin17, fun _ => ⟨hin17, fun hh => absurd hh e0, fun _ => b1⟩⟩⟩, ?_, h.cg (fun q hq => upd_n _ _ hq) (fun m hm => b4 m hm) (fun m hm _ => b5 m hm)⟩
      by_cases ef : flo (J 6 (4 * k + r))
      · rw [f2 ⟨e1, ef⟩, b2 ef]
      · rw [f3 (fun hh => ef hh.2), b3 ef]
    · have e0 : kd F k = 0 := by omega
      simp only [if_neg e1, if_true, if_pos e0]
      refine ⟨⟨t1, fun _ => ⟨k6, fun _ => ⟨k5, fun _ => o2, fun hh => absurd trivial hh⟩⟩⟩, ⟨m1, fun _ => ⟨hin17, fun _ => ⟨hin17, fun _ => i64 hv64, fun hh => absurd e0 hh⟩⟩⟩, ?_, h.i8 0⟩
      have hoc := y3 (4 * k + r) hv64 ⟨by rw [show (4 * k + r) / 4 = k by omega]; exact hk, by rw [show (4 * k + r) / 4 = k by omega]; exact e0, by rw [show (4 * k + r) / 4 = k by omega, show (4 * k + r) % 4 = r by omega]; exact hr⟩
      have hf := OC_f (ht := ht) (I := I) (A := A) (J := J) (it := it) (dyn := dyn) hoc
      simp only [hf]
      by_cases e2 : A 31 (4 * k + r) = 0
      · rw [if_pos e2, e2]
      · rw [if_neg e2, OC_code hoc e2]
  · simp only [t3 hth, m3 hth, if_true]
    exact ⟨⟨t1, fun hh => absurd trivial hh⟩, ⟨m1, fun hh => absurd trivial hh⟩, trivial, h.i8 0⟩
theorem op_place (ht : Nat) : fzO_place ht (VV ht) := by
  intro I A J it dyn x1 x2 h
  have h' := h
  obtain ⟨t, F, R, c, g1, g2, g3, g4, g5, g6, g7, g8, g9, g10, g11⟩ := h'
  have hl := g7.1.1
  have hR4 := g7.2.2.2.2
  obtain ⟨t1, t2, t3⟩ := there_C (ht := ht) (A := A) (J := J) g7 g1 g5 x1 x2
  have z1 : ¬ (1 : Int32) = 0 := by decide
  have g8' : MF F R (upd I 8 0) A J := g8.cg (fun _ _ _ => rfl) rfl (upd_n _ _ (by decide)) (upd_n _ _ (by decide))
  have g6' : (upd I 8 0) 12 = nI c := by rw [upd_n _ _ (by decide)]; exact g6
  obtain ⟨m1, m2, m3⟩ := there_M (ht := ht) (it := it) (dyn := dyn) g8' g1 g6' x1 x2
  unfold L_X7_place_r S_X7_place L_X8_place_r L_X8_place_I S_X8_place
  by_cases hth : thr F R c x1 x2
  · have hth' := hth
    obtain ⟨hc, k, r, rfl, rfl, hk, hr⟩ := hth
    subst hc
    have hr4 := rw1_4 (F := F) hR4 k
    obtain ⟨_, _, _, _, _, y6, y7, _⟩ := (g11 rfl).2.2
    obtain ⟨a1, a2, a3⟩ := has_C (ht := ht) (A := A) (J := J) g7 (show k < 2 ^ 31 by omega) (show r < 2 ^ 31 by omega)
    have ah : ¬ L_X1_has_r ht I A J it dyn (nI k) (nI r) = 0 := fun hh => a1.mp hh hr
    have hv64 : 4 * k + r < 64 := by omega
    have e4 : (4 : Int32) * nI k + nI r = nI (4 * k + r) := by rw [iL 4, nI_mul, nI_add]
    have hin68 : vp_in (nI (4 * k + r)) 68 := nI_in (by omega) (by omega)
    unfold L_X3_placeOf_r S_X3_placeOf
    simp only [t2 hth', m2 hth', if_neg z1, if_neg ah, cellOf_C, e4, nI_clamp (show 4 * k + r < 2 ^ 31 by omega)]
    refine ⟨⟨t1, fun _ => ⟨a2, fun _ => i64 hv64⟩⟩, ⟨m1, fun _ => hin68⟩, ?_, h.i8 0⟩
    rw [y6.2.2.2.1 _ hv64, y7.2.2.2.2.1 _ hv64]
  · simp only [t3 hth, m3 hth, if_true]
    exact ⟨⟨t1, fun hh => absurd trivial hh⟩, ⟨m1, fun hh => absurd trivial hh⟩, trivial, h.i8 0⟩
/-! no page is left empty ahead of another -/
def zf (s : Ly) : Prop := 0 < s.1 → 0 < s.2.1 0
theorem zf.put {s : Ly} (h : zf s) (k r n : Nat) : zf (aput k r n s) := by
  intro h1
  have h1 : 0 < s.1 := h1
  show 0 < (if 0 = s.1 then s.2.1 0 + n else s.2.1 0)
  rw [if_neg (by omega)]
  exact h h1
theorem zf.turn {s : Ly} (h : zf s) (ht n : Nat) : zf (aturn ht n s) := by
  unfold aturn
  split
  · rename_i ha
    intro _
    show 0 < s.2.1 0
    have ha : ¬ (n ≤ ht - s.2.1 s.1 ∨ s.2.1 s.1 = 0) := of_decide_eq_true ha
    by_cases e : s.1 = 0
    · have : ¬ s.2.1 s.1 = 0 := fun h => ha (Or.inr h)
      rw [e] at this
      omega
    · exact h (by omega)
  · exact h
theorem zf.puts {g : Nat → Nat} {r : Nat} : ∀ (n k : Nat) (s : Ly), zf s → zf (aputs g r n k s) := by
  intro n
  induction n with
  | zero => intro k s h; exact h
  | succ n ih => intro k s h; exact ih (k + 1) _ (h.put _ _ _)
theorem zf.als {ht : Nat} {g : Nat → Nat} {r : Nat} : ∀ (n k : Nat) (s : Ly), zf s → zf (alones ht g r n k s) := by
  intro n
  induction n with
  | zero => intro k s h; exact h
  | succ n ih => intro k s h; exact ih (k + 1) _ ((h.turn _ _).put _ _ _)
theorem zf.hd {ht : Nat} {F : List aItem} {g : Nat → Nat} {k H r : Nat} {s : Ly} (h : zf s) : zf (ahead ht F g k H r s) := by
  unfold ahead
  split
  · exact (h.turn _ _).put _ _ _
  · exact h.turn _ _
theorem zf.bl {ht : Nat} {F : List aItem} {g : Nat → Nat} {k n r : Nat} {s : Ly} (h : zf s) : zf (ablock ht F g k n r s) := by
  unfold ablock
  split
  · exact zf.puts _ _ _ h.hd
  · exact zf.als _ _ _ h
theorem zf.sc {ht : Nat} {F : List aItem} {g : Nat → Nat} {k n : Nat} : ∀ (m r : Nat) (s : Ly), zf s → zf (asect ht F g k n m r s) := by
  intro m
  induction m with
  | zero => intro r s h; exact h
  | succ m ih => intro r s h; exact ih (r + 1) _ h.bl
theorem zf.jp {ht : Nat} {F : List aItem} {R : Nat} {g : Nat → Nat} : ∀ (m k : Nat) (s : Ly), zf s → zf (ajump ht F R g m k s) := by
  intro m
  induction m with
  | zero => intro k s h; exact h
  | succ m ih =>
    intro k s h
    unfold ajump
    split
    · exact h
    · split
      · exact ih _ _ ((h.turn _ _).put _ _ _)
      · exact ih _ _ (zf.sc _ _ _ h)
theorem zf_ly (ht : Nat) (F : List aItem) (R : Nat) (oc : Nat → Int64) : zf (lyF ht F R oc) := zf.jp _ _ _ (fun h => absurd h (by decide))
theorem op_pages (ht : Nat) (h20 : ht ≤ 20) : fzO_pages ht (VV ht) := by
  intro I A J it dyn h
  have h' := h
  obtain ⟨t, F, R, c, g1, g2, g3, g4, g5, g6, g7, g8, g9, g10, g11⟩ := h'
  unfold L_X7_pages_r S_X7_pages L_X8_pages_r L_X8_pages_I L_X3_pageCount_r S_X3_pageCount
  rw [g5, g6]
  simp only [nI01 g1]
  have hin : vp_in 0 64 := by rw [iL 0]; exact i64 (by decide)
  have hc0 : (0 : Int32).toNatClampNeg = 0 := by decide
  refine ⟨fun _ => hin, ?_, h.i8 0⟩
  by_cases e : c = 0
  · rw [if_pos e, if_pos e]
  · rw [if_neg e, if_neg e, hc0]
    obtain ⟨_, _, _, _, _, y6, y7, _, _, y10, _⟩ := (g11 (by omega)).2.2
    have zz := zf_ly ht F R (J 6)
    generalize lyF ht F R (J 6) = s at *
    have hb := y10.1.1 0
    have hb1 := y10.1.1 s.1
    have hs := y10.2.1
    rw [y6.2.2.1 0 (by decide), y6.1, y7.2.2.2.1]
    have z : (nI (s.2.1 0) = 0) ↔ s.2.1 0 = 0 := by rw [iL 0, nI_eq (by omega) (by omega)]
    simp only [z]
    by_cases e0 : s.2.1 s.1 = 0
    · have e1 := y10.2.2.1 e0
      rw [e1] at e0
      rw [if_pos e0, if_pos (by rw [e1]; exact e0), e1]; rfl
    · rw [if_neg e0, nI_1]
      rw [if_neg]
      intro e2
      by_cases e3 : s.1 = 0
      · rw [e3] at e0; exact e0 e2
      · have := zz (by omega); omega
theorem op_line (ht : Nat) (h4 : 4 ≤ ht) (h20 : ht ≤ 20) : fzO_line ht (VV ht) := by
  intro I A J it dyn x1 x2 h
  have h' := h
  obtain ⟨t, F, R, c, g1, g2, g3, g4, g5, g6, g7, g8, g9, g10, g11⟩ := h'
  unfold L_X7_line_r S_X7_line L_X8_line_r L_X8_line_I S_X8_line L_X3_standsAt_r S_X3_standsAt
  rw [g5, g6]
  simp only [nI01 g1]
  by_cases e : c = 0
  · simp only [if_pos e]
    exact ⟨fun h => absurd e h, fun h => absurd e h, trivial, h.i8 0⟩
  simp only [if_neg e]
  obtain ⟨_, _, _, _, _, y6, y7, _, _, y10, _⟩ := (g11 (by omega)).2.2
  generalize lyF ht F R (J 6) = s at *
  by_cases n1 : x1 < 0
  · simp only [if_pos n1]
    exact ⟨fun _ h => absurd n1 h, fun _ h => absurd n1 h, trivial, h.i8 0⟩
  simp only [if_neg n1]
  obtain ⟨q, hq, rfl⟩ := int32_nat n1
  have hs := y10.2.1
  have zq : (I 7 < nI q) ↔ s.1 < q := by rw [y6.1]; exact nI_ltI (by omega) (by omega)
  have zq8 : ((80 : Int32) ≤ nI q) ↔ 80 ≤ q := by rw [iL 80]; exact nI_leI (by omega) (by omega)
  simp only [zq, zq8]
  by_cases n2 : x2 < 0
  · simp only [if_pos n2]
    refine ⟨fun _ _ _ h => absurd n2 h, fun _ _ _ h => absurd n2 h, ?_, h.i8 0⟩
    split <;> split <;> rfl
  simp only [if_neg n2]
  obtain ⟨j, hj, rfl⟩ := int32_nat n2
  have zj : (nI ht ≤ nI j) ↔ ht ≤ j := nI_leI (by omega) (by omega)
  simp only [zj]
  have e39 : q < 80 → j < ht → vp_in ((32 : Int32) * nI q + nI j) 2560 ∧ ((32 : Int32) * nI q + nI j).toNatClampNeg = 32 * q + j := by
    intro a b
    rw [iL 32, nI_mul, nI_add]
    exact ⟨nI_in (by omega) (by omega), nI_clamp (by omega)⟩
  refine ⟨fun _ _ a _ => ?_, fun _ _ a _ b => (e39 (by omega) (by omega)).1, ?_, h.i8 0⟩
  · have hb := y10.1.1 q
    rw [nI_clamp hq, y6.2.2.1 q (by omega), nI_ltI (by omega) (by omega)]
    refine ⟨nI_in (by omega) (by omega), fun hjq => ?_⟩
    rw [nI_mul, nI_add]
    have hm : q * ht ≤ 63 * ht := Nat.mul_le_mul_right _ (by omega)
    exact nI_in (by omega) (by omega)
  · have hb := y10.1.1 q
    by_cases eq : s.1 < q
    · rw [if_pos eq]
      have hz := y10.1.2 q eq
      by_cases e8 : 80 ≤ q
      · rw [if_pos e8]
      · rw [if_neg e8]
        by_cases ej : ht ≤ j
        · rw [if_pos ej]
        · rw [if_neg ej, (e39 (by omega) (by omega)).2, y7.2.2.2.2.2 q (by omega) j (by omega), if_neg (by omega)]
    · rw [if_neg eq, if_neg (show ¬ 80 ≤ q by omega), nI_clamp hq, y6.2.2.1 q (by omega)]
      simp only [nI_ltI (show j < 2 ^ 31 from hj) (show s.2.1 q < 2 ^ 31 by omega)]
      by_cases ej : ht ≤ j
      · rw [if_pos ej, if_neg (by omega)]
      · rw [if_neg ej, (e39 (by omega) (by omega)).2, y7.2.2.2.2.2 q (by omega) j (by omega)]
        by_cases ek : j < s.2.1 q
        · rw [if_pos ek, if_pos ek, nI_mul, nI_add]
          have hm : q * ht ≤ 63 * ht := Nat.mul_le_mul_right _ (by omega)
          rw [nI_clamp (by omega)]
          exact y6.2.2.2.2 q (by omega) j ek
        · rw [if_neg ek, if_neg ek]
