/-! PAGES: blocks, sections, all, the reference -/
section MB
variable {ht : Nat} {F : List aItem} {R : Nat} {oc : Nat → Int64} {it : Nat → Option Nat} {dyn : fsH}
theorem msum {k0 e r : Nat} {v4 : Int32} (hr4 : r < 4) (he : e ≤ F.length) (hl : F.length ≤ 16) : ∀ (n m k a : Nat) (I : Nat → Int32) (A : Nat → Nat → Int32) (J : Nat → Nat → Int64), RS F R oc I A J → k + n = e → n < m → (∀ j : Nat, k ≤ j → j < e → r < rw1 F R j) → a + 3 * n ≤ 1000 → S_Lb_X8_layBlock_6 m ht I A J it dyn (nI k0) (nI e) (nI r) v4 (nI a) (nI k) ∧ Lb_X8_layBlock_6_v5 m ht I A J it dyn (nI k0) (nI e) (nI r) v4 (nI a) (nI k) = nI (a + asum (hgt F oc) r n k) ∧ fM I A J I (Lb_X8_layBlock_6_A m ht I A J it dyn (nI k0) (nI e) (nI r) v4 (nI a) (nI k)) (Lb_X8_layBlock_6_J m ht I A J it dyn (nI k0) (nI e) (nI r) v4 (nI a) (nI k)) ∧ (Lb_X8_layBlock_6_A m ht I A J it dyn (nI k0) (nI e) (nI r) v4 (nI a) (nI k)) 38 = A 38 ∧ (Lb_X8_layBlock_6_A m ht I A J it dyn (nI k0) (nI e) (nI r) v4 (nI a) (nI k)) 39 = A 39 ∧ asum (hgt F oc) r n k ≤ 3 * n := by
  intro n
  induction n with
  | zero =>
    intro m k a I A J h hk hm _ _
    obtain ⟨m, rfl⟩ : ∃ n', m = n' + 1 := ⟨m - 1, by omega⟩
    have zl : nI e ≤ nI k := by rw [nI_leI (by omega) (by omega)]; omega
    simp only [S_Lb_X8_layBlock_6, Lb_X8_layBlock_6_v5, Lb_X8_layBlock_6_A, Lb_X8_layBlock_6_J, if_pos zl, asum]
    exact ⟨fun h => absurd zl h, rfl, fM.rf, trivial, trivial, by omega⟩
  | succ n ih =>
    intro m k a I A J h hk hm hrow ha
    obtain ⟨m, rfl⟩ : ∃ n', m = n' + 1 := ⟨m - 1, by omega⟩
    have zl : ¬ nI e ≤ nI k := by rw [nI_leI (by omega) (by omega)]; omega
    obtain ⟨q1, q2, q3, q4, q5⟩ := lines_M (ht := ht) (it := it) (dyn := dyn) h (show k < F.length by omega) (hrow k (by omega) (by omega))
    have hg3 := hgt_3 h.1.1 oc (4 * k + r)
    obtain ⟨i1, i2, i3, i4, i5, i6⟩ := ih m (k + 1) (a + hgt F oc (4 * k + r)) I _ _ (h.fm q3) (by omega) (by omega) (fun j a b => hrow j (by omega) b) (by omega)
    simp only [S_Lb_X8_layBlock_6, Lb_X8_layBlock_6_v5, Lb_X8_layBlock_6_A, Lb_X8_layBlock_6_J, if_neg zl, q2, nI_add, nI_1, asum]
    refine ⟨fun _ => ⟨q1, i1⟩, ?_, q3.tr i3, i4.trans q4, i5.trans q5, by omega⟩
    rw [i2, Nat.add_assoc]
theorem mputs (h4 : 4 ≤ ht) (h20 : ht ≤ 20) {k0 e r : Nat} {v4 v5 : Int32} (hr4 : r < 4) (he : e ≤ F.length) (hl : F.length ≤ 16) : ∀ (n m k : Nat) (s : Ly) (I : Nat → Int32) (A : Nat → Nat → Int32) (J : Nat → Nat → Int64), RS F R oc I A J → k + n = e → n < m → (∀ j : Nat, k ≤ j → j < e → r < rw1 F R j) → bnd ht s → s.2.1 s.1 + asum (hgt F oc) r n k ≤ ht → (∀ j : Nat, k ≤ j → j < e → s.2.2.1 (4 * j + r) = -1) → LM ht s I A → S_Lb_X8_layBlock_127 m ht I A J it dyn (nI k0) (nI e) (nI r) v4 v5 (nI k) ∧ LM ht (aputs (hgt F oc) r n k s) (Lb_X8_layBlock_127_I m ht I A J it dyn (nI k0) (nI e) (nI r) v4 v5 (nI k)) (Lb_X8_layBlock_127_A m ht I A J it dyn (nI k0) (nI e) (nI r) v4 v5 (nI k)) ∧ fM I A J (Lb_X8_layBlock_127_I m ht I A J it dyn (nI k0) (nI e) (nI r) v4 v5 (nI k)) (Lb_X8_layBlock_127_A m ht I A J it dyn (nI k0) (nI e) (nI r) v4 v5 (nI k)) (Lb_X8_layBlock_127_J m ht I A J it dyn (nI k0) (nI e) (nI r) v4 v5 (nI k)) := by
  intro n
  induction n with
  | zero =>
    intro m k s I A J h hk hm _ _ _ _ hL
    obtain ⟨m, rfl⟩ : ∃ n', m = n' + 1 := ⟨m - 1, by omega⟩
    have zl : nI e ≤ nI k := by rw [nI_leI (by omega) (by omega)]; omega
    simp only [S_Lb_X8_layBlock_127, Lb_X8_layBlock_127_I, Lb_X8_layBlock_127_A, Lb_X8_layBlock_127_J, if_pos zl, aputs]
    exact ⟨fun h => absurd zl h, hL, fM.rf⟩
  | succ n ih =>
    intro m k s I A J h hk hm hrow hb hf hfr hL
    obtain ⟨m, rfl⟩ : ∃ n', m = n' + 1 := ⟨m - 1, by omega⟩
    have zl : ¬ nI e ≤ nI k := by rw [nI_leI (by omega) (by omega)]; omega
    have hf : s.2.1 s.1 + (hgt F oc (4 * k + r) + asum (hgt F oc) r n (k + 1)) ≤ ht := hf
    obtain ⟨p1, p2, p3⟩ := lay_M (J := J) (it := it) (dyn := dyn) (b := 0) h4 h20 h (show k < F.length by omega) (hrow k (by omega) (by omega)) hb hL (by omega) (Or.inl ⟨rfl, hfr k (by omega) (by omega)⟩)
    have ef : (aput k r (hgt F oc (4 * k + r)) s).2.1 (aput k r (hgt F oc (4 * k + r)) s).1 = s.2.1 s.1 + hgt F oc (4 * k + r) := by
      show (if s.1 = s.1 then s.2.1 s.1 + hgt F oc (4 * k + r) else s.2.1 s.1) = _
      rw [if_pos rfl]
    obtain ⟨i1, i2, i3⟩ := ih m (k + 1) (aput k r (hgt F oc (4 * k + r)) s) _ _ _ (h.fm p3) (by omega) (by omega) (fun j a b => hrow j (by omega) b) (hb.put (by omega)) (by rw [ef]; omega) (fun j a b => by rw [aput_pc (by omega)]; exact hfr j (by omega) b) p2
    simp only [S_Lb_X8_layBlock_127, Lb_X8_layBlock_127_I, Lb_X8_layBlock_127_A, Lb_X8_layBlock_127_J, if_neg zl, nI_1, aputs]
    exact ⟨fun _ => ⟨p1, i1⟩, i2, p3.tr i3⟩
theorem malones (h4 : 4 ≤ ht) (h20 : ht ≤ 20) {k0 e r : Nat} {v4 v5 : Int32} (hr4 : r < 4) (he : e ≤ F.length) (hl : F.length ≤ 16) : ∀ (n m k c : Nat) (s : Ly) (I : Nat → Int32) (A : Nat → Nat → Int32) (J : Nat → Nat → Int64), RS F R oc I A J → k + n = e → n < m → (∀ j : Nat, k ≤ j → j < e → r < rw1 F R j) → inv ht c s → c + n ≤ 64 → (∀ j : Nat, k ≤ j → j < e → s.2.2.1 (4 * j + r) = -1) → LM ht s I A → S_Lb_X8_layBlock_42 m ht I A J it dyn (nI k0) (nI e) (nI r) v4 v5 (nI k) ∧ LM ht (alones ht (hgt F oc) r n k s) (Lb_X8_layBlock_42_I m ht I A J it dyn (nI k0) (nI e) (nI r) v4 v5 (nI k)) (Lb_X8_layBlock_42_A m ht I A J it dyn (nI k0) (nI e) (nI r) v4 v5 (nI k)) ∧ fM I A J (Lb_X8_layBlock_42_I m ht I A J it dyn (nI k0) (nI e) (nI r) v4 v5 (nI k)) (Lb_X8_layBlock_42_A m ht I A J it dyn (nI k0) (nI e) (nI r) v4 v5 (nI k)) (Lb_X8_layBlock_42_J m ht I A J it dyn (nI k0) (nI e) (nI r) v4 v5 (nI k)) := by
  intro n
  induction n with
  | zero =>
    intro m k c s I A J h hk hm _ _ _ _ hL
    obtain ⟨m, rfl⟩ : ∃ n', m = n' + 1 := ⟨m - 1, by omega⟩
    have zl : nI e ≤ nI k := by rw [nI_leI (by omega) (by omega)]; omega
    simp only [S_Lb_X8_layBlock_42, Lb_X8_layBlock_42_I, Lb_X8_layBlock_42_A, Lb_X8_layBlock_42_J, if_pos zl, alones]
    exact ⟨fun h => absurd zl h, hL, fM.rf⟩
  | succ n ih =>
    intro m k c s I A J h hk hm hrow hi hc hfr hL
    obtain ⟨m, rfl⟩ : ∃ n', m = n' + 1 := ⟨m - 1, by omega⟩
    have zl : ¬ nI e ≤ nI k := by rw [nI_leI (by omega) (by omega)]; omega
    have hg3 := hgt_3 h.1.1 oc (4 * k + r)
    obtain ⟨q1, q2, q3, q4, q5⟩ := lines_M (ht := ht) (it := it) (dyn := dyn) h (show k < F.length by omega) (hrow k (by omega) (by omega))
    have h1 := h.fm q3
    have hL1 := hL.ar q4 q5
    simp only [S_Lb_X8_layBlock_42, Lb_X8_layBlock_42_I, Lb_X8_layBlock_42_A, Lb_X8_layBlock_42_J, if_neg zl, nI_1, q2, alones]
    generalize L_X8_linesOf_A ht I A J it dyn (nI k) (nI r) = A0 at *
    generalize L_X8_linesOf_J ht I A J it dyn (nI k) (nI r) = J0 at *
    obtain ⟨t1, _, _, t4⟩ := turn_M (J := J0) (it := it) (dyn := dyn) h4 h20 hi.1 hL1 (n := hgt F oc (4 * k + r)) (by omega) (hi.s62 (by omega))
    have ft : fM I A0 J0 (L_X8_turn_I ht I A0 J0 it dyn (nI (hgt F oc (4 * k + r)))) A0 J0 := ⟨fun q a b _ => t4 q a b, fun _ _ _ _ => rfl, fun _ _ => rfl⟩
    obtain ⟨p1, p2, p3⟩ := lay_M (J := J0) (it := it) (dyn := dyn) (b := 0) h4 h20 (h1.fm ft) (show k < F.length by omega) (hrow k (by omega) (by omega)) (hi.1.turn _) t1 (turn_fit hi.1 (by omega)) (Or.inl ⟨rfl, by rw [aturn_pc]; exact hfr k (by omega) (by omega)⟩)
    obtain ⟨i1, i2, i3⟩ := ih m (k + 1) (c + 1) (alone ht (hgt F oc) k r s) _ _ _ ((h1.fm ft).fm p3) (by omega) (by omega) (fun j a b => hrow j (by omega) b) (hi.al (by omega) (by omega)) (by omega) (fun j a b => by unfold alone; rw [aput_pc (by omega), aturn_pc]; exact hfr j (by omega) b) p2
    exact ⟨fun _ => ⟨q1, p1, i1⟩, i2, ((q3.tr ft).tr p3).tr i3⟩
theorem mblock (h4 : 4 ≤ ht) (h20 : ht ≤ 20) {I : Nat → Int32} {A : Nat → Nat → Int32} {J : Nat → Nat → Int64} (h : RS F R oc I A J) {s : Ly} {k n r c : Nat} {hd : Int32} (hhd : (0 < k ∧ kd F (k - 1) = 2 → hd = nI (k - 1)) ∧ (¬ (0 < k ∧ kd F (k - 1) = 2) → hd = -1)) (hn : 0 < n) (he : k + n ≤ F.length) (hr4 : r < 4) (hrow : ∀ j : Nat, k ≤ j → j < k + n → r < rw1 F R j) (hi : inv ht c s) (hc : c + n ≤ 64) (hfr : ∀ j : Nat, k ≤ j → j < k + n → s.2.2.1 (4 * j + r) = -1) (hcap : capOK F k s) (hL : LM ht s I A) : S_X8_layBlock ht I A J it dyn (nI k) (nI (k + n)) (nI r) hd ∧ LM ht (ablock ht F (hgt F oc) k n r s) (L_X8_layBlock_I ht I A J it dyn (nI k) (nI (k + n)) (nI r) hd) (L_X8_layBlock_A ht I A J it dyn (nI k) (nI (k + n)) (nI r) hd) ∧ fM I A J (L_X8_layBlock_I ht I A J it dyn (nI k) (nI (k + n)) (nI r) hd) (L_X8_layBlock_A ht I A J it dyn (nI k) (nI (k + n)) (nI r) hd) (L_X8_layBlock_J ht I A J it dyn (nI k) (nI (k + n)) (nI r) hd) := by
  have hl := h.1.1.1
  have hg := hgt_3 h.1.1 oc
  obtain ⟨s1, s2, s3, s4, s5, s6⟩ := msum (ht := ht) (it := it) (dyn := dyn) (k0 := k) (v4 := hd) hr4 he hl n 70 k 0 I A J h rfl (by omega) hrow (by omega)
  rw [Nat.zero_add] at s2
  have s1 : S_Lb_X8_layBlock_6 70 ht I A J it dyn (nI k) (nI (k + n)) (nI r) hd 0 (nI k) := s1
  have s2 : Lb_X8_layBlock_6_v5 70 ht I A J it dyn (nI k) (nI (k + n)) (nI r) hd 0 (nI k) = nI (asum (hgt F oc) r n k) := s2
  have h1 := h.fm s3
  have hL1 := hL.ar s4 s5
  unfold S_X8_layBlock L_X8_layBlock_I L_X8_layBlock_A L_X8_layBlock_J ablock
  rw [s2]
  have e6A : Lb_X8_layBlock_6_A 70 ht I A J it dyn (nI k) (nI (k + n)) (nI r) hd 0 (nI k) = Lb_X8_layBlock_6_A 70 ht I A J it dyn (nI k) (nI (k + n)) (nI r) hd (nI 0) (nI k) := rfl
  have e6J : Lb_X8_layBlock_6_J 70 ht I A J it dyn (nI k) (nI (k + n)) (nI r) hd 0 (nI k) = Lb_X8_layBlock_6_J 70 ht I A J it dyn (nI k) (nI (k + n)) (nI r) hd (nI 0) (nI k) := rfl
  rw [e6A, e6J]
  generalize Lb_X8_layBlock_6_A 70 ht I A J it dyn (nI k) (nI (k + n)) (nI r) hd (nI 0) (nI k) = A6 at *
  generalize Lb_X8_layBlock_6_J 70 ht I A J it dyn (nI k) (nI (k + n)) (nI r) hd (nI 0) (nI k) = J6 at *
  generalize hH : asum (hgt F oc) r n k = H at *
  have zh : (nI H ≤ nI ht) ↔ H ≤ ht := by rw [nI_leI (by omega) (by omega)]
  have z0 : (nI H ≤ 0) ↔ H = 0 := by rw [iL 0, nI_leI (by omega) (by omega)]; omega
  have zr : (nI r ≤ 0) ↔ r = 0 := by rw [iL 0, nI_leI (by omega) (by omega)]; omega
  simp only [zh, z0, zr]
  by_cases hHt : H ≤ ht
  · simp only [if_pos hHt]
    obtain ⟨b1, b2, b3, b4⟩ := head_fit (F := F) (g := hgt F oc) (k := k) (r := r) hi.1 hHt
    obtain ⟨t1, t2, t3, t4⟩ := turn_M (J := J6) (it := it) (dyn := dyn) h4 h20 hi.1 hL1 (n := H) (by omega) (hi.s62 (by omega))
    have ft : fM I A6 J6 (L_X8_turn_I ht I A6 J6 it dyn (nI H)) A6 J6 := ⟨fun q a b _ => t4 q a b, fun _ _ _ _ => rfl, fun _ _ => rfl⟩
    have hmain : ∀ (I1 : Nat → Int32) (A1 : Nat → Nat → Int32) (J1 : Nat → Nat → Int64), fM I A6 J6 I1 A1 J1 → LM ht (ahead ht F (hgt F oc) k H r s) I1 A1 → S_Lb_X8_layBlock_127 70 ht I1 A1 J1 it dyn (nI k) (nI (k + n)) (nI r) hd (nI H) (nI k) ∧ LM ht (aputs (hgt F oc) r n k (ahead ht F (hgt F oc) k H r s)) (Lb_X8_layBlock_127_I 70 ht I1 A1 J1 it dyn (nI k) (nI (k + n)) (nI r) hd (nI H) (nI k)) (Lb_X8_layBlock_127_A 70 ht I1 A1 J1 it dyn (nI k) (nI (k + n)) (nI r) hd (nI H) (nI k)) ∧ fM I A J (Lb_X8_layBlock_127_I 70 ht I1 A1 J1 it dyn (nI k) (nI (k + n)) (nI r) hd (nI H) (nI k)) (Lb_X8_layBlock_127_A 70 ht I1 A1 J1 it dyn (nI k) (nI (k + n)) (nI r) hd (nI H) (nI k)) (Lb_X8_layBlock_127_J 70 ht I1 A1 J1 it dyn (nI k) (nI (k + n)) (nI r) hd (nI H) (nI k)) := by
      intro I1 A1 J1 hf hL2
      obtain ⟨q1, q2, q3⟩ := mputs (ht := ht) (it := it) (dyn := dyn) (k0 := k) (v4 := hd) (v5 := nI H) h4 h20 hr4 he hl n 70 k (ahead ht F (hgt F oc) k H r s) I1 A1 J1 (h1.fm hf) rfl (by omega) hrow b1 (by rw [hH]; exact b2) (fun j a b => by rw [ahead_pc hcap]; exact hfr j a b) hL2
      exact ⟨q1, q2, (s3.tr hf).tr q3⟩
    by_cases hH0 : H = 0
    · simp only [if_pos hH0]
      have hat : atrn ht H s = false := by unfold atrn; simp; omega
      have eh : ahead ht F (hgt F oc) k H r s = s := by
        unfold ahead
        rw [if_neg (fun h => by rw [h.1] at hat; cases hat)]
        unfold aturn
        rw [hat]; rfl
      obtain ⟨m1, m2, m3⟩ := hmain I A6 J6 fM.rf (by rw [eh]; exact hL1)
      exact ⟨⟨s1, fun _ => ⟨fun h => absurd hH0 h, m1⟩, fun h => absurd hHt h⟩, m2, m3⟩
    · simp only [if_neg hH0]
      cases hat : atrn ht H s with
      | false =>
        have eh : ahead ht F (hgt F oc) k H r s = aturn ht H s := by
          unfold ahead
          rw [if_neg (fun h => by rw [h.1] at hat; cases hat)]
        have hr0 := t3 hat
        simp only [hr0, if_true]
        obtain ⟨m1, m2, m3⟩ := hmain _ A6 J6 ft (by rw [eh]; exact t1)
        exact ⟨⟨s1, fun _ => ⟨fun _ h => absurd trivial h, m1⟩, fun h => absurd hHt h⟩, m2, m3⟩
      | true =>
        have hr1 := t2 hat
        simp only [hr1, show ¬ (1 : Int32) = 0 by decide, if_false]
        by_cases hr0 : r = 0
        · have eh : ahead ht F (hgt F oc) k H r s = aturn ht H s := by
            unfold ahead
            rw [if_neg (fun h => by have := h.2.1; omega)]
          simp only [if_pos hr0]
          obtain ⟨m1, m2, m3⟩ := hmain _ A6 J6 ft (by rw [eh]; exact t1)
          exact ⟨⟨s1, fun _ => ⟨fun _ _ h => absurd hr0 h, m1⟩, fun h => absurd hHt h⟩, m2, m3⟩
        · simp only [if_neg hr0]
          by_cases hck : 0 < k ∧ kd F (k - 1) = 2
          · have ehd := hhd.1 hck
            have zhd : ¬ hd < 0 := by rw [ehd, iL 0, nI_ltI (by omega) (by omega)]; omega
            have hrw : 0 < rw1 F R (k - 1) := by
              obtain ⟨x, hx⟩ := F_some (F := F) (k := k - 1) (by omega)
              obtain ⟨c1, c2, _⟩ := acc hx
              have w := (h.1.1.2 _ x hx).2.2.2.1 (by rw [← c1]; exact hck.2)
              unfold rw1
              rw [if_pos (by omega), c2, w.1, if_pos rfl]
              decide
            obtain ⟨q1, q2, q3, q4, q5⟩ := lines_M (ht := ht) (it := it) (dyn := dyn) (h1.fm ft) (k := k - 1) (r := 0) (by omega) hrw
            have q1 : S_X8_linesOf ht (L_X8_turn_I ht I A6 J6 it dyn (nI H)) A6 J6 it dyn hd 0 := by rw [ehd]; exact q1
            have q2 : L_X8_linesOf_r ht (L_X8_turn_I ht I A6 J6 it dyn (nI H)) A6 J6 it dyn hd 0 = nI (hgt F oc (4 * (k - 1))) := by rw [ehd]; exact q2
            have q3 : fM (L_X8_turn_I ht I A6 J6 it dyn (nI H)) A6 J6 (L_X8_turn_I ht I A6 J6 it dyn (nI H)) (L_X8_linesOf_A ht (L_X8_turn_I ht I A6 J6 it dyn (nI H)) A6 J6 it dyn hd 0) (L_X8_linesOf_J ht (L_X8_turn_I ht I A6 J6 it dyn (nI H)) A6 J6 it dyn hd 0) := by rw [ehd]; exact q3
            have q4 : (L_X8_linesOf_A ht (L_X8_turn_I ht I A6 J6 it dyn (nI H)) A6 J6 it dyn hd 0) 38 = A6 38 := by rw [ehd]; exact q4
            have q5 : (L_X8_linesOf_A ht (L_X8_turn_I ht I A6 J6 it dyn (nI H)) A6 J6 it dyn hd 0) 39 = A6 39 := by rw [ehd]; exact q5
            have hg1 := hg (4 * (k - 1))
            simp only [if_neg zhd, q2, nI_add]
            have zz : (nI ht < nI (H + hgt F oc (4 * (k - 1)))) ↔ ht < H + hgt F oc (4 * (k - 1)) := by rw [nI_ltI (by omega) (by omega)]
            simp only [zz]
            generalize L_X8_turn_I ht I A6 J6 it dyn (nI H) = I1 at *
            by_cases hfit : ht < H + hgt F oc (4 * (k - 1))
            · have eh : ahead ht F (hgt F oc) k H r s = aturn ht H s := by
                unfold ahead
                rw [if_neg (fun h => by have := h.2.2.2; omega)]
              simp only [if_pos hfit]
              obtain ⟨m1, m2, m3⟩ := hmain _ _ _ (ft.tr q3) (by rw [eh]; exact t1.ar q4 q5)
              exact ⟨⟨s1, fun _ => ⟨fun _ _ _ _ => ⟨q1, fun h => absurd hfit h⟩, m1⟩, fun h => absurd hHt h⟩, m2, m3⟩
            · have eh : ahead ht F (hgt F oc) k H r s = aput (k - 1) 0 (hgt F oc (4 * (k - 1))) (aturn ht H s) := by
                unfold ahead
                rw [if_pos ⟨hat, by omega, hck, by omega⟩]
              have hfz : (aturn ht H s).2.1 (aturn ht H s).1 = 0 := by
                unfold aturn
                rw [if_pos hat]
                exact hi.1.2 _ (by omega)
              simp only [if_neg hfit]
              obtain ⟨p1, p2, p3⟩ := lay_M (it := it) (dyn := dyn) (b := 1) h4 h20 ((h1.fm ft).fm q3) (k := k - 1) (r := 0) (by omega) hrw (hi.1.turn H) (t1.ar q4 q5) (by rw [hfz]; show 0 + hgt F oc (4 * (k - 1)) ≤ ht; omega) (Or.inr ⟨rfl, by rw [aturn_pc]; exact hcap hck.1 hck.2⟩)
              rw [← ehd] at p1 p2 p3
              obtain ⟨m1, m2, m3⟩ := hmain _ _ _ ((ft.tr q3).tr p3) (by rw [eh]; exact p2)
              exact ⟨⟨s1, fun _ => ⟨fun _ _ _ _ => ⟨q1, fun _ => p1⟩, m1⟩, fun h => absurd hHt h⟩, m2, m3⟩
          · have ehd := hhd.2 hck
            have zhd : hd < 0 := by rw [ehd]; decide
            have eh : ahead ht F (hgt F oc) k H r s = aturn ht H s := by
              unfold ahead
              rw [if_neg (fun h => hck h.2.2.1)]
            simp only [if_pos zhd]
            obtain ⟨m1, m2, m3⟩ := hmain _ A6 J6 ft (by rw [eh]; exact t1)
            exact ⟨⟨s1, fun _ => ⟨fun _ _ _ h => absurd zhd h, m1⟩, fun h => absurd hHt h⟩, m2, m3⟩
  · simp only [if_neg hHt]
    obtain ⟨q1, q2, q3⟩ := malones (ht := ht) (it := it) (dyn := dyn) (k0 := k) (v4 := hd) (v5 := nI H) h4 h20 hr4 he hl n 70 k c s I A6 J6 h1 rfl (by omega) hrow hi hc hfr hL1
    exact ⟨⟨s1, fun h => absurd h hHt, fun _ => q1⟩, q2, s3.tr q3⟩
theorem mrows (h4 : 4 ≤ ht) (h20 : ht ≤ 20) {k n : Nat} {hd : Int32} (hhd : (0 < k ∧ kd F (k - 1) = 2 → hd = nI (k - 1)) ∧ (¬ (0 < k ∧ kd F (k - 1) = 2) → hd = -1)) (hn : 0 < n) (he : k + n ≤ F.length) (hrow : ∀ j : Nat, k ≤ j → j < k + n → rw1 F R j = R) : ∀ (m f r c : Nat) (s : Ly) (I : Nat → Int32) (A : Nat → Nat → Int32) (J : Nat → Nat → Int64), r + m = R → m < f → RS F R oc I A J → inv ht c s → c + n * m ≤ 64 → (∀ j r' : Nat, k ≤ j → j < k + n → r ≤ r' → r' < 4 → s.2.2.1 (4 * j + r') = -1) → capOK F k s → LM ht s I A → S_Lb_X8_refresh_256 f ht I A J it dyn (nI k) (nI (k + n)) hd (nI r) ∧ LM ht (asect ht F (hgt F oc) k n m r s) (Lb_X8_refresh_256_I f ht I A J it dyn (nI k) (nI (k + n)) hd (nI r)) (Lb_X8_refresh_256_A f ht I A J it dyn (nI k) (nI (k + n)) hd (nI r)) ∧ fM I A J (Lb_X8_refresh_256_I f ht I A J it dyn (nI k) (nI (k + n)) hd (nI r)) (Lb_X8_refresh_256_A f ht I A J it dyn (nI k) (nI (k + n)) hd (nI r)) (Lb_X8_refresh_256_J f ht I A J it dyn (nI k) (nI (k + n)) hd (nI r)) := by
  intro m
  induction m with
  | zero =>
    intro f r c s I A J hr hf h hi hc _ _ hL
    have hR := h.1.2.2.2.2
    obtain ⟨f, rfl⟩ : ∃ n', f = n' + 1 := ⟨f - 1, by omega⟩
    have zl : nI R ≤ nI r := by rw [nI_leI (by omega) (by omega)]; omega
    simp only [S_Lb_X8_refresh_256, Lb_X8_refresh_256_I, Lb_X8_refresh_256_A, Lb_X8_refresh_256_J, h.1.2.2.2.1, if_pos zl, asect]
    exact ⟨fun h => absurd zl h, hL, fM.rf⟩
  | succ m ih =>
    intro f r c s I A J hr hf h hi hc hfr hcap hL
    have hR := h.1.2.2.2.2
    rw [Nat.mul_succ] at hc
    obtain ⟨f, rfl⟩ : ∃ n', f = n' + 1 := ⟨f - 1, by omega⟩
    have zl : ¬ nI R ≤ nI r := by rw [nI_leI (by omega) (by omega)]; omega
    have hg := hgt_3 h.1.1 oc
    obtain ⟨b1, b2, b3⟩ := mblock (it := it) (dyn := dyn) (r := r) (c := c) h4 h20 h hhd hn he (by omega) (fun j a b => by rw [hrow j a b]; omega) hi (by omega) (fun j a b => hfr j r a b (by omega) (by omega)) hcap hL
    obtain ⟨i1, i2, i3⟩ := ih f (r + 1) (c + n) (ablock ht F (hgt F oc) k n r s) _ _ _ (by omega) (by omega) (h.fm b3) (hi.bl (fun v => by have := hg v; omega) (by omega) hn) (by omega) (fun j r' a b p q => by rw [ablock_pc hcap (fun i x y => by omega)]; exact hfr j r' a b (by omega) q) (fun a b => by rw [ablock_pc hcap (fun i x y => by omega)]; exact hcap a b) b2
    simp only [S_Lb_X8_refresh_256, Lb_X8_refresh_256_I, Lb_X8_refresh_256_A, Lb_X8_refresh_256_J, h.1.2.2.2.1, if_neg zl, asect, nI_1]
    exact ⟨fun _ => ⟨b1, i1⟩, i2, b3.tr i3⟩
theorem mrun {I : Nat → Int32} {A : Nat → Nat → Int32} {J : Nat → Nat → Int64} (h : MF F R I A J) {v1 : Int32} : ∀ (m n k : Nat), F.length ≤ k + m → k ≤ F.length → m < n → Lb_X8_refresh_206_v2 n ht I A J it dyn v1 (nI k) = nI (k + srun F m k) ∧ S_Lb_X8_refresh_206 n ht I A J it dyn v1 (nI k) := by
  have hl := h.1.1
  intro m
  induction m with
  | zero =>
    intro n k hk hk2 hn
    obtain ⟨n, rfl⟩ : ∃ n', n = n' + 1 := ⟨n - 1, by omega⟩
    have zl : nI F.length ≤ nI k := by rw [nI_leI (by omega) (by omega)]; omega
    simp only [Lb_X8_refresh_206_v2, S_Lb_X8_refresh_206, h.2.2.1, if_pos zl, srun]
    exact ⟨rfl, fun h => absurd zl h⟩
  | succ m ih =>
    intro n k hk hk2 hn
    obtain ⟨n, rfl⟩ : ∃ n', n = n' + 1 := ⟨n - 1, by omega⟩
    by_cases hlt : k < F.length
    · have zl : ¬ nI F.length ≤ nI k := by rw [nI_leI (by omega) (by omega)]; omega
      obtain ⟨r1, r5⟩ := MF_rp h hlt
      have hin : vp_in (nI k) 17 := nI_in (by omega) (by omega)
      simp only [Lb_X8_refresh_206_v2, S_Lb_X8_refresh_206, h.2.2.1, if_neg zl, nI_clamp (show k < 2 ^ 31 by omega), r1, nI01 r5, nI_1, srun]
      by_cases hr : rp F k = 0
      · rw [if_pos hr, if_neg (fun h => h.2 hr)]
        exact ⟨rfl, fun _ => ⟨hin, fun h => absurd hr h⟩⟩
      · rw [if_neg hr, if_pos ⟨hlt, hr⟩]
        obtain ⟨i1, i2⟩ := ih n (k + 1) (by omega) (by omega) (by omega)
        rw [i1, show k + 1 + srun F m (k + 1) = k + (srun F m (k + 1) + 1) by omega]
        exact ⟨rfl, fun _ => ⟨hin, fun _ => i2⟩⟩
    · have zl : nI F.length ≤ nI k := by rw [nI_leI (by omega) (by omega)]; omega
      simp only [Lb_X8_refresh_206_v2, S_Lb_X8_refresh_206, h.2.2.1, if_pos zl, srun, if_neg (show ¬ (k < F.length ∧ rp F k ≠ 0) from fun h => hlt h.1)]
      exact ⟨rfl, fun h => absurd zl h⟩
/-- what is placed: nothing of item k and behind, every caption ahead of it -/
def plc (F : List aItem) (k : Nat) (s : Ly) : Prop := (∀ v : Nat, k ≤ v / 4 → s.2.2.1 v = -1) ∧ ∀ j : Nat, j < k → kd F j = 2 → s.2.2.1 (4 * j) ≠ -1
theorem mjump (h4 : 4 ≤ ht) (h20 : ht ≤ 20) : ∀ (m f k : Nat) (s : Ly) (I : Nat → Int32) (A : Nat → Nat → Int32) (J : Nat → Nat → Int64), F.length ≤ k + m → k ≤ F.length → m < f → RS F R oc I A J → inv ht (4 * k) s → plc F k s → LM ht s I A → S_Lb_X8_refresh_146 f ht I A J it dyn (nI k) ∧ LM ht (ajump ht F R (hgt F oc) m k s) (Lb_X8_refresh_146_I f ht I A J it dyn (nI k)) (Lb_X8_refresh_146_A f ht I A J it dyn (nI k)) ∧ fM I A J (Lb_X8_refresh_146_I f ht I A J it dyn (nI k)) (Lb_X8_refresh_146_A f ht I A J it dyn (nI k)) (Lb_X8_refresh_146_J f ht I A J it dyn (nI k)) := by
  intro m
  induction m with
  | zero =>
    intro f k s I A J hm hk hf h hi hp hL
    have hl := h.1.1.1
    obtain ⟨f, rfl⟩ : ∃ n', f = n' + 1 := ⟨f - 1, by omega⟩
    have zl : nI F.length ≤ nI k := by rw [nI_leI (by omega) (by omega)]; omega
    simp only [S_Lb_X8_refresh_146, Lb_X8_refresh_146_I, Lb_X8_refresh_146_A, Lb_X8_refresh_146_J, h.1.2.2.1, if_pos zl, ajump]
    exact ⟨fun h => absurd zl h, hL, fM.rf⟩
  | succ m ih =>
    intro f k s I A J hm hk hf h hi hp hL
    have hl := h.1.1.1
    have hR := h.1.2.2.2.2
    have hg := hgt_3 h.1.1 oc
    obtain ⟨f, rfl⟩ : ∃ n', f = n' + 1 := ⟨f - 1, by omega⟩
    unfold ajump
    by_cases hlt : k < F.length
    · rw [if_neg (by omega)]
      have zl : ¬ nI F.length ≤ nI k := by rw [nI_leI (by omega) (by omega)]; omega
      obtain ⟨r1, r5⟩ := MF_rp h.1 hlt
      have hin : vp_in (nI k) 17 := nI_in (by omega) (by omega)
      by_cases hr : rp F k = 0
      · rw [if_pos hr]
        have z1 : nI (rp F k) = 0 := by rw [nI01 r5]; exact hr
        have hrw : 0 < rw1 F R k := by unfold rw1; rw [if_pos hlt, if_pos hr]; decide
        obtain ⟨q1, q2, q3, q4, q5⟩ := lines_M (ht := ht) (it := it) (dyn := dyn) h hlt (r := 0) hrw
        have q1 : S_X8_linesOf ht I A J it dyn (nI k) 0 := q1
        have q2 : L_X8_linesOf_r ht I A J it dyn (nI k) 0 = nI (hgt F oc (4 * k)) := q2
        have q3 : fM I A J I (L_X8_linesOf_A ht I A J it dyn (nI k) 0) (L_X8_linesOf_J ht I A J it dyn (nI k) 0) := q3
        have q4 : (L_X8_linesOf_A ht I A J it dyn (nI k) 0) 38 = A 38 := q4
        have q5 : (L_X8_linesOf_A ht I A J it dyn (nI k) 0) 39 = A 39 := q5
        simp only [S_Lb_X8_refresh_146, Lb_X8_refresh_146_I, Lb_X8_refresh_146_A, Lb_X8_refresh_146_J, h.1.2.2.1, if_neg zl, nI_clamp (show k < 2 ^ 31 by omega), r1, if_pos z1, q2, nI_1]
        generalize L_X8_linesOf_A ht I A J it dyn (nI k) 0 = A0 at *
        generalize L_X8_linesOf_J ht I A J it dyn (nI k) 0 = J0 at *
        have h1 := h.fm q3
        obtain ⟨w1, w2, w3, w4, w5⟩ := lines_M (ht := ht) (it := it) (dyn := dyn) h1 hlt (r := 0) hrw
        have w1 : S_X8_linesOf ht I A0 J0 it dyn (nI k) 0 := w1
        have w2 : L_X8_linesOf_r ht I A0 J0 it dyn (nI k) 0 = nI (hgt F oc (4 * k)) := w2
        have w3 : fM I A0 J0 I (L_X8_linesOf_A ht I A0 J0 it dyn (nI k) 0) (L_X8_linesOf_J ht I A0 J0 it dyn (nI k) 0) := w3
        have w4 : (L_X8_linesOf_A ht I A0 J0 it dyn (nI k) 0) 38 = A0 38 := w4
        have w5 : (L_X8_linesOf_A ht I A0 J0 it dyn (nI k) 0) 39 = A0 39 := w5
        simp only [w2]
        have hgk := hg (4 * k)
        have zn : (nI (hgt F oc (4 * k)) ≤ 0) ↔ hgt F oc (4 * k) = 0 := by rw [iL 0, nI_leI (by omega) (by omega)]; omega
        simp only [zn]
        -- after the turn
        have key : ∃ (I1 : Nat → Int32) (A1 : Nat → Nat → Int32) (J1 : Nat → Nat → Int64), (if hgt F oc (4 * k) = 0 then I else L_X8_turn_I ht I (L_X8_linesOf_A ht I A0 J0 it dyn (nI k) 0) (L_X8_linesOf_J ht I A0 J0 it dyn (nI k) 0) it dyn (nI (hgt F oc (4 * k)))) = I1 ∧ (if hgt F oc (4 * k) = 0 then A0 else L_X8_linesOf_A ht I A0 J0 it dyn (nI k) 0) = A1 ∧ (if hgt F oc (4 * k) = 0 then J0 else L_X8_linesOf_J ht I A0 J0 it dyn (nI k) 0) = J1 ∧ fM I A J I1 A1 J1 ∧ LM ht (aturn ht (hgt F oc (4 * k)) s) I1 A1 := by
          refine ⟨_, _, _, rfl, rfl, rfl, ?_⟩
          by_cases hn0 : hgt F oc (4 * k) = 0
          · simp only [if_pos hn0]
            have e : aturn ht (hgt F oc (4 * k)) s = s := by unfold aturn atrn; simp [hn0]
            rw [e]
            exact ⟨q3, hL.ar q4 q5⟩
          · simp only [if_neg hn0]
            obtain ⟨t1, _, _, t4⟩ := turn_M (J := L_X8_linesOf_J ht I A0 J0 it dyn (nI k) 0) (it := it) (dyn := dyn) h4 h20 hi.1 ((hL.ar q4 q5).ar w4 w5) (n := hgt F oc (4 * k)) (by omega) (hi.s62 (by omega))
            exact ⟨(q3.tr w3).tr ⟨fun q a b _ => t4 q a b, fun _ _ _ _ => rfl, fun _ _ => rfl⟩, t1⟩
        obtain ⟨I1, A1, J1, e1, e2, e3, f1, L1⟩ := key
        rw [e1, e2, e3]
        obtain ⟨p1, p2, p3⟩ := lay_M (J := J1) (it := it) (dyn := dyn) (k := k) (r := 0) (b := 0) h4 h20 (h.fm f1) hlt hrw (hi.1.turn _) L1 (turn_fit hi.1 (show hgt F oc (4 * k) ≤ ht by omega)) (Or.inl ⟨rfl, by rw [aturn_pc]; exact hp.1 _ (by omega)⟩)
        have p1 : S_X8_lay ht I1 A1 J1 it dyn (nI k) 0 0 := p1
        have hi2 : inv ht (4 * (k + 1)) (alone ht (hgt F oc) k 0 s) := (hi.al (k := k) (r := 0) (n := hgt F oc (4 * k + 0)) (by omega) (by have := hg (4 * k + 0); omega)).mn (by omega)
        have hp2 : plc F (k + 1) (alone ht (hgt F oc) k 0 s) := by
          unfold alone
          refine ⟨fun v hv => by rw [aput_pc (by omega), aturn_pc]; exact hp.1 v (by omega), fun j hj hkd => ?_⟩
          by_cases e : j = k
          · subst e
            obtain ⟨x, hx⟩ := F_some hlt
            obtain ⟨c1, c2, c3, c4, _⟩ := acc hx
            have w := (h.1.1.2 _ x hx).2.2.2.1 (by rw [← c1]; exact hkd)
            have hpos : 0 < hgt F oc (4 * j + 0) := by
              unfold hgt
              rw [show (4 * j + 0) / 4 = j by omega, hkd, if_neg (by decide), if_pos rfl, c4]
              omega
            show (if 4 * j = 4 * j + 0 ∧ 0 < hgt F oc (4 * j + 0) ∧ (aturn ht (hgt F oc (4 * j + 0)) s).2.2.1 (4 * j) = -1 then nI (32 * (aturn ht (hgt F oc (4 * j + 0)) s).1 + (aturn ht (hgt F oc (4 * j + 0)) s).2.1 (aturn ht (hgt F oc (4 * j + 0)) s).1) else _) ≠ -1
            rw [if_pos ⟨rfl, hpos, by rw [aturn_pc]; exact hp.1 _ (by omega)⟩]
            have hb2 := (hi.1.turn (hgt F oc (4 * j + 0))).1 (aturn ht (hgt F oc (4 * j + 0)) s).1
            have hp64 := L1.2.1
            exact nI_ne1 (by have : (aturn ht (hgt F oc (4 * j + 0)) s).1 < 64 := hp64; omega)
          · rw [aput_pc (by omega), aturn_pc]
            exact hp.2 j (by omega) hkd
        obtain ⟨i1, i2, i3⟩ := ih f (k + 1) (alone ht (hgt F oc) k 0 s) _ _ _ (by omega) (by omega) (by omega) ((h.fm f1).fm p3) hi2 hp2 p2
        exact ⟨fun _ => ⟨hin, fun _ => ⟨q1, fun _ => w1, p1, i1⟩, fun h => absurd z1 h⟩, i2, (f1.tr p3).tr i3⟩
      · rw [if_neg hr]
        have z1 : ¬ nI (rp F k) = 0 := by rw [nI01 r5]; exact hr
        obtain ⟨s1, s2, s3, s4⟩ := srun_p F 20 k (by omega)
        have hn := s3 hlt hr
        have hle := s4 hk
        obtain ⟨t1, t2⟩ := mrun (ht := ht) (it := it) (dyn := dyn) h.1 (v1 := nI k) 20 70 k (by omega) hk (by omega)
        generalize srun F 20 k = n at *
        have hrow : ∀ j : Nat, k ≤ j → j < k + n → rw1 F R j = R := fun j a b => by
          unfold rw1
          rw [if_pos (s1 j a b).1, if_neg (s1 j a b).2]
        have hnR : n * R ≤ n * 4 := Nat.mul_le_mul_left n hR
        have hhd : ∃ hd : Int32, (if nI k ≤ 0 then -1 else if A 16 (nI k - 1).toNatClampNeg = 2 then nI k - 1 else -1) = hd ∧ (0 < k ∧ kd F (k - 1) = 2 → hd = nI (k - 1)) ∧ (¬ (0 < k ∧ kd F (k - 1) = 2) → hd = -1) ∧ (¬ nI k ≤ 0 → vp_in (nI k - 1) 17) := by
          refine ⟨_, rfl, ?_⟩
          have zk : (nI k ≤ 0) ↔ k = 0 := by rw [iL 0, nI_leI (by omega) (by omega)]; omega
          simp only [zk]
          by_cases hk0 : k = 0
          · rw [if_pos hk0]
            exact ⟨fun h => by omega, fun _ => rfl, fun h => absurd hk0 h⟩
          · rw [if_neg hk0]
            have ek : nI k - 1 = nI (k - 1) := by rw [iL 1, nI_subN (by omega)]
            rw [ek, nI_clamp (by omega)]
            obtain ⟨x, hx⟩ := F_some (F := F) (k := k - 1) (by omega)
            obtain ⟨c1, c2, _⟩ := acc hx
            have w := h.1.1.2 _ x hx
            have M := h.1.2.1 _ x hx
            have z2 : (nI x.1 = 2) ↔ x.1 = 2 := by have := w.1; rw [iL 2, nI_eq (by omega) (by omega)]
            rw [M.1, c1]
            simp only [z2]
            refine ⟨fun h => by rw [if_pos h.2], fun h => ?_, fun _ => nI_in (by omega) (by omega)⟩
            rw [if_neg (fun h2 => h ⟨by omega, h2⟩)]
        obtain ⟨hd, ehd, hd1, hd2, hd3⟩ := hhd
        obtain ⟨p1, p2, p3⟩ := mrows (it := it) (dyn := dyn) h4 h20 ⟨hd1, hd2⟩ hn hle hrow R 70 0 (4 * k) s I A J (by omega) (by omega) h hi (by omega) (fun j r' a b p q => hp.1 _ (by omega)) (fun a b => hp.2 (k - 1) (by omega) b) hL
        have p1 : S_Lb_X8_refresh_256 70 ht I A J it dyn (nI k) (nI (k + n)) hd 0 := p1
        have hi2 : inv ht (4 * (k + n)) (asect ht F (hgt F oc) k n R 0 s) := (inv.sc (F := F) (k := k) (fun v => by have := hg v; omega) hn R 0 (4 * k) s hi (by omega)).mn (by omega)
        have hcap : capOK F k s := fun a b => hp.2 (k - 1) (by omega) b
        have hp2 : plc F (k + n) (asect ht F (hgt F oc) k n R 0 s) := by
          refine ⟨fun v hv => by rw [asect_pc R 0 s hcap (by omega) v (by omega)]; exact hp.1 v (by omega), fun j hj hkd => ?_⟩
          by_cases e : j < k
          · rw [asect_pc R 0 s hcap (by omega) (4 * j) (by omega)]
            exact hp.2 j e hkd
          · exfalso
            obtain ⟨x, hx⟩ := F_some (s1 j (by omega) hj).1
            obtain ⟨c1, c2, _⟩ := acc hx
            have w := (h.1.1.2 _ x hx).2.2.2.1 (by rw [← c1]; exact hkd)
            exact (s1 j (by omega) hj).2 (by rw [c2]; exact w.1)
        obtain ⟨i1, i2, i3⟩ := ih f (k + n) (asect ht F (hgt F oc) k n R 0 s) _ _ _ (by omega) hle (by omega) (h.fm p3) hi2 hp2 p2
        simp only [S_Lb_X8_refresh_146, Lb_X8_refresh_146_I, Lb_X8_refresh_146_A, Lb_X8_refresh_146_J, h.1.2.2.1, if_neg zl, nI_clamp (show k < 2 ^ 31 by omega), r1, if_neg z1, t1]
        rw [ehd]
        exact ⟨fun _ => ⟨hin, fun h => absurd h z1, fun _ => ⟨t2, hd3, p1, i1⟩⟩, i2, p3.tr i3⟩
    · rw [if_pos (by omega)]
      have zl : nI F.length ≤ nI k := by rw [nI_leI (by omega) (by omega)]; omega
      simp only [S_Lb_X8_refresh_146, Lb_X8_refresh_146_I, Lb_X8_refresh_146_A, Lb_X8_refresh_146_J, h.1.2.2.1, if_pos zl]
      exact ⟨fun h => absurd zl h, hL, fM.rf⟩
end MB
