/-! EXPRESSIONS: the reference -/
def pxOK (ht : Nat) (it : Nat → Option Nat) (dyn : fsH) (k : Nat) (t : List Nat) (d : Nat) (ps : List aPart) (I : Nat → Int32) (A : Nat → Nat → Int32) (J : Nat → Nat → Int64) (Q : Int32 → (Nat → Int32) → (Nat → Nat → Int32) → (Nat → Nat → Int64) → Prop) (e : pxT) : Prop :=
  (e.1 = none → ∀ (I' : Nat → Int32) (A' : Nat → Nat → Int32) (J' : Nat → Nat → Int64), I' 14 = nI e.2.1 → mfr k d I A J I' A' J' → Q 0 I' A' J') ∧
  (∀ j : Nat, e.1 = some j → ∀ (n' m' v' : Nat) (I' : Nat → Int32) (A' : Nat → Nat → Int32) (J' : Nat → Nat → Int64), mst k t e.2.1 d (ps ++ e.2.2) I' A' J' → mfr k d I A J I' A' J' → 62 ≤ n' + e.2.1 → 64 + d ≤ m' → v' < e.2.1 → 2 * (ps.length + e.2.2.length) + d ≤ e.2.1 → gC ht it dyn n' m' (nI v') (nI j) I' A' J' Q)
theorem pnum_gt {t : List Nat} {p : Nat} (hD : 48 ≤ ch t p ∧ ch t p ≤ 57) : p < (pnum t p).2 := by
  have hp : p < t.length := ch_in (by omega)
  have e : pdg t 6 p 0 = pdg t 5 (p + 1) (10 * 0 + (ch t p - 48)) := by rw [pdg, if_pos hD]
  have b := (pdg_b t 5 (p + 1) (10 * 0 + (ch t p - 48)) (by omega)).1
  rw [← e] at b
  unfold pnum
  generalize (pdg t 6 p 0).2 = p1 at *
  split
  · split
    · split <;> simp only <;> omega
    · simp only; omega
  · simp only; omega
theorem pnm_gt (t : List Nat) (p : Nat) : p < (pnm t p).2 := by
  unfold pnm
  split <;> simp only <;> omega
theorem v200 {v : Nat} (h : v ≤ 60) : ¬ (200 : Int32) ≤ nI v := by
  rw [iL 200, nI_leI (by omega) (by omega)]; omega
section PM
variable {ht : Nat} {it : Nat → Option Nat} {dyn : fsH} {t : List Nat} {k : Nat}
theorem px_M : ∀ (N d p : Nat) (ps : List aPart) (I : Nat → Int32) (A : Nat → Nat → Int32) (J : Nat → Nat → Int64) (n v : Nat) (Q : Int32 → (Nat → Int32) → (Nat → Nat → Int32) → (Nat → Nat → Int64) → Prop),
    mst k t p d ps I A J → 7 ≤ N + d → 62 ≤ n + p → v ≤ p → 2 * ps.length + 1 + d ≤ p → pxOK ht it dyn k t d ps I A J Q (px t N d p ps.length) → gO ht it dyn n (nI v) I A J Q := by
  intro N
  induction N with
  | zero =>
    intro d p ps I A J n v Q h h1
    have := h.2.2.2.2.2.2.1
    omega
  | succ N ih =>
    intro d p ps I A J n v Q h h1 h2 h3 h4 hok
    have hl := h.1.2.1
    have hpl := h.2.2.2.2.1
    have hd6 := h.2.2.2.2.2.2.1
    obtain ⟨n, rfl⟩ : ∃ n', n = n' + 1 := ⟨n - 1, by omega⟩
    have hv := v200 (v := v) (by omega)
    have hn : ps.length ≤ 31 := by omega
    rw [px] at hok
    by_cases hD : 48 ≤ ch t p ∧ ch t p ≤ 57
    · rw [if_pos hD] at hok
      obtain ⟨S, b1, b2, b3, b4⟩ := beg_num (ht := ht) (it := it) (dyn := dyn) h hn hD
      have hg := pnum_gt hD
      cases hp : (pnum t p).1 with
      | none =>
        refine gO_step hv S (fun _ => hok.1 (by simp [hp]) _ _ _ b3 (b4.dn (by omega))) (fun hb => absurd (b2 hp) hb)
      | some w =>
        obtain ⟨r1, r2⟩ := b1 w hp
        refine gO_step hv S (fun hb => absurd (r1.symm.trans hb) (neg2 _ (by omega))) (fun _ => ?_)
        rw [r1]
        refine hok.2 _ (by simp [hp]) n 70 v _ _ _ ?_ (b4.dn (by omega)) (by simp only; omega) (by omega) (by simp only; omega) ?_
        · simpa [hp, numL] using r2
        · simp [hp, numL]; omega
    · rw [if_neg hD] at hok
      by_cases hL : 97 ≤ ch t p ∧ ch t p ≤ 122
      · rw [if_pos hL] at hok
        obtain ⟨S, r1, r2, b4⟩ := beg_name (ht := ht) (it := it) (dyn := dyn) h hn hL
        have hg := pnm_gt t p
        refine gO_step hv S (fun hb => absurd (r1.symm.trans hb) (neg2 _ (by omega))) (fun _ => ?_)
        rw [r1]
        refine hok.2 _ rfl n 70 v _ _ _ r2 (b4.dn (by omega)) (by simp only; omega) (by omega) (by simp only; omega) ?_
        simp; omega
      · rw [if_neg hL] at hok
        by_cases h35 : ch t p = 35
        · rw [if_pos h35] at hok
          by_cases hL1 : 97 ≤ ch t (p + 1) ∧ ch t (p + 1) ≤ 122
          · rw [if_pos hL1] at hok
            obtain ⟨S, r1, r2, b4⟩ := beg_sum (ht := ht) (it := it) (dyn := dyn) h hn h35 hL1
            have hg := pnm_gt t (p + 1)
            refine gO_step hv S (fun hb => absurd (r1.symm.trans hb) (neg2 _ (by omega))) (fun _ => ?_)
            rw [r1]
            refine hok.2 _ rfl n 70 v _ _ _ r2 (b4.dn (by omega)) (by simp only; omega) (by omega) (by simp only; omega) ?_
            simp; omega
          · rw [if_neg hL1] at hok
            obtain ⟨S, r1, r2, b4⟩ := beg_sum0 (ht := ht) (it := it) (dyn := dyn) h h35 hL1
            exact gO_step hv S (fun _ => hok.1 rfl _ _ _ r2 (b4.dn (by omega))) (fun hb => absurd r1 hb)
        · rw [if_neg h35] at hok
          by_cases hbr : d < 6 ∧ ch t p = 40
          · rw [if_neg (by omega), if_pos hbr.2] at hok
            obtain ⟨S, r1, M0, z0, F0⟩ := beg_open (ht := ht) (it := it) (dyn := dyn) h hbr.2 hbr.1
            refine gO_step hv S (fun hb => absurd (r1.symm.trans hb) (by decide)) (fun _ => ?_)
            rw [r1]
            refine gC_next (m := 69) (by decide) ?_
            rw [nI_1]
            generalize L_X8_begin_I ht I A J it dyn = I0 at *
            generalize L_X8_begin_A ht I A J it dyn = A0 at *
            generalize L_X8_begin_J ht I A J it dyn = J0 at *
            refine ih (d + 1) (p + 1) ps I0 A0 J0 n (v + 1) Q M0 (by omega) (by omega) (by omega) (by omega) ?_
            unfold pbr at hok
            have rt1 := fun j => px_root t N (d + 1) (p + 1) ps.length (j := j)
            rcases hE1 : px t N (d + 1) (p + 1) ps.length with ⟨o1, p1, l1⟩
            rw [hE1] at hok rt1
            refine ⟨fun ho I' A' J' e14 hf => ?_, fun a ho n1 m1 v1 I1 A1 J1 M1 F1 c1 c2 c3 c4 => ?_⟩
            · cases o1 with
              | some a => cases ho
              | none => exact hok.1 rfl I' A' J' e14 (mfr.tr (by omega) F0 hf)
            · cases ho
              have rt1 := rt1 a rfl
              simp only at hok rt1 M1 c1 c2 c3 c4
              have hl1 := M1.2.2.2.2.1
              obtain ⟨m1, rfl⟩ : ∃ m, m1 = m + 1 + 1 := ⟨m1 - 2, by omega⟩
              have F1' := mfr.tr (Nat.le_succ d) F0 F1
              have z1 : A1 26 d = nI 0 := by rw [F1.2.2.2.2.1 26 (by decide) (by decide) d (by omega), z0]; rfl
              have ho1 : ¬ I1 15 ≤ 0 := by rw [M1.2.2.2.2.2.1, iL 0, nI_leI (by omega) (by omega)]; omega
              obtain ⟨S1, g1, g2, G1⟩ := go_1 (ht := ht) (it := it) (dyn := dyn) M1 z1 (nI a)
              have K1 := mfr.tr (Nat.le_refl d) F1' G1
              by_cases hs : ch t p1 = 43 ∨ ch t p1 = 45 ∨ ch t p1 = 42 ∨ ch t p1 = 47 ∨ ch t p1 = 60 ∨ ch t p1 = 61 ∨ ch t p1 = 63
              · obtain ⟨r2, M2, y26, y27, y28⟩ := g1 hs
                simp only [if_pos hs] at hok
                refine gC_go (neg0 a (by omega)) ho1 S1 (fun hb => absurd (r2.symm.trans hb) (by decide)) (fun _ => ?_)
                rw [r2]
                refine gC_next (by decide) ?_
                rw [nI_1]
                generalize L_X8_goOn_I ht I1 A1 J1 it dyn (nI a) = I2 at *
                generalize L_X8_goOn_A ht I1 A1 J1 it dyn (nI a) = A2 at *
                generalize L_X8_goOn_J ht I1 A1 J1 it dyn (nI a) = J2 at *
                refine ih (d + 1) (p1 + 1) (ps ++ l1) I2 A2 J2 n1 (v1 + 1) Q M2 (by omega) (by omega) (by omega) (by simp; omega) ?_
                rw [List.length_append]
                have rt2 := fun j => px_root t N (d + 1) (p1 + 1) (ps.length + l1.length) (j := j)
                rcases hE2 : px t N (d + 1) (p1 + 1) (ps.length + l1.length) with ⟨o2, p2, l2⟩
                rw [hE2] at hok rt2
                refine ⟨fun ho I' A' J' e14 hf => ?_, fun b ho n2 m2 v2 I3 A3 J3 M3 F3 c1 c2 c3 c4 => ?_⟩
                · cases o2 with
                  | some a => cases ho
                  | none => exact hok.1 rfl I' A' J' e14 (mfr.tr (by omega) K1 hf)
                · cases ho
                  have rt2 := rt2 b rfl
                  simp only [List.length_append] at hok rt2 M3 c1 c2 c3 c4
                  have hl2 := M3.2.2.2.2.1
                  obtain ⟨m2, rfl⟩ : ∃ m, m2 = m + 1 + 1 := ⟨m2 - 2, by omega⟩
                  have F3' := mfr.tr (Nat.le_succ d) K1 F3
                  have w26 : A3 26 d = nI 1 := by rw [F3.2.2.2.2.1 26 (by decide) (by decide) d (by omega), y26]
                  have w27 : A3 27 d = nI (ch t p1) := by rw [F3.2.2.2.2.1 27 (by decide) (by decide) d (by omega), y27]
                  have w28 : A3 28 d = nI a := by rw [F3.2.2.2.2.1 28 (by decide) (by decide) d (by omega), y28]
                  have ho3 : ¬ I3 15 ≤ 0 := by rw [M3.2.2.2.2.2.1, iL 0, nI_leI (by omega) (by omega)]; omega
                  have hn3 : (ps ++ l1 ++ l2).length ≤ 31 := by simp only [List.length_append]; omega
                  by_cases h63 : ch t p1 = 63
                  · simp only [if_pos h63] at hok
                    rw [h63] at w27
                    obtain ⟨S3, g1, g2, G3⟩ := go_2 (ht := ht) (it := it) (dyn := dyn) M3 w26 w27 (nI b)
                    have K3 := mfr.tr (Nat.le_refl d) F3' G3
                    by_cases h58 : ch t p2 = 58
                    · simp only [if_pos h58] at hok
                      obtain ⟨r4, M4, y26, y27, y28, y29⟩ := g1 h58
                      rw [w28] at y28
                      refine gC_go (neg0 b (by omega)) ho3 S3 (fun hb => absurd (r4.symm.trans hb) (by decide)) (fun _ => ?_)
                      rw [r4]
                      refine gC_next (by decide) ?_
                      rw [nI_1]
                      generalize L_X8_goOn_I ht I3 A3 J3 it dyn (nI b) = I4 at *
                      generalize L_X8_goOn_A ht I3 A3 J3 it dyn (nI b) = A4 at *
                      generalize L_X8_goOn_J ht I3 A3 J3 it dyn (nI b) = J4 at *
                      refine ih (d + 1) (p2 + 1) (ps ++ l1 ++ l2) I4 A4 J4 n2 (v2 + 1) Q M4 (by omega) (by omega) (by omega) (by simp; omega) ?_
                      rw [List.length_append, List.length_append]
                      have rt3 := fun j => px_root t N (d + 1) (p2 + 1) (ps.length + l1.length + l2.length) (j := j)
                      rcases hE3 : px t N (d + 1) (p2 + 1) (ps.length + l1.length + l2.length) with ⟨o3, p3, l3⟩
                      rw [hE3] at hok rt3
                      refine ⟨fun ho I' A' J' e14 hf => ?_, fun c ho n3 m3 v3 I5 A5 J5 M5 F5 c1 c2 c3 c4 => ?_⟩
                      · cases o3 with
                        | some a => cases ho
                        | none => exact hok.1 rfl I' A' J' e14 (mfr.tr (by omega) K3 hf)
                      · cases ho
                        have rt3 := rt3 c rfl
                        simp only [List.length_append] at hok rt3 M5 c1 c2 c3 c4
                        have hl3 := M5.2.2.2.2.1
                        obtain ⟨m3, rfl⟩ : ∃ m, m3 = m + 1 := ⟨m3 - 1, by omega⟩
                        have F5' := mfr.tr (Nat.le_succ d) K3 F5
                        have w26 : A5 26 d = nI 2 := by rw [F5.2.2.2.2.1 26 (by decide) (by decide) d (by omega), y26]
                        have w27 : A5 27 d = nI 63 := by rw [F5.2.2.2.2.1 27 (by decide) (by decide) d (by omega), y27]
                        have w28 : A5 28 d = nI a := by rw [F5.2.2.2.2.1 28 (by decide) (by decide) d (by omega), y28]
                        have w29 : A5 29 d = nI b := by rw [F5.2.2.2.2.1 29 (by decide) (by decide) d (by omega), y29]
                        have ho5 : ¬ I5 15 ≤ 0 := by rw [M5.2.2.2.2.2.1, iL 0, nI_leI (by omega) (by omega)]; omega
                        obtain ⟨S5, g1, g2, G5⟩ := go_4 (ht := ht) (it := it) (dyn := dyn) M5 (by simp only [List.length_append]; omega) w26 w27 w28 w29 c
                        have K5 := mfr.tr (Nat.le_refl d) F5' G5
                        by_cases h41 : ch t p3 = 41
                        · simp only [if_pos h41] at hok
                          obtain ⟨r6, M6⟩ := g1 h41
                          refine gC_go (neg0 c (by omega)) ho5 S5 (fun hb => absurd (r6.symm.trans hb) (neg2 _ (by simp only [List.length_append]; omega))) (fun _ => ?_)
                          rw [r6]
                          have := hok.2 _ rfl n3 m3 v3 _ _ _ (by simpa using M6) K5 (by simp only; omega) (by omega) (by simp only; omega) (by simp; omega)
                          simpa [Nat.add_assoc] using this
                        · simp only [if_neg h41] at hok
                          obtain ⟨r6, M6⟩ := g2 h41
                          exact gC_go (neg0 c (by omega)) ho5 S5 (fun _ => hok.1 rfl _ _ _ M6 K5) (fun hb => absurd r6 hb)
                    · simp only [if_neg h58] at hok
                      obtain ⟨r4, M4⟩ := g2 h58
                      exact gC_go (neg0 b (by omega)) ho3 S3 (fun _ => hok.1 rfl _ _ _ M4 K3) (fun hb => absurd r4 hb)
                  · simp only [if_neg h63] at hok
                    obtain ⟨S3, g1, g2, G3⟩ := go_3 (ht := ht) (it := it) (dyn := dyn) M3 hn3 w26 w27 (ch_lt h.1.2.2.2) h63 w28 b
                    have K3 := mfr.tr (Nat.le_refl d) F3' G3
                    by_cases h41 : ch t p2 = 41
                    · simp only [if_pos h41] at hok
                      obtain ⟨r4, M4⟩ := g1 h41
                      refine gC_go (neg0 b (by omega)) ho3 S3 (fun hb => absurd (r4.symm.trans hb) (neg2 _ (by omega))) (fun _ => ?_)
                      rw [r4]
                      have := hok.2 _ rfl n2 (m2 + 1) v2 _ _ _ (by simpa using M4) K3 (by simp only; omega) (by omega) (by simp only; omega) (by simp; omega)
                      simpa [Nat.add_assoc] using this
                    · simp only [if_neg h41] at hok
                      obtain ⟨r4, M4⟩ := g2 h41
                      exact gC_go (neg0 b (by omega)) ho3 S3 (fun _ => hok.1 rfl _ _ _ M4 K3) (fun hb => absurd r4 hb)
              · simp only [if_neg hs] at hok
                obtain ⟨r2, M2⟩ := g2 hs
                exact gC_go (neg0 a (by omega)) ho1 S1 (fun _ => hok.1 rfl _ _ _ M2 K1) (fun hb => absurd r2 hb)
          · have e : (if 6 ≤ d then ((none, p, []) : pxT) else if ch t p = 40 then pbr (px t N (d + 1)) t (p + 1) ps.length else (none, p, [])) = (none, p, []) := by
              by_cases h6 : 6 ≤ d
              · rw [if_pos h6]
              · rw [if_neg h6, if_neg (by omega)]
            rw [e] at hok
            obtain ⟨S, r1, r2, b4⟩ := beg_no (ht := ht) (it := it) (dyn := dyn) h hD hL h35 hbr
            exact gO_step hv S (fun _ => hok.1 rfl _ _ _ r2 (b4.dn (by omega))) (fun hb => absurd r1 hb)
/-- the reference's expression() -/
theorem ex_M {I : Nat → Int32} {A : Nat → Nat → Int32} {J : Nat → Nat → Int64} {p : Nat} (hT : txR 9 15 I A t) (hk : I 13 = nI k) (hk16 : k ≤ 16) (h14 : I 14 = nI p) (hpl : p ≤ t.length) (hp : 1 ≤ p) (h20 : A 20 k = nI 0) : S_X8_expression ht I A J it dyn ∧
    (L_X8_expression_I ht I A J it dyn) 14 = nI (px t 8 0 p 0).2.1 ∧ mfr k 0 I A J (L_X8_expression_I ht I A J it dyn) (L_X8_expression_A ht I A J it dyn) (L_X8_expression_J ht I A J it dyn) ∧
    ((px t 8 0 p 0).1 = none → L_X8_expression_r ht I A J it dyn = 0) ∧
    (∀ j : Nat, (px t 8 0 p 0).1 = some j → L_X8_expression_r ht I A J it dyn = (if (px t 8 0 p 0).2.1 = t.length then 1 else 0) ∧ ptAt k (L_X8_expression_A ht I A J it dyn) (L_X8_expression_J ht I A J it dyn) (px t 8 0 p 0).2.2 ∧ (L_X8_expression_A ht I A J it dyn) 20 k = nI (px t 8 0 p 0).2.2.length) := by
  have h0 : mst k t p 0 [] (upd I 15 (nI 0)) A J := ⟨hT.get (upd_n _ _ (by decide)) rfl, by rw [upd_n _ _ (by decide)]; exact hk, hk16, by rw [upd_n _ _ (by decide)]; exact h14, hpl, upd_s _ _ _, by omega, h20, fun j q hj => by simp at hj⟩
  have hl := hT.2.1
  have hf0 : mfr k 0 I A J (upd I 15 (nI 0)) A J := ⟨fun q _ b => upd_n _ _ b, mfr.rf (I := I).2⟩
  refine px_M (ht := ht) (it := it) (dyn := dyn) (k := k) (t := t) 8 0 p [] (upd I 15 (nI 0)) A J 70 0 (fun r I' A' J' => I' 14 = nI (px t 8 0 p 0).2.1 ∧ mfr k 0 I A J I' A' J' ∧ ((px t 8 0 p 0).1 = none → r = 0) ∧
    (∀ j : Nat, (px t 8 0 p 0).1 = some j → r = (if (px t 8 0 p 0).2.1 = t.length then 1 else 0) ∧ ptAt k A' J' (px t 8 0 p 0).2.2 ∧ A' 20 k = nI (px t 8 0 p 0).2.2.length)) h0 (by omega) (by omega) (by omega) (by simp; omega) ⟨?_, ?_⟩
  · intro ho I' A' J' e14 hf
    exact ⟨e14, mfr.tr (Nat.le_refl 0) hf0 hf, fun _ => rfl, fun j hj => by rw [show (px t 8 0 p 0).1 = none from ho] at hj; cases hj⟩
  · intro j hj n' m' v' I' A' J' M F _ c2 _ _
    obtain ⟨m', rfl⟩ : ∃ m, m' = m + 1 := ⟨m' - 1, by omega⟩
    have rt := px_root t 8 0 p 0 hj
    simp only [List.length_nil, List.nil_append] at *
    have hle := M.2.2.2.2.1
    have hj100 : j ≤ 100 := by omega
    refine gC_end (neg0 j hj100) (by rw [M.2.2.2.2.2.1]; decide) ⟨M.2.2.2.1, mfr.tr (Nat.le_refl 0) hf0 F, fun ho => (by rw [hj] at ho; cases ho), fun j' hj' => ⟨?_, M.2.2.2.2.2.2.2.2, M.2.2.2.2.2.2.2.1⟩⟩
    rw [M.2.2.2.1, M.1.1]
    simp (disch := omega) only [nI_eq]
end PM
