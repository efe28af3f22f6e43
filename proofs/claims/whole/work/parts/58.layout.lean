/-! PAGES: all of them, the class -/
def srun (F : List aItem) : Nat → Nat → Nat
  | 0, _ => 0
  | m + 1, k => if k < F.length ∧ rp F k ≠ 0 then srun F m (k + 1) + 1 else 0
theorem srun_p (F : List aItem) : ∀ (m k : Nat), F.length ≤ k + m → (∀ j : Nat, k ≤ j → j < k + srun F m k → j < F.length ∧ rp F j ≠ 0) ∧ (F.length ≤ k + srun F m k ∨ rp F (k + srun F m k) = 0) ∧ (k < F.length → rp F k ≠ 0 → 0 < srun F m k) ∧ (k ≤ F.length → k + srun F m k ≤ F.length) := by
  intro m
  induction m with
  | zero =>
    intro k hk
    unfold srun
    exact ⟨fun j a b => by omega, Or.inl (by omega), fun h => by omega, fun h => by omega⟩
  | succ m ih =>
    intro k hk
    unfold srun
    by_cases h : k < F.length ∧ rp F k ≠ 0
    · rw [if_pos h]
      obtain ⟨a, b, c, d⟩ := ih (k + 1) (by omega)
      rw [show k + (srun F m (k + 1) + 1) = k + 1 + srun F m (k + 1) by omega]
      refine ⟨fun j p q => ?_, b, fun _ _ => by omega, fun _ => d (by omega)⟩
      by_cases e : j = k
      · subst e; exact h
      · exact a j (by omega) (by omega)
    · rw [if_neg h, Nat.add_zero]
      refine ⟨fun j p q => by omega, ?_, fun p q => absurd ⟨p, q⟩ h, fun p => p⟩
      by_cases e : k < F.length
      · exact Or.inr (Classical.byContradiction fun q => h ⟨e, q⟩)
      · exact Or.inl (by omega)
noncomputable def ajump (ht : Nat) (F : List aItem) (R : Nat) (g : Nat → Nat) : Nat → Nat → Ly → Ly
  | 0, _, s => s
  | m + 1, k, s => if F.length ≤ k then s else if rp F k = 0 then ajump ht F R g m (k + 1) (alone ht g k 0 s) else ajump ht F R g m (k + srun F 20 k) (asect ht F g k (srun F 20 k) R 0 s)
def jp (F : List aItem) (k : Nat) : Prop := F.length ≤ k ∨ rp F k = 0 ∨ k = 0 ∨ rp F (k - 1) = 0
def ly0 : Ly := (0, fun _ => 0, fun _ => -1, fun _ _ => 0)
theorem inv.sc {ht : Nat} {F : List aItem} {g : Nat → Nat} (hg : ∀ v : Nat, g v ≤ ht) {k n : Nat} (hn : 0 < n) : ∀ (m r c : Nat) (s : Ly), inv ht c s → c + n * m ≤ 64 → inv ht (c + n * m) (asect ht F g k n m r s) := by
  intro m
  induction m with
  | zero => intro r c s h _; exact h
  | succ m ih =>
    intro r c s h hc
    rw [Nat.mul_succ] at hc
    have := ih (r + 1) (c + n) (ablock ht F g k n r s) (h.bl hg (by omega) hn) (by omega)
    rw [show c + n + n * m = c + n * (m + 1) by rw [Nat.mul_succ]; omega] at this
    exact this
section LO
variable {ht : Nat} {F : List aItem} {R : Nat} {J : Nat → Nat → Int64} {it : Nat → Option Nat} {dyn : fsH} {g : Nat → Nat}
theorem run_C {I : Nat → Int32} {A : Nat → Nat → Int32} (h : CF F R I it dyn) {v1 : Int32} : ∀ (m n k : Nat), F.length ≤ k + m → k ≤ F.length → m < n → Lb_X3_putSection_2_v2 n ht I A J it dyn v1 (nI k) = nI (k + srun F m k) ∧ S_Lb_X3_putSection_2 n ht I A J it dyn v1 (nI k) := by
  have hl := h.1.1
  intro m
  induction m with
  | zero =>
    intro n k hk hk2 hn
    obtain ⟨n, rfl⟩ : ∃ n', n = n' + 1 := ⟨n - 1, by omega⟩
    have zl : nI F.length ≤ nI k := by rw [nI_leI (by omega) (by omega)]; omega
    simp only [Lb_X3_putSection_2_v2, S_Lb_X3_putSection_2, h.2.2.1, if_pos zl, srun]
    exact ⟨rfl, fun h => absurd zl h⟩
  | succ m ih =>
    intro n k hk hk2 hn
    obtain ⟨n, rfl⟩ : ∃ n', n = n' + 1 := ⟨n - 1, by omega⟩
    by_cases hlt : k < F.length
    · have zl : ¬ nI F.length ≤ nI k := by rw [nI_leI (by omega) (by omega)]; omega
      obtain ⟨r1, r2, _, _, r5, _⟩ := rep_C (ht := ht) (A := A) (J := J) h (k := k) (by omega)
      simp only [Lb_X3_putSection_2_v2, S_Lb_X3_putSection_2, h.2.2.1, if_neg zl, r1, nI01 r5, nI_1, srun]
      by_cases hr : rp F k = 0
      · rw [if_pos hr, if_neg (fun h => h.2 hr)]
        exact ⟨rfl, fun _ => ⟨r2, fun h => absurd hr h⟩⟩
      · rw [if_neg hr, if_pos ⟨hlt, hr⟩]
        obtain ⟨i1, i2⟩ := ih n (k + 1) (by omega) (by omega) (by omega)
        rw [i1, show k + 1 + srun F m (k + 1) = k + (srun F m (k + 1) + 1) by omega]
        exact ⟨rfl, fun _ => ⟨r2, fun _ => i2⟩⟩
    · have zl : nI F.length ≤ nI k := by rw [nI_leI (by omega) (by omega)]; omega
      simp only [Lb_X3_putSection_2_v2, S_Lb_X3_putSection_2, h.2.2.1, if_pos zl, srun, if_neg (show ¬ (k < F.length ∧ rp F k ≠ 0) from fun h => hlt h.1)]
      exact ⟨rfl, fun h => absurd zl h⟩
theorem rows_C (h4 : 4 ≤ ht) (h20 : ht ≤ 20) (hg : ∀ v : Nat, g v ≤ 3) {k n : Nat} (hn : 0 < n) (he : k + n ≤ F.length) (hrow : ∀ j : Nat, k ≤ j → j < k + n → rw1 F R j = R) : ∀ (m f r c : Nat) (s : Ly) (I : Nat → Int32) (A : Nat → Nat → Int32), r + m = R → m < f → CF F R I it dyn → hiC F R g A → inv ht c s → c + n * m ≤ 64 → LC ht s I A → S_Lb_X3_putSection_32 f ht I A J it dyn (nI k) (nI (k + n)) (nI r) ∧ LC ht (asect ht F g k n m r s) (Lb_X3_putSection_32_I f ht I A J it dyn (nI k) (nI (k + n)) (nI r)) (Lb_X3_putSection_32_A f ht I A J it dyn (nI k) (nI (k + n)) (nI r)) ∧ fC I A (Lb_X3_putSection_32_I f ht I A J it dyn (nI k) (nI (k + n)) (nI r)) (Lb_X3_putSection_32_A f ht I A J it dyn (nI k) (nI (k + n)) (nI r)) := by
  intro m
  induction m with
  | zero =>
    intro f r c s I A hr hf hC hh hi hc hL
    have hR := hC.2.2.2.2
    obtain ⟨f, rfl⟩ : ∃ n', f = n' + 1 := ⟨f - 1, by omega⟩
    have zl : nI R ≤ nI r := by rw [nI_leI (by omega) (by omega)]; omega
    simp only [S_Lb_X3_putSection_32, Lb_X3_putSection_32_I, Lb_X3_putSection_32_A, hC.2.2.2.1, if_pos zl, asect]
    exact ⟨fun h => absurd zl h, hL, fun _ _ => rfl, fun _ _ _ _ => rfl⟩
  | succ m ih =>
    intro f r c s I A hr hf hC hh hi hc hL
    have hR := hC.2.2.2.2
    rw [Nat.mul_succ] at hc
    obtain ⟨f, rfl⟩ : ∃ n', f = n' + 1 := ⟨f - 1, by omega⟩
    have zl : ¬ nI R ≤ nI r := by rw [nI_leI (by omega) (by omega)]; omega
    obtain ⟨b1, b2, b3⟩ := block_C (J := J) (r := r) (c := c) h4 h20 hC hh hg hn he (by omega) (fun j a b => by rw [hrow j a b]; omega) hi (by omega) hL
    obtain ⟨i1, i2, i3⟩ := ih f (r + 1) (c + n) (ablock ht F g k n r s) _ _ (by omega) (by omega) (hC.fc b3) (hh.cg b3) (hi.bl (fun v => by have := hg v; omega) (by omega) hn) (by omega) b2
    simp only [S_Lb_X3_putSection_32, Lb_X3_putSection_32_I, Lb_X3_putSection_32_A, hC.2.2.2.1, if_neg zl, asect, nI_1]
    exact ⟨fun _ => ⟨b1, i1⟩, i2, b3.tr i3⟩
theorem skip_L {I : Nat → Int32} {A : Nat → Nat → Int32} (h : CF F R I it dyn) : ∀ (d f j : Nat), (∀ i : Nat, j ≤ i → i < j + d → i < F.length ∧ 0 < i ∧ rp F i ≠ 0 ∧ rp F (i - 1) ≠ 0) → (S_Lb_X3_layOut_27 f ht I A J it dyn (nI (j + d)) → S_Lb_X3_layOut_27 (f + d) ht I A J it dyn (nI j)) ∧ Lb_X3_layOut_27_I (f + d) ht I A J it dyn (nI j) = Lb_X3_layOut_27_I f ht I A J it dyn (nI (j + d)) ∧ Lb_X3_layOut_27_A (f + d) ht I A J it dyn (nI j) = Lb_X3_layOut_27_A f ht I A J it dyn (nI (j + d)) := by
  have hl := h.1.1
  intro d
  induction d with
  | zero => intro f j _; exact ⟨fun h => h, rfl, rfl⟩
  | succ d ih =>
    intro f j hj
    obtain ⟨a1, a2, a3, a4⟩ := hj j (by omega) (by omega)
    obtain ⟨i1, i2, i3⟩ := ih f (j + 1) (fun i p q => hj i (by omega) (by omega))
    rw [show f + (d + 1) = f + d + 1 by omega, show j + (d + 1) = j + 1 + d by omega]
    have zl : ¬ nI F.length ≤ nI j := by rw [nI_leI (by omega) (by omega)]; omega
    have ej : nI j - 1 = nI (j - 1) := by rw [iL 1, nI_subN (by omega)]
    obtain ⟨r1, r2, _, _, r5, _⟩ := rep_C (ht := ht) (A := A) (J := J) h (k := j) (by omega)
    obtain ⟨q1, q2, _, _, q5, _⟩ := rep_C (ht := ht) (A := A) (J := J) h (k := j - 1) (by omega)
    have z1 : ¬ nI (rp F j) = 0 := by rw [nI01 r5]; exact a3
    have z2 : ¬ nI (rp F (j - 1)) = 0 := by rw [nI01 q5]; exact a4
    simp only [S_Lb_X3_layOut_27, Lb_X3_layOut_27_I, Lb_X3_layOut_27_A, h.2.2.1, if_neg zl, r1, ej, q1, if_neg z1, if_neg z2, nI_1]
    exact ⟨fun hh _ => ⟨r2, ⟨fun h => absurd h z1, fun _ => ⟨q2, fun h => absurd h z2⟩⟩, i1 hh⟩, i2, i3⟩
theorem jump_C (h4 : 4 ≤ ht) (h20 : ht ≤ 20) (hg : ∀ v : Nat, g v ≤ 3) : ∀ (m f k : Nat) (s : Ly) (I : Nat → Int32) (A : Nat → Nat → Int32), F.length ≤ k + m → k ≤ F.length → F.length < k + f → jp F k → CF F R I it dyn → hiC F R g A → inv ht (4 * k) s → LC ht s I A → S_Lb_X3_layOut_27 f ht I A J it dyn (nI k) ∧ LC ht (ajump ht F R g m k s) (Lb_X3_layOut_27_I f ht I A J it dyn (nI k)) (Lb_X3_layOut_27_A f ht I A J it dyn (nI k)) ∧ fC I A (Lb_X3_layOut_27_I f ht I A J it dyn (nI k)) (Lb_X3_layOut_27_A f ht I A J it dyn (nI k)) ∧ inv ht 64 (ajump ht F R g m k s) := by
  intro m
  induction m using Nat.strongRecOn with
  | _ m ih =>
    intro f k s I A hm hk hf hj hC hh hi hL
    have hl := hC.1.1
    have hR := hC.2.2.2.2
    obtain ⟨f, rfl⟩ : ∃ n', f = n' + 1 := ⟨f - 1, by omega⟩
    by_cases hlt : k < F.length
    · obtain ⟨m, rfl⟩ : ∃ n', m = n' + 1 := ⟨m - 1, by omega⟩
      have zl : ¬ nI F.length ≤ nI k := by rw [nI_leI (by omega) (by omega)]; omega
      obtain ⟨r1, r2, _, _, r5, _⟩ := rep_C (ht := ht) (A := A) (J := J) hC (k := k) (by omega)
      unfold ajump
      rw [if_neg (by omega)]
      by_cases hr : rp F k = 0
      · rw [if_pos hr]
        have z1 : nI (rp F k) = 0 := by rw [nI01 r5]; exact hr
        have hrw : rw1 F R k = 1 := by unfold rw1; rw [if_pos hlt, if_pos hr]
        have h12 := hh.at hlt (r := 0) (by rw [hrw]; decide) (by omega)
        obtain ⟨p1, p2, p3⟩ := alone_C (J := J) (it := it) (dyn := dyn) h4 h20 hi (by omega) hL (k := k) (r := 0) (by omega) h12 (hg _)
        have p1 : S_X3_putAlone ht I A J it dyn (nI k) 0 := p1
        have hi2 : inv ht (4 * (k + 1)) (alone ht g k 0 s) := (hi.al (k := k) (r := 0) (n := g (4 * k + 0)) (by omega) (by have := hg (4 * k + 0); omega)).mn (by omega)
        obtain ⟨i1, i2, i3, i4⟩ := ih m (by omega) f (k + 1) (alone ht g k 0 s) (L_X3_putAlone_I ht I A J it dyn (nI k) 0) (L_X3_putAlone_A ht I A J it dyn (nI k) 0) (by omega) (by omega) (by omega) (Or.inr (Or.inr (Or.inr (by simpa using hr)))) (hC.fc p3) (hh.cg p3) hi2 p2
        simp only [S_Lb_X3_layOut_27, Lb_X3_layOut_27_I, Lb_X3_layOut_27_A, hC.2.2.1, if_neg zl, r1, if_pos z1, nI_1]
        exact ⟨fun _ => ⟨r2, ⟨fun _ => p1, fun h => absurd z1 h⟩, i1⟩, i2, p3.tr i3, i4⟩
      · rw [if_neg hr]
        have z1 : ¬ nI (rp F k) = 0 := by rw [nI01 r5]; exact hr
        obtain ⟨s1, s2, s3, s4⟩ := srun_p F 20 k (by omega)
        have hn := s3 hlt hr
        have hle := s4 hk
        obtain ⟨t1, t2⟩ := run_C (ht := ht) (J := J) (A := A) hC (v1 := nI k) 20 70 k (by omega) hk (by omega)
        generalize srun F 20 k = n at *
        have hrow : ∀ j : Nat, k ≤ j → j < k + n → rw1 F R j = R := fun j a b => by
          unfold rw1
          rw [if_pos (s1 j a b).1, if_neg (s1 j a b).2]
        have hnR : n * R ≤ n * 4 := Nat.mul_le_mul_left n hR
        obtain ⟨p1, p2, p3⟩ := rows_C (J := J) (it := it) (dyn := dyn) h4 h20 hg hn hle hrow R 70 0 (4 * k) s I A (by omega) (by omega) hC hh hi (by omega) hL
        have hS : S_X3_putSection ht I A J it dyn (nI k) := by
          unfold S_X3_putSection
          rw [t1]
          exact ⟨t2, p1⟩
        have eI : L_X3_putSection_I ht I A J it dyn (nI k) = Lb_X3_putSection_32_I 70 ht I A J it dyn (nI k) (nI (k + n)) 0 := by unfold L_X3_putSection_I; rw [t1]
        have eA : L_X3_putSection_A ht I A J it dyn (nI k) = Lb_X3_putSection_32_A 70 ht I A J it dyn (nI k) (nI (k + n)) 0 := by unfold L_X3_putSection_A; rw [t1]
        have p2 : LC ht (asect ht F g k n R 0 s) (Lb_X3_putSection_32_I 70 ht I A J it dyn (nI k) (nI (k + n)) 0) (Lb_X3_putSection_32_A 70 ht I A J it dyn (nI k) (nI (k + n)) 0) := p2
        have p3 : fC I A (Lb_X3_putSection_32_I 70 ht I A J it dyn (nI k) (nI (k + n)) 0) (Lb_X3_putSection_32_A 70 ht I A J it dyn (nI k) (nI (k + n)) 0) := p3
        have hi2 : inv ht (4 * (k + n)) (asect ht F g k n R 0 s) := (inv.sc (F := F) (k := k) (fun v => by have := hg v; omega) hn R 0 (4 * k) s hi (by omega)).mn (by omega)
        have hprev : ∃ P : Int32, L_X1_repeats_r ht I A J it dyn (nI k - 1) = P ∧ P = 0 ∧ S_X1_repeats ht I A J it dyn (nI k - 1) := by
          by_cases hk0 : k = 0
          · subst hk0
            obtain ⟨_, _, _, _, _, _, z7, z8, _⟩ := kind_C0 (ht := ht) (I := I) (A := A) (J := J) (it := it) (dyn := dyn) (nI 0 - 1) (by decide)
            exact ⟨_, rfl, z7, z8⟩
          · have ek : nI k - 1 = nI (k - 1) := by rw [iL 1, nI_subN (by omega)]
            obtain ⟨q1, q2, _, _, q5, _⟩ := rep_C (ht := ht) (A := A) (J := J) hC (k := k - 1) (by omega)
            have hp : rp F (k - 1) = 0 := by
              rcases hj with h | h | h | h
              · omega
              · exact absurd h hr
              · exact absurd h hk0
              · exact h
            rw [ek]
            exact ⟨_, rfl, by rw [q1, hp]; rfl, q2⟩
        obtain ⟨P, hP1, hP2, hP3⟩ := hprev
        generalize hI1 : Lb_X3_putSection_32_I 70 ht I A J it dyn (nI k) (nI (k + n)) 0 = I1 at *
        generalize hA1 : Lb_X3_putSection_32_A 70 ht I A J it dyn (nI k) (nI (k + n)) 0 = A1 at *
        obtain ⟨k1, k2, k3⟩ := skip_L (ht := ht) (J := J) (A := A1) (hC.fc p3) (n - 1) (f - (n - 1)) (k + 1) (fun i a b => ⟨(s1 i (by omega) (by omega)).1, by omega, (s1 i (by omega) (by omega)).2, (s1 (i - 1) (by omega) (by omega)).2⟩)
        rw [show f - (n - 1) + (n - 1) = f by omega, show k + 1 + (n - 1) = k + n by omega] at k1 k2 k3
        obtain ⟨i1, i2, i3, i4⟩ := ih m (by omega) (f - (n - 1)) (k + n) (asect ht F g k n R 0 s) I1 A1 (by omega) hle (by omega) (s2.elim Or.inl (fun h => Or.inr (Or.inl h))) (hC.fc p3) (hh.cg p3) hi2 p2
        simp only [S_Lb_X3_layOut_27, Lb_X3_layOut_27_I, Lb_X3_layOut_27_A, hC.2.2.1, if_neg zl, r1, if_neg z1, hP1, if_pos hP2, eI, eA, nI_1]
        rw [k2, k3]
        exact ⟨fun _ => ⟨r2, ⟨fun h => absurd h z1, fun _ => ⟨hP3, fun _ => hS⟩⟩, k1 i1⟩, i2, p3.tr i3, i4⟩
    · have zl : nI F.length ≤ nI k := by rw [nI_leI (by omega) (by omega)]; omega
      have e1 : ajump ht F R g m k s = s := by
        cases m with
        | zero => rfl
        | succ x => unfold ajump; rw [if_pos (by omega)]
      rw [e1]
      simp only [S_Lb_X3_layOut_27, Lb_X3_layOut_27_I, Lb_X3_layOut_27_A, hC.2.2.1, if_pos zl]
      exact ⟨fun h => absurd zl h, hL, ⟨fun _ _ => rfl, fun _ _ _ _ => rfl⟩, hi.mn (by omega)⟩
theorem fill11 {I : Nat → Int32} {A : Nat → Nat → Int32} (x : Int32) : S_J7_fillI_11 ht I A J it dyn x ∧ (∀ v : Nat, v < 64 → (L_J7_fillI_11_A ht I A J it dyn x) 11 v = x) ∧ ∀ n : Nat, n ≠ 11 → (L_J7_fillI_11_A ht I A J it dyn x) n = A n := by
  refine lp (F := fun n A' v => Lb_J7_fillI_11_5_A n ht I A' J it dyn x v 64) (SF := fun n A' v => S_Lb_J7_fillI_11_5 n ht I A' J it dyn x v 64) 64 (fun b A' => (∀ v : Nat, v < b → A' 11 v = x) ∧ ∀ n : Nat, n ≠ 11 → A' n = A n) (fun A' i => va_up A' 11 (upd (A' 11) i x)) ?_ ?_ 64 70 0 A rfl (by decide) ⟨fun v hv => by omega, fun _ _ => rfl⟩
  · intro n A' i hi hP
    left
    simp only [Lb_J7_fillI_11_5_A, S_Lb_J7_fillI_11_5, if_neg (n64 hi), c64 hi, nI_1]
    refine ⟨trivial, ⟨fun v hv => ?_, fun n hn => by simp [va_up, hn]; exact hP.2 n hn⟩, fun h _ => ⟨i64 hi, h⟩⟩
    by_cases e : v = i
    · subst e; simp [va_up, upd]
    · simp [va_up, upd, e]; exact hP.1 v (by omega)
  · intro n A' hP
    simp only [Lb_J7_fillI_11_5_A, S_Lb_J7_fillI_11_5, if_pos n64e]
    exact ⟨trivial, fun h => absurd n64e h⟩
theorem fill10 {I : Nat → Int32} {A : Nat → Nat → Int32} (x : Int32) : S_J7_fillI_10 ht I A J it dyn x ∧ (∀ v : Nat, v < 64 → (L_J7_fillI_10_A ht I A J it dyn x) 10 v = x) ∧ ∀ n : Nat, n ≠ 10 → (L_J7_fillI_10_A ht I A J it dyn x) n = A n := by
  refine lp (F := fun n A' v => Lb_J7_fillI_10_5_A n ht I A' J it dyn x v 64) (SF := fun n A' v => S_Lb_J7_fillI_10_5 n ht I A' J it dyn x v 64) 64 (fun b A' => (∀ v : Nat, v < b → A' 10 v = x) ∧ ∀ n : Nat, n ≠ 10 → A' n = A n) (fun A' i => va_up A' 10 (upd (A' 10) i x)) ?_ ?_ 64 70 0 A rfl (by decide) ⟨fun v hv => by omega, fun _ _ => rfl⟩
  · intro n A' i hi hP
    left
    simp only [Lb_J7_fillI_10_5_A, S_Lb_J7_fillI_10_5, if_neg (n64 hi), c64 hi, nI_1]
    refine ⟨trivial, ⟨fun v hv => ?_, fun n hn => by simp [va_up, hn]; exact hP.2 n hn⟩, fun h _ => ⟨i64 hi, h⟩⟩
    by_cases e : v = i
    · subst e; simp [va_up, upd]
    · simp [va_up, upd, e]; exact hP.1 v (by omega)
  · intro n A' hP
    simp only [Lb_J7_fillI_10_5_A, S_Lb_J7_fillI_10_5, if_pos n64e]
    exact ⟨trivial, fun h => absurd n64e h⟩
noncomputable def lyF (ht : Nat) (F : List aItem) (R : Nat) (oc : Nat → Int64) : Ly := ajump ht F R (hgt F oc) 20 0 ly0
theorem inv_0 (ht : Nat) : inv ht 0 ly0 := ⟨⟨fun _ => Nat.zero_le _, fun _ _ => rfl⟩, by decide, fun _ => rfl, fun h => absurd h (by decide)⟩
theorem layOut_C (h4 : 4 ≤ ht) (h20 : ht ≤ 20) {I : Nat → Int32} {A : Nat → Nat → Int32} (hC : CF F R I it dyn) : S_X3_layOut ht I A J it dyn ∧ LC ht (lyF ht F R (J 6)) (L_X3_layOut_I ht I A J it dyn) (L_X3_layOut_A ht I A J it dyn) ∧ (∀ q : Nat, q ≠ 7 → (L_X3_layOut_I ht I A J it dyn) q = I q) ∧ (∀ m : Nat, m ≠ 10 → m ≠ 11 → m ≠ 12 → m ≠ 13 → (L_X3_layOut_A ht I A J it dyn) m = A m) ∧ inv ht 64 (lyF ht F R (J 6)) := by
  have hl := hC.1.1
  obtain ⟨f1, f2, f3⟩ := fill11 (ht := ht) (J := J) (it := it) (dyn := dyn) (I := I) (A := A) (-1)
  obtain ⟨g1, g2, g3⟩ := fill10 (ht := ht) (J := J) (it := it) (dyn := dyn) (I := I) (A := L_J7_fillI_11_A ht I A J it dyn (-1)) 0
  have hC1 : CF F R (upd I 7 0) it dyn := ⟨hC.1, hC.2.1, by rw [upd_n _ _ (by decide)]; exact hC.2.2.1, by rw [upd_n _ _ (by decide)]; exact hC.2.2.2.1, hC.2.2.2.2⟩
  obtain ⟨m1, m2, m3⟩ := measure_C (ht := ht) (J := J) (A := L_J7_fillI_10_A ht I (L_J7_fillI_11_A ht I A J it dyn (-1)) J it dyn 0) hC1
  unfold S_X3_layOut L_X3_layOut_I L_X3_layOut_A
  generalize L_J7_fillI_11_A ht I A J it dyn (-1) = A1 at *
  generalize L_J7_fillI_10_A ht I A1 J it dyn 0 = A2 at *
  generalize L_X3_measure_A ht (upd I 7 0) A2 J it dyn = A3 at *
  have hL : LC ht ly0 (upd I 7 0) A3 := ⟨upd_s _ _ _, by decide, fun q hq => by rw [m2 10 (by decide)]; exact g2 q hq, fun v hv => by rw [m2 11 (by decide), g3 11 (by decide)]; exact f2 v hv, fun q _ j hj => absurd hj (by show ¬ j < 0; omega)⟩
  obtain ⟨k1, k2, k3, k4⟩ := jump_C (J := J) (it := it) (dyn := dyn) (g := hgt F (J 6)) h4 h20 (hgt_3 hC.1 _) 20 70 0 ly0 (upd I 7 0) A3 (by omega) (by omega) (by omega) (Or.inr (Or.inr (Or.inl rfl))) hC1 m3 (inv_0 ht) hL
  refine ⟨⟨f1, g1, m1, k1⟩, k2, fun q hq => (k3.1 q hq).trans (upd_n _ _ hq), fun m a b c d => ?_, k4⟩
  refine (k3.2 m a b d).trans ?_
  rw [m2 m c, g3 m a, f3 m b]
end LO
