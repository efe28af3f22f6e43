/-! PAGES: blocks and sections, the class -/
def alone (ht : Nat) (g : Nat → Nat) (k r : Nat) (s : Ly) : Ly := aput k r (g (4 * k + r)) (aturn ht (g (4 * k + r)) s)
def asum (g : Nat → Nat) (r : Nat) : Nat → Nat → Nat
  | 0, _ => 0
  | n + 1, k => g (4 * k + r) + asum g r n (k + 1)
def aputs (g : Nat → Nat) (r : Nat) : Nat → Nat → Ly → Ly
  | 0, _, s => s
  | n + 1, k, s => aputs g r n (k + 1) (aput k r (g (4 * k + r)) s)
def alones (ht : Nat) (g : Nat → Nat) (r : Nat) : Nat → Nat → Ly → Ly
  | 0, _, s => s
  | n + 1, k, s => alones ht g r n (k + 1) (alone ht g k r s)
def hdr (ht : Nat) (F : List aItem) (g : Nat → Nat) (k H r : Nat) (s : Ly) : Prop := atrn ht H s = true ∧ 0 < r ∧ (0 < k ∧ kd F (k - 1) = 2) ∧ g (4 * (k - 1)) + H ≤ ht
noncomputable def ahead (ht : Nat) (F : List aItem) (g : Nat → Nat) (k H r : Nat) (s : Ly) : Ly := @ite _ (hdr ht F g k H r s) (Classical.propDecidable _) (aput (k - 1) 0 (g (4 * (k - 1))) (aturn ht H s)) (aturn ht H s)
noncomputable def ablock (ht : Nat) (F : List aItem) (g : Nat → Nat) (k n r : Nat) (s : Ly) : Ly := if asum g r n k ≤ ht then aputs g r n k (ahead ht F g k (asum g r n k) r s) else alones ht g r n k s
noncomputable def asect (ht : Nat) (F : List aItem) (g : Nat → Nat) (k n : Nat) : Nat → Nat → Ly → Ly
  | 0, _, s => s
  | m + 1, r, s => asect ht F g k n m (r + 1) (ablock ht F g k n r s)
def inv (ht c : Nat) (s : Ly) : Prop := bnd ht s ∧ s.1 < 64 ∧ (s.2.1 s.1 = 0 → s.1 = 0) ∧ (0 < s.2.1 s.1 → s.1 + 1 ≤ c)
theorem turn_fit {ht n : Nat} {s : Ly} (hb : bnd ht s) (hn : n ≤ ht) : (aturn ht n s).2.1 (aturn ht n s).1 + n ≤ ht := by
  have h1 := hb.1 s.1
  unfold aturn atrn
  by_cases h : n ≤ ht - s.2.1 s.1 ∨ s.2.1 s.1 = 0
  · simp [h]; omega
  · simp [h]
    have : s.2.1 (s.1 + 1) = 0 := hb.2 _ (by omega)
    omega
theorem inv.al {ht c n k r : Nat} {s : Ly} (h : inv ht c s) (hc : c ≤ 63) (hn : n ≤ ht) : inv ht (c + 1) (aput k r n (aturn ht n s)) := by
  obtain ⟨h1, h2, h3, h4⟩ := h
  have hf := turn_fit (n := n) h1 hn
  have hb2 := (h1.turn n).put (k := k) (r := r) hf
  refine ⟨hb2, ?_⟩
  unfold aturn atrn
  by_cases hh : n ≤ ht - s.2.1 s.1 ∨ s.2.1 s.1 = 0
  · simp only [hh, not_true_eq_false, decide_false, Bool.false_eq_true, if_false, aput, if_true]
    refine ⟨h2, fun e => h3 (by omega), fun e => ?_⟩
    by_cases e2 : 0 < s.2.1 s.1
    · have := h4 e2; omega
    · have := h3 (by omega); omega
  · simp only [hh, not_false_eq_true, decide_true, if_true, aput]
    have e2 : 0 < s.2.1 s.1 := by omega
    have := h4 e2
    refine ⟨by omega, fun e => by omega, fun e => by omega⟩
theorem inv.mn {ht c c' : Nat} {s : Ly} (h : inv ht c s) (hc : c ≤ c') : inv ht c' s := ⟨h.1, h.2.1, h.2.2.1, fun e => by have := h.2.2.2 e; omega⟩
theorem inv.s62 {ht c : Nat} {s : Ly} (h : inv ht c s) (hc : c ≤ 63) : 0 < s.2.1 s.1 → s.1 ≤ 62 := fun e => by have := h.2.2.2 e; omega
theorem inv.als {ht : Nat} {g : Nat → Nat} {r : Nat} (hg : ∀ v : Nat, g v ≤ ht) : ∀ (n k c : Nat) (s : Ly), inv ht c s → c + n ≤ 64 → inv ht (c + n) (alones ht g r n k s) := by
  intro n
  induction n with
  | zero => intro k c s h _; exact h
  | succ n ih =>
    intro k c s h hc
    have := ih (k + 1) (c + 1) (alone ht g k r s) (h.al (by omega) (hg _)) (by omega)
    rw [show c + 1 + n = c + (n + 1) by omega] at this
    exact this
theorem puts_p {g : Nat → Nat} {r : Nat} : ∀ (n k : Nat) (s : Ly), (aputs g r n k s).1 = s.1 ∧ (aputs g r n k s).2.1 s.1 = s.2.1 s.1 + asum g r n k ∧ ∀ q : Nat, q ≠ s.1 → (aputs g r n k s).2.1 q = s.2.1 q := by
  intro n
  induction n with
  | zero => intro k s; exact ⟨rfl, rfl, fun _ _ => rfl⟩
  | succ n ih =>
    intro k s
    obtain ⟨a, b, c⟩ := ih (k + 1) (aput k r (g (4 * k + r)) s)
    refine ⟨a, ?_, fun q hq => ?_⟩
    · show (aputs g r n (k + 1) (aput k r (g (4 * k + r)) s)).2.1 s.1 = _
      have b2 : (aputs g r n (k + 1) (aput k r (g (4 * k + r)) s)).2.1 s.1 = (aput k r (g (4 * k + r)) s).2.1 s.1 + asum g r n (k + 1) := b
      rw [b2]
      show (if s.1 = s.1 then s.2.1 s.1 + g (4 * k + r) else s.2.1 s.1) + asum g r n (k + 1) = s.2.1 s.1 + (g (4 * k + r) + asum g r n (k + 1))
      rw [if_pos rfl]; omega
    · show (aputs g r n (k + 1) (aput k r (g (4 * k + r)) s)).2.1 q = _
      have c2 : (aputs g r n (k + 1) (aput k r (g (4 * k + r)) s)).2.1 q = (aput k r (g (4 * k + r)) s).2.1 q := c q hq
      rw [c2]
      show (if q = s.1 then s.2.1 q + g (4 * k + r) else s.2.1 q) = s.2.1 q
      rw [if_neg hq]
theorem puts_b {ht : Nat} {g : Nat → Nat} {r : Nat} {n k : Nat} {s : Ly} (h : bnd ht s) (hf : s.2.1 s.1 + asum g r n k ≤ ht) : bnd ht (aputs g r n k s) := by
  obtain ⟨a, b, c⟩ := puts_p (g := g) (r := r) n k s
  refine ⟨fun q => ?_, fun q hq => ?_⟩
  · by_cases e : q = s.1
    · subst e; rw [b]; exact hf
    · rw [c q e]; exact h.1 q
  · rw [a] at hq
    rw [c q (by omega)]; exact h.2 q hq
/-- the header: it fits with what follows -/
theorem head_fit {ht : Nat} {F : List aItem} {g : Nat → Nat} {k H r : Nat} {s : Ly} (hb : bnd ht s) (hH : H ≤ ht) : bnd ht (ahead ht F g k H r s) ∧ (ahead ht F g k H r s).2.1 (ahead ht F g k H r s).1 + H ≤ ht ∧ (ahead ht F g k H r s).1 = (aturn ht H s).1 ∧ (aturn ht H s).2.1 (aturn ht H s).1 ≤ (ahead ht F g k H r s).2.1 (ahead ht F g k H r s).1 := by
  have hf := turn_fit (n := H) hb hH
  have hb1 := hb.turn H
  unfold ahead
  by_cases hh : hdr ht F g k H r s
  · rw [if_pos hh]
    have h0 : (aturn ht H s).2.1 (aturn ht H s).1 = 0 := by
      have := hh.1
      unfold aturn
      rw [if_pos this]
      exact hb.2 _ (by omega)
    have hle := hh.2.2.2
    have e : (aput (k - 1) 0 (g (4 * (k - 1))) (aturn ht H s)).2.1 (aput (k - 1) 0 (g (4 * (k - 1))) (aturn ht H s)).1 = (aturn ht H s).2.1 (aturn ht H s).1 + g (4 * (k - 1)) := by
      show (if (aturn ht H s).1 = (aturn ht H s).1 then (aturn ht H s).2.1 (aturn ht H s).1 + g (4 * (k - 1)) else (aturn ht H s).2.1 (aturn ht H s).1) = _
      rw [if_pos rfl]
    refine ⟨hb1.put (by omega), ?_, rfl, ?_⟩
    · rw [e]; omega
    · rw [e]; omega
  · rw [if_neg hh]
    exact ⟨hb1, hf, rfl, Nat.le_refl _⟩
theorem inv.bl {ht c : Nat} {F : List aItem} {g : Nat → Nat} {k n r : Nat} {s : Ly} (hg : ∀ v : Nat, g v ≤ ht) (h : inv ht c s) (hc : c + n ≤ 64) (hn : 0 < n) : inv ht (c + n) (ablock ht F g k n r s) := by
  unfold ablock
  by_cases hH : asum g r n k ≤ ht
  · rw [if_pos hH]
    obtain ⟨h1, h2, h3, h4⟩ := h
    obtain ⟨b1, b2, b3, b4⟩ := head_fit (F := F) (g := g) (k := k) (r := r) h1 hH
    obtain ⟨p1, p2, p3⟩ := puts_p (g := g) (r := r) n k (ahead ht F g k (asum g r n k) r s)
    refine ⟨puts_b b1 b2, ?_⟩
    rw [p1, p2, b3]
    generalize asum g r n k = H at *
    rw [b3] at b4 b2
    by_cases hh : H ≤ ht - s.2.1 s.1 ∨ s.2.1 s.1 = 0
    · have e : aturn ht H s = s := by unfold aturn atrn; simp [hh]
      rw [e] at b4 b2 ⊢
      refine ⟨h2, fun e2 => h3 (by omega), fun e2 => ?_⟩
      by_cases e3 : 0 < s.2.1 s.1
      · have := h4 e3; omega
      · have := h3 (by omega); omega
    · have e : (aturn ht H s).1 = s.1 + 1 := by unfold aturn atrn; simp [hh]
      rw [e]
      have := h4 (by omega)
      refine ⟨by omega, fun e2 => by omega, fun _ => by omega⟩
  · rw [if_neg hH]
    exact inv.als hg n k c s h hc
section BC
variable {ht : Nat} {F : List aItem} {R : Nat} {I : Nat → Int32} {A : Nat → Nat → Int32} {J : Nat → Nat → Int64} {it : Nat → Option Nat} {dyn : fsH} {s : Ly} {g : Nat → Nat}
/-- what laying out leaves alone in the class -/
def fC (I : Nat → Int32) (A : Nat → Nat → Int32) (I' : Nat → Int32) (A' : Nat → Nat → Int32) : Prop := (∀ q : Nat, q ≠ 7 → I' q = I q) ∧ ∀ m : Nat, m ≠ 10 → m ≠ 11 → m ≠ 13 → A' m = A m
theorem fC.tr {I1 I2 : Nat → Int32} {A1 A2 : Nat → Nat → Int32} (h : fC I A I1 A1) (h' : fC I1 A1 I2 A2) : fC I A I2 A2 := ⟨fun q hq => (h'.1 q hq).trans (h.1 q hq), fun m a b c => (h'.2 m a b c).trans (h.2 m a b c)⟩
def hiC (F : List aItem) (R : Nat) (g : Nat → Nat) (A : Nat → Nat → Int32) : Prop := ∀ v : Nat, v / 4 < F.length → v % 4 < rw1 F R (v / 4) → A 12 v = nI (g v)
theorem hiC.at (h : hiC F R g A) {k r : Nat} (hk : k < F.length) (hr : r < rw1 F R k) (hr4 : r < 4) : A 12 (4 * k + r) = nI (g (4 * k + r)) := h (4 * k + r) (by omega) (by rw [show (4 * k + r) / 4 = k by omega, show (4 * k + r) % 4 = r by omega]; exact hr)
theorem hiC.cg (h : hiC F R g A) {I I' : Nat → Int32} {A' : Nat → Nat → Int32} (hf : fC I A I' A') : hiC F R g A' := fun v a b => by rw [hf.2 12 (by decide) (by decide) (by decide)]; exact h v a b
theorem CF.fc (h : CF F R I it dyn) {I' : Nat → Int32} {A A' : Nat → Nat → Int32} (hf : fC I A I' A') : CF F R I' it dyn := ⟨h.1, h.2.1, by rw [hf.1 4 (by decide)]; exact h.2.2.1, by rw [hf.1 5 (by decide)]; exact h.2.2.2.1, h.2.2.2.2⟩
theorem alone_C (h4 : 4 ≤ ht) (h20 : ht ≤ 20) {c : Nat} (hi : inv ht c s) (hc : c ≤ 63) (h : LC ht s I A) {k r : Nat} (hcell : 4 * k + r < 64) (hA : A 12 (4 * k + r) = nI (g (4 * k + r))) (hg : g (4 * k + r) ≤ 3) : S_X3_putAlone ht I A J it dyn (nI k) (nI r) ∧ LC ht (alone ht g k r s) (L_X3_putAlone_I ht I A J it dyn (nI k) (nI r)) (L_X3_putAlone_A ht I A J it dyn (nI k) (nI r)) ∧ fC I A (L_X3_putAlone_I ht I A J it dyn (nI k) (nI r)) (L_X3_putAlone_A ht I A J it dyn (nI k) (nI r)) := by
  obtain ⟨t1, t2, _, _, t5⟩ := turn_C (J := J) (it := it) (dyn := dyn) h4 h20 hi.1 h (n := g (4 * k + r)) (by omega) (hi.s62 hc)
  unfold S_X3_putAlone L_X3_putAlone_I L_X3_putAlone_A
  rw [cellOf_C, c64 hcell, hA]
  obtain ⟨p1, p2, p3⟩ := putLines_C (J := J) (it := it) (dyn := dyn) h4 h20 (hi.1.turn _) t2 hcell hA (turn_fit hi.1 (by omega))
  exact ⟨⟨i64 hcell, t1, p1⟩, p2, t5, p3⟩
theorem sum_C (h : hiC F R g A) {k0 e r : Nat} (he : e ≤ F.length) (hl : F.length ≤ 16) (hr4 : r < 4) (hg : ∀ v : Nat, g v ≤ 3) : ∀ (n m k a : Nat), k + n = e → n < m → (∀ j : Nat, k ≤ j → j < e → r < rw1 F R j) → a + 3 * n ≤ 1000 → Lb_X3_putBlock_6_v4 m ht I A J it dyn (nI k0) (nI e) (nI r) (nI a) (nI k) = nI (a + asum g r n k) ∧ S_Lb_X3_putBlock_6 m ht I A J it dyn (nI k0) (nI e) (nI r) (nI a) (nI k) ∧ asum g r n k ≤ 3 * n := by
  intro n
  induction n with
  | zero =>
    intro m k a hk hm _ _
    obtain ⟨m, rfl⟩ : ∃ n', m = n' + 1 := ⟨m - 1, by omega⟩
    have zl : nI e ≤ nI k := by rw [nI_leI (by omega) (by omega)]; omega
    simp only [Lb_X3_putBlock_6_v4, S_Lb_X3_putBlock_6, if_pos zl, asum]
    exact ⟨rfl, fun h => absurd zl h, by omega⟩
  | succ n ih =>
    intro m k a hk hm hrow ha
    obtain ⟨m, rfl⟩ : ∃ n', m = n' + 1 := ⟨m - 1, by omega⟩
    have zl : ¬ nI e ≤ nI k := by rw [nI_leI (by omega) (by omega)]; omega
    have hcell : 4 * k + r < 64 := by omega
    have h12 := h.at (show k < F.length by omega) (hrow k (by omega) (by omega)) hr4
    have hg1 := hg (4 * k + r)
    obtain ⟨i1, i2, i3⟩ := ih m (k + 1) (a + g (4 * k + r)) (by omega) (by omega) (fun j a b => hrow j (by omega) b) (by omega)
    simp only [Lb_X3_putBlock_6_v4, S_Lb_X3_putBlock_6, if_neg zl, cellOf_C, c64 hcell, h12, nI_add, nI_1, asum, i1]
    exact ⟨by rw [Nat.add_assoc], fun _ => ⟨i64 hcell, i2⟩, by omega⟩
theorem puts_C (h4 : 4 ≤ ht) (h20 : ht ≤ 20) {k0 e r : Nat} {v4 : Int32} (he : e ≤ F.length) (hl : F.length ≤ 16) (hr4 : r < 4) : ∀ (n m k : Nat) (s : Ly) (A : Nat → Nat → Int32), k + n = e → n < m → (∀ j : Nat, k ≤ j → j < e → r < rw1 F R j) → hiC F R g A → bnd ht s → s.2.1 s.1 + asum g r n k ≤ ht → LC ht s I A → S_Lb_X3_putBlock_80 m ht I A J it dyn (nI k0) (nI e) (nI r) v4 1 (nI k) ∧ LC ht (aputs g r n k s) (Lb_X3_putBlock_80_I m ht I A J it dyn (nI k0) (nI e) (nI r) v4 1 (nI k)) (Lb_X3_putBlock_80_A m ht I A J it dyn (nI k0) (nI e) (nI r) v4 1 (nI k)) ∧ fC I A (Lb_X3_putBlock_80_I m ht I A J it dyn (nI k0) (nI e) (nI r) v4 1 (nI k)) (Lb_X3_putBlock_80_A m ht I A J it dyn (nI k0) (nI e) (nI r) v4 1 (nI k)) := by
  intro n
  induction n with
  | zero =>
    intro m k s A hk hm _ _ _ _ hL
    obtain ⟨m, rfl⟩ : ∃ n', m = n' + 1 := ⟨m - 1, by omega⟩
    have zl : nI e ≤ nI k := by rw [nI_leI (by omega) (by omega)]; omega
    simp only [Lb_X3_putBlock_80_I, Lb_X3_putBlock_80_A, S_Lb_X3_putBlock_80, if_pos zl, aputs]
    exact ⟨fun h => absurd zl h, hL, fun _ _ => rfl, fun _ _ _ _ => rfl⟩
  | succ n ih =>
    intro m k s A hk hm hrow hh hb hf hL
    obtain ⟨m, rfl⟩ : ∃ n', m = n' + 1 := ⟨m - 1, by omega⟩
    have zl : ¬ nI e ≤ nI k := by rw [nI_leI (by omega) (by omega)]; omega
    have hcell : 4 * k + r < 64 := by omega
    have hf : s.2.1 s.1 + (g (4 * k + r) + asum g r n (k + 1)) ≤ ht := hf
    have h12 := hh.at (show k < F.length by omega) (hrow k (by omega) (by omega)) hr4
    obtain ⟨p1, p2, p3⟩ := putLines_C (J := J) (it := it) (dyn := dyn) h4 h20 hb hL hcell h12 (by omega)
    have hfc : fC I A I (L_X3_putLines_A ht I A J it dyn (nI k) (nI r)) := ⟨fun _ _ => rfl, p3⟩
    have ef : (aput k r (g (4 * k + r)) s).2.1 (aput k r (g (4 * k + r)) s).1 = s.2.1 s.1 + g (4 * k + r) := by
      show (if s.1 = s.1 then s.2.1 s.1 + g (4 * k + r) else s.2.1 s.1) = _
      rw [if_pos rfl]
    obtain ⟨i1, i2, i3⟩ := ih m (k + 1) (aput k r (g (4 * k + r)) s) (L_X3_putLines_A ht I A J it dyn (nI k) (nI r)) (by omega) (by omega) (fun j a b => hrow j (by omega) b) (hh.cg hfc) (hb.put (by omega)) (by rw [ef]; omega) p2
    have z1 : ¬ (1 : Int32) = 0 := by decide
    simp only [Lb_X3_putBlock_80_I, Lb_X3_putBlock_80_A, S_Lb_X3_putBlock_80, if_neg zl, if_neg z1, nI_1, aputs]
    exact ⟨fun _ => ⟨⟨fun h => absurd h z1, fun _ => p1⟩, i1⟩, i2, hfc.tr i3⟩
theorem alones_C (h4 : 4 ≤ ht) (h20 : ht ≤ 20) {k0 e r : Nat} {v4 : Int32} (he : e ≤ F.length) (hl : F.length ≤ 16) (hr4 : r < 4) (hg : ∀ v : Nat, g v ≤ 3) : ∀ (n m k c : Nat) (s : Ly) (I : Nat → Int32) (A : Nat → Nat → Int32), k + n = e → n < m → (∀ j : Nat, k ≤ j → j < e → r < rw1 F R j) → hiC F R g A → inv ht c s → c + n ≤ 64 → LC ht s I A → S_Lb_X3_putBlock_80 m ht I A J it dyn (nI k0) (nI e) (nI r) v4 0 (nI k) ∧ LC ht (alones ht g r n k s) (Lb_X3_putBlock_80_I m ht I A J it dyn (nI k0) (nI e) (nI r) v4 0 (nI k)) (Lb_X3_putBlock_80_A m ht I A J it dyn (nI k0) (nI e) (nI r) v4 0 (nI k)) ∧ fC I A (Lb_X3_putBlock_80_I m ht I A J it dyn (nI k0) (nI e) (nI r) v4 0 (nI k)) (Lb_X3_putBlock_80_A m ht I A J it dyn (nI k0) (nI e) (nI r) v4 0 (nI k)) := by
  intro n
  induction n with
  | zero =>
    intro m k c s I A hk hm _ _ _ _ hL
    obtain ⟨m, rfl⟩ : ∃ n', m = n' + 1 := ⟨m - 1, by omega⟩
    have zl : nI e ≤ nI k := by rw [nI_leI (by omega) (by omega)]; omega
    simp only [Lb_X3_putBlock_80_I, Lb_X3_putBlock_80_A, S_Lb_X3_putBlock_80, if_pos zl, alones]
    exact ⟨fun h => absurd zl h, hL, fun _ _ => rfl, fun _ _ _ _ => rfl⟩
  | succ n ih =>
    intro m k c s I A hk hm hrow hh hi hc hL
    obtain ⟨m, rfl⟩ : ∃ n', m = n' + 1 := ⟨m - 1, by omega⟩
    have zl : ¬ nI e ≤ nI k := by rw [nI_leI (by omega) (by omega)]; omega
    have hcell : 4 * k + r < 64 := by omega
    have h12 := hh.at (show k < F.length by omega) (hrow k (by omega) (by omega)) hr4
    obtain ⟨p1, p2, p3⟩ := alone_C (J := J) (it := it) (dyn := dyn) h4 h20 hi (by omega) hL hcell h12 (hg _)
    obtain ⟨i1, i2, i3⟩ := ih m (k + 1) (c + 1) (alone ht g k r s) _ _ (by omega) (by omega) (fun j a b => hrow j (by omega) b) (hh.cg p3) (hi.al (by omega) (by have := hg (4 * k + r); omega)) (by omega) p2
    simp only [Lb_X3_putBlock_80_I, Lb_X3_putBlock_80_A, S_Lb_X3_putBlock_80, if_neg zl, if_true, nI_1, alones]
    exact ⟨fun _ => ⟨⟨fun _ => p1, fun h => absurd trivial h⟩, i1⟩, i2, p3.tr i3⟩
theorem block_C (h4 : 4 ≤ ht) (h20 : ht ≤ 20) (hC : CF F R I it dyn) (hh : hiC F R g A) (hg : ∀ v : Nat, g v ≤ 3) {k n r c : Nat} (hn : 0 < n) (he : k + n ≤ F.length) (hr4 : r < 4) (hrow : ∀ j : Nat, k ≤ j → j < k + n → r < rw1 F R j) (hi : inv ht c s) (hc : c + n ≤ 64) (hL : LC ht s I A) : S_X3_putBlock ht I A J it dyn (nI k) (nI (k + n)) (nI r) ∧ LC ht (ablock ht F g k n r s) (L_X3_putBlock_I ht I A J it dyn (nI k) (nI (k + n)) (nI r)) (L_X3_putBlock_A ht I A J it dyn (nI k) (nI (k + n)) (nI r)) ∧ fC I A (L_X3_putBlock_I ht I A J it dyn (nI k) (nI (k + n)) (nI r)) (L_X3_putBlock_A ht I A J it dyn (nI k) (nI (k + n)) (nI r)) := by
  have hl := hC.1.1
  obtain ⟨s1, s2, s3⟩ := sum_C (ht := ht) (I := I) (J := J) (it := it) (dyn := dyn) hh (k0 := k) he hl hr4 hg n 70 k 0 rfl (by omega) hrow (by omega)
  rw [Nat.zero_add] at s1
  have s1 : Lb_X3_putBlock_6_v4 70 ht I A J it dyn (nI k) (nI (k + n)) (nI r) 0 (nI k) = nI (asum g r n k) := s1
  have s2 : S_Lb_X3_putBlock_6 70 ht I A J it dyn (nI k) (nI (k + n)) (nI r) 0 (nI k) := s2
  have zh : (nI ht < nI (asum g r n k)) ↔ ht < asum g r n k := by rw [nI_ltI (by omega) (by omega)]
  have zr : (nI r ≤ 0) ↔ r = 0 := by rw [iL 0, nI_leI (by omega) (by omega)]; omega
  unfold S_X3_putBlock L_X3_putBlock_I L_X3_putBlock_A ablock
  simp only [s1, zh, zr]
  by_cases hH : ht < asum g r n k
  · simp only [if_pos hH, if_true, if_neg (show ¬ asum g r n k ≤ ht by omega)]
    obtain ⟨a1, a2, a3⟩ := alones_C (J := J) (it := it) (dyn := dyn) (k0 := k) (v4 := nI (asum g r n k)) h4 h20 he hl hr4 hg n 70 k c s I A rfl (by omega) hrow hh hi hc hL
    exact ⟨⟨s2, fun h => absurd trivial h, a1⟩, a2, a3⟩
  · have z1 : ¬ (1 : Int32) = 0 := by decide
    have hH2 : asum g r n k ≤ ht := by omega
    simp only [if_neg hH, if_neg z1, if_pos hH2]
    obtain ⟨t1, t2, t3, t4, t5⟩ := turn_C (J := J) (it := it) (dyn := dyn) h4 h20 hi.1 hL (n := asum g r n k) (by omega) (hi.s62 (by omega))
    obtain ⟨b1, b2, b3, b4⟩ := head_fit (F := F) (g := g) (k := k) (r := r) hi.1 hH2
    have f0 : fC I A (L_X3_turnPage_I ht I A J it dyn (nI (asum g r n k))) A := ⟨t5, fun _ _ _ _ => rfl⟩
    have hC1 := hC.fc f0
    -- the header
    have key : ∃ A1, (if L_X3_turnPage_r ht I A J it dyn (nI (asum g r n k)) = 0 then A else if r = 0 then A else L_X3_putHeader_A ht (L_X3_turnPage_I ht I A J it dyn (nI (asum g r n k))) A J it dyn (nI k - 1) (nI (asum g r n k))) = A1 ∧ LC ht (ahead ht F g k (asum g r n k) r s) (L_X3_turnPage_I ht I A J it dyn (nI (asum g r n k))) A1 ∧ fC I A (L_X3_turnPage_I ht I A J it dyn (nI (asum g r n k))) A1 ∧ (¬ L_X3_turnPage_r ht I A J it dyn (nI (asum g r n k)) = 0 → ¬ r = 0 → S_X3_putHeader ht (L_X3_turnPage_I ht I A J it dyn (nI (asum g r n k))) A J it dyn (nI k - 1) (nI (asum g r n k))) := by
      refine ⟨_, rfl, ?_⟩
      unfold ahead
      cases hat : atrn ht (asum g r n k) s with
      | false =>
        rw [t4 hat, if_pos rfl, if_neg (fun h => by rw [h.1] at hat; cases hat)]
        exact ⟨t2, f0, fun h => absurd rfl h⟩
      | true =>
        rw [t3 hat, if_neg z1]
        by_cases hr0 : r = 0
        · rw [if_pos hr0, if_neg (fun h => by have := h.2.1; omega)]
          exact ⟨t2, f0, fun _ h => absurd hr0 h⟩
        · rw [if_neg hr0]
          generalize L_X3_turnPage_I ht I A J it dyn (nI (asum g r n k)) = I1 at *
          unfold L_X3_putHeader_A S_X3_putHeader
          by_cases hk0 : k = 0
          · subst hk0
            obtain ⟨_, _, z3, _, _, z6, _⟩ := kind_C0 (ht := ht) (I := I1) (A := A) (J := J) (it := it) (dyn := dyn) (nI 0 - 1) (by decide)
            rw [z3, if_pos rfl, if_neg (fun h => by have := h.2.2.1.1; omega)]
            exact ⟨t2, f0, fun _ _ => ⟨z6, fun h => absurd rfl h⟩⟩
          · have ek : nI k - 1 = nI (k - 1) := by rw [iL 1, nI_subN (by omega)]
            rw [ek]
            obtain ⟨_, _, z3, _, _, z6⟩ := kind_C (ht := ht) (A := A) (J := J) hC1 (k := k - 1) (by omega)
            rw [z3]
            by_cases hcap : kd F (k - 1) = 2
            · rw [if_pos hcap, if_neg z1]
              have hrw : 0 < rw1 F R (k - 1) := by
                obtain ⟨x, hx⟩ := F_some (F := F) (k := k - 1) (by omega)
                obtain ⟨c1, c2, _⟩ := acc hx
                have w := (hC.1.2 _ x hx).2.2.2.1 (by rw [← c1]; exact hcap)
                unfold rw1
                rw [if_pos (by omega), c2, w.1, if_pos rfl]
                decide
              have h12 : A 12 (4 * (k - 1)) = nI (g (4 * (k - 1))) := hh.at (k := k - 1) (r := 0) (by omega) hrw (by omega)
              have ec : L_X7_cellOf_r ht I1 A J it dyn (nI (k - 1)) 0 = nI (4 * (k - 1)) := cellOf_C (k - 1) 0
              have hcell : 4 * (k - 1) < 64 := by omega
              rw [ec, c64 hcell, h12, nI_add]
              have zz : (nI ht < nI (g (4 * (k - 1)) + asum g r n k)) ↔ ht < g (4 * (k - 1)) + asum g r n k := by rw [nI_ltI (by omega) (by have := hg (4 * (k - 1)); omega)]
              simp only [zz]
              by_cases hfit : ht < g (4 * (k - 1)) + asum g r n k
              · rw [if_pos hfit, if_neg (fun h => by have := h.2.2.2; omega)]
                exact ⟨t2, f0, fun _ _ => ⟨z6, fun _ => ⟨i64 hcell, fun h => absurd hfit h⟩⟩⟩
              · have hfz : (aturn ht (asum g r n k) s).2.1 (aturn ht (asum g r n k) s).1 = 0 := by
                  unfold aturn
                  rw [if_pos hat]
                  exact hi.1.2 _ (by omega)
                obtain ⟨p1, p2, p3⟩ := putLines_C (J := J) (it := it) (dyn := dyn) h4 h20 (hi.1.turn _) t2 (k := k - 1) (r := 0) hcell h12 (by rw [hfz]; omega)
                rw [if_neg hfit, if_pos ⟨hat, by omega, ⟨by omega, hcap⟩, by omega⟩]
                have p1 : S_X3_putLines ht I1 A J it dyn (nI (k - 1)) 0 := p1
                exact ⟨p2, ⟨f0.1, p3⟩, fun _ _ => ⟨z6, fun _ => ⟨i64 hcell, fun _ => p1⟩⟩⟩
            · rw [if_neg hcap, if_pos rfl, if_neg (fun h => hcap h.2.2.1.2)]
              exact ⟨t2, f0, fun _ _ => ⟨z6, fun h => absurd rfl h⟩⟩
    obtain ⟨A1, e1, k1, k2, k3⟩ := key
    rw [e1]
    obtain ⟨q1, q2, q3⟩ := puts_C (J := J) (it := it) (dyn := dyn) (k0 := k) (v4 := nI (asum g r n k)) h4 h20 he hl hr4 n 70 k (ahead ht F g k (asum g r n k) r s) A1 rfl (by omega) hrow (hh.cg k2) b1 b2 k1
    exact ⟨⟨s2, fun _ => ⟨t1, k3⟩, q1⟩, q2, k2.tr q3⟩
end BC
