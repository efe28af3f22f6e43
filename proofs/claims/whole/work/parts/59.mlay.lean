/-! PAGES: the reference -/
def fM (I : Nat → Int32) (A : Nat → Nat → Int32) (J : Nat → Nat → Int64) (I' : Nat → Int32) (A' : Nat → Nat → Int32) (J' : Nat → Nat → Int64) : Prop := (∀ q : Nat, q ≠ 17 → q ≠ 18 → q ≠ 19 → I' q = I q) ∧ (∀ m : Nat, m ≠ 36 → m ≠ 38 → m ≠ 39 → A' m = A m) ∧ ∀ m : Nat, m ≠ 35 → J' m = J m
theorem fM.rf {I : Nat → Int32} {A : Nat → Nat → Int32} {J : Nat → Nat → Int64} : fM I A J I A J := ⟨fun _ _ _ _ => rfl, fun _ _ _ _ => rfl, fun _ _ => rfl⟩
theorem fM.tr {I I1 I2 : Nat → Int32} {A A1 A2 : Nat → Nat → Int32} {J J1 J2 : Nat → Nat → Int64} (h : fM I A J I1 A1 J1) (h' : fM I1 A1 J1 I2 A2 J2) : fM I A J I2 A2 J2 := ⟨fun q a b c => (h'.1 q a b c).trans (h.1 q a b c), fun m a b c => (h'.2.1 m a b c).trans (h.2.1 m a b c), fun m a => (h'.2.2 m a).trans (h.2.2 m a)⟩
/-- the reference's side of a closed form -/
def RS (F : List aItem) (R : Nat) (oc : Nat → Int64) (I : Nat → Int32) (A : Nat → Nat → Int32) (J : Nat → Nat → Int64) : Prop := MF F R I A J ∧ nmOK F ∧ chk F R oc A J
theorem RS.fm {F : List aItem} {R : Nat} {oc : Nat → Int64} {I I' : Nat → Int32} {A A' : Nat → Nat → Int32} {J J' : Nat → Nat → Int64} (h : RS F R oc I A J) (hf : fM I A J I' A' J') : RS F R oc I' A' J' := ⟨h.1.cg (fun n a b => hf.2.1 n (by omega) (by omega) (by omega)) (hf.2.2 25 (by decide)) (hf.1 13 (by decide) (by decide) (by decide)) (hf.1 11 (by decide) (by decide) (by decide)), h.2.1, h.2.2.cg (hf.2.1 31 (by decide) (by decide) (by decide)) (hf.2.2 30 (by decide))⟩
theorem aput_pc {k r n : Nat} {s : Ly} {v : Nat} (h : v ≠ 4 * k + r) : (aput k r n s).2.2.1 v = s.2.2.1 v := by
  show (if v = 4 * k + r ∧ 0 < n ∧ s.2.2.1 v = -1 then nI (32 * s.1 + s.2.1 s.1) else s.2.2.1 v) = _
  rw [if_neg (fun h2 => h h2.1)]
theorem aput_pc2 {k r n : Nat} {s : Ly} (h : s.2.2.1 (4 * k + r) ≠ -1) (v : Nat) : (aput k r n s).2.2.1 v = s.2.2.1 v := by
  show (if v = 4 * k + r ∧ 0 < n ∧ s.2.2.1 v = -1 then nI (32 * s.1 + s.2.1 s.1) else s.2.2.1 v) = _
  rw [if_neg (fun h2 => h (by rw [← h2.1]; exact h2.2.2))]
theorem aturn_pc {ht n : Nat} {s : Ly} : (aturn ht n s).2.2.1 = s.2.2.1 := by
  unfold aturn
  split <;> rfl
theorem aputs_pc {g : Nat → Nat} {r : Nat} : ∀ (n k : Nat) (s : Ly) (v : Nat), (∀ j : Nat, k ≤ j → j < k + n → v ≠ 4 * j + r) → (aputs g r n k s).2.2.1 v = s.2.2.1 v := by
  intro n
  induction n with
  | zero => intro k s v _; rfl
  | succ n ih =>
    intro k s v h
    show (aputs g r n (k + 1) (aput k r (g (4 * k + r)) s)).2.2.1 v = _
    rw [ih (k + 1) _ v (fun j a b => h j (by omega) (by omega)), aput_pc (h k (by omega) (by omega))]
theorem alones_pc {ht : Nat} {g : Nat → Nat} {r : Nat} : ∀ (n k : Nat) (s : Ly) (v : Nat), (∀ j : Nat, k ≤ j → j < k + n → v ≠ 4 * j + r) → (alones ht g r n k s).2.2.1 v = s.2.2.1 v := by
  intro n
  induction n with
  | zero => intro k s v _; rfl
  | succ n ih =>
    intro k s v h
    show (alones ht g r n (k + 1) (alone ht g k r s)).2.2.1 v = _
    rw [ih (k + 1) _ v (fun j a b => h j (by omega) (by omega))]
    unfold alone
    rw [aput_pc (h k (by omega) (by omega)), aturn_pc]
def capOK (F : List aItem) (k : Nat) (s : Ly) : Prop := 0 < k → kd F (k - 1) = 2 → s.2.2.1 (4 * (k - 1)) ≠ -1
theorem ahead_pc {ht : Nat} {F : List aItem} {g : Nat → Nat} {k H r : Nat} {s : Ly} (h : capOK F k s) (v : Nat) : (ahead ht F g k H r s).2.2.1 v = s.2.2.1 v := by
  unfold ahead
  by_cases hh : hdr ht F g k H r s
  · rw [if_pos hh, aput_pc2 (by rw [aturn_pc]; exact h hh.2.2.1.1 hh.2.2.1.2), aturn_pc]
  · rw [if_neg hh, aturn_pc]
theorem ablock_pc {ht : Nat} {F : List aItem} {g : Nat → Nat} {k n r : Nat} {s : Ly} (h : capOK F k s) {v : Nat} (hv : ∀ j : Nat, k ≤ j → j < k + n → v ≠ 4 * j + r) : (ablock ht F g k n r s).2.2.1 v = s.2.2.1 v := by
  unfold ablock
  split
  · rw [aputs_pc n k _ v hv, ahead_pc h]
  · exact alones_pc n k s v hv
theorem asect_pc {ht : Nat} {F : List aItem} {g : Nat → Nat} {k n : Nat} : ∀ (m r : Nat) (s : Ly), capOK F k s → r + m ≤ 4 → ∀ v : Nat, (v / 4 < k ∨ k + n ≤ v / 4) → (asect ht F g k n m r s).2.2.1 v = s.2.2.1 v := by
  intro m
  induction m with
  | zero => intro r s _ _ v _; rfl
  | succ m ih =>
    intro r s hc hr v hv
    have hb : ∀ w : Nat, (w / 4 < k ∨ k + n ≤ w / 4) → (ablock ht F g k n r s).2.2.1 w = s.2.2.1 w := fun w hw => ablock_pc hc (fun j a b => by omega)
    show (asect ht F g k n m (r + 1) (ablock ht F g k n r s)).2.2.1 v = _
    rw [ih (r + 1) _ (fun a b => by rw [hb _ (by omega)]; exact hc a b) (by omega) v hv, hb v hv]
section LM
variable {ht : Nat} {F : List aItem} {R : Nat} {oc : Nat → Int64} {it : Nat → Option Nat} {dyn : fsH} {s : Ly}
theorem lines_M {I : Nat → Int32} {A : Nat → Nat → Int32} {J : Nat → Nat → Int64} (h : RS F R oc I A J) {k r : Nat} (hk : k < F.length) (hr : r < rw1 F R k) : S_X8_linesOf ht I A J it dyn (nI k) (nI r) ∧ L_X8_linesOf_r ht I A J it dyn (nI k) (nI r) = nI (hgt F oc (4 * k + r)) ∧ fM I A J I (L_X8_linesOf_A ht I A J it dyn (nI k) (nI r)) (L_X8_linesOf_J ht I A J it dyn (nI k) (nI r)) ∧ (L_X8_linesOf_A ht I A J it dyn (nI k) (nI r)) 38 = A 38 ∧ (L_X8_linesOf_A ht I A J it dyn (nI k) (nI r)) 39 = A 39 := by
  obtain ⟨a, b, c, d⟩ := linesOf_M (ht := ht) (it := it) (dyn := dyn) h.1 h.2.1 h.2.2 hk hr
  exact ⟨a, b, ⟨fun _ _ _ _ => rfl, fun m p _ _ => c m p, d⟩, c 38 (by decide), c 39 (by decide)⟩
theorem LM.ar {I : Nat → Int32} {A A' : Nat → Nat → Int32} (h : LM ht s I A) (h1 : A' 38 = A 38) (h2 : A' 39 = A 39) : LM ht s I A' := ⟨h.1, h.2.1, h.2.2.1, h.2.2.2.1, by rw [h1]; exact h.2.2.2.2.1, by rw [h2]; exact h.2.2.2.2.2⟩
theorem lay_M (h4 : 4 ≤ ht) (h20 : ht ≤ 20) {I : Nat → Int32} {A : Nat → Nat → Int32} {J : Nat → Nat → Int64} (h : RS F R oc I A J) {k r b : Nat} (hk : k < F.length) (hr : r < rw1 F R k) (hb : bnd ht s) (hL : LM ht s I A) (hf : s.2.1 s.1 + hgt F oc (4 * k + r) ≤ ht) (hx : (b = 0 ∧ s.2.2.1 (4 * k + r) = -1) ∨ (b = 1 ∧ s.2.2.1 (4 * k + r) ≠ -1)) : S_X8_lay ht I A J it dyn (nI k) (nI r) (nI b) ∧ LM ht (aput k r (hgt F oc (4 * k + r)) s) (L_X8_lay_I ht I A J it dyn (nI k) (nI r) (nI b)) (L_X8_lay_A ht I A J it dyn (nI k) (nI r) (nI b)) ∧ fM I A J (L_X8_lay_I ht I A J it dyn (nI k) (nI r) (nI b)) (L_X8_lay_A ht I A J it dyn (nI k) (nI r) (nI b)) (L_X8_lay_J ht I A J it dyn (nI k) (nI r) (nI b)) := by
  have hl := h.1.1.1
  obtain ⟨_, _, r3⟩ := rowsOf_M (ht := ht) (it := it) (dyn := dyn) h.1 hk
  obtain ⟨q1, q2, q3, q4, q5⟩ := lines_M (ht := ht) (it := it) (dyn := dyn) h hk hr
  obtain ⟨l1, l2, l3, l4, l5, l6⟩ := hL
  have hg3 := hgt_3 h.1.1 oc (4 * k + r)
  generalize hn : hgt F oc (4 * k + r) = n at *
  have hcell : 4 * k + r < 64 := by omega
  have e4 : (4 : Int32) * nI k + nI r = nI (4 * k + r) := by rw [iL 4, nI_mul, nI_add]
  have e8 : (8 : Int32) * nI k + nI r = nI (8 * k + r) := by rw [iL 8, nI_mul, nI_add]
  have zn : (nI n ≤ 0) ↔ n = 0 := by rw [iL 0, nI_leI (by omega) (by omega)]; omega
  have zb : (nI b = 0) ↔ b = 0 := nI01 (by omega)
  have e32 : (32 : Int32) * nI s.1 + nI (s.2.1 s.1) = nI (32 * s.1 + s.2.1 s.1) := by rw [iL 32, nI_mul, nI_add]
  unfold S_X8_lay L_X8_lay_I L_X8_lay_A L_X8_lay_J
  rw [q2]
  simp only [zn, zb, e4, nI_clamp (show 4 * k + r < 2 ^ 31 by omega), l1, l3, e32]
  generalize L_X8_linesOf_A ht I A J it dyn (nI k) (nI r) = A0 at *
  generalize L_X8_linesOf_J ht I A J it dyn (nI k) (nI r) = J0 at *
  have key : ∀ A1 : Nat → Nat → Int32, A1 39 = A 39 → (∀ m : Nat, m ≠ 38 → A1 m = A0 m) → (∀ v : Nat, v < 64 → A1 38 v = (aput k r n s).2.2.1 v) → S_Lb_X8_lay_42 70 ht I A1 J0 it dyn (nI k) (nI r) (nI b) (nI n) 0 ∧ LM ht (aput k r n s) (upd (Lb_X8_lay_42_I 70 ht I A1 J0 it dyn (nI k) (nI r) (nI b) (nI n) 0) 19 (if n = 0 then (Lb_X8_lay_42_I 70 ht I A1 J0 it dyn (nI k) (nI r) (nI b) (nI n) 0) 19 else (Lb_X8_lay_42_I 70 ht I A1 J0 it dyn (nI k) (nI r) (nI b) (nI n) 0) 17 + 1)) (Lb_X8_lay_42_A 70 ht I A1 J0 it dyn (nI k) (nI r) (nI b) (nI n) 0) ∧ fM I A J (upd (Lb_X8_lay_42_I 70 ht I A1 J0 it dyn (nI k) (nI r) (nI b) (nI n) 0) 19 (if n = 0 then (Lb_X8_lay_42_I 70 ht I A1 J0 it dyn (nI k) (nI r) (nI b) (nI n) 0) 19 else (Lb_X8_lay_42_I 70 ht I A1 J0 it dyn (nI k) (nI r) (nI b) (nI n) 0) 17 + 1)) (Lb_X8_lay_42_A 70 ht I A1 J0 it dyn (nI k) (nI r) (nI b) (nI n) 0) J0 := by
    intro A1 h39 hm h38
    have r := lp (S := (Nat → Int32) × (Nat → Nat → Int32)) (F := fun m t v => (Lb_X8_lay_42_I m ht t.1 t.2 J0 it dyn (nI k) (nI r) (nI b) (nI n) v, Lb_X8_lay_42_A m ht t.1 t.2 J0 it dyn (nI k) (nI r) (nI b) (nI n) v)) (SF := fun m t v => S_Lb_X8_lay_42 m ht t.1 t.2 J0 it dyn (nI k) (nI r) (nI b) (nI n) v) n
      (fun i t => t.1 18 = nI (s.2.1 s.1 + i) ∧ (∀ q : Nat, q ≠ 18 → t.1 q = I q) ∧ (∀ x : Nat, x < 2560 → t.2 39 x = if 32 * s.1 + s.2.1 s.1 ≤ x ∧ x < 32 * s.1 + s.2.1 s.1 + i then nI (8 * k + r) else A1 39 x) ∧ ∀ m : Nat, m ≠ 39 → t.2 m = A1 m)
      (fun t i => (upd t.1 18 (nI (s.2.1 s.1 + i + 1)), va_up t.2 39 (upd (t.2 39) (32 * s.1 + (s.2.1 s.1 + i)) (nI (8 * k + r))))) ?_ ?_ n 70 0 (I, A1) (by omega) (by omega) ⟨l3, fun _ _ => rfl, fun x _ => by rw [if_neg (by omega)], fun _ _ => rfl⟩
    · dsimp only at r
      obtain ⟨s1, p1, p2, p3, p4⟩ := r
      have s1 : S_Lb_X8_lay_42 70 ht I A1 J0 it dyn (nI k) (nI r) (nI b) (nI n) 0 := s1
      have p1 : (Lb_X8_lay_42_I 70 ht I A1 J0 it dyn (nI k) (nI r) (nI b) (nI n) 0) 18 = nI (s.2.1 s.1 + n) := p1
      have p2 : ∀ q : Nat, q ≠ 18 → (Lb_X8_lay_42_I 70 ht I A1 J0 it dyn (nI k) (nI r) (nI b) (nI n) 0) q = I q := p2
      have p3 : ∀ x : Nat, x < 2560 → (Lb_X8_lay_42_A 70 ht I A1 J0 it dyn (nI k) (nI r) (nI b) (nI n) 0) 39 x = if 32 * s.1 + s.2.1 s.1 ≤ x ∧ x < 32 * s.1 + s.2.1 s.1 + n then nI (8 * k + r) else A1 39 x := p3
      have p4 : ∀ m : Nat, m ≠ 39 → (Lb_X8_lay_42_A 70 ht I A1 J0 it dyn (nI k) (nI r) (nI b) (nI n) 0) m = A1 m := p4
      generalize Lb_X8_lay_42_I 70 ht I A1 J0 it dyn (nI k) (nI r) (nI b) (nI n) 0 = I2 at *
      generalize Lb_X8_lay_42_A 70 ht I A1 J0 it dyn (nI k) (nI r) (nI b) (nI n) 0 = A2 at *
      have etk : (aput k r n s).2.1 (aput k r n s).1 = s.2.1 s.1 + n := by
        show (if s.1 = s.1 then s.2.1 s.1 + n else s.2.1 s.1) = _
        rw [if_pos rfl]
      refine ⟨s1, ⟨?_, l2, ?_, ?_, ?_, ?_⟩, ⟨fun q a b c => ?_, fun m a b c => ?_, q3.2.2⟩⟩
      · rw [upd_n _ _ (by decide), p2 17 (by decide)]; exact l1
      · rw [upd_n _ _ (by decide), p1, etk]
      · rw [upd_s, etk]
        by_cases hn0 : n = 0
        · rw [if_pos hn0, p2 19 (by decide), l4, hn0, Nat.add_zero]; rfl
        · rw [if_neg hn0, p2 17 (by decide), l1, nI_1, if_neg (by omega)]; rfl
      · intro v hv
        rw [p4 38 (by decide)]; exact h38 v hv
      · intro q hq j hj
        rw [p3 _ (by omega), h39, l6 q hq j hj]
        show _ = (if j < (if q = s.1 then s.2.1 q + n else s.2.1 q) then (if q = s.1 ∧ s.2.1 s.1 ≤ j ∧ j < s.2.1 s.1 + n then nI (8 * k + r) else s.2.2.2 q j) else -1)
        by_cases e : q = s.1
        · subst e
          rw [if_pos rfl]
          by_cases e2 : s.2.1 s.1 ≤ j
          · by_cases e3 : j < s.2.1 s.1 + n
            · rw [if_pos (by omega), if_pos e3, if_pos ⟨rfl, e2, e3⟩]
            · rw [if_neg (by omega), if_neg (by omega), if_neg e3]
          · rw [if_neg (by omega), if_pos (by omega), if_pos (by omega), if_neg (by omega)]
        · rw [if_neg e]
          have hb1 := hb.1 s.1
          rw [if_neg (by omega)]
          split
          · rw [if_neg (fun h => e h.1)]
          · rfl
      · rw [upd_n _ _ c, p2 q b]
      · rw [p4 m c, hm m b]; exact q3.2.1 m a b c
    · rintro m ⟨I1, A2⟩ i hi ⟨p1, p2, p3, p4⟩
      left
      dsimp only at p1 p2 p3 p4 ⊢
      have zl : ¬ nI n ≤ nI i := by rw [nI_leI (by omega) (by omega)]; omega
      have ei : (32 : Int32) * nI s.1 + nI (s.2.1 s.1 + i) = nI (32 * s.1 + (s.2.1 s.1 + i)) := by rw [iL 32, nI_mul, nI_add]
      have hlt : 32 * s.1 + (s.2.1 s.1 + i) < 2560 := by omega
      have hin : vp_in (nI (32 * s.1 + (s.2.1 s.1 + i))) 2560 := nI_in hlt (by omega)
      simp only [S_Lb_X8_lay_42, Lb_X8_lay_42_I, Lb_X8_lay_42_A, if_neg zl, p1, p2 17 (by decide), l1, ei, nI_clamp (show 32 * s.1 + (s.2.1 s.1 + i) < 2 ^ 31 by omega), e8, nI_1]
      refine ⟨trivial, ⟨upd_s _ _ _, fun q hq => by rw [upd_n _ _ hq]; exact p2 q hq, fun x hx => ?_, fun m hm => by simp [va_up, hm]; exact p4 m hm⟩, fun hh _ => ⟨hin, hh⟩⟩
      by_cases e : x = 32 * s.1 + (s.2.1 s.1 + i)
      · subst e
        rw [if_pos (by omega)]
        simp [va_up, upd]
      · have : (va_up A2 39 (upd (A2 39) (32 * s.1 + (s.2.1 s.1 + i)) (nI (8 * k + r)))) 39 x = A2 39 x := by simp [va_up, upd, e]
        rw [this, p3 x hx]
        by_cases e2 : 32 * s.1 + s.2.1 s.1 ≤ x ∧ x < 32 * s.1 + s.2.1 s.1 + i
        · rw [if_pos e2, if_pos (by omega)]
        · rw [if_neg e2, if_neg (by omega)]
    · rintro m ⟨I1, A2⟩ hP
      have zl : nI n ≤ nI n := by rw [nI_leI (by omega) (by omega)]; omega
      dsimp only
      simp only [S_Lb_X8_lay_42, Lb_X8_lay_42_I, Lb_X8_lay_42_A, if_pos zl]
      exact ⟨trivial, fun h => absurd zl h⟩
  have hin68 : vp_in (nI (4 * k + r)) 68 := nI_in (by omega) (by omega)
  by_cases hn0 : n = 0
  · obtain ⟨t1, t2, t3⟩ := key A0 q5 (fun _ _ => rfl) (fun v hv => by
      rw [q4, l5 v hv]
      show _ = (if v = 4 * k + r ∧ 0 < n ∧ s.2.2.1 v = -1 then nI (32 * s.1 + s.2.1 s.1) else s.2.2.1 v)
      rw [if_neg (by omega)])
    simp only [if_pos hn0] at t1 t2 t3 ⊢
    exact ⟨⟨q1, fun h => absurd hn0 h, t1⟩, t2, t3⟩
  · rcases hx with ⟨hb0, hpc⟩ | ⟨hb1, hpc⟩
    · obtain ⟨t1, t2, t3⟩ := key (va_up A0 38 (upd (A0 38) (4 * k + r) (nI (32 * s.1 + s.2.1 s.1)))) (by simp [va_up]; exact q5) (fun m hm => by simp [va_up, hm]) (fun v hv => by
        show _ = (if v = 4 * k + r ∧ 0 < n ∧ s.2.2.1 v = -1 then nI (32 * s.1 + s.2.1 s.1) else s.2.2.1 v)
        by_cases e : v = 4 * k + r
        · subst e
          rw [if_pos ⟨rfl, by omega, hpc⟩]
          simp [va_up, upd]
        · rw [if_neg (fun h => e h.1)]
          simp [va_up, upd, e]
          rw [q4]; exact l5 v hv)
      simp only [if_neg hn0, if_pos hb0] at t1 t2 t3 ⊢
      exact ⟨⟨q1, fun _ _ => hin68, t1⟩, t2, t3⟩
    · have hb0 : ¬ b = 0 := by omega
      obtain ⟨t1, t2, t3⟩ := key A0 q5 (fun _ _ => rfl) (fun v hv => by
        rw [q4, l5 v hv]
        show _ = (if v = 4 * k + r ∧ 0 < n ∧ s.2.2.1 v = -1 then nI (32 * s.1 + s.2.1 s.1) else s.2.2.1 v)
        rw [if_neg (fun h => hpc (by rw [← h.1]; exact h.2.2))])
      simp only [if_neg hn0, if_neg hb0] at t1 t2 t3 ⊢
      exact ⟨⟨q1, fun _ h => absurd h hb0, t1⟩, t2, t3⟩
end LM
