/-! WHAT AN EXPRESSION IS WORTH -/
def limd (z : Int64) : Int64 := L_X0_limited_r 0 (fun _ => 0) (fun _ _ => 0) (fun _ _ => 0) (fun _ => none) [] z
def totf (oc : Nat → Int64) : Nat → Nat → Int64 → Int64
  | 0, _, acc => limd acc
  | n + 1, i, acc => if 1000000000000000 < (oc i).toInt then oc i else totf oc n (i + 1) (acc + oc i)
def pv (F : List aItem) (R : Nat) (oc : Nat → Int64) (r : Nat) (q : aPart) (rs : List Int64) : Int64 :=
  if q.1 = 0 then lN q.2.2.2.2
  else if q.1 = 1 then oc (4 * fg F q.2.1 + (if rp F (fg F q.2.1) = 0 then 0 else r))
  else if q.1 = 2 then totf oc R (4 * fg F q.2.1) 0
  else if q.1 = 63 then (if 1000000000000000 < (rs.getD q.2.1 0).toInt then rs.getD q.2.1 0 else if rs.getD q.2.1 0 = 0 then rs.getD q.2.2.2.1 0 else rs.getD q.2.2.1 0)
  else opv q.1 (rs.getD q.2.1 0) (rs.getD q.2.2.1 0)
def evs (F : List aItem) (R : Nat) (oc : Nat → Int64) (r : Nat) (l : List aPart) (rs : List Int64) : List Int64 := l.foldl (fun rs q => rs ++ [pv F R oc r q rs]) rs
def val (F : List aItem) (R : Nat) (oc : Nat → Int64) (r : Nat) (l : List aPart) : Int64 := (evs F R oc r l []).getD (l.length - 1) 0
def okO (o : Int64) : Prop := ∃ (v : Int64) (f : Int32), OC o v f
section EV
variable {F : List aItem} {R : Nat} {oc oc' : Nat → Int64} {r : Nat}
theorem evs_a (l1 l2 : List aPart) (rs : List Int64) : evs F R oc r (l1 ++ l2) rs = evs F R oc r l2 (evs F R oc r l1 rs) := List.foldl_append
theorem evs_1 (q : aPart) (rs : List Int64) : evs F R oc r [q] rs = rs ++ [pv F R oc r q rs] := rfl
theorem evs_p : ∀ (l : List aPart) (rs : List Int64), ∃ ws, evs F R oc r l rs = rs ++ ws ∧ ws.length = l.length := by
  intro l
  induction l with
  | nil => intro rs; exact ⟨[], by simp [evs], rfl⟩
  | cons q l ih =>
    intro rs
    obtain ⟨ws, e, h⟩ := ih (rs ++ [pv F R oc r q rs])
    refine ⟨pv F R oc r q rs :: ws, ?_, by simp [h]⟩
    have : evs F R oc r (q :: l) rs = evs F R oc r l (rs ++ [pv F R oc r q rs]) := rfl
    rw [this, e]
    simp
theorem evs_l (l : List aPart) (rs : List Int64) : (evs F R oc r l rs).length = rs.length + l.length := by
  obtain ⟨ws, e, h⟩ := evs_p (F := F) (R := R) (oc := oc) (r := r) l rs
  rw [e]; simp [h]
theorem evs_g (l : List aPart) (rs : List Int64) {i : Nat} (hi : i < rs.length) : (evs F R oc r l rs).getD i 0 = rs.getD i 0 := by
  obtain ⟨ws, e, h⟩ := evs_p (F := F) (R := R) (oc := oc) (r := r) l rs
  rw [e, List.getD_eq_getElem?_getD, List.getD_eq_getElem?_getD, List.getElem?_append_left hi]
theorem getD_last (rs : List Int64) (x : Int64) : (rs ++ [x]).getD rs.length 0 = x := by
  rw [List.getD_eq_getElem?_getD]; simp
theorem getD_last' {rs : List Int64} {n : Nat} (h : rs.length = n) (x : Int64) : (rs ++ [x]).getD n 0 = x := by
  subst h; exact getD_last rs x
theorem evs_s (q : aPart) (l : List aPart) (rs : List Int64) : evs F R oc r (q :: l) rs = evs F R oc r l (rs ++ [pv F R oc r q rs]) := by
  unfold evs
  rw [List.foldl_cons]
theorem evs_n (rs : List Int64) : evs F R oc r [] rs = rs := List.foldl_nil
theorem okO_0 : okO 0 := ⟨0, 0, OC_in (by decide) (by decide)⟩
theorem okO_lim (z : Int64) : okO (limd z) := ⟨_, _, lim_C z⟩
theorem okO_tot (h : ∀ u : Nat, okO (oc u)) : ∀ (n i : Nat) (acc : Int64), okO (totf oc n i acc) := by
  intro n
  induction n with
  | zero => intro i acc; exact okO_lim _
  | succ n ih =>
    intro i acc
    unfold totf
    split
    · exact h i
    · exact ih _ _
theorem okO_opv {s : Nat} (hs : opS s) {x y : Int64} (hx : okO x) (hy : okO y) : okO (opv s x y) := by
  obtain ⟨v1, f1, o1⟩ := hx
  obtain ⟨v2, f2, o2⟩ := hy
  obtain ⟨v, f, o, _⟩ := worked_M (ht := 0) (I := fun _ => 0) (A := fun _ i => if i = 0 then f1 else f2) (J := fun _ i => if i = 0 then v1 else v2) (it := fun _ => none) (dyn := []) (j := 0) (a := 0) (b := 1) (by decide) (by decide) (by decide) hs (by simpa using o1) (by simpa using o2)
  exact ⟨v, f, o⟩
theorem okO_lN {v : Nat} (h : v < 10 ^ 9) : okO (lN v) := ⟨lN v, 0, OC_in (by rw [pk_lT (by omega)]; omega) (by rw [pk_lT (by omega)]; omega)⟩
def okq (q : aPart) : Prop := (q.1 = 0 ∨ q.1 = 1 ∨ q.1 = 2 ∨ opS q.1 ∨ q.1 = 63) ∧ (q.1 = 0 → q.2.2.2.2 < 10 ^ 9)
theorem okO_g {rs : List Int64} (h : ∀ x ∈ rs, okO x) (i : Nat) : okO (rs.getD i 0) := by
  rw [List.getD_eq_getElem?_getD]
  cases e : rs[i]? with
  | none => exact okO_0
  | some x => exact h x (List.mem_of_getElem? e)
theorem okO_pv (h : ∀ u : Nat, okO (oc u)) {q : aPart} (hq : okq q) {rs : List Int64} (hr : ∀ x ∈ rs, okO x) : okO (pv F R oc r q rs) := by
  unfold pv
  by_cases h0 : q.1 = 0
  · rw [if_pos h0]; exact okO_lN (hq.2 h0)
  · rw [if_neg h0]
    by_cases h1 : q.1 = 1
    · rw [if_pos h1]; exact h _
    · rw [if_neg h1]
      by_cases h2 : q.1 = 2
      · rw [if_pos h2]; exact okO_tot h _ _ _
      · rw [if_neg h2]
        by_cases h3 : q.1 = 63
        · rw [if_pos h3]
          split
          · exact okO_g hr _
          · split
            · exact okO_g hr _
            · exact okO_g hr _
        · rw [if_neg h3]
          have hs : opS q.1 := by
            rcases hq.1 with e | e | e | e | e
            · exact absurd e h0
            · exact absurd e h1
            · exact absurd e h2
            · exact e
            · exact absurd e h3
          exact okO_opv hs (okO_g hr _) (okO_g hr _)
theorem okO_evs (h : ∀ u : Nat, okO (oc u)) : ∀ (l : List aPart) (rs : List Int64), (∀ q ∈ l, okq q) → (∀ x ∈ rs, okO x) → ∀ x ∈ evs F R oc r l rs, okO x := by
  intro l
  induction l with
  | nil => intro rs _ hr; exact hr
  | cons q l ih =>
    intro rs hq hr
    have : evs F R oc r (q :: l) rs = evs F R oc r l (rs ++ [pv F R oc r q rs]) := rfl
    rw [this]
    refine ih _ (fun p hp => hq p (List.mem_cons_of_mem _ hp)) (fun x hx => ?_)
    rcases List.mem_append.mp hx with hx | hx
    · exact hr x hx
    · simp at hx
      subst hx
      exact okO_pv h (hq q (List.mem_cons_self ..)) hr
theorem totf_c : ∀ (n i : Nat) (acc : Int64), (∀ u : Nat, i ≤ u → u < i + n → oc u = oc' u) → totf oc n i acc = totf oc' n i acc := by
  intro n
  induction n with
  | zero => intro i acc _; rfl
  | succ n ih =>
    intro i acc h
    unfold totf
    rw [h i (by omega) (by omega)]
    split
    · rfl
    · exact ih _ _ (fun u a b => h u (by omega) (by omega))
theorem pv_c {q : aPart} {rs : List Int64} (h : ∀ u : Nat, nmd F R r q u → oc u = oc' u) : pv F R oc r q rs = pv F R oc' r q rs := by
  unfold pv
  by_cases h0 : q.1 = 0
  · rw [if_pos h0, if_pos h0]
  · rw [if_neg h0, if_neg h0]
    by_cases h1 : q.1 = 1
    · rw [if_pos h1, if_pos h1]; exact h _ (Or.inl ⟨h1, rfl⟩)
    · rw [if_neg h1, if_neg h1]
      by_cases h2 : q.1 = 2
      · rw [if_pos h2, if_pos h2]
        exact totf_c _ _ _ (fun u a b => h u (Or.inr ⟨h2, u - 4 * fg F q.2.1, by omega, by omega⟩))
      · rw [if_neg h2, if_neg h2]
theorem evs_c : ∀ (l : List aPart) (rs : List Int64), (∀ u : Nat, nmL F R r l u → oc u = oc' u) → evs F R oc r l rs = evs F R oc' r l rs := by
  intro l
  induction l with
  | nil => intro rs _; rw [evs_n, evs_n]
  | cons q l ih =>
    intro rs h
    have e := pv_c (F := F) (R := R) (r := r) (oc := oc) (oc' := oc') (q := q) (rs := rs) (fun u hu => h u ⟨q, List.mem_cons_self .., hu⟩)
    rw [evs_s, evs_s, e]
    refine ih _ (fun u hu => ?_)
    obtain ⟨p, hp, h2⟩ := hu
    exact h u ⟨p, List.mem_cons_of_mem _ hp, h2⟩
theorem val_c {l : List aPart} (h : ∀ u : Nat, nmL F R r l u → oc u = oc' u) : val F R oc r l = val F R oc' r l := by
  unfold val
  rw [evs_c l [] h]
end EV
section WT
variable {ht : Nat} {F : List aItem} {R : Nat} {I : Nat → Int32} {A : Nat → Nat → Int32} {J : Nat → Nat → Int64} {it : Nat → Option Nat} {dyn : fsH}
theorem has_C (h : CF F R I it dyn) {k r : Nat} (hk : k < 2 ^ 31) (hr : r < 2 ^ 31) : (L_X1_has_r ht I A J it dyn (nI k) (nI r) = 0 ↔ ¬ r < rw1 F R k) ∧ S_X1_has ht I A J it dyn (nI k) (nI r) ∧ (L_X1_has_r ht I A J it dyn (nI k) (nI r) = 0 ∨ L_X1_has_r ht I A J it dyn (nI k) (nI r) = 1) := by
  obtain ⟨_, _, r3, r4, _, r6⟩ := rep_C (ht := ht) (A := A) (J := J) h hk
  have z0 : ¬ nI r < 0 := by rw [iL 0, nI_ltI hr (by omega)]; omega
  unfold L_X1_has_r S_X1_has
  rw [if_neg z0, r3]
  simp (disch := omega) only [nI_leI]
  refine ⟨?_, fun _ => r4, ?_⟩
  · by_cases h1 : rw1 F R k ≤ r
    · rw [if_pos h1]; exact ⟨fun _ => by omega, fun _ => rfl⟩
    · rw [if_neg h1]; exact ⟨fun h2 => absurd h2 (by decide), fun h2 => by omega⟩
  · split
    · exact Or.inl rfl
    · exact Or.inr rfl
theorem outc_C (h : CF F R I it dyn) {k r : Nat} (hk : k < F.length) (hr : r < rw1 F R k) : L_X6_outcomeOf_r ht I A J it dyn (nI k) (nI r) = J 6 (4 * k + r) ∧ S_X6_outcomeOf ht I A J it dyn (nI k) (nI r) := by
  have hl := h.1.1
  obtain ⟨_, _, _, _, _, r6⟩ := rep_C (ht := ht) (A := A) (J := J) h (k := k) (by omega)
  obtain ⟨h1, h2, _⟩ := has_C (ht := ht) (A := A) (J := J) h (k := k) (r := r) (by omega) (by omega)
  have hn : ¬ L_X1_has_r ht I A J it dyn (nI k) (nI r) = 0 := fun h3 => h1.mp h3 hr
  unfold L_X6_outcomeOf_r S_X6_outcomeOf
  rw [if_neg hn, cellOf_C, nI_clamp (by omega)]
  exact ⟨rfl, h2, fun _ => nI_in (by omega) (by omega)⟩
theorem tot_W (h : CF F R I it dyn) {g : Nat} (hg : g < F.length) (hr : rp F g = 1) : ∀ (m n i : Nat) (acc : Int64), i + m = R → m < n → La_X6_total_5_r n ht I A J it dyn (nI g) acc (nI i) = totf (J 6) m (4 * g + i) acc ∧ S_La_X6_total_5 n ht I A J it dyn (nI g) acc (nI i) := by
  have hl := h.1.1
  have hR := h.2.2.2.2
  obtain ⟨_, _, r3, r4, _, _⟩ := rep_C (ht := ht) (A := A) (J := J) h (k := g) (by omega)
  have er : rw1 F R g = R := by unfold rw1; rw [if_pos hg, if_neg (by omega)]
  rw [er] at r3
  intro m
  induction m with
  | zero =>
    intro n i acc hm hn
    obtain ⟨n, rfl⟩ : ∃ n', n = n' + 1 := ⟨n - 1, by omega⟩
    have zl : nI R ≤ nI i := by rw [nI_leI (by omega) (by omega)]; omega
    simp only [La_X6_total_5_r, S_La_X6_total_5, r3, if_pos zl]
    exact ⟨rfl, r4, fun h => absurd zl h⟩
  | succ m ih =>
    intro n i acc hm hn
    obtain ⟨n, rfl⟩ : ∃ n', n = n' + 1 := ⟨n - 1, by omega⟩
    have zl : ¬ nI R ≤ nI i := by rw [nI_leI (by omega) (by omega)]; omega
    have hin : vp_in (nI (4 * g + i)) 64 := nI_in (by omega) (by omega)
    simp only [La_X6_total_5_r, S_La_X6_total_5, r3, if_neg zl, cellOf_C, nI_clamp (show 4 * g + i < 2 ^ 31 by omega), isF_C, nI_1]
    unfold totf
    obtain ⟨i1, i2⟩ := ih n (i + 1) (acc + J 6 (4 * g + i)) (by omega) (by omega)
    by_cases hf : 1000000000000000 < (J 6 (4 * g + i)).toInt
    · have hnn : ¬ ¬ 1000000000000000 < (J 6 (4 * g + i)).toInt := fun h => h hf
      rw [if_neg hnn, if_pos hf]
      exact ⟨rfl, r4, fun _ => ⟨hin, fun h => absurd hf h⟩⟩
    · rw [if_pos hf, if_neg hf, i1]
      exact ⟨rfl, r4, fun _ => ⟨hin, fun _ => i2⟩⟩
theorem wor_C (hC : CF F R I it dyn) (hoc : ∀ u : Nat, okO (J 6 u)) {rep D r : Nat} (hr4 : r < 4) (hrep : rep = 1 → r < R) : ∀ (n P : Nat) (l : List aPart) (m : Nat) (rs : List Int64), PT n P l → n < m → pcR F D P l dyn → nOKL F rep l → rs.length = P → (∀ x ∈ rs, okO x) →
    (T_X6_worth m ht I A J it dyn (some (D + P + (l.length - 1) + 41)) (nI r)).2 ∧ (T_X6_worth m ht I A J it dyn (some (D + P + (l.length - 1) + 41)) (nI r)).1 = (evs F R (J 6) r l rs).getD (P + l.length - 1) 0 := by
  have hl := hC.1.1
  intro n
  induction n with
  | zero => intro P l m rs h; exact absurd h id
  | succ n ih =>
    intro P l m rs h hm hp hok hrs hro
    obtain ⟨m, rfl⟩ : ∃ n', m = n' + 1 := ⟨m - 1, by omega⟩
    have hokq : ∀ q ∈ l, okq q := fun q hq => ⟨(PT_q h q hq).2.1, (PT_q h q hq).2.2⟩
    rcases h with ⟨v, _, rfl⟩ | ⟨o, nm, ho, hn1, hn2, rfl⟩ | ⟨s, l1, l2, hs, h1, h2, rfl⟩ | ⟨l1, l2, l3, h1, h2, h3, rfl⟩
    · obtain ⟨i, hi, _⟩ := hp 0 _ rfl
      have hi : dyn[D + P]? = some (pcellI D (0, 0, 0, 0, v) i) := hi
      obtain ⟨p1, p2, p3, p4, p5, _⟩ := pc_ok hi
      have p2 : fs_dI dyn (some (D + P + 41)) 0 = 48 := p2
      have p5 : fs_dJ dyn (some (D + P + 41)) 1 = lN v := p5
      show (T_X6_worth (m + 1) ht I A J it dyn (some (D + P + 41)) (nI r)).2 ∧ (T_X6_worth (m + 1) ht I A J it dyn (some (D + P + 41)) (nI r)).1 = _
      rw [T_X6_worth, evs_1, show P + [((0, 0, 0, 0, v) : aPart)].length - 1 = rs.length by simp [hrs], getD_last]
      unfold L_X6_worth_st_r S_X6_worth_st
      have c1 : ¬ (48 : Int32) = 35 := by decide
      simp only [reduceCtorEq, if_false, p2, if_neg c1, if_true, p5]
      exact ⟨fun _ => ⟨p1, fun h => absurd h c1, fun _ => ⟨fun _ => p1, fun h => absurd trivial h⟩⟩, by simp [pv]⟩
    · obtain ⟨i, hi, he⟩ := hp 0 _ rfl
      have hi : dyn[D + P]? = some (pcellI D (o, nm, 0, 0, 0) i) := hi
      obtain ⟨p1, p2, p3, p4, _⟩ := pc_ok hi
      obtain ⟨g1, g2, g3, g4, g5⟩ := nOK_g hl (nOKL_1.mp hok) ho
      simp only at g1 g2 g3 g4 g5
      have e6 : fs_dI dyn (some (D + P + 41)) 6 = nI (fg F nm) := by rw [p4, he ho]; exact g1
      obtain ⟨q1, q2, _, _, q5, _⟩ := rep_C (ht := ht) (A := A) (J := J) hC (k := fg F nm) (by omega)
      show (T_X6_worth (m + 1) ht I A J it dyn (some (D + P + 41)) (nI r)).2 ∧ (T_X6_worth (m + 1) ht I A J it dyn (some (D + P + 41)) (nI r)).1 = _
      rw [T_X6_worth, evs_1, show P + [((o, nm, 0, 0, 0) : aPart)].length - 1 = rs.length by simp [hrs], getD_last]
      unfold L_X6_worth_st_r S_X6_worth_st
      rcases ho with rfl | rfl
      · have c0 : fs_dI dyn (some (D + P + 41)) 0 = 97 := by rw [p2]; simp
        have c1 : ¬ (97 : Int32) = 35 := by decide
        have c2 : ¬ (97 : Int32) = 48 := by decide
        have erow : (if L_X1_repeats_r ht I A J it dyn (nI (fg F nm)) = 0 then (0 : Int32) else nI r) = nI (if rp F (fg F nm) = 0 then 0 else r) := by
          rw [q1]
          by_cases h0 : rp F (fg F nm) = 0
          · rw [if_pos h0, if_pos (by rw [h0]; rfl)]; rfl
          · rw [if_neg h0, if_neg (by rw [nI01 q5]; exact h0)]
        have hrow : (if rp F (fg F nm) = 0 then 0 else r) < rw1 F R (fg F nm) := by
          unfold rw1
          rw [if_pos g2]
          by_cases h0 : rp F (fg F nm) = 0
          · rw [if_pos h0, if_pos h0]; omega
          · rw [if_neg h0, if_neg h0]; exact hrep (g5 rfl (by omega))
        obtain ⟨o1, o2⟩ := outc_C (ht := ht) (A := A) (J := J) hC g2 hrow
        simp only [reduceCtorEq, if_false, c0, if_neg c1, if_neg c2, if_true, e6, erow, o1]
        refine ⟨fun _ => ⟨p1, fun h => absurd h c1, fun _ => ⟨fun h => absurd h c2, fun _ => ⟨fun _ => ⟨p1, p1, q2, o2⟩, fun h => absurd trivial h⟩⟩⟩, by simp [pv]⟩
      · have c0 : fs_dI dyn (some (D + P + 41)) 0 = 35 := by rw [p2]; simp
        obtain ⟨t1, t2⟩ := tot_W (ht := ht) (A := A) (J := J) hC g2 (g4 rfl) R 70 0 0 (by omega) (by have := hC.2.2.2.2; omega)
        have t1 : L_X6_total_r ht I A J it dyn (nI (fg F nm)) = totf (J 6) R (4 * fg F nm) 0 := t1
        have t2 : S_X6_total ht I A J it dyn (nI (fg F nm)) := t2
        simp only [reduceCtorEq, if_false, c0, if_true, e6, t1]
        refine ⟨fun _ => ⟨p1, fun _ => ⟨p1, t2⟩, fun h => absurd trivial h⟩, by simp [pv]⟩
    · have e1 := PT_ne h1
      have e2 := PT_ne h2
      obtain ⟨z0, z1, z2, z97, z35, _⟩ := opS_ne (Or.inl hs)
      have hs63 : s ≠ 63 := by unfold opS at hs; omega
      have z63 : ¬ nI s = 63 := by unfold opS at hs; rcases hs with rfl | rfl | rfl | rfl | rfl | rfl <;> decide
      have z48 : ¬ nI s = 48 := by unfold opS at hs; rcases hs with rfl | rfl | rfl | rfl | rfl | rfl <;> decide
      obtain ⟨i, hi, _⟩ := hp (l1.length + l2.length) (s, P + l1.length - 1, P + l1.length + l2.length - 1, 0, 0) (by rw [List.getElem?_append_right (by simp)]; simp)
      have hlen : (l1 ++ l2 ++ [(s, P + l1.length - 1, P + l1.length + l2.length - 1, 0, 0)]).length - 1 = l1.length + l2.length := by simp
      have hlen2 : P + (l1 ++ l2 ++ [(s, P + l1.length - 1, P + l1.length + l2.length - 1, 0, 0)]).length - 1 = P + l1.length + l2.length := by simp; omega
      rw [hlen, hlen2]
      obtain ⟨p1, p2, _, _, _, p6, p7, p8⟩ := pc_ok hi
      have p2 : fs_dI dyn (some (D + P + (l1.length + l2.length) + 41)) 0 = nI s := by rw [p2]; simp [z0, z1, z2]
      have p6 : fs_dR dyn (some (D + P + (l1.length + l2.length) + 41)) 3 = some (D + P + (l1.length - 1) + 41) := by rw [p6]; simp only [if_neg z0, if_neg z1, if_neg z2]; congr 1; omega
      have p7 : fs_dR dyn (some (D + P + (l1.length + l2.length) + 41)) 4 = some (D + (P + l1.length) + (l2.length - 1) + 41) := by rw [p7]; simp only [if_neg z0, if_neg z1, if_neg z2]; congr 1; omega
      have hp12 := pcR_l hp
      have hok12 := (nOKL_a.mp hok).1
      have hq1 : ∀ q ∈ l1, okq q := fun q hq => hokq q (by simp [hq])
      have hq2 : ∀ q ∈ l2, okq q := fun q hq => hokq q (by simp [hq])
      obtain ⟨a1, a2⟩ := ih P l1 m rs h1 (by omega) (pcR_l hp12) (nOKL_a.mp hok12).1 hrs hro
      have hr1 := okO_evs (F := F) (R := R) (r := r) hoc l1 rs hq1 hro
      have hl1 : (evs F R (J 6) r l1 rs).length = P + l1.length := by rw [evs_l, hrs]
      obtain ⟨b1, b2⟩ := ih (P + l1.length) l2 m (evs F R (J 6) r l1 rs) h2 (by omega) (pcR_r hp12) (nOKL_a.mp hok12).2 hl1 hr1
      have hr2 := okO_evs (F := F) (R := R) (r := r) hoc l2 _ hq2 hr1
      have hl2 : (evs F R (J 6) r l2 (evs F R (J 6) r l1 rs)).length = P + l1.length + l2.length := by rw [evs_l, hl1]
      rw [evs_a, evs_a, evs_1]
      rw [getD_last' hl2]
      have ga : (evs F R (J 6) r l2 (evs F R (J 6) r l1 rs)).getD (P + l1.length - 1) 0 = (T_X6_worth m ht I A J it dyn (some (D + P + (l1.length - 1) + 41)) (nI r)).1 := by
        rw [evs_g l2 _ (by omega), a2]
      generalize evs F R (J 6) r l2 (evs F R (J 6) r l1 rs) = rs2 at *
      have ox : okO (T_X6_worth m ht I A J it dyn (some (D + P + (l1.length - 1) + 41)) (nI r)).1 := by rw [← ga]; exact okO_g hr2 _
      have oy : okO (T_X6_worth m ht I A J it dyn (some (D + (P + l1.length) + (l2.length - 1) + 41)) (nI r)).1 := by rw [b2]; exact okO_g hr2 _
      rw [T_X6_worth]
      unfold L_X6_worth_st_r S_X6_worth_st pv opv
      simp only [reduceCtorEq, if_false, p2, p6, p7, if_neg z35, if_neg z48, if_neg z97, if_neg z63, if_neg z0, if_neg z1, if_neg z2, if_neg hs63, ga, ← b2, isF_C, oper_eq]
      generalize (T_X6_worth m ht I A J it dyn (some (D + P + (l1.length - 1) + 41)) (nI r)).1 = x at *
      generalize (T_X6_worth m ht I A J it dyn (some (D + (P + l1.length) + (l2.length - 1) + 41)) (nI r)).1 = y at *
      refine ⟨fun _ => ⟨p1, fun h => absurd h z35, fun _ => ⟨fun h => absurd h z48, fun _ => ⟨fun h => absurd h z97, fun _ => ⟨p1, a1, fun hf => ⟨p1, fun h => absurd h z63, fun _ => ⟨p1, b1, fun hf2 => ⟨p1, ?_⟩⟩⟩⟩⟩⟩⟩, ?_⟩
      · obtain ⟨vx, fx, ox⟩ := ox
        obtain ⟨vy, fy, oy⟩ := oy
        have fx0 : fx = 0 := Classical.byContradiction fun h => hf ((OC_F ox).mpr h)
        have fy0 : fy = 0 := Classical.byContradiction fun h => hf2 ((OC_F oy).mpr h)
        subst fx0
        subst fy0
        obtain ⟨e1, x1, x2⟩ := OC_0 ox
        obtain ⟨e2, y1, y2⟩ := OC_0 oy
        subst e1
        subst e2
        exact oper_S x1 x2 y1 y2
      · by_cases hf : 1000000000000000 < x.toInt
        · have hnn : ¬ ¬ 1000000000000000 < x.toInt := fun h => h hf
          rw [if_neg hnn, if_pos hf]
        · rw [if_pos hf, if_neg hf]
          by_cases hf2 : 1000000000000000 < y.toInt
          · have hnn : ¬ ¬ 1000000000000000 < y.toInt := fun h => h hf2
            rw [if_neg hnn, if_pos hf2]
          · rw [if_pos hf2, if_neg hf2]
    · have e1 := PT_ne h1
      have e2 := PT_ne h2
      have e3 := PT_ne h3
      have z0 : ¬ (63 : Nat) = 0 := by decide
      have z1 : ¬ (63 : Nat) = 1 := by decide
      have z2 : ¬ (63 : Nat) = 2 := by decide
      obtain ⟨i, hi, _⟩ := hp (l1.length + l2.length + l3.length) (63, P + l1.length - 1, P + l1.length + l2.length - 1, P + l1.length + l2.length + l3.length - 1, 0) (by rw [show l1.length + l2.length + l3.length = (l1 ++ l2 ++ l3).length by simp [Nat.add_assoc]]; exact last_get _ _)
      have hlen : (l1 ++ l2 ++ l3 ++ [(63, P + l1.length - 1, P + l1.length + l2.length - 1, P + l1.length + l2.length + l3.length - 1, 0)]).length - 1 = l1.length + l2.length + l3.length := by simp; omega
      have hlen2 : P + (l1 ++ l2 ++ l3 ++ [(63, P + l1.length - 1, P + l1.length + l2.length - 1, P + l1.length + l2.length + l3.length - 1, 0)]).length - 1 = P + l1.length + l2.length + l3.length := by simp; omega
      rw [hlen, hlen2]
      obtain ⟨p1, p2, _, _, _, p6, p7, p8⟩ := pc_ok hi
      have p2 : fs_dI dyn (some (D + P + (l1.length + l2.length + l3.length) + 41)) 0 = 63 := by rw [p2]; rfl
      have p6 : fs_dR dyn (some (D + P + (l1.length + l2.length + l3.length) + 41)) 3 = some (D + P + (l1.length - 1) + 41) := by rw [p6]; simp only [if_neg z0, if_neg z1, if_neg z2]; congr 1; omega
      have p7 : fs_dR dyn (some (D + P + (l1.length + l2.length + l3.length) + 41)) 4 = some (D + (P + l1.length) + (l2.length - 1) + 41) := by rw [p7]; simp only [if_neg z0, if_neg z1, if_neg z2]; congr 1; omega
      have p8 : fs_dR dyn (some (D + P + (l1.length + l2.length + l3.length) + 41)) 5 = some (D + (P + l1.length + l2.length) + (l3.length - 1) + 41) := by rw [p8]; simp only [if_true]; congr 1; omega
      have hp123 := pcR_l hp
      have hp12 := pcR_l hp123
      have hok123 := (nOKL_a.mp hok).1
      have hok12 := (nOKL_a.mp hok123).1
      have hp3 := pcR_r hp123
      rw [List.length_append, ← Nat.add_assoc] at hp3
      have hq1 : ∀ q ∈ l1, okq q := fun q hq => hokq q (by simp [hq])
      have hq2 : ∀ q ∈ l2, okq q := fun q hq => hokq q (by simp [hq])
      have hq3 : ∀ q ∈ l3, okq q := fun q hq => hokq q (by simp [hq])
      obtain ⟨a1, a2⟩ := ih P l1 m rs h1 (by omega) (pcR_l hp12) (nOKL_a.mp hok12).1 hrs hro
      have hr1 := okO_evs (F := F) (R := R) (r := r) hoc l1 rs hq1 hro
      have hl1 : (evs F R (J 6) r l1 rs).length = P + l1.length := by rw [evs_l, hrs]
      obtain ⟨b1, b2⟩ := ih (P + l1.length) l2 m (evs F R (J 6) r l1 rs) h2 (by omega) (pcR_r hp12) (nOKL_a.mp hok12).2 hl1 hr1
      have hr2 := okO_evs (F := F) (R := R) (r := r) hoc l2 _ hq2 hr1
      have hl2 : (evs F R (J 6) r l2 (evs F R (J 6) r l1 rs)).length = P + l1.length + l2.length := by rw [evs_l, hl1]
      obtain ⟨c1, c2⟩ := ih (P + l1.length + l2.length) l3 m (evs F R (J 6) r l2 (evs F R (J 6) r l1 rs)) h3 (by omega) hp3 (nOKL_a.mp hok123).2 hl2 hr2
      have hl3 : (evs F R (J 6) r l3 (evs F R (J 6) r l2 (evs F R (J 6) r l1 rs))).length = P + l1.length + l2.length + l3.length := by rw [evs_l, hl2]
      rw [evs_a, evs_a, evs_a, evs_1]
      rw [getD_last' hl3]
      have ga : (evs F R (J 6) r l3 (evs F R (J 6) r l2 (evs F R (J 6) r l1 rs))).getD (P + l1.length - 1) 0 = (T_X6_worth m ht I A J it dyn (some (D + P + (l1.length - 1) + 41)) (nI r)).1 := by
        rw [evs_g l3 _ (by omega), evs_g l2 _ (by omega), a2]
      have gb : (evs F R (J 6) r l3 (evs F R (J 6) r l2 (evs F R (J 6) r l1 rs))).getD (P + l1.length + l2.length - 1) 0 = (T_X6_worth m ht I A J it dyn (some (D + (P + l1.length) + (l2.length - 1) + 41)) (nI r)).1 := by
        rw [evs_g l3 _ (by omega), b2]
      generalize evs F R (J 6) r l3 (evs F R (J 6) r l2 (evs F R (J 6) r l1 rs)) = rs3 at *
      have k35 : ¬ (63 : Int32) = 35 := by decide
      have k48 : ¬ (63 : Int32) = 48 := by decide
      have k97 : ¬ (63 : Int32) = 97 := by decide
      rw [T_X6_worth]
      unfold L_X6_worth_st_r S_X6_worth_st pv
      simp only [reduceCtorEq, if_false, p2, p6, p7, p8, if_neg k35, if_neg k48, if_neg k97, if_true, if_neg z0, if_neg z1, if_neg z2, ga, gb, ← c2, isF_C, lg_cmp_eq]
      by_cases hf : 1000000000000000 < (T_X6_worth m ht I A J it dyn (some (D + P + (l1.length - 1) + 41)) (nI r)).1.toInt
      · have hnn : ¬ ¬ 1000000000000000 < (T_X6_worth m ht I A J it dyn (some (D + P + (l1.length - 1) + 41)) (nI r)).1.toInt := fun h => h hf
        simp only [if_pos hf, if_neg hnn]
        exact ⟨fun _ => ⟨p1, fun h => absurd h k35, fun _ => ⟨fun h => absurd h k48, fun _ => ⟨fun h => absurd h k97, fun _ => ⟨p1, a1, fun h => absurd hf h⟩⟩⟩⟩, trivial⟩
      · simp only [if_pos hf, if_neg hf]
        by_cases hx0 : (T_X6_worth m ht I A J it dyn (some (D + P + (l1.length - 1) + 41)) (nI r)).1 = 0
        · simp only [if_pos hx0]
          exact ⟨fun _ => ⟨p1, fun h => absurd h k35, fun _ => ⟨fun h => absurd h k48, fun _ => ⟨fun h => absurd h k97, fun _ => ⟨p1, a1, fun _ => ⟨p1, fun _ => ⟨⟨fun _ => p1, fun _ => p1⟩, c1⟩, fun h => absurd trivial h⟩⟩⟩⟩⟩, trivial⟩
        · simp only [if_neg hx0]
          exact ⟨fun _ => ⟨p1, fun h => absurd h k35, fun _ => ⟨fun h => absurd h k48, fun _ => ⟨fun h => absurd h k97, fun _ => ⟨p1, a1, fun _ => ⟨p1, fun _ => ⟨⟨fun _ => p1, fun _ => p1⟩, b1⟩, fun h => absurd trivial h⟩⟩⟩⟩⟩, trivial⟩
end WT
