/-! THE ORDER -/
theorem nd_len : ∀ (n : Nat) (l : List Nat), l.Nodup → (∀ x ∈ l, x < n) → l.length ≤ n := by
  intro n
  induction n with
  | zero =>
    intro l _ h
    cases l with
    | nil => simp
    | cons a l => exact absurd (h a (List.mem_cons_self ..)) (by omega)
  | succ n ih =>
    intro l hn h
    have h2 := ih (l.filter (fun x => decide (x ≠ n))) (hn.filter _) (fun x hx => by
      obtain ⟨a, b⟩ := List.mem_filter.mp hx
      have := h x a
      simp at b
      omega)
    have h3 : ∀ m : List Nat, m.Nodup → m.length ≤ (m.filter (fun x => decide (x ≠ n))).length + 1 := by
      intro m
      induction m with
      | nil => intro _; simp
      | cons a m ih2 =>
        intro hm
        obtain ⟨ha, hm2⟩ := List.nodup_cons.mp hm
        by_cases e : a = n
        · subst e
          have : m.filter (fun x => decide (x ≠ a)) = m := List.filter_eq_self.mpr (fun x hx => by
            simp
            intro h
            subst h
            exact ha hx)
          rw [List.filter_cons_of_neg (by simp), this]
          simp
        · rw [List.filter_cons_of_pos (by simpa using e)]
          have := ih2 hm2
          simp only [List.length_cons]
          omega
    have := h3 l hn
    omega
noncomputable def cnt (p : Nat → Prop) : Nat → Nat
  | 0 => 0
  | n + 1 => cnt p n + (@ite _ (p n) (Classical.propDecidable _) 1 0)
theorem cnt_le {p q : Nat → Prop} (h : ∀ i : Nat, p i → q i) : ∀ n : Nat, cnt p n ≤ cnt q n := by
  intro n
  induction n with
  | zero => exact Nat.le_refl _
  | succ n ih =>
    unfold cnt
    by_cases hp : p n
    · rw [if_pos hp, if_pos (h n hp)]; omega
    · rw [if_neg hp]; omega
theorem cnt_lt {p q : Nat → Prop} (h : ∀ i : Nat, p i → q i) {a : Nat} (ha : q a) (hb : ¬ p a) : ∀ n : Nat, a < n → cnt p n < cnt q n := by
  intro n
  induction n with
  | zero => intro h; omega
  | succ n ih =>
    intro hn
    unfold cnt
    by_cases e : a = n
    · subst e
      rw [if_neg hb, if_pos ha]
      have := cnt_le h a
      omega
    · have := ih (by omega)
      by_cases hp : p n
      · rw [if_pos hp, if_pos (h n hp)]; omega
      · rw [if_neg hp]; omega
theorem min_el {H : Nat → Nat → Prop} {W : Nat → Prop} (tr : ∀ a b c : Nat, H a b → H b c → H a c) (ir : ∀ a : Nat, W a → ¬ H a a) (hW : ∀ a : Nat, W a → a < 64) : ∀ (n v : Nat), W v → cnt (fun w => H v w ∧ W w) 64 ≤ n → ∃ m : Nat, W m ∧ ∀ w : Nat, H m w → ¬ W w := by
  intro n
  induction n with
  | zero =>
    intro v hv hc
    refine ⟨v, hv, fun w hw hw2 => ?_⟩
    have := cnt_lt (p := fun _ => False) (q := fun w => H v w ∧ W w) (fun i h => absurd h id) (a := w) ⟨hw, hw2⟩ id 64 (hW w hw2)
    omega
  | succ n ih =>
    intro v hv hc
    by_cases h : ∃ w, H v w ∧ W w
    · obtain ⟨w, h1, h2⟩ := h
      refine ih w h2 ?_
      have := cnt_lt (p := fun x => H w x ∧ W x) (q := fun x => H v x ∧ W x) (fun i h => ⟨tr _ _ _ h1 h.1, h.2⟩) (a := w) ⟨h1, h2⟩ (fun h => ir w h2 h.1) 64 (hW w h2)
      omega
    · exact ⟨v, hv, fun w h1 h2 => h ⟨w, h1, h2⟩⟩
theorem bt_m1 : ∀ u : Nat, u < 64 → (-1 : Int64).toBitVec.getLsbD u = true := by decide +kernel
theorem bt_clr (x : Int64) {c : Nat} (hc : c < 64) (u : Nat) : bt (x &&& (sb c ^^^ (-1))) u ↔ bt x u ∧ u ≠ c := by
  rw [bt_and]
  constructor
  · rintro ⟨h1, h2⟩
    refine ⟨h1, fun e => ?_⟩
    subst e
    unfold bt at h2
    rw [Int64.toBitVec_xor, BitVec.getLsbD_xor, bt_m1 u hc, sb_bit u hc u hc] at h2
    simp at h2
  · rintro ⟨h1, h2⟩
    refine ⟨h1, ?_⟩
    have hu := bt_lt h1
    unfold bt
    rw [Int64.toBitVec_xor, BitVec.getLsbD_xor, bt_m1 u hu, sb_bit c hc u hu]
    simp [h2]
/-- the first cells of the order, the rest of the state as before -/
def ordR (os : List Nat) (I0 : Nat → Int32) (A0 : Nat → Nat → Int32) (I : Nat → Int32) (A : Nat → Nat → Int32) : Prop := I 6 = nI os.length ∧ (∀ (i v : Nat), os[i]? = some v → A 8 i = nI v) ∧ (∀ q : Nat, q ≠ 6 → I q = I0 q) ∧ ∀ n : Nat, n ≠ 8 → A n = A0 n
section OD
variable {ht : Nat} {I0 I : Nat → Int32} {A0 A : Nat → Nat → Int32} {J : Nat → Nat → Int64} {it : Nat → Option Nat} {dyn : fsH} {os : List Nat}
theorem app_C (h : ordR os I0 A0 I A) (hl : os.length < 64) (v : Nat) : ordR (os ++ [v]) I0 A0 (L_X6_append_I ht I A J it dyn (nI v)) (L_X6_append_A ht I A J it dyn (nI v)) ∧ S_X6_append ht I A J it dyn (nI v) := by
  obtain ⟨h1, h2, h3, h4⟩ := h
  unfold L_X6_append_I L_X6_append_A S_X6_append
  rw [h1]
  simp only [if_neg (n64 hl), c64 hl, nI_1]
  refine ⟨⟨by simp [upd], fun i w hw => ?_, fun q hq => by rw [upd_n _ _ hq]; exact h3 q hq, fun n hn => by simp [va_up, hn]; exact h4 n hn⟩, fun _ => i64 hl⟩
  by_cases e : i = os.length
  · subst e
    rw [List.getElem?_append_right (Nat.le_refl _)] at hw
    simp at hw
    subst hw
    simp [va_up, upd]
  · have hi : i < os.length := by
      have := (List.getElem?_eq_some_iff.mp hw).1
      simp at this; omega
    rw [List.getElem?_append_left hi] at hw
    simp [va_up, upd, e]
    exact h2 i w hw
/-- an order so far: W is what is worked out, H what hangs on what -/
def ordT (H : Nat → Nat → Prop) (W : Nat → Prop) (os : List Nat) : Prop := os.Nodup ∧ (∀ v ∈ os, W v ∧ v < 64) ∧ ∀ (i v : Nat), os[i]? = some v → H v v ∨ ∀ u : Nat, H v u → W u → u ∈ os.take i
theorem ordT.sn {H : Nat → Nat → Prop} {W : Nat → Prop} (h : ordT H W os) {v : Nat} (hW : W v) (hv : v < 64) (hn : v ∉ os) (ht : H v v ∨ ∀ u : Nat, H v u → W u → u ∈ os) : ordT H W (os ++ [v]) := by
  obtain ⟨h1, h2, h3⟩ := h
  refine ⟨?_, fun w hw => ?_, fun i w hw => ?_⟩
  · rw [List.nodup_append]
    refine ⟨h1, by simp, fun a ha b hb => ?_⟩
    simp at hb
    subst hb
    intro e
    subst e
    exact hn ha
  · rcases List.mem_append.mp hw with hw | hw
    · exact h2 w hw
    · simp at hw; subst hw; exact ⟨hW, hv⟩
  · by_cases e : i < os.length
    · rw [List.getElem?_append_left e] at hw
      rcases h3 i w hw with h | h
      · exact Or.inl h
      · refine Or.inr fun u a b => ?_
        rw [List.take_append_of_le_length (by omega)]
        exact h u a b
    · have hi : i = os.length := by
        have := (List.getElem?_eq_some_iff.mp hw).1
        simp at this; omega
      subst hi
      rw [List.getElem?_append_right (Nat.le_refl _)] at hw
      simp at hw
      subst hw
      rcases ht with h | h
      · exact Or.inl h
      · refine Or.inr fun u a b => ?_
        rw [List.take_append_of_le_length (Nat.le_refl _), List.take_of_length_le (Nat.le_refl _)]
        exact h u a b
theorem ordT.len {H : Nat → Nat → Prop} {W : Nat → Prop} (h : ordT H W os) {v : Nat} (hv : v < 64) (hn : v ∉ os) : os.length < 64 := by
  have := nd_len 64 (v :: os) (List.nodup_cons.mpr ⟨hn, h.1⟩) (fun x hx => by
    rcases List.mem_cons.mp hx with e | e
    · subst e; exact hv
    · exact (h.2.1 x e).2)
  simp at this
  omega
theorem pio_10 {W : Int64} {x1 : Int64} (hHW : ∀ v u : Nat, v < 64 → bt (J 7 v) u → bt W v) : S_Lb_X6_putInOrder_10 70 ht (upd I0 6 0) A0 J it dyn x1 W 0 ∧ ∃ os, ordR os (upd I0 6 0) A0 (Lb_X6_putInOrder_10_I 70 ht (upd I0 6 0) A0 J it dyn x1 W 0) (Lb_X6_putInOrder_10_A 70 ht (upd I0 6 0) A0 J it dyn x1 W 0) ∧ ordT (fun v u => bt (J 7 v) u) (fun u => bt W u) os ∧ (∀ u : Nat, bt (Lb_X6_putInOrder_10_v3 70 ht (upd I0 6 0) A0 J it dyn x1 W 0) u ↔ bt W u ∧ u ∉ os) ∧ ∀ u : Nat, u < 64 → bt (J 7 u) u → u ∈ os := by
  have r := lp (S := (Nat → Int32) × (Nat → Nat → Int32) × Int64) (F := fun n s v => (Lb_X6_putInOrder_10_I n ht s.1 s.2.1 J it dyn x1 s.2.2 v, Lb_X6_putInOrder_10_A n ht s.1 s.2.1 J it dyn x1 s.2.2 v, Lb_X6_putInOrder_10_v3 n ht s.1 s.2.1 J it dyn x1 s.2.2 v)) (SF := fun n s v => S_Lb_X6_putInOrder_10 n ht s.1 s.2.1 J it dyn x1 s.2.2 v) 64
    (fun i s => ∃ os, ordR os (upd I0 6 0) A0 s.1 s.2.1 ∧ ordT (fun v u => bt (J 7 v) u) (fun u => bt W u) os ∧ (∀ u : Nat, bt s.2.2 u ↔ bt W u ∧ u ∉ os) ∧ (∀ u : Nat, u < i → bt (J 7 u) u → u ∈ os) ∧ ∀ u ∈ os, u < i)
    (fun s i => (if L_X6_hangsOn_r ht s.1 s.2.1 J it dyn (nI i) (nI i) = 0 then s.1 else L_X6_append_I ht s.1 s.2.1 J it dyn (nI i), if L_X6_hangsOn_r ht s.1 s.2.1 J it dyn (nI i) (nI i) = 0 then s.2.1 else L_X6_append_A ht s.1 s.2.1 J it dyn (nI i), if L_X6_hangsOn_r ht s.1 s.2.1 J it dyn (nI i) (nI i) = 0 then s.2.2 else s.2.2 &&& (sb i ^^^ (-1))))
    ?_ ?_ 64 70 0 (upd I0 6 0, A0, W) rfl (by decide) ⟨[], ⟨(show upd I0 6 0 6 = nI 0 from upd_s I0 6 0), fun i v h => by simp at h, fun _ _ => rfl, fun _ _ => rfl⟩, ⟨by simp, fun v h => by simp at h, fun i v h => by simp at h⟩, fun u => by simp, fun u h => by omega, fun u h => by simp at h⟩
  · dsimp only at r
    obtain ⟨a, os, b, c, d, e, _⟩ := r
    exact ⟨a, os, b, c, d, e⟩
  · rintro n ⟨I, A, w⟩ i hi ⟨os, h1, h2, h3, h4, h5⟩
    left
    simp only at h1 h3 ⊢
    obtain ⟨g1, g2⟩ := hangsOn_C (ht := ht) (I := I) (A := A) (J := J) (it := it) (dyn := dyn) hi hi
    have hni : i ∉ os := fun h => by have := h5 i h; omega
    have hlen := h2.len hi hni
    obtain ⟨p1, p2⟩ := app_C (ht := ht) (J := J) (it := it) (dyn := dyn) h1 hlen i
    rw [Lb_X6_putInOrder_10_I, Lb_X6_putInOrder_10_A, Lb_X6_putInOrder_10_v3, S_Lb_X6_putInOrder_10]
    simp only [if_neg (n64 hi), nI_1]
    refine ⟨rfl, ?_, fun h _ => ⟨g2, fun _ => p2, h⟩⟩
    by_cases hh : L_X6_hangsOn_r ht I A J it dyn (nI i) (nI i) = 0
    · simp only [if_pos hh]
      refine ⟨os, h1, h2, h3, fun u hu hb => ?_, fun u hu => by have := h5 u hu; omega⟩
      by_cases e : u = i
      · subst e; exact absurd hb (g1.mp hh)
      · exact h4 u (by omega) hb
    · have hb : bt (J 7 i) i := Classical.byContradiction fun h => hh (g1.mpr h)
      simp only [if_neg hh]
      refine ⟨os ++ [i], p1, h2.sn (hHW i i hi hb) hi hni (Or.inl hb), fun u => ?_, fun u hu hb2 => ?_, fun u hu => ?_⟩
      · rw [bt_clr _ hi, h3 u]
        simp [and_assoc]
      · by_cases e : u = i
        · subst e; simp
        · simp [h4 u (by omega) hb2]
      · rcases List.mem_append.mp hu with h | h
        · have := h5 u h; omega
        · simp at h; omega
  · rintro n ⟨I, A, w⟩ hP
    rw [Lb_X6_putInOrder_10_I, Lb_X6_putInOrder_10_A, Lb_X6_putInOrder_10_v3, S_Lb_X6_putInOrder_10]
    simp only [if_pos n64e]
    exact ⟨trivial, fun h => absurd n64e h⟩
theorem pio_71 {W w0 : Int64} {x1 : Int64} {v5 : Int32} {os0 : List Nat} (hir : ∀ v : Nat, bt w0 v → ¬ bt (J 7 v) v) (h1 : ordR os0 I0 A0 I A) (h2 : ordT (fun v u => bt (J 7 v) u) (fun u => bt W u) os0) (h3 : ∀ u : Nat, bt w0 u ↔ bt W u ∧ u ∉ os0) : S_Lb_X6_putInOrder_71 70 ht I A J it dyn x1 w0 v5 0 ∧ ∃ os, ordR os I0 A0 (Lb_X6_putInOrder_71_I 70 ht I A J it dyn x1 w0 v5 0) (Lb_X6_putInOrder_71_A 70 ht I A J it dyn x1 w0 v5 0) ∧ ordT (fun v u => bt (J 7 v) u) (fun u => bt W u) os ∧ (∀ u : Nat, bt (Lb_X6_putInOrder_71_v3 70 ht I A J it dyn x1 w0 v5 0) u ↔ bt W u ∧ u ∉ os) ∧ (∃ es, os = os0 ++ es) ∧ ∀ u : Nat, u < 64 → bt w0 u → (∀ x : Nat, bt (J 7 u) x → ¬ bt w0 x) → u ∈ os := by
  have r := lp (S := (Nat → Int32) × (Nat → Nat → Int32) × Int64) (F := fun n s v => (Lb_X6_putInOrder_71_I n ht s.1 s.2.1 J it dyn x1 s.2.2 v5 v, Lb_X6_putInOrder_71_A n ht s.1 s.2.1 J it dyn x1 s.2.2 v5 v, Lb_X6_putInOrder_71_v3 n ht s.1 s.2.1 J it dyn x1 s.2.2 v5 v)) (SF := fun n s v => S_Lb_X6_putInOrder_71 n ht s.1 s.2.1 J it dyn x1 s.2.2 v5 v) 64
    (fun i s => ∃ os, ordR os I0 A0 s.1 s.2.1 ∧ ordT (fun v u => bt (J 7 v) u) (fun u => bt W u) os ∧ (∀ u : Nat, bt s.2.2 u ↔ bt W u ∧ u ∉ os) ∧ (∃ es, os = os0 ++ es) ∧ ∀ u : Nat, u < i → bt w0 u → (∀ x : Nat, bt (J 7 u) x → ¬ bt w0 x) → u ∈ os)
    (fun s i => (if lg_cmp (s.2.2 &&& L_X6_setOf_r ht s.1 s.2.1 J it dyn (nI i)) 0 = 0 then s.1 else if lg_cmp ((J 7 i) &&& s.2.2) 0 = 0 then L_X6_append_I ht s.1 s.2.1 J it dyn (nI i) else s.1, if lg_cmp (s.2.2 &&& L_X6_setOf_r ht s.1 s.2.1 J it dyn (nI i)) 0 = 0 then s.2.1 else if lg_cmp ((J 7 i) &&& s.2.2) 0 = 0 then L_X6_append_A ht s.1 s.2.1 J it dyn (nI i) else s.2.1, if lg_cmp (s.2.2 &&& L_X6_setOf_r ht s.1 s.2.1 J it dyn (nI i)) 0 = 0 then s.2.2 else if lg_cmp ((J 7 i) &&& s.2.2) 0 = 0 then s.2.2 &&& (sb i ^^^ (-1)) else s.2.2))
    ?_ ?_ 64 70 0 (I, A, w0) rfl (by decide) ⟨os0, h1, h2, h3, ⟨[], by simp⟩, fun u h => by omega⟩
  · dsimp only at r
    obtain ⟨a, os, b, c, d, e, f⟩ := r
    exact ⟨a, os, b, c, d, e, f⟩
  · rintro n ⟨I1, A1, w⟩ i hi ⟨os, k1, k2, k3, ⟨es, k4⟩, k5⟩
    left
    simp only at k1 k3 ⊢
    have hc : lg_cmp (w &&& L_X6_setOf_r ht I1 A1 J it dyn (nI i)) 0 = 0 ↔ ¬ bt w i := bt_C w hi
    rw [Lb_X6_putInOrder_71_I, Lb_X6_putInOrder_71_A, Lb_X6_putInOrder_71_v3, S_Lb_X6_putInOrder_71]
    simp only [if_neg (n64 hi), nI_1, c64 hi]
    by_cases hw : bt w i
    · have hn0 : ¬ lg_cmp (w &&& L_X6_setOf_r ht I1 A1 J it dyn (nI i)) 0 = 0 := fun h => hc.mp h hw
      have hni : i ∉ os := ((k3 i).mp hw).2
      obtain ⟨p1, p2⟩ := app_C (ht := ht) (J := J) (it := it) (dyn := dyn) k1 (k2.len hi hni) i
      refine ⟨rfl, ?_, fun h _ => ⟨fun _ => ⟨i64 hi, fun _ => p2⟩, h⟩⟩
      simp only [if_neg hn0]
      by_cases hz : lg_cmp (J 7 i &&& w) 0 = 0
      · simp only [if_pos hz]
        have hz2 : ∀ u : Nat, bt (J 7 i) u → ¬ bt w u := fun u a b => (bt_z _).mp hz u ((bt_and _ _ _).mpr ⟨a, b⟩)
        refine ⟨os ++ [i], p1, k2.sn ((k3 i).mp hw).1 hi hni (Or.inr fun u a b => ?_), fun u => ?_, ⟨es ++ [i], by rw [k4, List.append_assoc]⟩, fun u hu a b => ?_⟩
        · exact Classical.byContradiction fun h => hz2 u a ((k3 u).mpr ⟨b, h⟩)
        · rw [bt_clr _ hi, k3 u]
          simp [and_assoc]
        · by_cases e : u = i
          · subst e; simp
          · simp [k5 u (by omega) a b]
      · simp only [if_neg hz]
        refine ⟨os, k1, k2, k3, ⟨es, k4⟩, fun u hu a b => ?_⟩
        by_cases e : u = i
        · exfalso
          subst e
          apply hz
          rw [bt_z]
          intro x hx
          obtain ⟨q1, q2⟩ := (bt_and _ _ _).mp hx
          refine b x q1 ((h3 x).mpr ⟨((k3 x).mp q2).1, fun h => ((k3 x).mp q2).2 ?_⟩)
          rw [k4]; simp [h]
        · exact k5 u (by omega) a b
    · have hn0 : lg_cmp (w &&& L_X6_setOf_r ht I1 A1 J it dyn (nI i)) 0 = 0 := hc.mpr hw
      refine ⟨rfl, ?_, fun h _ => ⟨fun h2 => absurd hn0 h2, h⟩⟩
      simp only [if_pos hn0]
      refine ⟨os, k1, k2, k3, ⟨es, k4⟩, fun u hu a b => ?_⟩
      by_cases e : u = i
      · subst e
        exact Classical.byContradiction fun h => hw ((k3 u).mpr ⟨((h3 u).mp a).1, h⟩)
      · exact k5 u (by omega) a b
  · rintro n ⟨I1, A1, w⟩ hP
    rw [Lb_X6_putInOrder_71_I, Lb_X6_putInOrder_71_A, Lb_X6_putInOrder_71_v3, S_Lb_X6_putInOrder_71]
    simp only [if_pos n64e]
    exact ⟨trivial, fun h => absurd n64e h⟩
theorem order_C {W : Int64} (htr : ∀ a b c : Nat, a < 64 → bt (J 7 a) b → bt (J 7 b) c → bt (J 7 a) c) (hHW : ∀ v u : Nat, v < 64 → bt (J 7 v) u → bt W v) : S_X6_putInOrder ht I0 A0 J it dyn W ∧ ∃ os, ordR os (upd I0 6 0) A0 (L_X6_putInOrder_I ht I0 A0 J it dyn W) (L_X6_putInOrder_A ht I0 A0 J it dyn W) ∧ ordT (fun v u => bt (J 7 v) u) (fun u => bt W u) os ∧ ∀ u : Nat, bt W u → u ∈ os := by
  obtain ⟨s1, os1, a1, a2, a3, a4⟩ := pio_10 (ht := ht) (I0 := I0) (A0 := A0) (it := it) (dyn := dyn) (x1 := W) hHW
  unfold S_X6_putInOrder L_X6_putInOrder_I L_X6_putInOrder_A
  generalize Lb_X6_putInOrder_10_I 70 ht (upd I0 6 0) A0 J it dyn W W 0 = I1 at *
  generalize Lb_X6_putInOrder_10_A 70 ht (upd I0 6 0) A0 J it dyn W W 0 = A1 at *
  generalize Lb_X6_putInOrder_10_v3 70 ht (upd I0 6 0) A0 J it dyn W W 0 = w1 at *
  have r := lp (S := (Nat → Int32) × (Nat → Nat → Int32) × Int64) (F := fun n s v => (Lb_X6_putInOrder_55_I n ht s.1 s.2.1 J it dyn W s.2.2 v, Lb_X6_putInOrder_55_A n ht s.1 s.2.1 J it dyn W s.2.2 v, Lb_X6_putInOrder_55_v3 n ht s.1 s.2.1 J it dyn W s.2.2 v)) (SF := fun n s v => S_Lb_X6_putInOrder_55 n ht s.1 s.2.1 J it dyn W s.2.2 v) 64
    (fun i s => ∃ os, ordR os (upd I0 6 0) A0 s.1 s.2.1 ∧ ordT (fun v u => bt (J 7 v) u) (fun u => bt W u) os ∧ (∀ u : Nat, bt s.2.2 u ↔ bt W u ∧ u ∉ os) ∧ (∀ u : Nat, u < 64 → bt (J 7 u) u → u ∈ os) ∧ (i ≤ os.length ∨ ∀ u : Nat, ¬ bt s.2.2 u))
    (fun s i => (Lb_X6_putInOrder_71_I 70 ht s.1 s.2.1 J it dyn W s.2.2 (nI i) 0, Lb_X6_putInOrder_71_A 70 ht s.1 s.2.1 J it dyn W s.2.2 (nI i) 0, Lb_X6_putInOrder_71_v3 70 ht s.1 s.2.1 J it dyn W s.2.2 (nI i) 0))
    ?_ ?_ 64 70 0 (I1, A1, w1) rfl (by decide) ⟨os1, a1, a2, a3, a4, Or.inl (by omega)⟩
  · dsimp only at r
    obtain ⟨s2, os, b1, b2, b3, b4, b5⟩ := r
    refine ⟨⟨s1, s2⟩, os, b1, b2, fun u hu => Classical.byContradiction fun h => ?_⟩
    have hw := (b3 u).mpr ⟨hu, h⟩
    rcases b5 with b5 | b5
    · have := b2.len (bt_lt hu) h
      omega
    · exact b5 u hw
  · rintro n ⟨I2, A2, w⟩ i hi ⟨os, k1, k2, k3, k4, k5⟩
    simp only at k1 k3 k5 ⊢
    have hir : ∀ v : Nat, bt w v → ¬ bt (J 7 v) v := fun v hv hb => ((k3 v).mp hv).2 (k4 v (bt_lt hv) hb)
    rw [Lb_X6_putInOrder_55_I, Lb_X6_putInOrder_55_A, Lb_X6_putInOrder_55_v3, S_Lb_X6_putInOrder_55]
    simp only [if_neg (n64 hi), nI_1]
    by_cases hz : lg_cmp w 0 = 0
    · right
      simp only [if_pos hz]
      exact ⟨trivial, fun _ h => absurd hz h, os, k1, k2, k3, k4, Or.inr ((bt_z _).mp hz)⟩
    · left
      simp only [if_neg hz]
      obtain ⟨t1, os', b1, b2, b3, ⟨es, b4⟩, b5⟩ := pio_71 (ht := ht) (it := it) (dyn := dyn) (x1 := W) (v5 := nI i) hir k1 k2 k3
      refine ⟨trivial, ⟨os', b1, b2, b3, fun u a b => by rw [b4]; simp [k4 u a b], Or.inl ?_⟩, fun h _ _ => ⟨t1, h⟩⟩
      have hex : ∃ v, bt w v := Classical.byContradiction fun h => hz ((bt_z _).mpr fun u hu => h ⟨u, hu⟩)
      obtain ⟨v, hv⟩ := hex
      obtain ⟨m, hm1, hm2⟩ := min_el (H := fun a b => a < 64 ∧ bt (J 7 a) b) (W := fun a => bt w a) (fun a b c p q => ⟨p.1, htr a b c p.1 p.2 q.2⟩) (fun a p q => hir a p q.2) (fun a h => bt_lt h) _ v hv (Nat.le_refl _)
      have hmem := b5 m (bt_lt hm1) hm1 (fun x hx => hm2 x ⟨bt_lt hm1, hx⟩)
      have hnm : m ∉ os := ((k3 m).mp hm1).2
      rcases k5 with k5 | k5
      · have : es ≠ [] := by
          intro e
          rw [b4, e] at hmem
          simp at hmem
          exact hnm hmem
        have := List.length_pos_iff.mpr this
        rw [b4, List.length_append]
        omega
      · exact absurd hm1 (k5 m)
  · rintro n ⟨I2, A2, w⟩ hP
    rw [Lb_X6_putInOrder_55_I, Lb_X6_putInOrder_55_A, Lb_X6_putInOrder_55_v3, S_Lb_X6_putInOrder_55]
    simp only [if_pos n64e]
    exact ⟨trivial, fun h => absurd n64e h⟩
end OD
