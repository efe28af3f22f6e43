/-! BOTH WORK OUT THE SAME -/
section AG
variable {F : List aItem} {R : Nat}
theorem wk_k {v : Nat} (h : wkC F R v) : v / 4 < F.length := by
  have := h.2.1
  unfold rw1 at this
  split at this
  · assumption
  · omega
theorem wkMC {v : Nat} (hv : v < 64) : wkM F R v ↔ wkC F R v ∧ kd F (v / 4) = 0 := by
  constructor
  · rintro ⟨⟨a, b, c⟩, d⟩; exact ⟨⟨hv, c, d⟩, b⟩
  · rintro ⟨h, b⟩; exact ⟨⟨wk_k h, b, h.2.1⟩, h.2.2⟩
theorem DC_t (hw : wfF F) (hR : R ≤ 4) (hok : nmOK F) {v u : Nat} (h : DC F R v u) : u < 64 ∧ isf F R u := by
  obtain ⟨h1, h3⟩ := h
  have k1 := wk_k h1
  obtain ⟨x, hx⟩ := F_some k1
  obtain ⟨c1, c2, c3, _⟩ := acc hx
  rw [c3] at h3
  have := nmL_cell hw hR (hok _ x hx) (show v % 4 < 4 by omega) (fun e => by
    have k3 := h1.2.1
    unfold rw1 at k3
    rw [if_pos k1, c2, e, if_neg (by decide)] at k3
    exact k3) h3
  refine ⟨this.1, ?_, this.2.1, this.2.2⟩
  exact Classical.byContradiction fun hn => by
    have h4 := this.2.2
    unfold rw1 at h4
    rw [if_neg hn] at h4
    omega
theorem HC_M (hw : wfF F) (hR : R ≤ 4) (hok : nmOK F) {v u : Nat} (hv : v < 64) (hk : kd F (v / 4) = 0) : HC F R v u ↔ HM F R v u := by
  constructor
  · intro h
    have key : HM F R v u ∧ isf F R u ∧ u < 64 := by
      induction h with
      | single h2 =>
        have t := DC_t hw hR hok h2
        exact ⟨Relation.TransGen.single ⟨⟨hv, (wkMC hv).mpr ⟨h2.1, hk⟩⟩, h2.2⟩, t.2, t.1⟩
      | tail _ h2 ih =>
        have t := DC_t hw hR hok h2
        exact ⟨Relation.TransGen.tail ih.1 ⟨⟨ih.2.2, (wkMC ih.2.2).mpr ⟨h2.1, ih.2.1.2.1⟩⟩, h2.2⟩, t.2, t.1⟩
    exact key.1
  · intro h
    have sub : ∀ a b : Nat, DM F R a b → DC F R a b := fun a b hd => ⟨((wkMC hd.1.1).mp hd.1.2).1, hd.2⟩
    induction h with
    | single h2 => exact Relation.TransGen.single (sub _ _ h2)
    | tail _ h2 ih => exact Relation.TransGen.tail ih (sub _ _ h2)
theorem HC_k (hw : wfF F) (hR : R ≤ 4) (hok : nmOK F) {v u : Nat} (h : HC F R v u) : isf F R u ∧ u < 64 := by
  cases h with
  | single h2 => exact (DC_t hw hR hok h2).symm
  | tail _ h2 => exact (DC_t hw hR hok h2).symm
/-- the worked out fields are the same -/
theorem agree (hw : wfF F) (hR : R ≤ 4) (hok : nmOK F) {os : List Nat} (hT : ordT (HC F R) (wkC F R) os) (hA : ∀ u : Nat, wkC F R u → u ∈ os) {oc om : Nat → Int64} (h1 : ∀ u : Nat, wkC F R u → fit F R oc u) (h2 : ∀ v : Nat, v < 64 → wkM F R v → (HM F R v v → om v = 10000000000000003) ∧ (¬ HM F R v v → om v = val F R om (v % 4) (pl F (v / 4)))) (h3 : ∀ v : Nat, v < 64 → isf F R v → pl F (v / 4) = [] → oc v = om v) : ∀ v : Nat, v < 64 → isf F R v → oc v = om v := by
  have key : ∀ (n i v : Nat), i ≤ n → os[i]? = some v → kd F (v / 4) = 0 → oc v = om v := by
    intro n
    induction n with
    | zero =>
      intro i v hi hv hk
      obtain ⟨hvW, hv64⟩ := hT.2.1 v (List.mem_of_getElem? hv)
      have hM := (wkMC hv64).mpr ⟨hvW, hk⟩
      by_cases hc : HC F R v v
      · rw [(h1 v hvW).1 hc, (h2 v hv64 hM).1 ((HC_M hw hR hok hv64 hk).mp hc)]
      · rw [(h1 v hvW).2 hc, (h2 v hv64 hM).2 (fun h => hc ((HC_M hw hR hok hv64 hk).mpr h))]
        refine val_c (fun u hu => ?_)
        have hD : DC F R v u := ⟨hvW, hu⟩
        obtain ⟨hu64, huf⟩ := DC_t hw hR hok hD
        by_cases hp : pl F (u / 4) = []
        · exact h3 u hu64 huf hp
        · have huW : wkC F R u := ⟨hu64, huf.2.2, hp⟩
          rcases hT.2.2 i v hv with h | h
          · exact absurd h hc
          · have := h u (Relation.TransGen.single hD) huW
            obtain rfl : i = 0 := by omega
            simp at this
    | succ n ih =>
      intro i v hi hv hk
      obtain ⟨hvW, hv64⟩ := hT.2.1 v (List.mem_of_getElem? hv)
      have hM := (wkMC hv64).mpr ⟨hvW, hk⟩
      by_cases hc : HC F R v v
      · rw [(h1 v hvW).1 hc, (h2 v hv64 hM).1 ((HC_M hw hR hok hv64 hk).mp hc)]
      · rw [(h1 v hvW).2 hc, (h2 v hv64 hM).2 (fun h => hc ((HC_M hw hR hok hv64 hk).mpr h))]
        refine val_c (fun u hu => ?_)
        have hD : DC F R v u := ⟨hvW, hu⟩
        obtain ⟨hu64, huf⟩ := DC_t hw hR hok hD
        by_cases hp : pl F (u / 4) = []
        · exact h3 u hu64 huf hp
        · have huW : wkC F R u := ⟨hu64, huf.2.2, hp⟩
          rcases hT.2.2 i v hv with h | h
          · exact absurd h hc
          · have hm := h u (Relation.TransGen.single hD) huW
            obtain ⟨j, hj⟩ := List.mem_iff_getElem?.mp hm
            have hjl := (List.getElem?_eq_some_iff.mp hj).1
            rw [List.length_take] at hjl
            rw [List.getElem?_take_of_lt (by omega)] at hj
            exact ih j u (by omega) hj huf.2.1
  intro v hv hf
  by_cases hp : pl F (v / 4) = []
  · exact h3 v hv hf hp
  · have hW : wkC F R v := ⟨hv, hf.2.2, hp⟩
    obtain ⟨i, hi⟩ := List.mem_iff_getElem?.mp (hA v hW)
    exact key i i v (Nat.le_refl _) hi hf.2.1
/-- the checks are the same -/
theorem agreeK (hw : wfF F) (hR : R ≤ 4) (hok : nmOK F) {oc om : Nat → Int64} (h1 : ∀ u : Nat, wkC F R u → fit F R oc u) (h2 : ∀ v : Nat, v < 64 → isf F R v → oc v = om v) {v : Nat} (hv : wkC F R v) (hk : ¬ kd F (v / 4) = 0) : oc v = val F R om (v % 4) (pl F (v / 4)) := by
  have hc : ¬ HC F R v v := fun h => hk (HC_k hw hR hok h).1.2.1
  rw [(h1 v hv).2 hc]
  refine val_c (fun u hu => ?_)
  obtain ⟨a, b⟩ := DC_t hw hR hok (show DC F R v u from ⟨hv, hu⟩)
  exact h2 u a b
end AG
