/-! WHAT IS READ IS A TREE -/
section TR
variable {t : List Nat}
theorem pnum_le {p : Nat} (hp : p ≤ t.length) : (pnum t p).2 ≤ t.length := by
  obtain ⟨b1, b2, b3⟩ := pdg_b t 6 p 0 hp
  unfold pnum
  generalize (pdg t 6 p 0).2 = p1 at *
  split
  · rename_i h46
    have := ch_in (t := t) (p := p1) (by omega)
    split
    · rename_i hd
      have := ch_in (t := t) (p := p1 + 1) (by omega)
      split
      · rename_i hd2
        have := ch_in (t := t) (p := p1 + 2) (by omega)
        simp only; omega
      · simp only; omega
    · simp only; omega
  · exact b2
theorem px_PT : ∀ (n d p P j : Nat), p ≤ t.length → d ≤ 6 → (px t n d p P).1 = some j → PT (7 - d) P (px t n d p P).2.2 ∧ p + 2 * (px t n d p P).2.2.length ≤ (px t n d p P).2.1 + 1 ∧ (px t n d p P).2.1 ≤ t.length := by
  intro n
  induction n with
  | zero => intro d p P j _ _ h; cases h
  | succ n ih =>
    intro d p P j hp hd h
    obtain ⟨e, he⟩ : ∃ e, 7 - d = e + 1 := ⟨6 - d, by omega⟩
    rw [he]
    unfold px at h ⊢
    by_cases hD : 48 ≤ ch t p ∧ ch t p ≤ 57
    · simp only [if_pos hD] at h ⊢
      cases hv : (pnum t p).1 with
      | none => rw [hv] at h; cases h
      | some v =>
        have h1 := pnum_lt hp hv
        have h2 := pnum_gt hD
        have h3 := pnum_le hp
        exact ⟨Or.inl ⟨v, h1, rfl⟩, by simp [numL]; omega, h3⟩
    · simp only [if_neg hD] at h ⊢
      by_cases hL : 97 ≤ ch t p ∧ ch t p ≤ 122
      · simp only [if_pos hL] at h ⊢
        have h1 := pnm_in (t := t) (p := p) hL
        have h2 := pnm_gt t p
        have h3 := (pnm_le hL).2
        exact ⟨Or.inr (Or.inl ⟨1, _, Or.inl rfl, h1.1, h1.2, rfl⟩), by simp; omega, h3⟩
      · simp only [if_neg hL] at h ⊢
        by_cases h35 : ch t p = 35
        · simp only [if_pos h35] at h ⊢
          by_cases hL1 : 97 ≤ ch t (p + 1) ∧ ch t (p + 1) ≤ 122
          · simp only [if_pos hL1] at h ⊢
            have h1 := pnm_in (t := t) (p := p + 1) hL1
            have h2 := pnm_gt t (p + 1)
            have h3 := (pnm_le hL1).2
            exact ⟨Or.inr (Or.inl ⟨2, _, Or.inr rfl, h1.1, h1.2, rfl⟩), by simp; omega, h3⟩
          · simp only [if_neg hL1] at h
            cases h
        · simp only [if_neg h35] at h ⊢
          by_cases h6 : 6 ≤ d
          · simp only [if_pos h6] at h
            cases h
          · simp only [if_neg h6] at h ⊢
            by_cases h40 : ch t p = 40
            · simp only [if_pos h40] at h ⊢
              have hp1 := ch_in (t := t) (p := p) (by omega)
              unfold pbr at h ⊢
              have r1 := fun j => px_root t n (d + 1) (p + 1) P (j := j)
              have i1 := fun j => ih (d + 1) (p + 1) P j (by omega) (by omega)
              rw [show 7 - (d + 1) = e by omega] at i1
              rcases hE1 : px t n (d + 1) (p + 1) P with ⟨o1, p1, l1⟩
              rw [hE1] at h r1 i1
              cases o1 with
              | none => cases h
              | some a =>
                have r1 := r1 a rfl
                obtain ⟨i1, j1, k1⟩ := i1 a rfl
                simp only at h r1 i1 j1 k1 ⊢
                by_cases hs : ch t p1 = 43 ∨ ch t p1 = 45 ∨ ch t p1 = 42 ∨ ch t p1 = 47 ∨ ch t p1 = 60 ∨ ch t p1 = 61 ∨ ch t p1 = 63
                · simp only [if_pos hs] at h ⊢
                  have hp2 := ch_in (t := t) (p := p1) (by omega)
                  have r2 := fun j => px_root t n (d + 1) (p1 + 1) (P + l1.length) (j := j)
                  have i2 := fun j => ih (d + 1) (p1 + 1) (P + l1.length) j (by omega) (by omega)
                  rw [show 7 - (d + 1) = e by omega] at i2
                  rcases hE2 : px t n (d + 1) (p1 + 1) (P + l1.length) with ⟨o2, p2, l2⟩
                  rw [hE2] at h r2 i2
                  cases o2 with
                  | none => cases h
                  | some b =>
                    have r2 := r2 b rfl
                    obtain ⟨i2, j2, k2⟩ := i2 b rfl
                    simp only at h r2 i2 j2 k2 ⊢
                    by_cases h63 : ch t p1 = 63
                    · simp only [if_pos h63] at h ⊢
                      by_cases h58 : ch t p2 = 58
                      · simp only [if_pos h58] at h ⊢
                        have hp3 := ch_in (t := t) (p := p2) (by omega)
                        have r3 := fun j => px_root t n (d + 1) (p2 + 1) (P + l1.length + l2.length) (j := j)
                        have i3 := fun j => ih (d + 1) (p2 + 1) (P + l1.length + l2.length) j (by omega) (by omega)
                        rw [show 7 - (d + 1) = e by omega] at i3
                        rcases hE3 : px t n (d + 1) (p2 + 1) (P + l1.length + l2.length) with ⟨o3, p3, l3⟩
                        rw [hE3] at h r3 i3
                        cases o3 with
                        | none => cases h
                        | some c =>
                          have r3 := r3 c rfl
                          obtain ⟨i3, j3, k3⟩ := i3 c rfl
                          simp only at h r3 i3 j3 k3 ⊢
                          by_cases h41 : ch t p3 = 41
                          · simp only [if_pos h41]
                            have hp4 := ch_in (t := t) (p := p3) (by omega)
                            refine ⟨Or.inr (Or.inr (Or.inr ⟨l1, l2, l3, i1, i2, i3, ?_⟩)), by simp; omega, by omega⟩
                            rw [show P + l1.length - 1 = a by omega, show P + l1.length + l2.length - 1 = b by omega, show P + l1.length + l2.length + l3.length - 1 = c by omega]
                          · simp only [if_neg h41] at h
                            cases h
                      · simp only [if_neg h58] at h
                        cases h
                    · simp only [if_neg h63] at h ⊢
                      by_cases h41 : ch t p2 = 41
                      · simp only [if_pos h41]
                        have hp4 := ch_in (t := t) (p := p2) (by omega)
                        refine ⟨Or.inr (Or.inr (Or.inl ⟨ch t p1, l1, l2, by unfold opS; omega, i1, i2, ?_⟩)), by simp; omega, by omega⟩
                        rw [show P + l1.length - 1 = a by omega, show P + l1.length + l2.length - 1 = b by omega]
                      · simp only [if_neg h41] at h
                        cases h
                · simp only [if_neg hs] at h
                  cases h
            · simp only [if_neg h40] at h
              cases h
theorem PT_ne {n P : Nat} {l : List aPart} (h : PT n P l) : 1 ≤ l.length := by
  cases n with
  | zero => exact absurd h id
  | succ n =>
    rcases h with ⟨v, _, rfl⟩ | ⟨o, nm, _, _, _, rfl⟩ | ⟨s, l1, l2, _, _, _, rfl⟩ | ⟨l1, l2, l3, _, _, _, rfl⟩ <;> simp <;> omega
theorem rd_wf (hl : t.length ≤ 60) {x : aItem} (h : (rd t).1 = some x) : wfI x ∧ (rd t).2.2 = x.2.2.2.2 := by
  unfold rd at h ⊢
  have ex : ∀ (k nm rep p : Nat), k ≤ 1 → (k = 0 → 27 ≤ nm ∧ nm ≤ 728) → rep ≤ 1 → 1 ≤ p → p ≤ t.length → (rdE k nm rep (px t 8 0 p 0)).1 = some x → wfI x ∧ (rdE k nm rep (px t 8 0 p 0)).2.2 = x.2.2.2.2 := by
    intro k nm rep p hk hnm hrep hp1 hp h
    unfold rdE at h ⊢
    cases ho : (px t 8 0 p 0).1 with
    | none => rw [ho] at h; cases h
    | some j =>
      rw [ho] at h
      cases h
      obtain ⟨a, b, c⟩ := px_PT 8 0 p 0 j hp (by omega) ho
      have hne := PT_ne a
      refine ⟨⟨by simp only; omega, hnm, hrep, fun h2 => ?_, fun _ h2 => ?_, Or.inr a, by simp only; omega⟩, rfl⟩
      · simp only at h2; omega
      · simp only at h2; rw [h2] at hne; simp at hne
  have st : ∀ p : Nat, st01 t p ≤ 1 ∧ (p ≤ t.length → p + st01 t p ≤ t.length) := by
    intro p
    unfold st01
    split
    · rename_i h
      have := ch_in (t := t) (p := p) (by omega)
      exact ⟨by omega, fun _ => by omega⟩
    · exact ⟨by omega, fun h => by omega⟩
  by_cases hL : 97 ≤ ch t 0 ∧ ch t 0 ≤ 122
  · simp only [if_pos hL] at h ⊢
    have h1 := pnm_in (t := t) (p := 0) hL
    have h3 := pnm_le hL
    have h4 := pnm_gt t 0
    by_cases h61 : ch t ((pnm t 0).2 + st01 t (pnm t 0).2) = 61
    · simp only [if_pos h61] at h ⊢
      have := ch_in (t := t) (p := (pnm t 0).2 + st01 t (pnm t 0).2) (by omega)
      exact ex 0 _ _ _ (by omega) (fun _ => h1) (st _).1 (by omega) (by omega) h
    · simp only [if_neg h61] at h ⊢
      cases h
      exact ⟨⟨by simp, fun _ => h1, (st _).1, fun h2 => by simp at h2, fun h2 => by simp at h2, Or.inl rfl, by simp⟩, rfl⟩
  · simp only [if_neg hL] at h ⊢
    by_cases h33 : ch t 0 = 33
    · simp only [if_pos h33] at h ⊢
      have := ch_in (t := t) (p := 0) (by omega)
      exact ex 1 _ _ _ (by omega) (fun h2 => by omega) (st 1).1 (by omega) ((st 1).2 (by omega)) h
    · simp only [if_neg h33] at h ⊢
      by_cases h34 : ch t 0 = 34
      · simp only [if_pos h34] at h ⊢
        have := ch_in (t := t) (p := 0) (by omega)
        by_cases h1 : t.length = 1
        · simp only [if_pos h1] at h
          cases h
        · simp only [if_neg h1] at h ⊢
          cases h
          exact ⟨⟨by simp, fun h2 => by simp at h2, by simp, fun _ => ⟨rfl, rfl, by simp only; omega, by simp only; omega⟩, fun h2 => by simp at h2, Or.inl rfl, by simp⟩, rfl⟩
      · simp only [if_neg h34] at h
        cases h
end TR
