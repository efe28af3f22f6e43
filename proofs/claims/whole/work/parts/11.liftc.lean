/-! 11.liftc: methods as pure functions (L_), their safety (S_), their contracts (c_): by program, wip/whole/walk.py -/
def L_X3_pageCount_r (ht : Nat) (I : Nat → Int32) (A : Nat → Nat → Int32) (J : Nat → Nat → Int64) (it : Nat → Option Nat) (dyn : fsH)  : Int32 := (if (A 10 (0 : Int32).toNatClampNeg) = 0 then 0 else ((I 7) + 1) : Int32)
def S_X3_pageCount (ht : Nat) (I : Nat → Int32) (A : Nat → Nat → Int32) (J : Nat → Nat → Int64) (it : Nat → Option Nat) (dyn : fsH)  : Prop := (vp_in 0 64)
set_option maxRecDepth 100000 in
set_option maxHeartbeats 4000000 in
theorem c_X3_pageCount (G : fsG) (l : Launch) (ht : Nat) (I : Nat → Int32) (A : Nat → Nat → Int32) (J : Nat → Nat → Int64) (it : Nat → Option Nat) (dyn : fsH)  (hS : S_X3_pageCount ht I A J it dyn ) : fsFn G l mX3_pageCount 0 0 0 [.inr (.inr (some 9))] (fs_mk ht I A J it dyn) (some (.inl (L_X3_pageCount_r ht I A J it dyn ))) (fs_mk ht I A J it dyn) := by
  refine fsMet_of (by decide) (Nat.le_of_ble_eq_true rfl) ?_
  generalize hQ : (fun (r1 : Option fsV) (h1 : fsH) => r1 = (some (.inl (L_X3_pageCount_r ht I A J it dyn ))) ∧ h1 = (fs_mk ht I A J it dyn)) = Q
  have hq : Q (some (.inl (L_X3_pageCount_r ht I A J it dyn ))) (fs_mk ht I A J it dyn) := by rw [← hQ]; exact ⟨rfl, rfl⟩
  clear hQ
  have hq : Q (some (.inl (if (A 10 (0 : Int32).toNatClampNeg) = 0 then 0 else ((I 7) + 1) : Int32))) (fs_mk ht I A J it dyn) := hq
  have hS : (vp_in 0 64) := hS
  refine (show fsW G l mX3_pageCount 0 0 0 0 0 Q 0 [(0, .inr (.inr (some 9)))] [] (fs_mk ht I A J it dyn) from ?_)
  refine fs_aload_n dX3_pageCount_0 rfl rfl ?_
  refine fs_getfield (v := .inr (.inr (some 10))) dX3_pageCount_1 sf_X3_9 rfl rfl ?_
  refine fs_iconst (v := 0) dX3_pageCount_4 rfl ?_
  have ho1 := hS
  refine fs_iaload dX3_pageCount_5 rfl ho1 ?_
  have key_19 : fsW G l mX3_pageCount 0 0 0 0 0 Q 19 [(0, .inr (.inr (some 9)))] [.inl (if (A 10 (0 : Int32).toNatClampNeg) = 0 then 0 else ((I 7) + 1) : Int32)] (fs_mk ht I A J it dyn) := by
    have k9 := hq
    exact fs_iret dX3_pageCount_19 rfl rfl k9
  refine fs_if_ne 13 dX3_pageCount_6 (by decide) (fun c_6 : ¬ (A 10 (0 : Int32).toNatClampNeg) = 0 => ?_) (fun c_6 : (A 10 (0 : Int32).toNatClampNeg) = 0 => ?_)
  · refine fs_aload_n dX3_pageCount_13 rfl rfl ?_
    refine fs_getfield (v := .inl (I 7)) dX3_pageCount_14 sf_X3_21 rfl rfl ?_
    refine fs_iconst (v := 1) dX3_pageCount_17 rfl ?_
    refine fs_iadd dX3_pageCount_18 ?_
    have k9 := key_19
    try simp only [if_neg c_6] at k9 ⊢
    exact k9
  · refine fs_iconst (v := 0) dX3_pageCount_9 rfl ?_
    refine fs_goto 19 dX3_pageCount_10 (by decide) ?_
    have k9 := key_19
    try simp only [if_pos c_6] at k9 ⊢
    exact k9
def L_X3_placeOf_r (ht : Nat) (I : Nat → Int32) (A : Nat → Nat → Int32) (J : Nat → Nat → Int64) (it : Nat → Option Nat) (dyn : fsH) (x1 : Int32) (x2 : Int32) : Int32 := (if (L_X1_has_r ht I A J it dyn x1 x2) = 0 then (-1) else (A 11 (L_X7_cellOf_r ht I A J it dyn x1 x2).toNatClampNeg) : Int32)
def S_X3_placeOf (ht : Nat) (I : Nat → Int32) (A : Nat → Nat → Int32) (J : Nat → Nat → Int64) (it : Nat → Option Nat) (dyn : fsH) (x1 : Int32) (x2 : Int32) : Prop := ((S_X1_has ht I A J it dyn x1 x2) ∧ (¬ ((L_X1_has_r ht I A J it dyn x1 x2) = 0) → (vp_in (L_X7_cellOf_r ht I A J it dyn x1 x2) 64)))
set_option maxRecDepth 100000 in
set_option maxHeartbeats 4000000 in
theorem c_X3_placeOf (G : fsG) (l : Launch) (ht : Nat) (I : Nat → Int32) (A : Nat → Nat → Int32) (J : Nat → Nat → Int64) (it : Nat → Option Nat) (dyn : fsH) (x1 : Int32) (x2 : Int32) (hS : S_X3_placeOf ht I A J it dyn x1 x2) : fsFn G l mX3_placeOf 2 0 0 [.inr (.inr (some 9)), .inl x1, .inl x2] (fs_mk ht I A J it dyn) (some (.inl (L_X3_placeOf_r ht I A J it dyn x1 x2))) (fs_mk ht I A J it dyn) := by
  refine fsMet_of (by decide) (Nat.le_of_ble_eq_true rfl) ?_
  generalize hQ : (fun (r1 : Option fsV) (h1 : fsH) => r1 = (some (.inl (L_X3_placeOf_r ht I A J it dyn x1 x2))) ∧ h1 = (fs_mk ht I A J it dyn)) = Q
  have hq : Q (some (.inl (L_X3_placeOf_r ht I A J it dyn x1 x2))) (fs_mk ht I A J it dyn) := by rw [← hQ]; exact ⟨rfl, rfl⟩
  clear hQ
  have hq : Q (some (.inl (if (L_X1_has_r ht I A J it dyn x1 x2) = 0 then (-1) else (A 11 (L_X7_cellOf_r ht I A J it dyn x1 x2).toNatClampNeg) : Int32))) (fs_mk ht I A J it dyn) := hq
  have hS : ((S_X1_has ht I A J it dyn x1 x2) ∧ (¬ ((L_X1_has_r ht I A J it dyn x1 x2) = 0) → (vp_in (L_X7_cellOf_r ht I A J it dyn x1 x2) 64))) := hS
  refine (show fsW G l mX3_placeOf 2 0 0 0 0 Q 0 [(0, .inr (.inr (some 9))), (1, .inl x1), (2, .inl x2)] [] (fs_mk ht I A J it dyn) from ?_)
  refine fs_aload_n dX3_placeOf_0 rfl rfl ?_
  refine fs_getfield (v := .inr (.inr (some 3))) dX3_placeOf_1 sf_X3_25 rfl rfl ?_
  refine fs_iload_n dX3_placeOf_4 rfl rfl ?_
  refine fs_iload_n dX3_placeOf_5 rfl rfl ?_
  obtain ⟨ho1, hS⟩ := hS
  refine fs_callV1 dX3_placeOf_6 sv_X3_39 rfl ⟨_, rfl, rfl⟩ (c_X1_has G l ht I A J it dyn x1 x2 ho1) rfl rfl (Nat.le_of_ble_eq_true rfl) (Nat.le_of_ble_eq_true rfl) (Nat.le_of_ble_eq_true rfl) (Nat.le_of_ble_eq_true rfl) ?_
  have hR_9 := hS
  have key_26 : fsW G l mX3_placeOf 2 0 0 0 0 Q 26 [(0, .inr (.inr (some 9))), (1, .inl x1), (2, .inl x2)] [.inl (if (L_X1_has_r ht I A J it dyn x1 x2) = 0 then (-1) else (A 11 (L_X7_cellOf_r ht I A J it dyn x1 x2).toNatClampNeg) : Int32)] (fs_mk ht I A J it dyn) := by
    have k9 := hq
    exact fs_iret dX3_placeOf_26 rfl rfl k9
  refine fs_if_eq 25 dX3_placeOf_9 (by decide) (fun c_9 : (L_X1_has_r ht I A J it dyn x1 x2) = 0 => ?_) (fun c_9 : ¬ ((L_X1_has_r ht I A J it dyn x1 x2) = 0) => ?_)
  · refine fs_iconst (v := (-1)) dX3_placeOf_25 rfl ?_
    have k9 := key_26
    try simp only [if_pos c_9] at k9 ⊢
    exact k9
  · have hS := hR_9 c_9
    refine fs_aload_n dX3_placeOf_12 rfl rfl ?_
    refine fs_getfield (v := .inr (.inr (some 11))) dX3_placeOf_13 sf_X3_15 rfl rfl ?_
    refine fs_iload_n dX3_placeOf_16 rfl rfl ?_
    refine fs_iload_n dX3_placeOf_17 rfl rfl ?_
    refine fs_callSN1 dX3_placeOf_18 sv_X3_45 (c_X7_cellOf G l ht I A J it dyn x1 x2) rfl rfl (Nat.le_of_ble_eq_true rfl) (Nat.le_of_ble_eq_true rfl) (Nat.le_of_ble_eq_true rfl) (Nat.le_of_ble_eq_true rfl) ?_
    have ho1 := hS
    refine fs_iaload dX3_placeOf_21 rfl ho1 ?_
    refine fs_goto 26 dX3_placeOf_22 (by decide) ?_
    have k9 := key_26
    try simp only [if_neg c_9] at k9 ⊢
    exact k9
def L_X3_standsAt_r (ht : Nat) (I : Nat → Int32) (A : Nat → Nat → Int32) (J : Nat → Nat → Int64) (it : Nat → Option Nat) (dyn : fsH) (x1 : Int32) (x2 : Int32) : Int32 := (if x1 < 0 then (-1) else (if (I 7) < x1 then (-1) else (if x2 < 0 then (-1) else (if x2 < (A 10 x1.toNatClampNeg) then (A 13 ((x1 * (nI ht)) + x2).toNatClampNeg) else (-1)))))
def S_X3_standsAt (ht : Nat) (I : Nat → Int32) (A : Nat → Nat → Int32) (J : Nat → Nat → Int64) (it : Nat → Option Nat) (dyn : fsH) (x1 : Int32) (x2 : Int32) : Prop := (¬ (x1 < 0) → (¬ ((I 7) < x1) → (¬ (x2 < 0) → ((vp_in x1 64) ∧ ((x2 < (A 10 x1.toNatClampNeg)) → (vp_in ((x1 * (nI ht)) + x2) (64 * ht)))))))
set_option maxRecDepth 100000 in
set_option maxHeartbeats 4000000 in
theorem c_X3_standsAt (G : fsG) (l : Launch) (ht : Nat) (I : Nat → Int32) (A : Nat → Nat → Int32) (J : Nat → Nat → Int64) (it : Nat → Option Nat) (dyn : fsH) (x1 : Int32) (x2 : Int32) (hS : S_X3_standsAt ht I A J it dyn x1 x2) : fsFn G l mX3_standsAt 0 0 0 [.inr (.inr (some 9)), .inl x1, .inl x2] (fs_mk ht I A J it dyn) (some (.inl (L_X3_standsAt_r ht I A J it dyn x1 x2))) (fs_mk ht I A J it dyn) := by
  refine fsMet_of (by decide) (Nat.le_of_ble_eq_true rfl) ?_
  generalize hQ : (fun (r1 : Option fsV) (h1 : fsH) => r1 = (some (.inl (L_X3_standsAt_r ht I A J it dyn x1 x2))) ∧ h1 = (fs_mk ht I A J it dyn)) = Q
  have hq : Q (some (.inl (L_X3_standsAt_r ht I A J it dyn x1 x2))) (fs_mk ht I A J it dyn) := by rw [← hQ]; exact ⟨rfl, rfl⟩
  clear hQ
  have hq : Q (some (.inl (if x1 < 0 then (-1) else (if (I 7) < x1 then (-1) else (if x2 < 0 then (-1) else (if x2 < (A 10 x1.toNatClampNeg) then (A 13 ((x1 * (nI ht)) + x2).toNatClampNeg) else (-1) : Int32) : Int32) : Int32) : Int32))) (fs_mk ht I A J it dyn) := hq
  have hS : (¬ (x1 < 0) → (¬ ((I 7) < x1) → (¬ (x2 < 0) → ((vp_in x1 64) ∧ ((x2 < (A 10 x1.toNatClampNeg)) → (vp_in ((x1 * (nI ht)) + x2) (64 * ht))))))) := hS
  refine (show fsW G l mX3_standsAt 0 0 0 0 0 Q 0 [(0, .inr (.inr (some 9))), (1, .inl x1), (2, .inl x2)] [] (fs_mk ht I A J it dyn) from ?_)
  refine fs_iload_n dX3_standsAt_0 rfl rfl ?_
  refine fs_if_lt 26 dX3_standsAt_1 (by decide) (fun c_1 : x1 < 0 => ?_) (fun c_1 : ¬ (x1 < 0) => ?_)
  · refine fs_iconst (v := (-1)) dX3_standsAt_26 rfl ?_
    have k9 := hq
    try simp only [if_pos c_1] at k9 ⊢
    exact fs_iret dX3_standsAt_27 rfl rfl k9
  · have hS := hS c_1
    refine fs_iload_n dX3_standsAt_4 rfl rfl ?_
    refine fs_aload_n dX3_standsAt_5 rfl rfl ?_
    refine fs_getfield (v := .inl (I 7)) dX3_standsAt_6 sf_X3_21 rfl rfl ?_
    refine fs_icmp_gt 26 dX3_standsAt_9 (by decide) (fun c_9 : (I 7) < x1 => ?_) (fun c_9 : ¬ ((I 7) < x1) => ?_)
    · refine fs_iconst (v := (-1)) dX3_standsAt_26 rfl ?_
      have k9 := hq
      try simp only [if_neg c_1, if_pos c_9] at k9 ⊢
      exact fs_iret dX3_standsAt_27 rfl rfl k9
    · have hS := hS c_9
      refine fs_iload_n dX3_standsAt_12 rfl rfl ?_
      refine fs_if_lt 26 dX3_standsAt_13 (by decide) (fun c_13 : x2 < 0 => ?_) (fun c_13 : ¬ (x2 < 0) => ?_)
      · refine fs_iconst (v := (-1)) dX3_standsAt_26 rfl ?_
        have k9 := hq
        try simp only [if_neg c_1, if_neg c_9, if_pos c_13] at k9 ⊢
        exact fs_iret dX3_standsAt_27 rfl rfl k9
      · have hS := hS c_13
        refine fs_iload_n dX3_standsAt_16 rfl rfl ?_
        refine fs_aload_n dX3_standsAt_17 rfl rfl ?_
        refine fs_getfield (v := .inr (.inr (some 10))) dX3_standsAt_18 sf_X3_9 rfl rfl ?_
        refine fs_iload_n dX3_standsAt_21 rfl rfl ?_
        obtain ⟨ho1, hS⟩ := hS
        refine fs_iaload dX3_standsAt_22 rfl ho1 ?_
        refine fs_icmp_lt 28 dX3_standsAt_23 (by decide) (fun c_23 : x2 < (A 10 x1.toNatClampNeg) => ?_) (fun c_23 : ¬ (x2 < (A 10 x1.toNatClampNeg)) => ?_)
        · have hS := hS c_23
          refine fs_aload_n dX3_standsAt_28 rfl rfl ?_
          refine fs_getfield (v := .inr (.inr (some 13))) dX3_standsAt_29 sf_X3_36 rfl rfl ?_
          refine fs_iload_n dX3_standsAt_32 rfl rfl ?_
          refine fs_aload_n dX3_standsAt_33 rfl rfl ?_
          refine fs_getfield (v := .inl (nI ht)) dX3_standsAt_34 sf_X3_33 rfl rfl ?_
          refine fs_imul dX3_standsAt_37 ?_
          refine fs_iload_n dX3_standsAt_38 rfl rfl ?_
          refine fs_iadd dX3_standsAt_39 ?_
          have ho1 := hS
          refine fs_iaload dX3_standsAt_40 rfl ho1 ?_
          have k9 := hq
          try simp only [if_neg c_1, if_neg c_9, if_neg c_13, if_pos c_23] at k9 ⊢
          exact fs_iret dX3_standsAt_41 rfl rfl k9
        · refine fs_iconst (v := (-1)) dX3_standsAt_26 rfl ?_
          have k9 := hq
          try simp only [if_neg c_1, if_neg c_9, if_neg c_13, if_neg c_23] at k9 ⊢
          exact fs_iret dX3_standsAt_27 rfl rfl k9
def L_X3_turnPage_r (ht : Nat) (I : Nat → Int32) (A : Nat → Nat → Int32) (J : Nat → Nat → Int64) (it : Nat → Option Nat) (dyn : fsH) (x1 : Int32) : Int32 := (if (A 10 (I 7).toNatClampNeg) = 0 then 0 else (if x1 ≤ ((nI ht) - (A 10 (I 7).toNatClampNeg)) then 0 else (if ((I 7) + 1) < 64 then 1 else 0)))
def L_X3_turnPage_I (ht : Nat) (I : Nat → Int32) (A : Nat → Nat → Int32) (J : Nat → Nat → Int64) (it : Nat → Option Nat) (dyn : fsH) (x1 : Int32) : Nat → Int32 := (if (A 10 (I 7).toNatClampNeg) = 0 then I else (if x1 ≤ ((nI ht) - (A 10 (I 7).toNatClampNeg)) then I else (if ((I 7) + 1) < 64 then (upd I 7 ((I 7) + 1)) else I)))
def S_X3_turnPage (ht : Nat) (I : Nat → Int32) (A : Nat → Nat → Int32) (J : Nat → Nat → Int64) (it : Nat → Option Nat) (dyn : fsH) (x1 : Int32) : Prop := ((vp_in (I 7) 64) ∧ (¬ ((A 10 (I 7).toNatClampNeg) = 0) → (vp_in (I 7) 64)))
set_option maxRecDepth 100000 in
set_option maxHeartbeats 4000000 in
theorem c_X3_turnPage (G : fsG) (l : Launch) (ht : Nat) (I : Nat → Int32) (A : Nat → Nat → Int32) (J : Nat → Nat → Int64) (it : Nat → Option Nat) (dyn : fsH) (x1 : Int32) (hS : S_X3_turnPage ht I A J it dyn x1) : fsFn G l mX3_turnPage 0 0 0 [.inr (.inr (some 9)), .inl x1] (fs_mk ht I A J it dyn) (some (.inl (L_X3_turnPage_r ht I A J it dyn x1))) (fs_mk ht (L_X3_turnPage_I ht I A J it dyn x1) A J it dyn) := by
  refine fsMet_of (by decide) (Nat.le_of_ble_eq_true rfl) ?_
  generalize hQ : (fun (r1 : Option fsV) (h1 : fsH) => r1 = (some (.inl (L_X3_turnPage_r ht I A J it dyn x1))) ∧ h1 = (fs_mk ht (L_X3_turnPage_I ht I A J it dyn x1) A J it dyn)) = Q
  have hq : Q (some (.inl (L_X3_turnPage_r ht I A J it dyn x1))) (fs_mk ht (L_X3_turnPage_I ht I A J it dyn x1) A J it dyn) := by rw [← hQ]; exact ⟨rfl, rfl⟩
  clear hQ
  have hq : Q (some (.inl (if (A 10 (I 7).toNatClampNeg) = 0 then 0 else (if x1 ≤ ((nI ht) - (A 10 (I 7).toNatClampNeg)) then 0 else (if ((I 7) + 1) < 64 then 1 else 0 : Int32) : Int32) : Int32))) (fs_mk ht (if (A 10 (I 7).toNatClampNeg) = 0 then I else (if x1 ≤ ((nI ht) - (A 10 (I 7).toNatClampNeg)) then I else (if ((I 7) + 1) < 64 then (upd I 7 ((I 7) + 1)) else I))) A J it dyn) := hq
  have hS : ((vp_in (I 7) 64) ∧ (¬ ((A 10 (I 7).toNatClampNeg) = 0) → (vp_in (I 7) 64))) := hS
  refine (show fsW G l mX3_turnPage 0 0 0 0 0 Q 0 [(0, .inr (.inr (some 9))), (1, .inl x1)] [] (fs_mk ht I A J it dyn) from ?_)
  refine fs_aload_n dX3_turnPage_0 rfl rfl ?_
  refine fs_getfield (v := .inr (.inr (some 10))) dX3_turnPage_1 sf_X3_9 rfl rfl ?_
  refine fs_aload_n dX3_turnPage_4 rfl rfl ?_
  refine fs_getfield (v := .inl (I 7)) dX3_turnPage_5 sf_X3_21 rfl rfl ?_
  obtain ⟨ho1, hS⟩ := hS
  refine fs_iaload dX3_turnPage_8 rfl ho1 ?_
  refine fs_if_eq 41 dX3_turnPage_9 (by decide) (fun c_9 : (A 10 (I 7).toNatClampNeg) = 0 => ?_) (fun c_9 : ¬ ((A 10 (I 7).toNatClampNeg) = 0) => ?_)
  · refine fs_iconst (v := 0) dX3_turnPage_41 rfl ?_
    have k9 := hq
    try simp only [if_pos c_9] at k9 ⊢
    exact fs_iret dX3_turnPage_42 rfl rfl k9
  · have hS := hS c_9
    refine fs_iload_n dX3_turnPage_12 rfl rfl ?_
    refine fs_aload_n dX3_turnPage_13 rfl rfl ?_
    refine fs_getfield (v := .inl (nI ht)) dX3_turnPage_14 sf_X3_33 rfl rfl ?_
    refine fs_aload_n dX3_turnPage_17 rfl rfl ?_
    refine fs_getfield (v := .inr (.inr (some 10))) dX3_turnPage_18 sf_X3_9 rfl rfl ?_
    refine fs_aload_n dX3_turnPage_21 rfl rfl ?_
    refine fs_getfield (v := .inl (I 7)) dX3_turnPage_22 sf_X3_21 rfl rfl ?_
    have ho1 := hS
    refine fs_iaload dX3_turnPage_25 rfl ho1 ?_
    refine fs_isub dX3_turnPage_26 ?_
    refine fs_icmp_le 41 dX3_turnPage_27 (by decide) (fun c_27 : x1 ≤ ((nI ht) - (A 10 (I 7).toNatClampNeg)) => ?_) (fun c_27 : ¬ (x1 ≤ ((nI ht) - (A 10 (I 7).toNatClampNeg))) => ?_)
    · refine fs_iconst (v := 0) dX3_turnPage_41 rfl ?_
      have k9 := hq
      try simp only [if_neg c_9, if_pos c_27] at k9 ⊢
      exact fs_iret dX3_turnPage_42 rfl rfl k9
    · refine fs_aload_n dX3_turnPage_30 rfl rfl ?_
      refine fs_getfield (v := .inl (I 7)) dX3_turnPage_31 sf_X3_21 rfl rfl ?_
      refine fs_iconst (v := 1) dX3_turnPage_34 rfl ?_
      refine fs_iadd dX3_turnPage_35 ?_
      refine fs_bipush (v := 64) dX3_turnPage_36 rfl ?_
      refine fs_icmp_lt 43 dX3_turnPage_38 (by decide) (fun c_38 : ((I 7) + 1) < 64 => ?_) (fun c_38 : ¬ (((I 7) + 1) < 64) => ?_)
      · refine fs_aload_n dX3_turnPage_43 rfl rfl ?_
        refine fs_dup dX3_turnPage_44 rfl ?_
        refine fs_getfield (v := .inl (I 7)) dX3_turnPage_45 sf_X3_21 rfl rfl ?_
        refine fs_iconst (v := 1) dX3_turnPage_48 rfl ?_
        refine fs_iadd dX3_turnPage_49 ?_
        refine fsp_7 dX3_turnPage_50 sp_X3_21 ?_
        refine fs_iconst (v := 1) dX3_turnPage_53 rfl ?_
        have k9 := hq
        try simp only [if_neg c_9, if_neg c_27, if_pos c_38] at k9 ⊢
        exact fs_iret dX3_turnPage_54 rfl rfl k9
      · refine fs_iconst (v := 0) dX3_turnPage_41 rfl ?_
        have k9 := hq
        try simp only [if_neg c_9, if_neg c_27, if_neg c_38] at k9 ⊢
        exact fs_iret dX3_turnPage_42 rfl rfl k9
theorem nb_X3_turnPage (ht : Nat) (I : Nat → Int32) (A : Nat → Nat → Int32) (J : Nat → Nat → Int64) (it : Nat → Option Nat) (dyn : fsH) (x1 : Int32) : narrow .boolean (.int (L_X3_turnPage_r ht I A J it dyn x1)) = .int (L_X3_turnPage_r ht I A J it dyn x1) := by
  unfold L_X3_turnPage_r
  exact (by (repeat' split) <;> first | rfl)
def Lb_X3_putLines_72_A : Nat → Nat → (Nat → Int32) → (Nat → Nat → Int32) → (Nat → Nat → Int64) → (Nat → Option Nat) → fsH → Int32 → Int32 → Int32 → Int32 → Int32 → (Nat → Nat → Int32)
  | 0, ht, I, A, J, it, dyn, v1, v2, v3, v4, v5 => A
  | n + 1, ht, I, A, J, it, dyn, v1, v2, v3, v4, v5 => (if v4 ≤ v5 then A else (Lb_X3_putLines_72_A n ht I (va_up (va_up A 13 (upd (A 13) (((I 7) * (nI ht)) + (A 10 (I 7).toNatClampNeg)).toNatClampNeg ((8 * v1) + v2))) 10 (upd ((va_up A 13 (upd (A 13) (((I 7) * (nI ht)) + (A 10 (I 7).toNatClampNeg)).toNatClampNeg ((8 * v1) + v2))) 10) (I 7).toNatClampNeg (((va_up A 13 (upd (A 13) (((I 7) * (nI ht)) + (A 10 (I 7).toNatClampNeg)).toNatClampNeg ((8 * v1) + v2))) 10 (I 7).toNatClampNeg) + 1))) J it dyn v1 v2 v3 v4 (v5 + 1)))
def Lb_X3_putLines_72_v5 : Nat → Nat → (Nat → Int32) → (Nat → Nat → Int32) → (Nat → Nat → Int64) → (Nat → Option Nat) → fsH → Int32 → Int32 → Int32 → Int32 → Int32 → Int32
  | 0, ht, I, A, J, it, dyn, v1, v2, v3, v4, v5 => v5
  | n + 1, ht, I, A, J, it, dyn, v1, v2, v3, v4, v5 => (if v4 ≤ v5 then v5 else (Lb_X3_putLines_72_v5 n ht I (va_up (va_up A 13 (upd (A 13) (((I 7) * (nI ht)) + (A 10 (I 7).toNatClampNeg)).toNatClampNeg ((8 * v1) + v2))) 10 (upd ((va_up A 13 (upd (A 13) (((I 7) * (nI ht)) + (A 10 (I 7).toNatClampNeg)).toNatClampNeg ((8 * v1) + v2))) 10) (I 7).toNatClampNeg (((va_up A 13 (upd (A 13) (((I 7) * (nI ht)) + (A 10 (I 7).toNatClampNeg)).toNatClampNeg ((8 * v1) + v2))) 10 (I 7).toNatClampNeg) + 1))) J it dyn v1 v2 v3 v4 (v5 + 1)))
def S_Lb_X3_putLines_72 : Nat → Nat → (Nat → Int32) → (Nat → Nat → Int32) → (Nat → Nat → Int64) → (Nat → Option Nat) → fsH → Int32 → Int32 → Int32 → Int32 → Int32 → Prop
  | 0, _, _, _, _, _, _, _, _, _, _, _ => False
  | n + 1, ht, I, A, J, it, dyn, v1, v2, v3, v4, v5 => (¬ (v4 ≤ v5) → ((vp_in (I 7) 64) ∧ ((vp_in (((I 7) * (nI ht)) + (A 10 (I 7).toNatClampNeg)) (64 * ht)) ∧ ((vp_in (I 7) 64) ∧ ((vp_in (I 7) 64) ∧ (S_Lb_X3_putLines_72 n ht I (va_up (va_up A 13 (upd (A 13) (((I 7) * (nI ht)) + (A 10 (I 7).toNatClampNeg)).toNatClampNeg ((8 * v1) + v2))) 10 (upd ((va_up A 13 (upd (A 13) (((I 7) * (nI ht)) + (A 10 (I 7).toNatClampNeg)).toNatClampNeg ((8 * v1) + v2))) 10) (I 7).toNatClampNeg (((va_up A 13 (upd (A 13) (((I 7) * (nI ht)) + (A 10 (I 7).toNatClampNeg)).toNatClampNeg ((8 * v1) + v2))) 10 (I 7).toNatClampNeg) + 1))) J it dyn v1 v2 v3 v4 (v5 + 1)))))))
set_option maxRecDepth 100000 in
set_option maxHeartbeats 4000000 in
theorem lp_Lb_X3_putLines_72 (G : fsG) (l : Launch) (Q : Option fsV → fsH → Prop) : ∀ (n : Nat) (ht : Nat) (I : Nat → Int32) (A : Nat → Nat → Int32) (J : Nat → Nat → Int64) (it : Nat → Option Nat) (dyn : fsH) (v1 : Int32) (v2 : Int32) (v3 : Int32) (v4 : Int32) (v5 : Int32), S_Lb_X3_putLines_72 n ht I A J it dyn v1 v2 v3 v4 v5 → (fsW G l mX3_putLines 1 0 0 0 0 Q 128 [(0, .inr (.inr (some 9))), (1, .inl v1), (2, .inl v2), (3, .inl v3), (4, .inl v4), (5, .inl (Lb_X3_putLines_72_v5 n ht I A J it dyn v1 v2 v3 v4 v5))] [] (fs_mk ht I (Lb_X3_putLines_72_A n ht I A J it dyn v1 v2 v3 v4 v5) J it dyn)) → fsW G l mX3_putLines 1 0 0 0 0 Q 72 [(0, .inr (.inr (some 9))), (1, .inl v1), (2, .inl v2), (3, .inl v3), (4, .inl v4), (5, .inl v5)] [] (fs_mk ht I A J it dyn) := by
  intro n
  induction n with
  | zero =>
    intro ht I A J it dyn v1 v2 v3 v4 v5 hS
    exact hS.elim
  | succ n ih =>
    intro ht I A J it dyn v1 v2 v3 v4 v5 hS hq
    have hS : (¬ (v4 ≤ v5) → ((vp_in (I 7) 64) ∧ ((vp_in (((I 7) * (nI ht)) + (A 10 (I 7).toNatClampNeg)) (64 * ht)) ∧ ((vp_in (I 7) 64) ∧ ((vp_in (I 7) 64) ∧ (S_Lb_X3_putLines_72 n ht I (va_up (va_up A 13 (upd (A 13) (((I 7) * (nI ht)) + (A 10 (I 7).toNatClampNeg)).toNatClampNeg ((8 * v1) + v2))) 10 (upd ((va_up A 13 (upd (A 13) (((I 7) * (nI ht)) + (A 10 (I 7).toNatClampNeg)).toNatClampNeg ((8 * v1) + v2))) 10) (I 7).toNatClampNeg (((va_up A 13 (upd (A 13) (((I 7) * (nI ht)) + (A 10 (I 7).toNatClampNeg)).toNatClampNeg ((8 * v1) + v2))) 10 (I 7).toNatClampNeg) + 1))) J it dyn v1 v2 v3 v4 (v5 + 1))))))) := hS
    have hq : fsW G l mX3_putLines 1 0 0 0 0 Q 128 [(0, .inr (.inr (some 9))), (1, .inl v1), (2, .inl v2), (3, .inl v3), (4, .inl v4), (5, .inl (if v4 ≤ v5 then v5 else (Lb_X3_putLines_72_v5 n ht I (va_up (va_up A 13 (upd (A 13) (((I 7) * (nI ht)) + (A 10 (I 7).toNatClampNeg)).toNatClampNeg ((8 * v1) + v2))) 10 (upd ((va_up A 13 (upd (A 13) (((I 7) * (nI ht)) + (A 10 (I 7).toNatClampNeg)).toNatClampNeg ((8 * v1) + v2))) 10) (I 7).toNatClampNeg (((va_up A 13 (upd (A 13) (((I 7) * (nI ht)) + (A 10 (I 7).toNatClampNeg)).toNatClampNeg ((8 * v1) + v2))) 10 (I 7).toNatClampNeg) + 1))) J it dyn v1 v2 v3 v4 (v5 + 1))))] [] (fs_mk ht I (if v4 ≤ v5 then A else (Lb_X3_putLines_72_A n ht I (va_up (va_up A 13 (upd (A 13) (((I 7) * (nI ht)) + (A 10 (I 7).toNatClampNeg)).toNatClampNeg ((8 * v1) + v2))) 10 (upd ((va_up A 13 (upd (A 13) (((I 7) * (nI ht)) + (A 10 (I 7).toNatClampNeg)).toNatClampNeg ((8 * v1) + v2))) 10) (I 7).toNatClampNeg (((va_up A 13 (upd (A 13) (((I 7) * (nI ht)) + (A 10 (I 7).toNatClampNeg)).toNatClampNeg ((8 * v1) + v2))) 10 (I 7).toNatClampNeg) + 1))) J it dyn v1 v2 v3 v4 (v5 + 1))) J it dyn) := hq
    refine fs_iload dX3_putLines_72 rfl ?_
    refine fs_iload dX3_putLines_74 rfl ?_
    refine fs_icmp_ge 128 dX3_putLines_76 (by decide) (fun c_76 : v4 ≤ v5 => ?_) (fun c_76 : ¬ (v4 ≤ v5) => ?_)
    · have k9 := hq
      try simp only [if_pos c_76] at k9 ⊢
      exact k9
    · have hS := hS c_76
      refine fs_aload_n dX3_putLines_79 rfl rfl ?_
      refine fs_getfield (v := .inr (.inr (some 13))) dX3_putLines_80 sf_X3_36 rfl rfl ?_
      refine fs_aload_n dX3_putLines_83 rfl rfl ?_
      refine fs_getfield (v := .inl (I 7)) dX3_putLines_84 sf_X3_21 rfl rfl ?_
      refine fs_aload_n dX3_putLines_87 rfl rfl ?_
      refine fs_getfield (v := .inl (nI ht)) dX3_putLines_88 sf_X3_33 rfl rfl ?_
      refine fs_imul dX3_putLines_91 ?_
      refine fs_aload_n dX3_putLines_92 rfl rfl ?_
      refine fs_getfield (v := .inr (.inr (some 10))) dX3_putLines_93 sf_X3_9 rfl rfl ?_
      refine fs_aload_n dX3_putLines_96 rfl rfl ?_
      refine fs_getfield (v := .inl (I 7)) dX3_putLines_97 sf_X3_21 rfl rfl ?_
      obtain ⟨ho1, hS⟩ := hS
      refine fs_iaload dX3_putLines_100 rfl ho1 ?_
      refine fs_iadd dX3_putLines_101 ?_
      refine fs_bipush (v := 8) dX3_putLines_102 rfl ?_
      refine fs_iload_n dX3_putLines_104 rfl rfl ?_
      refine fs_imul dX3_putLines_105 ?_
      refine fs_iload_n dX3_putLines_106 rfl rfl ?_
      refine fs_iadd dX3_putLines_107 ?_
      obtain ⟨ho1, hS⟩ := hS
      refine fss_13 dX3_putLines_108 ho1 ?_
      refine fs_aload_n dX3_putLines_109 rfl rfl ?_
      refine fs_getfield (v := .inr (.inr (some 10))) dX3_putLines_110 sf_X3_9 rfl rfl ?_
      refine fs_aload_n dX3_putLines_113 rfl rfl ?_
      refine fs_getfield (v := .inl (I 7)) dX3_putLines_114 sf_X3_21 rfl rfl ?_
      refine fs_dup2 dX3_putLines_117 rfl rfl ?_
      obtain ⟨ho1, hS⟩ := hS
      refine fs_iaload dX3_putLines_118 rfl ho1 ?_
      refine fs_iconst (v := 1) dX3_putLines_119 rfl ?_
      refine fs_iadd dX3_putLines_120 ?_
      obtain ⟨ho1, hS⟩ := hS
      refine fss_10 dX3_putLines_121 ho1 ?_
      refine fs_iinc (v := (v5 + 1)) (L' := [(5, .inl (v5 + 1)), (0, .inr (.inr (some 9))), (1, .inl v1), (2, .inl v2), (3, .inl v3), (4, .inl v4)]) dX3_putLines_122 rfl rfl (by decide) rfl ?_
      refine fs_goto 72 dX3_putLines_125 (by decide) ?_
      refine fs_reL [1, 2, 3, 4, 5, 0] rfl ?_
      have k9 := hq
      try simp only [if_neg c_76] at hS k9 ⊢
      exact ih _ _ _ _ _ _ _ _ _ _ _ hS k9
def L_X3_putLines_A (ht : Nat) (I : Nat → Int32) (A : Nat → Nat → Int32) (J : Nat → Nat → Int64) (it : Nat → Option Nat) (dyn : fsH) (x1 : Int32) (x2 : Int32) : Nat → Nat → Int32 := (Lb_X3_putLines_72_A 70 ht I (if (if ((nI ht) - (A 10 (I 7).toNatClampNeg)) < (A 12 (L_X7_cellOf_r ht I A J it dyn x1 x2).toNatClampNeg) then ((nI ht) - (A 10 (I 7).toNatClampNeg)) else (A 12 (L_X7_cellOf_r ht I A J it dyn x1 x2).toNatClampNeg)) ≤ 0 then A else (if (A 11 (L_X7_cellOf_r ht I A J it dyn x1 x2).toNatClampNeg) = (-1) then (va_up A 11 (upd (A 11) (L_X7_cellOf_r ht I A J it dyn x1 x2).toNatClampNeg ((32 * (I 7)) + (A 10 (I 7).toNatClampNeg)))) else A)) J it dyn x1 x2 (L_X7_cellOf_r ht I A J it dyn x1 x2) (if ((nI ht) - (A 10 (I 7).toNatClampNeg)) < (A 12 (L_X7_cellOf_r ht I A J it dyn x1 x2).toNatClampNeg) then ((nI ht) - (A 10 (I 7).toNatClampNeg)) else (A 12 (L_X7_cellOf_r ht I A J it dyn x1 x2).toNatClampNeg)) 0)
def S_X3_putLines (ht : Nat) (I : Nat → Int32) (A : Nat → Nat → Int32) (J : Nat → Nat → Int64) (it : Nat → Option Nat) (dyn : fsH) (x1 : Int32) (x2 : Int32) : Prop := ((vp_in (L_X7_cellOf_r ht I A J it dyn x1 x2) 64) ∧ ((vp_in (I 7) 64) ∧ ((¬ ((if ((nI ht) - (A 10 (I 7).toNatClampNeg)) < (A 12 (L_X7_cellOf_r ht I A J it dyn x1 x2).toNatClampNeg) then ((nI ht) - (A 10 (I 7).toNatClampNeg)) else (A 12 (L_X7_cellOf_r ht I A J it dyn x1 x2).toNatClampNeg)) ≤ 0) → ((vp_in (L_X7_cellOf_r ht I A J it dyn x1 x2) 64) ∧ (((A 11 (L_X7_cellOf_r ht I A J it dyn x1 x2).toNatClampNeg) = (-1)) → ((vp_in (I 7) 64) ∧ (vp_in (L_X7_cellOf_r ht I A J it dyn x1 x2) 64))))) ∧ (S_Lb_X3_putLines_72 70 ht I (if (if ((nI ht) - (A 10 (I 7).toNatClampNeg)) < (A 12 (L_X7_cellOf_r ht I A J it dyn x1 x2).toNatClampNeg) then ((nI ht) - (A 10 (I 7).toNatClampNeg)) else (A 12 (L_X7_cellOf_r ht I A J it dyn x1 x2).toNatClampNeg)) ≤ 0 then A else (if (A 11 (L_X7_cellOf_r ht I A J it dyn x1 x2).toNatClampNeg) = (-1) then (va_up A 11 (upd (A 11) (L_X7_cellOf_r ht I A J it dyn x1 x2).toNatClampNeg ((32 * (I 7)) + (A 10 (I 7).toNatClampNeg)))) else A)) J it dyn x1 x2 (L_X7_cellOf_r ht I A J it dyn x1 x2) (if ((nI ht) - (A 10 (I 7).toNatClampNeg)) < (A 12 (L_X7_cellOf_r ht I A J it dyn x1 x2).toNatClampNeg) then ((nI ht) - (A 10 (I 7).toNatClampNeg)) else (A 12 (L_X7_cellOf_r ht I A J it dyn x1 x2).toNatClampNeg)) 0))))
set_option maxRecDepth 100000 in
set_option maxHeartbeats 4000000 in
theorem c_X3_putLines (G : fsG) (l : Launch) (ht : Nat) (I : Nat → Int32) (A : Nat → Nat → Int32) (J : Nat → Nat → Int64) (it : Nat → Option Nat) (dyn : fsH) (x1 : Int32) (x2 : Int32) (hS : S_X3_putLines ht I A J it dyn x1 x2) : fsFn G l mX3_putLines 1 0 0 [.inr (.inr (some 9)), .inl x1, .inl x2] (fs_mk ht I A J it dyn) none (fs_mk ht I (L_X3_putLines_A ht I A J it dyn x1 x2) J it dyn) := by
  refine fsMet_of (by decide) (Nat.le_of_ble_eq_true rfl) ?_
  generalize hQ : (fun (r1 : Option fsV) (h1 : fsH) => r1 = none ∧ h1 = (fs_mk ht I (L_X3_putLines_A ht I A J it dyn x1 x2) J it dyn)) = Q
  have hq : Q none (fs_mk ht I (L_X3_putLines_A ht I A J it dyn x1 x2) J it dyn) := by rw [← hQ]; exact ⟨rfl, rfl⟩
  clear hQ
  have hq : Q none (fs_mk ht I (Lb_X3_putLines_72_A 70 ht I (if (if ((nI ht) - (A 10 (I 7).toNatClampNeg)) < (A 12 (L_X7_cellOf_r ht I A J it dyn x1 x2).toNatClampNeg) then ((nI ht) - (A 10 (I 7).toNatClampNeg)) else (A 12 (L_X7_cellOf_r ht I A J it dyn x1 x2).toNatClampNeg)) ≤ 0 then A else (if (A 11 (L_X7_cellOf_r ht I A J it dyn x1 x2).toNatClampNeg) = (-1) then (va_up A 11 (upd (A 11) (L_X7_cellOf_r ht I A J it dyn x1 x2).toNatClampNeg ((32 * (I 7)) + (A 10 (I 7).toNatClampNeg)))) else A)) J it dyn x1 x2 (L_X7_cellOf_r ht I A J it dyn x1 x2) (if ((nI ht) - (A 10 (I 7).toNatClampNeg)) < (A 12 (L_X7_cellOf_r ht I A J it dyn x1 x2).toNatClampNeg) then ((nI ht) - (A 10 (I 7).toNatClampNeg)) else (A 12 (L_X7_cellOf_r ht I A J it dyn x1 x2).toNatClampNeg)) 0) J it dyn) := hq
  have hS : ((vp_in (L_X7_cellOf_r ht I A J it dyn x1 x2) 64) ∧ ((vp_in (I 7) 64) ∧ ((¬ ((if ((nI ht) - (A 10 (I 7).toNatClampNeg)) < (A 12 (L_X7_cellOf_r ht I A J it dyn x1 x2).toNatClampNeg) then ((nI ht) - (A 10 (I 7).toNatClampNeg)) else (A 12 (L_X7_cellOf_r ht I A J it dyn x1 x2).toNatClampNeg)) ≤ 0) → ((vp_in (L_X7_cellOf_r ht I A J it dyn x1 x2) 64) ∧ (((A 11 (L_X7_cellOf_r ht I A J it dyn x1 x2).toNatClampNeg) = (-1)) → ((vp_in (I 7) 64) ∧ (vp_in (L_X7_cellOf_r ht I A J it dyn x1 x2) 64))))) ∧ (S_Lb_X3_putLines_72 70 ht I (if (if ((nI ht) - (A 10 (I 7).toNatClampNeg)) < (A 12 (L_X7_cellOf_r ht I A J it dyn x1 x2).toNatClampNeg) then ((nI ht) - (A 10 (I 7).toNatClampNeg)) else (A 12 (L_X7_cellOf_r ht I A J it dyn x1 x2).toNatClampNeg)) ≤ 0 then A else (if (A 11 (L_X7_cellOf_r ht I A J it dyn x1 x2).toNatClampNeg) = (-1) then (va_up A 11 (upd (A 11) (L_X7_cellOf_r ht I A J it dyn x1 x2).toNatClampNeg ((32 * (I 7)) + (A 10 (I 7).toNatClampNeg)))) else A)) J it dyn x1 x2 (L_X7_cellOf_r ht I A J it dyn x1 x2) (if ((nI ht) - (A 10 (I 7).toNatClampNeg)) < (A 12 (L_X7_cellOf_r ht I A J it dyn x1 x2).toNatClampNeg) then ((nI ht) - (A 10 (I 7).toNatClampNeg)) else (A 12 (L_X7_cellOf_r ht I A J it dyn x1 x2).toNatClampNeg)) 0)))) := hS
  refine (show fsW G l mX3_putLines 1 0 0 0 0 Q 0 [(0, .inr (.inr (some 9))), (1, .inl x1), (2, .inl x2)] [] (fs_mk ht I A J it dyn) from ?_)
  refine fs_iload_n dX3_putLines_0 rfl rfl ?_
  refine fs_iload_n dX3_putLines_1 rfl rfl ?_
  refine fs_callSN1 dX3_putLines_2 sv_X3_45 (c_X7_cellOf G l ht I A J it dyn x1 x2) rfl rfl (Nat.le_of_ble_eq_true rfl) (Nat.le_of_ble_eq_true rfl) (Nat.le_of_ble_eq_true rfl) (Nat.le_of_ble_eq_true rfl) ?_
  refine fs_istore_n (L' := [(3, .inl (L_X7_cellOf_r ht I A J it dyn x1 x2)), (0, .inr (.inr (some 9))), (1, .inl x1), (2, .inl x2)]) dX3_putLines_5 rfl (by decide) rfl ?_
  refine fs_aload_n dX3_putLines_6 rfl rfl ?_
  refine fs_getfield (v := .inr (.inr (some 12))) dX3_putLines_7 sf_X3_18 rfl rfl ?_
  refine fs_iload_n dX3_putLines_10 rfl rfl ?_
  obtain ⟨ho1, hS⟩ := hS
  refine fs_iaload dX3_putLines_11 rfl ho1 ?_
  refine fs_aload_n dX3_putLines_12 rfl rfl ?_
  refine fs_getfield (v := .inl (nI ht)) dX3_putLines_13 sf_X3_33 rfl rfl ?_
  refine fs_aload_n dX3_putLines_16 rfl rfl ?_
  refine fs_getfield (v := .inr (.inr (some 10))) dX3_putLines_17 sf_X3_9 rfl rfl ?_
  refine fs_aload_n dX3_putLines_20 rfl rfl ?_
  refine fs_getfield (v := .inl (I 7)) dX3_putLines_21 sf_X3_21 rfl rfl ?_
  obtain ⟨ho1, hS⟩ := hS
  refine fs_iaload dX3_putLines_24 rfl ho1 ?_
  refine fs_isub dX3_putLines_25 ?_
  refine fs_min dX3_putLines_26 sl_X3_116 w_ms_min w_mi w_mc_min (Nat.le_of_ble_eq_true rfl) (Nat.le_of_ble_eq_true rfl) (Nat.le_of_ble_eq_true rfl) (Nat.le_of_ble_eq_true rfl) ?_
  refine fs_istore (L' := [(4, .inl (if ((nI ht) - (A 10 (I 7).toNatClampNeg)) < (A 12 (L_X7_cellOf_r ht I A J it dyn x1 x2).toNatClampNeg) then ((nI ht) - (A 10 (I 7).toNatClampNeg)) else (A 12 (L_X7_cellOf_r ht I A J it dyn x1 x2).toNatClampNeg))), (3, .inl (L_X7_cellOf_r ht I A J it dyn x1 x2)), (0, .inr (.inr (some 9))), (1, .inl x1), (2, .inl x2)]) dX3_putLines_29 (by decide) rfl ?_
  refine fs_iload dX3_putLines_31 rfl ?_
  obtain ⟨hR_33, hS⟩ := hS
  have key_69 : fsW G l mX3_putLines 1 0 0 0 0 Q 69 [(0, .inr (.inr (some 9))), (1, .inl x1), (2, .inl x2), (3, .inl (L_X7_cellOf_r ht I A J it dyn x1 x2)), (4, .inl (if ((nI ht) - (A 10 (I 7).toNatClampNeg)) < (A 12 (L_X7_cellOf_r ht I A J it dyn x1 x2).toNatClampNeg) then ((nI ht) - (A 10 (I 7).toNatClampNeg)) else (A 12 (L_X7_cellOf_r ht I A J it dyn x1 x2).toNatClampNeg)))] [] (fs_mk ht I (if (if ((nI ht) - (A 10 (I 7).toNatClampNeg)) < (A 12 (L_X7_cellOf_r ht I A J it dyn x1 x2).toNatClampNeg) then ((nI ht) - (A 10 (I 7).toNatClampNeg)) else (A 12 (L_X7_cellOf_r ht I A J it dyn x1 x2).toNatClampNeg)) ≤ 0 then A else (if (A 11 (L_X7_cellOf_r ht I A J it dyn x1 x2).toNatClampNeg) = (-1) then (va_up A 11 (upd (A 11) (L_X7_cellOf_r ht I A J it dyn x1 x2).toNatClampNeg ((32 * (I 7)) + (A 10 (I 7).toNatClampNeg)))) else A)) J it dyn) := by
    refine fs_iconst (v := 0) dX3_putLines_69 rfl ?_
    refine fs_istore (L' := [(5, .inl 0), (0, .inr (.inr (some 9))), (1, .inl x1), (2, .inl x2), (3, .inl (L_X7_cellOf_r ht I A J it dyn x1 x2)), (4, .inl (if ((nI ht) - (A 10 (I 7).toNatClampNeg)) < (A 12 (L_X7_cellOf_r ht I A J it dyn x1 x2).toNatClampNeg) then ((nI ht) - (A 10 (I 7).toNatClampNeg)) else (A 12 (L_X7_cellOf_r ht I A J it dyn x1 x2).toNatClampNeg)))]) dX3_putLines_70 (by decide) rfl ?_
    refine fs_reL [1, 2, 3, 4, 5, 0] rfl ?_
    have ho1 := hS
    refine lp_Lb_X3_putLines_72 G l Q 70 ht I (if (if ((nI ht) - (A 10 (I 7).toNatClampNeg)) < (A 12 (L_X7_cellOf_r ht I A J it dyn x1 x2).toNatClampNeg) then ((nI ht) - (A 10 (I 7).toNatClampNeg)) else (A 12 (L_X7_cellOf_r ht I A J it dyn x1 x2).toNatClampNeg)) ≤ 0 then A else (if (A 11 (L_X7_cellOf_r ht I A J it dyn x1 x2).toNatClampNeg) = (-1) then (va_up A 11 (upd (A 11) (L_X7_cellOf_r ht I A J it dyn x1 x2).toNatClampNeg ((32 * (I 7)) + (A 10 (I 7).toNatClampNeg)))) else A)) J it dyn x1 x2 (L_X7_cellOf_r ht I A J it dyn x1 x2) (if ((nI ht) - (A 10 (I 7).toNatClampNeg)) < (A 12 (L_X7_cellOf_r ht I A J it dyn x1 x2).toNatClampNeg) then ((nI ht) - (A 10 (I 7).toNatClampNeg)) else (A 12 (L_X7_cellOf_r ht I A J it dyn x1 x2).toNatClampNeg)) 0 ho1 ?_
    have k9 := hq
    exact fs_ret dX3_putLines_128 rfl k9
  refine fs_if_le 69 dX3_putLines_33 (by decide) (fun c_33 : (if ((nI ht) - (A 10 (I 7).toNatClampNeg)) < (A 12 (L_X7_cellOf_r ht I A J it dyn x1 x2).toNatClampNeg) then ((nI ht) - (A 10 (I 7).toNatClampNeg)) else (A 12 (L_X7_cellOf_r ht I A J it dyn x1 x2).toNatClampNeg)) ≤ 0 => ?_) (fun c_33 : ¬ ((if ((nI ht) - (A 10 (I 7).toNatClampNeg)) < (A 12 (L_X7_cellOf_r ht I A J it dyn x1 x2).toNatClampNeg) then ((nI ht) - (A 10 (I 7).toNatClampNeg)) else (A 12 (L_X7_cellOf_r ht I A J it dyn x1 x2).toNatClampNeg)) ≤ 0) => ?_)
  · refine fs_reL [2, 3, 4, 1, 0] rfl ?_
    have k9 := key_69
    try simp only [if_pos c_33] at k9 ⊢
    exact k9
  · have hS := hR_33 c_33
    refine fs_aload_n dX3_putLines_36 rfl rfl ?_
    refine fs_getfield (v := .inr (.inr (some 11))) dX3_putLines_37 sf_X3_15 rfl rfl ?_
    refine fs_iload_n dX3_putLines_40 rfl rfl ?_
    obtain ⟨ho1, hS⟩ := hS
    refine fs_iaload dX3_putLines_41 rfl ho1 ?_
    refine fs_iconst (v := (-1)) dX3_putLines_42 rfl ?_
    refine fs_icmp_ne 69 dX3_putLines_43 (by decide) (fun c_43 : ¬ (A 11 (L_X7_cellOf_r ht I A J it dyn x1 x2).toNatClampNeg) = (-1) => ?_) (fun c_43 : (A 11 (L_X7_cellOf_r ht I A J it dyn x1 x2).toNatClampNeg) = (-1) => ?_)
    · refine fs_reL [2, 3, 4, 1, 0] rfl ?_
      have k9 := key_69
      try simp only [if_neg c_33, if_neg c_43] at k9 ⊢
      exact k9
    · have hS := hS c_43
      refine fs_aload_n dX3_putLines_46 rfl rfl ?_
      refine fs_getfield (v := .inr (.inr (some 11))) dX3_putLines_47 sf_X3_15 rfl rfl ?_
      refine fs_iload_n dX3_putLines_50 rfl rfl ?_
      refine fs_bipush (v := 32) dX3_putLines_51 rfl ?_
      refine fs_aload_n dX3_putLines_53 rfl rfl ?_
      refine fs_getfield (v := .inl (I 7)) dX3_putLines_54 sf_X3_21 rfl rfl ?_
      refine fs_imul dX3_putLines_57 ?_
      refine fs_aload_n dX3_putLines_58 rfl rfl ?_
      refine fs_getfield (v := .inr (.inr (some 10))) dX3_putLines_59 sf_X3_9 rfl rfl ?_
      refine fs_aload_n dX3_putLines_62 rfl rfl ?_
      refine fs_getfield (v := .inl (I 7)) dX3_putLines_63 sf_X3_21 rfl rfl ?_
      obtain ⟨ho1, hS⟩ := hS
      refine fs_iaload dX3_putLines_66 rfl ho1 ?_
      refine fs_iadd dX3_putLines_67 ?_
      have ho1 := hS
      refine fss_11 dX3_putLines_68 ho1 ?_
      refine fs_reL [2, 3, 4, 1, 0] rfl ?_
      have k9 := key_69
      try simp only [if_neg c_33, if_pos c_43] at k9 ⊢
      exact k9
def L_X3_putAlone_I (ht : Nat) (I : Nat → Int32) (A : Nat → Nat → Int32) (J : Nat → Nat → Int64) (it : Nat → Option Nat) (dyn : fsH) (x1 : Int32) (x2 : Int32) : Nat → Int32 := (L_X3_turnPage_I ht I A J it dyn (A 12 (L_X7_cellOf_r ht I A J it dyn x1 x2).toNatClampNeg))
def L_X3_putAlone_A (ht : Nat) (I : Nat → Int32) (A : Nat → Nat → Int32) (J : Nat → Nat → Int64) (it : Nat → Option Nat) (dyn : fsH) (x1 : Int32) (x2 : Int32) : Nat → Nat → Int32 := (L_X3_putLines_A ht (L_X3_turnPage_I ht I A J it dyn (A 12 (L_X7_cellOf_r ht I A J it dyn x1 x2).toNatClampNeg)) A J it dyn x1 x2)
def S_X3_putAlone (ht : Nat) (I : Nat → Int32) (A : Nat → Nat → Int32) (J : Nat → Nat → Int64) (it : Nat → Option Nat) (dyn : fsH) (x1 : Int32) (x2 : Int32) : Prop := ((vp_in (L_X7_cellOf_r ht I A J it dyn x1 x2) 64) ∧ ((S_X3_turnPage ht I A J it dyn (A 12 (L_X7_cellOf_r ht I A J it dyn x1 x2).toNatClampNeg)) ∧ (S_X3_putLines ht (L_X3_turnPage_I ht I A J it dyn (A 12 (L_X7_cellOf_r ht I A J it dyn x1 x2).toNatClampNeg)) A J it dyn x1 x2)))
set_option maxRecDepth 100000 in
set_option maxHeartbeats 4000000 in
theorem c_X3_putAlone (G : fsG) (l : Launch) (ht : Nat) (I : Nat → Int32) (A : Nat → Nat → Int32) (J : Nat → Nat → Int64) (it : Nat → Option Nat) (dyn : fsH) (x1 : Int32) (x2 : Int32) (hS : S_X3_putAlone ht I A J it dyn x1 x2) : fsFn G l mX3_putAlone 2 0 0 [.inr (.inr (some 9)), .inl x1, .inl x2] (fs_mk ht I A J it dyn) none (fs_mk ht (L_X3_putAlone_I ht I A J it dyn x1 x2) (L_X3_putAlone_A ht I A J it dyn x1 x2) J it dyn) := by
  refine fsMet_of (by decide) (Nat.le_of_ble_eq_true rfl) ?_
  generalize hQ : (fun (r1 : Option fsV) (h1 : fsH) => r1 = none ∧ h1 = (fs_mk ht (L_X3_putAlone_I ht I A J it dyn x1 x2) (L_X3_putAlone_A ht I A J it dyn x1 x2) J it dyn)) = Q
  have hq : Q none (fs_mk ht (L_X3_putAlone_I ht I A J it dyn x1 x2) (L_X3_putAlone_A ht I A J it dyn x1 x2) J it dyn) := by rw [← hQ]; exact ⟨rfl, rfl⟩
  clear hQ
  have hq : Q none (fs_mk ht (L_X3_turnPage_I ht I A J it dyn (A 12 (L_X7_cellOf_r ht I A J it dyn x1 x2).toNatClampNeg)) (L_X3_putLines_A ht (L_X3_turnPage_I ht I A J it dyn (A 12 (L_X7_cellOf_r ht I A J it dyn x1 x2).toNatClampNeg)) A J it dyn x1 x2) J it dyn) := hq
  have hS : ((vp_in (L_X7_cellOf_r ht I A J it dyn x1 x2) 64) ∧ ((S_X3_turnPage ht I A J it dyn (A 12 (L_X7_cellOf_r ht I A J it dyn x1 x2).toNatClampNeg)) ∧ (S_X3_putLines ht (L_X3_turnPage_I ht I A J it dyn (A 12 (L_X7_cellOf_r ht I A J it dyn x1 x2).toNatClampNeg)) A J it dyn x1 x2))) := hS
  refine (show fsW G l mX3_putAlone 2 0 0 0 0 Q 0 [(0, .inr (.inr (some 9))), (1, .inl x1), (2, .inl x2)] [] (fs_mk ht I A J it dyn) from ?_)
  refine fs_aload_n dX3_putAlone_0 rfl rfl ?_
  refine fs_aload_n dX3_putAlone_1 rfl rfl ?_
  refine fs_getfield (v := .inr (.inr (some 12))) dX3_putAlone_2 sf_X3_18 rfl rfl ?_
  refine fs_iload_n dX3_putAlone_5 rfl rfl ?_
  refine fs_iload_n dX3_putAlone_6 rfl rfl ?_
  refine fs_callSN1 dX3_putAlone_7 sv_X3_45 (c_X7_cellOf G l ht I A J it dyn x1 x2) rfl rfl (Nat.le_of_ble_eq_true rfl) (Nat.le_of_ble_eq_true rfl) (Nat.le_of_ble_eq_true rfl) (Nat.le_of_ble_eq_true rfl) ?_
  obtain ⟨ho1, hS⟩ := hS
  refine fs_iaload dX3_putAlone_10 rfl ho1 ?_
  obtain ⟨ho1, hS⟩ := hS
  refine fs_callV1 dX3_putAlone_11 sv_X3_107 rfl ⟨_, rfl, rfl⟩ (c_X3_turnPage G l ht I A J it dyn (A 12 (L_X7_cellOf_r ht I A J it dyn x1 x2).toNatClampNeg) ho1) rfl rfl (Nat.le_of_ble_eq_true rfl) (Nat.le_of_ble_eq_true rfl) (Nat.le_of_ble_eq_true rfl) (Nat.le_of_ble_eq_true rfl) ?_
  refine fs_pop dX3_putAlone_14 rfl ?_
  refine fs_aload_n dX3_putAlone_15 rfl rfl ?_
  refine fs_iload_n dX3_putAlone_16 rfl rfl ?_
  refine fs_iload_n dX3_putAlone_17 rfl rfl ?_
  have ho1 := hS
  refine fs_callV0 dX3_putAlone_18 sv_X3_113 rfl ⟨_, rfl, rfl⟩ (c_X3_putLines G l ht (L_X3_turnPage_I ht I A J it dyn (A 12 (L_X7_cellOf_r ht I A J it dyn x1 x2).toNatClampNeg)) A J it dyn x1 x2 ho1) rfl rfl (Nat.le_of_ble_eq_true rfl) (Nat.le_of_ble_eq_true rfl) (Nat.le_of_ble_eq_true rfl) (Nat.le_of_ble_eq_true rfl) ?_
  have k9 := hq
  exact fs_ret dX3_putAlone_21 rfl k9
def L_X3_putHeader_A (ht : Nat) (I : Nat → Int32) (A : Nat → Nat → Int32) (J : Nat → Nat → Int64) (it : Nat → Option Nat) (dyn : fsH) (x1 : Int32) (x2 : Int32) : Nat → Nat → Int32 := (if (L_X1_isCaption_r ht I A J it dyn x1) = 0 then A else (if (nI ht) < ((A 12 (L_X7_cellOf_r ht I A J it dyn x1 0).toNatClampNeg) + x2) then A else (L_X3_putLines_A ht I A J it dyn x1 0)))
def S_X3_putHeader (ht : Nat) (I : Nat → Int32) (A : Nat → Nat → Int32) (J : Nat → Nat → Int64) (it : Nat → Option Nat) (dyn : fsH) (x1 : Int32) (x2 : Int32) : Prop := ((S_X1_isCaption ht I A J it dyn x1) ∧ (¬ ((L_X1_isCaption_r ht I A J it dyn x1) = 0) → ((vp_in (L_X7_cellOf_r ht I A J it dyn x1 0) 64) ∧ (¬ ((nI ht) < ((A 12 (L_X7_cellOf_r ht I A J it dyn x1 0).toNatClampNeg) + x2)) → (S_X3_putLines ht I A J it dyn x1 0)))))
set_option maxRecDepth 100000 in
set_option maxHeartbeats 4000000 in
theorem c_X3_putHeader (G : fsG) (l : Launch) (ht : Nat) (I : Nat → Int32) (A : Nat → Nat → Int32) (J : Nat → Nat → Int64) (it : Nat → Option Nat) (dyn : fsH) (x1 : Int32) (x2 : Int32) (hS : S_X3_putHeader ht I A J it dyn x1 x2) : fsFn G l mX3_putHeader 2 0 0 [.inr (.inr (some 9)), .inl x1, .inl x2] (fs_mk ht I A J it dyn) none (fs_mk ht I (L_X3_putHeader_A ht I A J it dyn x1 x2) J it dyn) := by
  refine fsMet_of (by decide) (Nat.le_of_ble_eq_true rfl) ?_
  generalize hQ : (fun (r1 : Option fsV) (h1 : fsH) => r1 = none ∧ h1 = (fs_mk ht I (L_X3_putHeader_A ht I A J it dyn x1 x2) J it dyn)) = Q
  have hq : Q none (fs_mk ht I (L_X3_putHeader_A ht I A J it dyn x1 x2) J it dyn) := by rw [← hQ]; exact ⟨rfl, rfl⟩
  clear hQ
  have hq : Q none (fs_mk ht I (if (L_X1_isCaption_r ht I A J it dyn x1) = 0 then A else (if (nI ht) < ((A 12 (L_X7_cellOf_r ht I A J it dyn x1 0).toNatClampNeg) + x2) then A else (L_X3_putLines_A ht I A J it dyn x1 0))) J it dyn) := hq
  have hS : ((S_X1_isCaption ht I A J it dyn x1) ∧ (¬ ((L_X1_isCaption_r ht I A J it dyn x1) = 0) → ((vp_in (L_X7_cellOf_r ht I A J it dyn x1 0) 64) ∧ (¬ ((nI ht) < ((A 12 (L_X7_cellOf_r ht I A J it dyn x1 0).toNatClampNeg) + x2)) → (S_X3_putLines ht I A J it dyn x1 0))))) := hS
  refine (show fsW G l mX3_putHeader 2 0 0 0 0 Q 0 [(0, .inr (.inr (some 9))), (1, .inl x1), (2, .inl x2)] [] (fs_mk ht I A J it dyn) from ?_)
  refine fs_aload_n dX3_putHeader_0 rfl rfl ?_
  refine fs_getfield (v := .inr (.inr (some 3))) dX3_putHeader_1 sf_X3_25 rfl rfl ?_
  refine fs_iload_n dX3_putHeader_4 rfl rfl ?_
  obtain ⟨ho1, hS⟩ := hS
  refine fs_callV1 dX3_putHeader_5 sv_X3_80 rfl ⟨_, rfl, rfl⟩ (c_X1_isCaption G l ht I A J it dyn x1 ho1) rfl rfl (Nat.le_of_ble_eq_true rfl) (Nat.le_of_ble_eq_true rfl) (Nat.le_of_ble_eq_true rfl) (Nat.le_of_ble_eq_true rfl) ?_
  have hR_8 := hS
  have key_36 : fsW G l mX3_putHeader 2 0 0 0 0 Q 36 [(0, .inr (.inr (some 9))), (1, .inl x1), (2, .inl x2)] [] (fs_mk ht I (if (L_X1_isCaption_r ht I A J it dyn x1) = 0 then A else (if (nI ht) < ((A 12 (L_X7_cellOf_r ht I A J it dyn x1 0).toNatClampNeg) + x2) then A else (L_X3_putLines_A ht I A J it dyn x1 0))) J it dyn) := by
    have k9 := hq
    exact fs_ret dX3_putHeader_36 rfl k9
  refine fs_if_eq 36 dX3_putHeader_8 (by decide) (fun c_8 : (L_X1_isCaption_r ht I A J it dyn x1) = 0 => ?_) (fun c_8 : ¬ ((L_X1_isCaption_r ht I A J it dyn x1) = 0) => ?_)
  · have k9 := key_36
    try simp only [if_pos c_8] at k9 ⊢
    exact k9
  · have hS := hR_8 c_8
    refine fs_aload_n dX3_putHeader_11 rfl rfl ?_
    refine fs_getfield (v := .inr (.inr (some 12))) dX3_putHeader_12 sf_X3_18 rfl rfl ?_
    refine fs_iload_n dX3_putHeader_15 rfl rfl ?_
    refine fs_iconst (v := 0) dX3_putHeader_16 rfl ?_
    refine fs_callSN1 dX3_putHeader_17 sv_X3_45 (c_X7_cellOf G l ht I A J it dyn x1 0) rfl rfl (Nat.le_of_ble_eq_true rfl) (Nat.le_of_ble_eq_true rfl) (Nat.le_of_ble_eq_true rfl) (Nat.le_of_ble_eq_true rfl) ?_
    obtain ⟨ho1, hS⟩ := hS
    refine fs_iaload dX3_putHeader_20 rfl ho1 ?_
    refine fs_iload_n dX3_putHeader_21 rfl rfl ?_
    refine fs_iadd dX3_putHeader_22 ?_
    refine fs_aload_n dX3_putHeader_23 rfl rfl ?_
    refine fs_getfield (v := .inl (nI ht)) dX3_putHeader_24 sf_X3_33 rfl rfl ?_
    refine fs_icmp_gt 36 dX3_putHeader_27 (by decide) (fun c_27 : (nI ht) < ((A 12 (L_X7_cellOf_r ht I A J it dyn x1 0).toNatClampNeg) + x2) => ?_) (fun c_27 : ¬ ((nI ht) < ((A 12 (L_X7_cellOf_r ht I A J it dyn x1 0).toNatClampNeg) + x2)) => ?_)
    · have k9 := key_36
      try simp only [if_neg c_8, if_pos c_27] at k9 ⊢
      exact k9
    · have hS := hS c_27
      refine fs_aload_n dX3_putHeader_30 rfl rfl ?_
      refine fs_iload_n dX3_putHeader_31 rfl rfl ?_
      refine fs_iconst (v := 0) dX3_putHeader_32 rfl ?_
      have ho1 := hS
      refine fs_callV0 dX3_putHeader_33 sv_X3_113 rfl ⟨_, rfl, rfl⟩ (c_X3_putLines G l ht I A J it dyn x1 0 ho1) rfl rfl (Nat.le_of_ble_eq_true rfl) (Nat.le_of_ble_eq_true rfl) (Nat.le_of_ble_eq_true rfl) (Nat.le_of_ble_eq_true rfl) ?_
      have k9 := key_36
      try simp only [if_neg c_8, if_neg c_27] at k9 ⊢
      exact k9
def L_X3_linesOf_r (ht : Nat) (I : Nat → Int32) (A : Nat → Nat → Int32) (J : Nat → Nat → Int64) (it : Nat → Option Nat) (dyn : fsH) (x1 : Int32) (x2 : Int32) : Int32 := (if (L_X1_isCaption_r ht I A J it dyn x1) = 0 then (if (L_X1_isField_r ht I A J it dyn x1) = 0 then (if (L_X6_fails_r ht I A J it dyn x1 x2) = 0 then 0 else 1 : Int32) else 1 : Int32) else (fs_dI dyn (it x1.toNatClampNeg) 4))
def S_X3_linesOf (ht : Nat) (I : Nat → Int32) (A : Nat → Nat → Int32) (J : Nat → Nat → Int64) (it : Nat → Option Nat) (dyn : fsH) (x1 : Int32) (x2 : Int32) : Prop := ((S_X1_isCaption ht I A J it dyn x1) ∧ ((((L_X1_isCaption_r ht I A J it dyn x1) = 0) → ((S_X1_isField ht I A J it dyn x1) ∧ (((L_X1_isField_r ht I A J it dyn x1) = 0) → (S_X6_fails ht I A J it dyn x1 x2)))) ∧ (¬ ((L_X1_isCaption_r ht I A J it dyn x1) = 0) → ((vp_in x1 16) ∧ (fs_okI dyn (it x1.toNatClampNeg))))))
set_option maxRecDepth 100000 in
set_option maxHeartbeats 4000000 in
theorem c_X3_linesOf (G : fsG) (l : Launch) (ht : Nat) (I : Nat → Int32) (A : Nat → Nat → Int32) (J : Nat → Nat → Int64) (it : Nat → Option Nat) (dyn : fsH) (x1 : Int32) (x2 : Int32) (hS : S_X3_linesOf ht I A J it dyn x1 x2) : fsFn G l mX3_linesOf 4 0 0 [.inr (.inr (some 9)), .inl x1, .inl x2] (fs_mk ht I A J it dyn) (some (.inl (L_X3_linesOf_r ht I A J it dyn x1 x2))) (fs_mk ht I A J it dyn) := by
  refine fsMet_of (by decide) (Nat.le_of_ble_eq_true rfl) ?_
  generalize hQ : (fun (r1 : Option fsV) (h1 : fsH) => r1 = (some (.inl (L_X3_linesOf_r ht I A J it dyn x1 x2))) ∧ h1 = (fs_mk ht I A J it dyn)) = Q
  have hq : Q (some (.inl (L_X3_linesOf_r ht I A J it dyn x1 x2))) (fs_mk ht I A J it dyn) := by rw [← hQ]; exact ⟨rfl, rfl⟩
  clear hQ
  have hq : Q (some (.inl (if (L_X1_isCaption_r ht I A J it dyn x1) = 0 then (if (L_X1_isField_r ht I A J it dyn x1) = 0 then (if (L_X6_fails_r ht I A J it dyn x1 x2) = 0 then 0 else 1 : Int32) else 1 : Int32) else (fs_dI dyn (it x1.toNatClampNeg) 4) : Int32))) (fs_mk ht I A J it dyn) := hq
  have hS : ((S_X1_isCaption ht I A J it dyn x1) ∧ ((((L_X1_isCaption_r ht I A J it dyn x1) = 0) → ((S_X1_isField ht I A J it dyn x1) ∧ (((L_X1_isField_r ht I A J it dyn x1) = 0) → (S_X6_fails ht I A J it dyn x1 x2)))) ∧ (¬ ((L_X1_isCaption_r ht I A J it dyn x1) = 0) → ((vp_in x1 16) ∧ (fs_okI dyn (it x1.toNatClampNeg)))))) := hS
  refine (show fsW G l mX3_linesOf 4 0 0 0 0 Q 0 [(0, .inr (.inr (some 9))), (1, .inl x1), (2, .inl x2)] [] (fs_mk ht I A J it dyn) from ?_)
  refine fs_aload_n dX3_linesOf_0 rfl rfl ?_
  refine fs_getfield (v := .inr (.inr (some 3))) dX3_linesOf_1 sf_X3_25 rfl rfl ?_
  refine fs_iload_n dX3_linesOf_4 rfl rfl ?_
  obtain ⟨ho1, hS⟩ := hS
  refine fs_callV1 dX3_linesOf_5 sv_X3_80 rfl ⟨_, rfl, rfl⟩ (c_X1_isCaption G l ht I A J it dyn x1 ho1) rfl rfl (Nat.le_of_ble_eq_true rfl) (Nat.le_of_ble_eq_true rfl) (Nat.le_of_ble_eq_true rfl) (Nat.le_of_ble_eq_true rfl) ?_
  refine fs_if_eq 24 dX3_linesOf_8 (by decide) (fun c_8 : (L_X1_isCaption_r ht I A J it dyn x1) = 0 => ?_) (fun c_8 : ¬ ((L_X1_isCaption_r ht I A J it dyn x1) = 0) => ?_)
  · have hS := hS.1 c_8
    refine fs_aload_n dX3_linesOf_24 rfl rfl ?_
    refine fs_getfield (v := .inr (.inr (some 3))) dX3_linesOf_25 sf_X3_25 rfl rfl ?_
    refine fs_iload_n dX3_linesOf_28 rfl rfl ?_
    obtain ⟨ho1, hS⟩ := hS
    refine fs_callV1 dX3_linesOf_29 sv_X3_92 rfl ⟨_, rfl, rfl⟩ (c_X1_isField G l ht I A J it dyn x1 ho1) rfl rfl (Nat.le_of_ble_eq_true rfl) (Nat.le_of_ble_eq_true rfl) (Nat.le_of_ble_eq_true rfl) (Nat.le_of_ble_eq_true rfl) ?_
    have hR_32 := hS
    have key_52 : fsW G l mX3_linesOf 4 0 0 0 0 Q 52 [(0, .inr (.inr (some 9))), (1, .inl x1), (2, .inl x2)] [.inl (if (L_X1_isField_r ht I A J it dyn x1) = 0 then (if (L_X6_fails_r ht I A J it dyn x1 x2) = 0 then 0 else 1 : Int32) else 1 : Int32)] (fs_mk ht I A J it dyn) := by
      have k9 := hq
      try simp only [if_pos c_8] at k9 ⊢
      exact fs_iret dX3_linesOf_52 rfl rfl k9
    refine fs_if_ne 47 dX3_linesOf_32 (by decide) (fun c_32 : ¬ (L_X1_isField_r ht I A J it dyn x1) = 0 => ?_) (fun c_32 : (L_X1_isField_r ht I A J it dyn x1) = 0 => ?_)
    · refine fs_iconst (v := 1) dX3_linesOf_47 rfl ?_
      refine fs_goto 52 dX3_linesOf_48 (by decide) ?_
      have k9 := key_52
      try simp only [if_pos c_8, if_neg c_32] at k9 ⊢
      exact k9
    · have hS := hR_32 c_32
      refine fs_aload_n dX3_linesOf_35 rfl rfl ?_
      refine fs_getfield (v := .inr (.inr (some 5))) dX3_linesOf_36 sf_X3_29 rfl rfl ?_
      refine fs_iload_n dX3_linesOf_39 rfl rfl ?_
      refine fs_iload_n dX3_linesOf_40 rfl rfl ?_
      have ho1 := hS
      refine fs_callV1 dX3_linesOf_41 sv_X3_95 rfl ⟨_, rfl, rfl⟩ (c_X6_fails G l ht I A J it dyn x1 x2 ho1) rfl rfl (Nat.le_of_ble_eq_true rfl) (Nat.le_of_ble_eq_true rfl) (Nat.le_of_ble_eq_true rfl) (Nat.le_of_ble_eq_true rfl) ?_
      refine fs_if_eq 51 dX3_linesOf_44 (by decide) (fun c_44 : (L_X6_fails_r ht I A J it dyn x1 x2) = 0 => ?_) (fun c_44 : ¬ ((L_X6_fails_r ht I A J it dyn x1 x2) = 0) => ?_)
      · refine fs_iconst (v := 0) dX3_linesOf_51 rfl ?_
        have k9 := key_52
        try simp only [if_pos c_8, if_pos c_32, if_pos c_44] at k9 ⊢
        exact k9
      · refine fs_iconst (v := 1) dX3_linesOf_47 rfl ?_
        refine fs_goto 52 dX3_linesOf_48 (by decide) ?_
        have k9 := key_52
        try simp only [if_pos c_8, if_pos c_32, if_neg c_44] at k9 ⊢
        exact k9
  · have hS := hS.2 c_8
    refine fs_aload_n dX3_linesOf_11 rfl rfl ?_
    refine fs_getfield (v := .inr (.inr (some 3))) dX3_linesOf_12 sf_X3_25 rfl rfl ?_
    refine fs_getfield (v := .inr (.inr (some 4))) dX3_linesOf_15 sf_X3_83 rfl rfl ?_
    refine fs_iload_n dX3_linesOf_18 rfl rfl ?_
    obtain ⟨ho1, hS⟩ := hS
    refine fs_aaload dX3_linesOf_19 rfl ho1 ?_
    have ho1 := hS
    refine fsg_I4 dX3_linesOf_20 sf_X3_87 ho1 ?_
    have k9 := hq
    try simp only [if_neg c_8] at k9 ⊢
    exact fs_iret dX3_linesOf_23 rfl rfl k9
def Lb_X3_measure_15_A : Nat → Nat → (Nat → Int32) → (Nat → Nat → Int32) → (Nat → Nat → Int64) → (Nat → Option Nat) → fsH → Int32 → Int32 → (Nat → Nat → Int32)
  | 0, ht, I, A, J, it, dyn, v1, v2 => A
  | n + 1, ht, I, A, J, it, dyn, v1, v2 => (if (L_X1_rowsOf_r ht I A J it dyn v1) ≤ v2 then A else (Lb_X3_measure_15_A n ht I (va_up A 12 (upd (A 12) (L_X7_cellOf_r ht I A J it dyn v1 v2).toNatClampNeg (L_X3_linesOf_r ht I A J it dyn v1 v2))) J it dyn v1 (v2 + 1)))
def Lb_X3_measure_15_v2 : Nat → Nat → (Nat → Int32) → (Nat → Nat → Int32) → (Nat → Nat → Int64) → (Nat → Option Nat) → fsH → Int32 → Int32 → Int32
  | 0, ht, I, A, J, it, dyn, v1, v2 => v2
  | n + 1, ht, I, A, J, it, dyn, v1, v2 => (if (L_X1_rowsOf_r ht I A J it dyn v1) ≤ v2 then v2 else (Lb_X3_measure_15_v2 n ht I (va_up A 12 (upd (A 12) (L_X7_cellOf_r ht I A J it dyn v1 v2).toNatClampNeg (L_X3_linesOf_r ht I A J it dyn v1 v2))) J it dyn v1 (v2 + 1)))
def S_Lb_X3_measure_15 : Nat → Nat → (Nat → Int32) → (Nat → Nat → Int32) → (Nat → Nat → Int64) → (Nat → Option Nat) → fsH → Int32 → Int32 → Prop
  | 0, _, _, _, _, _, _, _, _ => False
  | n + 1, ht, I, A, J, it, dyn, v1, v2 => ((S_X1_rowsOf ht I A J it dyn v1) ∧ (¬ ((L_X1_rowsOf_r ht I A J it dyn v1) ≤ v2) → ((S_X3_linesOf ht I A J it dyn v1 v2) ∧ ((vp_in (L_X7_cellOf_r ht I A J it dyn v1 v2) 64) ∧ (S_Lb_X3_measure_15 n ht I (va_up A 12 (upd (A 12) (L_X7_cellOf_r ht I A J it dyn v1 v2).toNatClampNeg (L_X3_linesOf_r ht I A J it dyn v1 v2))) J it dyn v1 (v2 + 1))))))
set_option maxRecDepth 100000 in
set_option maxHeartbeats 4000000 in
theorem lp_Lb_X3_measure_15 (G : fsG) (l : Launch) (Q : Option fsV → fsH → Prop) : ∀ (n : Nat) (ht : Nat) (I : Nat → Int32) (A : Nat → Nat → Int32) (J : Nat → Nat → Int64) (it : Nat → Option Nat) (dyn : fsH) (v1 : Int32) (v2 : Int32), S_Lb_X3_measure_15 n ht I A J it dyn v1 v2 → (fsW G l mX3_measure 5 0 0 0 0 Q 49 [(0, .inr (.inr (some 9))), (1, .inl v1), (2, .inl (Lb_X3_measure_15_v2 n ht I A J it dyn v1 v2))] [] (fs_mk ht I (Lb_X3_measure_15_A n ht I A J it dyn v1 v2) J it dyn)) → fsW G l mX3_measure 5 0 0 0 0 Q 15 [(0, .inr (.inr (some 9))), (1, .inl v1), (2, .inl v2)] [] (fs_mk ht I A J it dyn) := by
  intro n
  induction n with
  | zero =>
    intro ht I A J it dyn v1 v2 hS
    exact hS.elim
  | succ n ih =>
    intro ht I A J it dyn v1 v2 hS hq
    have hS : ((S_X1_rowsOf ht I A J it dyn v1) ∧ (¬ ((L_X1_rowsOf_r ht I A J it dyn v1) ≤ v2) → ((S_X3_linesOf ht I A J it dyn v1 v2) ∧ ((vp_in (L_X7_cellOf_r ht I A J it dyn v1 v2) 64) ∧ (S_Lb_X3_measure_15 n ht I (va_up A 12 (upd (A 12) (L_X7_cellOf_r ht I A J it dyn v1 v2).toNatClampNeg (L_X3_linesOf_r ht I A J it dyn v1 v2))) J it dyn v1 (v2 + 1)))))) := hS
    have hq : fsW G l mX3_measure 5 0 0 0 0 Q 49 [(0, .inr (.inr (some 9))), (1, .inl v1), (2, .inl (if (L_X1_rowsOf_r ht I A J it dyn v1) ≤ v2 then v2 else (Lb_X3_measure_15_v2 n ht I (va_up A 12 (upd (A 12) (L_X7_cellOf_r ht I A J it dyn v1 v2).toNatClampNeg (L_X3_linesOf_r ht I A J it dyn v1 v2))) J it dyn v1 (v2 + 1))))] [] (fs_mk ht I (if (L_X1_rowsOf_r ht I A J it dyn v1) ≤ v2 then A else (Lb_X3_measure_15_A n ht I (va_up A 12 (upd (A 12) (L_X7_cellOf_r ht I A J it dyn v1 v2).toNatClampNeg (L_X3_linesOf_r ht I A J it dyn v1 v2))) J it dyn v1 (v2 + 1))) J it dyn) := hq
    refine fs_iload_n dX3_measure_15 rfl rfl ?_
    refine fs_aload_n dX3_measure_16 rfl rfl ?_
    refine fs_getfield (v := .inr (.inr (some 3))) dX3_measure_17 sf_X3_25 rfl rfl ?_
    refine fs_iload_n dX3_measure_20 rfl rfl ?_
    obtain ⟨ho1, hS⟩ := hS
    refine fs_callV1 dX3_measure_21 sv_X3_73 rfl ⟨_, rfl, rfl⟩ (c_X1_rowsOf G l ht I A J it dyn v1 ho1) rfl rfl (Nat.le_of_ble_eq_true rfl) (Nat.le_of_ble_eq_true rfl) (Nat.le_of_ble_eq_true rfl) (Nat.le_of_ble_eq_true rfl) ?_
    refine fs_icmp_ge 49 dX3_measure_24 (by decide) (fun c_24 : (L_X1_rowsOf_r ht I A J it dyn v1) ≤ v2 => ?_) (fun c_24 : ¬ ((L_X1_rowsOf_r ht I A J it dyn v1) ≤ v2) => ?_)
    · have k9 := hq
      try simp only [if_pos c_24] at k9 ⊢
      exact k9
    · have hS := hS c_24
      refine fs_aload_n dX3_measure_27 rfl rfl ?_
      refine fs_getfield (v := .inr (.inr (some 12))) dX3_measure_28 sf_X3_18 rfl rfl ?_
      refine fs_iload_n dX3_measure_31 rfl rfl ?_
      refine fs_iload_n dX3_measure_32 rfl rfl ?_
      refine fs_callSN1 dX3_measure_33 sv_X3_45 (c_X7_cellOf G l ht I A J it dyn v1 v2) rfl rfl (Nat.le_of_ble_eq_true rfl) (Nat.le_of_ble_eq_true rfl) (Nat.le_of_ble_eq_true rfl) (Nat.le_of_ble_eq_true rfl) ?_
      refine fs_aload_n dX3_measure_36 rfl rfl ?_
      refine fs_iload_n dX3_measure_37 rfl rfl ?_
      refine fs_iload_n dX3_measure_38 rfl rfl ?_
      obtain ⟨ho1, hS⟩ := hS
      refine fs_callV1 dX3_measure_39 sv_X3_77 rfl ⟨_, rfl, rfl⟩ (c_X3_linesOf G l ht I A J it dyn v1 v2 ho1) rfl rfl (Nat.le_of_ble_eq_true rfl) (Nat.le_of_ble_eq_true rfl) (Nat.le_of_ble_eq_true rfl) (Nat.le_of_ble_eq_true rfl) ?_
      obtain ⟨ho1, hS⟩ := hS
      refine fss_12 dX3_measure_42 ho1 ?_
      refine fs_iinc (v := (v2 + 1)) (L' := [(2, .inl (v2 + 1)), (0, .inr (.inr (some 9))), (1, .inl v1)]) dX3_measure_43 rfl rfl (by decide) rfl ?_
      refine fs_goto 15 dX3_measure_46 (by decide) ?_
      refine fs_reL [1, 2, 0] rfl ?_
      have k9 := hq
      try simp only [if_neg c_24] at hS k9 ⊢
      exact ih _ _ _ _ _ _ _ _ hS k9
def Lb_X3_measure_2_A : Nat → Nat → (Nat → Int32) → (Nat → Nat → Int32) → (Nat → Nat → Int64) → (Nat → Option Nat) → fsH → Int32 → (Nat → Nat → Int32)
  | 0, ht, I, A, J, it, dyn, v1 => A
  | n + 1, ht, I, A, J, it, dyn, v1 => (if (I 4) ≤ v1 then A else (Lb_X3_measure_2_A n ht I (Lb_X3_measure_15_A 70 ht I A J it dyn v1 0) J it dyn (v1 + 1)))
def Lb_X3_measure_2_v1 : Nat → Nat → (Nat → Int32) → (Nat → Nat → Int32) → (Nat → Nat → Int64) → (Nat → Option Nat) → fsH → Int32 → Int32
  | 0, ht, I, A, J, it, dyn, v1 => v1
  | n + 1, ht, I, A, J, it, dyn, v1 => (if (I 4) ≤ v1 then v1 else (Lb_X3_measure_2_v1 n ht I (Lb_X3_measure_15_A 70 ht I A J it dyn v1 0) J it dyn (v1 + 1)))
def S_Lb_X3_measure_2 : Nat → Nat → (Nat → Int32) → (Nat → Nat → Int32) → (Nat → Nat → Int64) → (Nat → Option Nat) → fsH → Int32 → Prop
  | 0, _, _, _, _, _, _, _ => False
  | n + 1, ht, I, A, J, it, dyn, v1 => (¬ ((I 4) ≤ v1) → ((S_Lb_X3_measure_15 70 ht I A J it dyn v1 0) ∧ (S_Lb_X3_measure_2 n ht I (Lb_X3_measure_15_A 70 ht I A J it dyn v1 0) J it dyn (v1 + 1))))
set_option maxRecDepth 100000 in
set_option maxHeartbeats 4000000 in
theorem lp_Lb_X3_measure_2 (G : fsG) (l : Launch) (Q : Option fsV → fsH → Prop) : ∀ (n : Nat) (ht : Nat) (I : Nat → Int32) (A : Nat → Nat → Int32) (J : Nat → Nat → Int64) (it : Nat → Option Nat) (dyn : fsH) (v1 : Int32), S_Lb_X3_measure_2 n ht I A J it dyn v1 → (fsW G l mX3_measure 5 0 0 0 0 Q 55 [(0, .inr (.inr (some 9))), (1, .inl (Lb_X3_measure_2_v1 n ht I A J it dyn v1))] [] (fs_mk ht I (Lb_X3_measure_2_A n ht I A J it dyn v1) J it dyn)) → fsW G l mX3_measure 5 0 0 0 0 Q 2 [(0, .inr (.inr (some 9))), (1, .inl v1)] [] (fs_mk ht I A J it dyn) := by
  intro n
  induction n with
  | zero =>
    intro ht I A J it dyn v1 hS
    exact hS.elim
  | succ n ih =>
    intro ht I A J it dyn v1 hS hq
    have hS : (¬ ((I 4) ≤ v1) → ((S_Lb_X3_measure_15 70 ht I A J it dyn v1 0) ∧ (S_Lb_X3_measure_2 n ht I (Lb_X3_measure_15_A 70 ht I A J it dyn v1 0) J it dyn (v1 + 1)))) := hS
    have hq : fsW G l mX3_measure 5 0 0 0 0 Q 55 [(0, .inr (.inr (some 9))), (1, .inl (if (I 4) ≤ v1 then v1 else (Lb_X3_measure_2_v1 n ht I (Lb_X3_measure_15_A 70 ht I A J it dyn v1 0) J it dyn (v1 + 1))))] [] (fs_mk ht I (if (I 4) ≤ v1 then A else (Lb_X3_measure_2_A n ht I (Lb_X3_measure_15_A 70 ht I A J it dyn v1 0) J it dyn (v1 + 1))) J it dyn) := hq
    refine fs_iload_n dX3_measure_2 rfl rfl ?_
    refine fs_aload_n dX3_measure_3 rfl rfl ?_
    refine fs_getfield (v := .inr (.inr (some 3))) dX3_measure_4 sf_X3_25 rfl rfl ?_
    refine fs_getfield (v := .inl (I 4)) dX3_measure_7 sf_X3_58 rfl rfl ?_
    refine fs_icmp_ge 55 dX3_measure_10 (by decide) (fun c_10 : (I 4) ≤ v1 => ?_) (fun c_10 : ¬ ((I 4) ≤ v1) => ?_)
    · have k9 := hq
      try simp only [if_pos c_10] at k9 ⊢
      exact k9
    · have hS := hS c_10
      refine fs_iconst (v := 0) dX3_measure_13 rfl ?_
      refine fs_istore_n (L' := [(2, .inl 0), (0, .inr (.inr (some 9))), (1, .inl v1)]) dX3_measure_14 rfl (by decide) rfl ?_
      refine fs_reL [1, 2, 0] rfl ?_
      obtain ⟨ho1, hS⟩ := hS
      refine lp_Lb_X3_measure_15 G l Q 70 ht I A J it dyn v1 0 ho1 ?_
      refine fs_iinc (v := (v1 + 1)) (L' := [(1, .inl (v1 + 1)), (0, .inr (.inr (some 9))), (2, .inl (Lb_X3_measure_15_v2 70 ht I A J it dyn v1 0))]) dX3_measure_49 rfl rfl (by decide) rfl ?_
      refine fs_goto 2 dX3_measure_52 (by decide) ?_
      refine fs_reL [1, 0] rfl ?_
      have k9 := hq
      try simp only [if_neg c_10] at hS k9 ⊢
      exact ih _ _ _ _ _ _ _ hS k9
def L_X3_measure_A (ht : Nat) (I : Nat → Int32) (A : Nat → Nat → Int32) (J : Nat → Nat → Int64) (it : Nat → Option Nat) (dyn : fsH)  : Nat → Nat → Int32 := (Lb_X3_measure_2_A 70 ht I A J it dyn 0)
def S_X3_measure (ht : Nat) (I : Nat → Int32) (A : Nat → Nat → Int32) (J : Nat → Nat → Int64) (it : Nat → Option Nat) (dyn : fsH)  : Prop := (S_Lb_X3_measure_2 70 ht I A J it dyn 0)
set_option maxRecDepth 100000 in
set_option maxHeartbeats 4000000 in
theorem c_X3_measure (G : fsG) (l : Launch) (ht : Nat) (I : Nat → Int32) (A : Nat → Nat → Int32) (J : Nat → Nat → Int64) (it : Nat → Option Nat) (dyn : fsH)  (hS : S_X3_measure ht I A J it dyn ) : fsFn G l mX3_measure 5 0 0 [.inr (.inr (some 9))] (fs_mk ht I A J it dyn) none (fs_mk ht I (L_X3_measure_A ht I A J it dyn ) J it dyn) := by
  refine fsMet_of (by decide) (Nat.le_of_ble_eq_true rfl) ?_
  generalize hQ : (fun (r1 : Option fsV) (h1 : fsH) => r1 = none ∧ h1 = (fs_mk ht I (L_X3_measure_A ht I A J it dyn ) J it dyn)) = Q
  have hq : Q none (fs_mk ht I (L_X3_measure_A ht I A J it dyn ) J it dyn) := by rw [← hQ]; exact ⟨rfl, rfl⟩
  clear hQ
  have hq : Q none (fs_mk ht I (Lb_X3_measure_2_A 70 ht I A J it dyn 0) J it dyn) := hq
  have hS : (S_Lb_X3_measure_2 70 ht I A J it dyn 0) := hS
  refine (show fsW G l mX3_measure 5 0 0 0 0 Q 0 [(0, .inr (.inr (some 9)))] [] (fs_mk ht I A J it dyn) from ?_)
  refine fs_iconst (v := 0) dX3_measure_0 rfl ?_
  refine fs_istore_n (L' := [(1, .inl 0), (0, .inr (.inr (some 9)))]) dX3_measure_1 rfl (by decide) rfl ?_
  refine fs_reL [1, 0] rfl ?_
  have ho1 := hS
  refine lp_Lb_X3_measure_2 G l Q 70 ht I A J it dyn 0 ho1 ?_
  have k9 := hq
  exact fs_ret dX3_measure_55 rfl k9
def Lb_X3_putBlock_6_v4 : Nat → Nat → (Nat → Int32) → (Nat → Nat → Int32) → (Nat → Nat → Int64) → (Nat → Option Nat) → fsH → Int32 → Int32 → Int32 → Int32 → Int32 → Int32
  | 0, ht, I, A, J, it, dyn, v1, v2, v3, v4, v5 => v4
  | n + 1, ht, I, A, J, it, dyn, v1, v2, v3, v4, v5 => (if v2 ≤ v5 then v4 else (Lb_X3_putBlock_6_v4 n ht I A J it dyn v1 v2 v3 (v4 + (A 12 (L_X7_cellOf_r ht I A J it dyn v5 v3).toNatClampNeg)) (v5 + 1)))
def Lb_X3_putBlock_6_v5 : Nat → Nat → (Nat → Int32) → (Nat → Nat → Int32) → (Nat → Nat → Int64) → (Nat → Option Nat) → fsH → Int32 → Int32 → Int32 → Int32 → Int32 → Int32
  | 0, ht, I, A, J, it, dyn, v1, v2, v3, v4, v5 => v5
  | n + 1, ht, I, A, J, it, dyn, v1, v2, v3, v4, v5 => (if v2 ≤ v5 then v5 else (Lb_X3_putBlock_6_v5 n ht I A J it dyn v1 v2 v3 (v4 + (A 12 (L_X7_cellOf_r ht I A J it dyn v5 v3).toNatClampNeg)) (v5 + 1)))
def S_Lb_X3_putBlock_6 : Nat → Nat → (Nat → Int32) → (Nat → Nat → Int32) → (Nat → Nat → Int64) → (Nat → Option Nat) → fsH → Int32 → Int32 → Int32 → Int32 → Int32 → Prop
  | 0, _, _, _, _, _, _, _, _, _, _, _ => False
  | n + 1, ht, I, A, J, it, dyn, v1, v2, v3, v4, v5 => (¬ (v2 ≤ v5) → ((vp_in (L_X7_cellOf_r ht I A J it dyn v5 v3) 64) ∧ (S_Lb_X3_putBlock_6 n ht I A J it dyn v1 v2 v3 (v4 + (A 12 (L_X7_cellOf_r ht I A J it dyn v5 v3).toNatClampNeg)) (v5 + 1))))
set_option maxRecDepth 100000 in
set_option maxHeartbeats 4000000 in
theorem lp_Lb_X3_putBlock_6 (G : fsG) (l : Launch) (Q : Option fsV → fsH → Prop) : ∀ (n : Nat) (ht : Nat) (I : Nat → Int32) (A : Nat → Nat → Int32) (J : Nat → Nat → Int64) (it : Nat → Option Nat) (dyn : fsH) (v1 : Int32) (v2 : Int32) (v3 : Int32) (v4 : Int32) (v5 : Int32), S_Lb_X3_putBlock_6 n ht I A J it dyn v1 v2 v3 v4 v5 → (fsW G l mX3_putBlock 3 0 0 0 0 Q 34 [(0, .inr (.inr (some 9))), (1, .inl v1), (2, .inl v2), (3, .inl v3), (4, .inl (Lb_X3_putBlock_6_v4 n ht I A J it dyn v1 v2 v3 v4 v5)), (5, .inl (Lb_X3_putBlock_6_v5 n ht I A J it dyn v1 v2 v3 v4 v5))] [] (fs_mk ht I A J it dyn)) → fsW G l mX3_putBlock 3 0 0 0 0 Q 6 [(0, .inr (.inr (some 9))), (1, .inl v1), (2, .inl v2), (3, .inl v3), (4, .inl v4), (5, .inl v5)] [] (fs_mk ht I A J it dyn) := by
  intro n
  induction n with
  | zero =>
    intro ht I A J it dyn v1 v2 v3 v4 v5 hS
    exact hS.elim
  | succ n ih =>
    intro ht I A J it dyn v1 v2 v3 v4 v5 hS hq
    have hS : (¬ (v2 ≤ v5) → ((vp_in (L_X7_cellOf_r ht I A J it dyn v5 v3) 64) ∧ (S_Lb_X3_putBlock_6 n ht I A J it dyn v1 v2 v3 (v4 + (A 12 (L_X7_cellOf_r ht I A J it dyn v5 v3).toNatClampNeg)) (v5 + 1)))) := hS
    have hq : fsW G l mX3_putBlock 3 0 0 0 0 Q 34 [(0, .inr (.inr (some 9))), (1, .inl v1), (2, .inl v2), (3, .inl v3), (4, .inl (if v2 ≤ v5 then v4 else (Lb_X3_putBlock_6_v4 n ht I A J it dyn v1 v2 v3 (v4 + (A 12 (L_X7_cellOf_r ht I A J it dyn v5 v3).toNatClampNeg)) (v5 + 1)))), (5, .inl (if v2 ≤ v5 then v5 else (Lb_X3_putBlock_6_v5 n ht I A J it dyn v1 v2 v3 (v4 + (A 12 (L_X7_cellOf_r ht I A J it dyn v5 v3).toNatClampNeg)) (v5 + 1))))] [] (fs_mk ht I A J it dyn) := hq
    refine fs_iload dX3_putBlock_6 rfl ?_
    refine fs_iload_n dX3_putBlock_8 rfl rfl ?_
    refine fs_icmp_ge 34 dX3_putBlock_9 (by decide) (fun c_9 : v2 ≤ v5 => ?_) (fun c_9 : ¬ (v2 ≤ v5) => ?_)
    · have k9 := hq
      try simp only [if_pos c_9] at k9 ⊢
      exact k9
    · have hS := hS c_9
      refine fs_iload dX3_putBlock_12 rfl ?_
      refine fs_aload_n dX3_putBlock_14 rfl rfl ?_
      refine fs_getfield (v := .inr (.inr (some 12))) dX3_putBlock_15 sf_X3_18 rfl rfl ?_
      refine fs_iload dX3_putBlock_18 rfl ?_
      refine fs_iload_n dX3_putBlock_20 rfl rfl ?_
      refine fs_callSN1 dX3_putBlock_21 sv_X3_45 (c_X7_cellOf G l ht I A J it dyn v5 v3) rfl rfl (Nat.le_of_ble_eq_true rfl) (Nat.le_of_ble_eq_true rfl) (Nat.le_of_ble_eq_true rfl) (Nat.le_of_ble_eq_true rfl) ?_
      obtain ⟨ho1, hS⟩ := hS
      refine fs_iaload dX3_putBlock_24 rfl ho1 ?_
      refine fs_iadd dX3_putBlock_25 ?_
      refine fs_istore (L' := [(4, .inl (v4 + (A 12 (L_X7_cellOf_r ht I A J it dyn v5 v3).toNatClampNeg))), (0, .inr (.inr (some 9))), (1, .inl v1), (2, .inl v2), (3, .inl v3), (5, .inl v5)]) dX3_putBlock_26 (by decide) rfl ?_
      refine fs_iinc (v := (v5 + 1)) (L' := [(5, .inl (v5 + 1)), (4, .inl (v4 + (A 12 (L_X7_cellOf_r ht I A J it dyn v5 v3).toNatClampNeg))), (0, .inr (.inr (some 9))), (1, .inl v1), (2, .inl v2), (3, .inl v3)]) dX3_putBlock_28 rfl rfl (by decide) rfl ?_
      refine fs_goto 6 dX3_putBlock_31 (by decide) ?_
      refine fs_reL [2, 3, 4, 5, 1, 0] rfl ?_
      have k9 := hq
      try simp only [if_neg c_9] at hS k9 ⊢
      exact ih _ _ _ _ _ _ _ _ _ _ _ hS k9
def Lb_X3_putBlock_80_I : Nat → Nat → (Nat → Int32) → (Nat → Nat → Int32) → (Nat → Nat → Int64) → (Nat → Option Nat) → fsH → Int32 → Int32 → Int32 → Int32 → Int32 → Int32 → (Nat → Int32)
  | 0, ht, I, A, J, it, dyn, v1, v2, v3, v4, v5, v6 => I
  | n + 1, ht, I, A, J, it, dyn, v1, v2, v3, v4, v5, v6 => (if v2 ≤ v6 then I else (Lb_X3_putBlock_80_I n ht (if v5 = 0 then (L_X3_putAlone_I ht I A J it dyn v6 v3) else I) (if v5 = 0 then (L_X3_putAlone_A ht I A J it dyn v6 v3) else (L_X3_putLines_A ht I A J it dyn v6 v3)) J it dyn v1 v2 v3 v4 v5 (v6 + 1)))
def Lb_X3_putBlock_80_A : Nat → Nat → (Nat → Int32) → (Nat → Nat → Int32) → (Nat → Nat → Int64) → (Nat → Option Nat) → fsH → Int32 → Int32 → Int32 → Int32 → Int32 → Int32 → (Nat → Nat → Int32)
  | 0, ht, I, A, J, it, dyn, v1, v2, v3, v4, v5, v6 => A
  | n + 1, ht, I, A, J, it, dyn, v1, v2, v3, v4, v5, v6 => (if v2 ≤ v6 then A else (Lb_X3_putBlock_80_A n ht (if v5 = 0 then (L_X3_putAlone_I ht I A J it dyn v6 v3) else I) (if v5 = 0 then (L_X3_putAlone_A ht I A J it dyn v6 v3) else (L_X3_putLines_A ht I A J it dyn v6 v3)) J it dyn v1 v2 v3 v4 v5 (v6 + 1)))
def Lb_X3_putBlock_80_v6 : Nat → Nat → (Nat → Int32) → (Nat → Nat → Int32) → (Nat → Nat → Int64) → (Nat → Option Nat) → fsH → Int32 → Int32 → Int32 → Int32 → Int32 → Int32 → Int32
  | 0, ht, I, A, J, it, dyn, v1, v2, v3, v4, v5, v6 => v6
  | n + 1, ht, I, A, J, it, dyn, v1, v2, v3, v4, v5, v6 => (if v2 ≤ v6 then v6 else (Lb_X3_putBlock_80_v6 n ht (if v5 = 0 then (L_X3_putAlone_I ht I A J it dyn v6 v3) else I) (if v5 = 0 then (L_X3_putAlone_A ht I A J it dyn v6 v3) else (L_X3_putLines_A ht I A J it dyn v6 v3)) J it dyn v1 v2 v3 v4 v5 (v6 + 1)))
def S_Lb_X3_putBlock_80 : Nat → Nat → (Nat → Int32) → (Nat → Nat → Int32) → (Nat → Nat → Int64) → (Nat → Option Nat) → fsH → Int32 → Int32 → Int32 → Int32 → Int32 → Int32 → Prop
  | 0, _, _, _, _, _, _, _, _, _, _, _, _ => False
  | n + 1, ht, I, A, J, it, dyn, v1, v2, v3, v4, v5, v6 => (¬ (v2 ≤ v6) → ((((v5 = 0) → (S_X3_putAlone ht I A J it dyn v6 v3)) ∧ (¬ (v5 = 0) → (S_X3_putLines ht I A J it dyn v6 v3))) ∧ (S_Lb_X3_putBlock_80 n ht (if v5 = 0 then (L_X3_putAlone_I ht I A J it dyn v6 v3) else I) (if v5 = 0 then (L_X3_putAlone_A ht I A J it dyn v6 v3) else (L_X3_putLines_A ht I A J it dyn v6 v3)) J it dyn v1 v2 v3 v4 v5 (v6 + 1))))
set_option maxRecDepth 100000 in
set_option maxHeartbeats 4000000 in
theorem lp_Lb_X3_putBlock_80 (G : fsG) (l : Launch) (Q : Option fsV → fsH → Prop) : ∀ (n : Nat) (ht : Nat) (I : Nat → Int32) (A : Nat → Nat → Int32) (J : Nat → Nat → Int64) (it : Nat → Option Nat) (dyn : fsH) (v1 : Int32) (v2 : Int32) (v3 : Int32) (v4 : Int32) (v5 : Int32) (v6 : Int32), S_Lb_X3_putBlock_80 n ht I A J it dyn v1 v2 v3 v4 v5 v6 → (fsW G l mX3_putBlock 3 0 0 0 0 Q 114 [(0, .inr (.inr (some 9))), (1, .inl v1), (2, .inl v2), (3, .inl v3), (4, .inl v4), (5, .inl v5), (6, .inl (Lb_X3_putBlock_80_v6 n ht I A J it dyn v1 v2 v3 v4 v5 v6))] [] (fs_mk ht (Lb_X3_putBlock_80_I n ht I A J it dyn v1 v2 v3 v4 v5 v6) (Lb_X3_putBlock_80_A n ht I A J it dyn v1 v2 v3 v4 v5 v6) J it dyn)) → fsW G l mX3_putBlock 3 0 0 0 0 Q 80 [(0, .inr (.inr (some 9))), (1, .inl v1), (2, .inl v2), (3, .inl v3), (4, .inl v4), (5, .inl v5), (6, .inl v6)] [] (fs_mk ht I A J it dyn) := by
  intro n
  induction n with
  | zero =>
    intro ht I A J it dyn v1 v2 v3 v4 v5 v6 hS
    exact hS.elim
  | succ n ih =>
    intro ht I A J it dyn v1 v2 v3 v4 v5 v6 hS hq
    have hS : (¬ (v2 ≤ v6) → ((((v5 = 0) → (S_X3_putAlone ht I A J it dyn v6 v3)) ∧ (¬ (v5 = 0) → (S_X3_putLines ht I A J it dyn v6 v3))) ∧ (S_Lb_X3_putBlock_80 n ht (if v5 = 0 then (L_X3_putAlone_I ht I A J it dyn v6 v3) else I) (if v5 = 0 then (L_X3_putAlone_A ht I A J it dyn v6 v3) else (L_X3_putLines_A ht I A J it dyn v6 v3)) J it dyn v1 v2 v3 v4 v5 (v6 + 1)))) := hS
    have hq : fsW G l mX3_putBlock 3 0 0 0 0 Q 114 [(0, .inr (.inr (some 9))), (1, .inl v1), (2, .inl v2), (3, .inl v3), (4, .inl v4), (5, .inl v5), (6, .inl (if v2 ≤ v6 then v6 else (Lb_X3_putBlock_80_v6 n ht (if v5 = 0 then (L_X3_putAlone_I ht I A J it dyn v6 v3) else I) (if v5 = 0 then (L_X3_putAlone_A ht I A J it dyn v6 v3) else (L_X3_putLines_A ht I A J it dyn v6 v3)) J it dyn v1 v2 v3 v4 v5 (v6 + 1))))] [] (fs_mk ht (if v2 ≤ v6 then I else (Lb_X3_putBlock_80_I n ht (if v5 = 0 then (L_X3_putAlone_I ht I A J it dyn v6 v3) else I) (if v5 = 0 then (L_X3_putAlone_A ht I A J it dyn v6 v3) else (L_X3_putLines_A ht I A J it dyn v6 v3)) J it dyn v1 v2 v3 v4 v5 (v6 + 1))) (if v2 ≤ v6 then A else (Lb_X3_putBlock_80_A n ht (if v5 = 0 then (L_X3_putAlone_I ht I A J it dyn v6 v3) else I) (if v5 = 0 then (L_X3_putAlone_A ht I A J it dyn v6 v3) else (L_X3_putLines_A ht I A J it dyn v6 v3)) J it dyn v1 v2 v3 v4 v5 (v6 + 1))) J it dyn) := hq
    refine fs_iload dX3_putBlock_80 rfl ?_
    refine fs_iload_n dX3_putBlock_82 rfl rfl ?_
    refine fs_icmp_ge 114 dX3_putBlock_83 (by decide) (fun c_83 : v2 ≤ v6 => ?_) (fun c_83 : ¬ (v2 ≤ v6) => ?_)
    · have k9 := hq
      try simp only [if_pos c_83] at k9 ⊢
      exact k9
    · have hS := hS c_83
      refine fs_iload dX3_putBlock_86 rfl ?_
      obtain ⟨hR_88, hS⟩ := hS
      have key_108 : fsW G l mX3_putBlock 3 0 0 0 0 Q 108 [(0, .inr (.inr (some 9))), (1, .inl v1), (2, .inl v2), (3, .inl v3), (4, .inl v4), (5, .inl v5), (6, .inl v6)] [] (fs_mk ht (if v5 = 0 then (L_X3_putAlone_I ht I A J it dyn v6 v3) else I) (if v5 = 0 then (L_X3_putAlone_A ht I A J it dyn v6 v3) else (L_X3_putLines_A ht I A J it dyn v6 v3)) J it dyn) := by
        refine fs_iinc (v := (v6 + 1)) (L' := [(6, .inl (v6 + 1)), (0, .inr (.inr (some 9))), (1, .inl v1), (2, .inl v2), (3, .inl v3), (4, .inl v4), (5, .inl v5)]) dX3_putBlock_108 rfl rfl (by decide) rfl ?_
        refine fs_goto 80 dX3_putBlock_111 (by decide) ?_
        refine fs_reL [1, 2, 3, 4, 5, 6, 0] rfl ?_
        have k9 := hq
        try simp only [if_neg c_83] at hS k9 ⊢
        exact ih _ _ _ _ _ _ _ _ _ _ _ _ hS k9
      refine fs_if_eq 101 dX3_putBlock_88 (by decide) (fun c_88 : v5 = 0 => ?_) (fun c_88 : ¬ (v5 = 0) => ?_)
      · have hS := hR_88.1 c_88
        refine fs_aload_n dX3_putBlock_101 rfl rfl ?_
        refine fs_iload dX3_putBlock_102 rfl ?_
        refine fs_iload_n dX3_putBlock_104 rfl rfl ?_
        have ho1 := hS
        refine fs_callV0 dX3_putBlock_105 sv_X3_65 rfl ⟨_, rfl, rfl⟩ (c_X3_putAlone G l ht I A J it dyn v6 v3 ho1) rfl rfl (Nat.le_of_ble_eq_true rfl) (Nat.le_of_ble_eq_true rfl) (Nat.le_of_ble_eq_true rfl) (Nat.le_of_ble_eq_true rfl) ?_
        have k9 := key_108
        try simp only [if_neg c_83, if_pos c_88] at k9 ⊢
        exact k9
      · have hS := hR_88.2 c_88
        refine fs_aload_n dX3_putBlock_91 rfl rfl ?_
        refine fs_iload dX3_putBlock_92 rfl ?_
        refine fs_iload_n dX3_putBlock_94 rfl rfl ?_
        have ho1 := hS
        refine fs_callV0 dX3_putBlock_95 sv_X3_113 rfl ⟨_, rfl, rfl⟩ (c_X3_putLines G l ht I A J it dyn v6 v3 ho1) rfl rfl (Nat.le_of_ble_eq_true rfl) (Nat.le_of_ble_eq_true rfl) (Nat.le_of_ble_eq_true rfl) (Nat.le_of_ble_eq_true rfl) ?_
        refine fs_goto 108 dX3_putBlock_98 (by decide) ?_
        have k9 := key_108
        try simp only [if_neg c_83, if_neg c_88] at k9 ⊢
        exact k9
def L_X3_putBlock_I (ht : Nat) (I : Nat → Int32) (A : Nat → Nat → Int32) (J : Nat → Nat → Int64) (it : Nat → Option Nat) (dyn : fsH) (x1 : Int32) (x2 : Int32) (x3 : Int32) : Nat → Int32 := (Lb_X3_putBlock_80_I 70 ht (if (if (nI ht) < (Lb_X3_putBlock_6_v4 70 ht I A J it dyn x1 x2 x3 0 x1) then 0 else 1 : Int32) = 0 then I else (L_X3_turnPage_I ht I A J it dyn (Lb_X3_putBlock_6_v4 70 ht I A J it dyn x1 x2 x3 0 x1))) (if (if (nI ht) < (Lb_X3_putBlock_6_v4 70 ht I A J it dyn x1 x2 x3 0 x1) then 0 else 1 : Int32) = 0 then A else (if (L_X3_turnPage_r ht I A J it dyn (Lb_X3_putBlock_6_v4 70 ht I A J it dyn x1 x2 x3 0 x1)) = 0 then A else (if x3 ≤ 0 then A else (L_X3_putHeader_A ht (L_X3_turnPage_I ht I A J it dyn (Lb_X3_putBlock_6_v4 70 ht I A J it dyn x1 x2 x3 0 x1)) A J it dyn (x1 - 1) (Lb_X3_putBlock_6_v4 70 ht I A J it dyn x1 x2 x3 0 x1))))) J it dyn x1 x2 x3 (Lb_X3_putBlock_6_v4 70 ht I A J it dyn x1 x2 x3 0 x1) (if (nI ht) < (Lb_X3_putBlock_6_v4 70 ht I A J it dyn x1 x2 x3 0 x1) then 0 else 1 : Int32) x1)
def L_X3_putBlock_A (ht : Nat) (I : Nat → Int32) (A : Nat → Nat → Int32) (J : Nat → Nat → Int64) (it : Nat → Option Nat) (dyn : fsH) (x1 : Int32) (x2 : Int32) (x3 : Int32) : Nat → Nat → Int32 := (Lb_X3_putBlock_80_A 70 ht (if (if (nI ht) < (Lb_X3_putBlock_6_v4 70 ht I A J it dyn x1 x2 x3 0 x1) then 0 else 1 : Int32) = 0 then I else (L_X3_turnPage_I ht I A J it dyn (Lb_X3_putBlock_6_v4 70 ht I A J it dyn x1 x2 x3 0 x1))) (if (if (nI ht) < (Lb_X3_putBlock_6_v4 70 ht I A J it dyn x1 x2 x3 0 x1) then 0 else 1 : Int32) = 0 then A else (if (L_X3_turnPage_r ht I A J it dyn (Lb_X3_putBlock_6_v4 70 ht I A J it dyn x1 x2 x3 0 x1)) = 0 then A else (if x3 ≤ 0 then A else (L_X3_putHeader_A ht (L_X3_turnPage_I ht I A J it dyn (Lb_X3_putBlock_6_v4 70 ht I A J it dyn x1 x2 x3 0 x1)) A J it dyn (x1 - 1) (Lb_X3_putBlock_6_v4 70 ht I A J it dyn x1 x2 x3 0 x1))))) J it dyn x1 x2 x3 (Lb_X3_putBlock_6_v4 70 ht I A J it dyn x1 x2 x3 0 x1) (if (nI ht) < (Lb_X3_putBlock_6_v4 70 ht I A J it dyn x1 x2 x3 0 x1) then 0 else 1 : Int32) x1)
def S_X3_putBlock (ht : Nat) (I : Nat → Int32) (A : Nat → Nat → Int32) (J : Nat → Nat → Int64) (it : Nat → Option Nat) (dyn : fsH) (x1 : Int32) (x2 : Int32) (x3 : Int32) : Prop := ((S_Lb_X3_putBlock_6 70 ht I A J it dyn x1 x2 x3 0 x1) ∧ ((¬ ((if (nI ht) < (Lb_X3_putBlock_6_v4 70 ht I A J it dyn x1 x2 x3 0 x1) then 0 else 1 : Int32) = 0) → ((S_X3_turnPage ht I A J it dyn (Lb_X3_putBlock_6_v4 70 ht I A J it dyn x1 x2 x3 0 x1)) ∧ (¬ ((L_X3_turnPage_r ht I A J it dyn (Lb_X3_putBlock_6_v4 70 ht I A J it dyn x1 x2 x3 0 x1)) = 0) → (¬ (x3 ≤ 0) → (S_X3_putHeader ht (L_X3_turnPage_I ht I A J it dyn (Lb_X3_putBlock_6_v4 70 ht I A J it dyn x1 x2 x3 0 x1)) A J it dyn (x1 - 1) (Lb_X3_putBlock_6_v4 70 ht I A J it dyn x1 x2 x3 0 x1)))))) ∧ (S_Lb_X3_putBlock_80 70 ht (if (if (nI ht) < (Lb_X3_putBlock_6_v4 70 ht I A J it dyn x1 x2 x3 0 x1) then 0 else 1 : Int32) = 0 then I else (L_X3_turnPage_I ht I A J it dyn (Lb_X3_putBlock_6_v4 70 ht I A J it dyn x1 x2 x3 0 x1))) (if (if (nI ht) < (Lb_X3_putBlock_6_v4 70 ht I A J it dyn x1 x2 x3 0 x1) then 0 else 1 : Int32) = 0 then A else (if (L_X3_turnPage_r ht I A J it dyn (Lb_X3_putBlock_6_v4 70 ht I A J it dyn x1 x2 x3 0 x1)) = 0 then A else (if x3 ≤ 0 then A else (L_X3_putHeader_A ht (L_X3_turnPage_I ht I A J it dyn (Lb_X3_putBlock_6_v4 70 ht I A J it dyn x1 x2 x3 0 x1)) A J it dyn (x1 - 1) (Lb_X3_putBlock_6_v4 70 ht I A J it dyn x1 x2 x3 0 x1))))) J it dyn x1 x2 x3 (Lb_X3_putBlock_6_v4 70 ht I A J it dyn x1 x2 x3 0 x1) (if (nI ht) < (Lb_X3_putBlock_6_v4 70 ht I A J it dyn x1 x2 x3 0 x1) then 0 else 1 : Int32) x1)))
set_option maxRecDepth 100000 in
set_option maxHeartbeats 4000000 in
theorem c_X3_putBlock (G : fsG) (l : Launch) (ht : Nat) (I : Nat → Int32) (A : Nat → Nat → Int32) (J : Nat → Nat → Int64) (it : Nat → Option Nat) (dyn : fsH) (x1 : Int32) (x2 : Int32) (x3 : Int32) (hS : S_X3_putBlock ht I A J it dyn x1 x2 x3) : fsFn G l mX3_putBlock 3 0 0 [.inr (.inr (some 9)), .inl x1, .inl x2, .inl x3] (fs_mk ht I A J it dyn) none (fs_mk ht (L_X3_putBlock_I ht I A J it dyn x1 x2 x3) (L_X3_putBlock_A ht I A J it dyn x1 x2 x3) J it dyn) := by
  refine fsMet_of (by decide) (Nat.le_of_ble_eq_true rfl) ?_
  generalize hQ : (fun (r1 : Option fsV) (h1 : fsH) => r1 = none ∧ h1 = (fs_mk ht (L_X3_putBlock_I ht I A J it dyn x1 x2 x3) (L_X3_putBlock_A ht I A J it dyn x1 x2 x3) J it dyn)) = Q
  have hq : Q none (fs_mk ht (L_X3_putBlock_I ht I A J it dyn x1 x2 x3) (L_X3_putBlock_A ht I A J it dyn x1 x2 x3) J it dyn) := by rw [← hQ]; exact ⟨rfl, rfl⟩
  clear hQ
  have hq : Q none (fs_mk ht (Lb_X3_putBlock_80_I 70 ht (if (if (nI ht) < (Lb_X3_putBlock_6_v4 70 ht I A J it dyn x1 x2 x3 0 x1) then 0 else 1 : Int32) = 0 then I else (L_X3_turnPage_I ht I A J it dyn (Lb_X3_putBlock_6_v4 70 ht I A J it dyn x1 x2 x3 0 x1))) (if (if (nI ht) < (Lb_X3_putBlock_6_v4 70 ht I A J it dyn x1 x2 x3 0 x1) then 0 else 1 : Int32) = 0 then A else (if (L_X3_turnPage_r ht I A J it dyn (Lb_X3_putBlock_6_v4 70 ht I A J it dyn x1 x2 x3 0 x1)) = 0 then A else (if x3 ≤ 0 then A else (L_X3_putHeader_A ht (L_X3_turnPage_I ht I A J it dyn (Lb_X3_putBlock_6_v4 70 ht I A J it dyn x1 x2 x3 0 x1)) A J it dyn (x1 - 1) (Lb_X3_putBlock_6_v4 70 ht I A J it dyn x1 x2 x3 0 x1))))) J it dyn x1 x2 x3 (Lb_X3_putBlock_6_v4 70 ht I A J it dyn x1 x2 x3 0 x1) (if (nI ht) < (Lb_X3_putBlock_6_v4 70 ht I A J it dyn x1 x2 x3 0 x1) then 0 else 1 : Int32) x1) (Lb_X3_putBlock_80_A 70 ht (if (if (nI ht) < (Lb_X3_putBlock_6_v4 70 ht I A J it dyn x1 x2 x3 0 x1) then 0 else 1 : Int32) = 0 then I else (L_X3_turnPage_I ht I A J it dyn (Lb_X3_putBlock_6_v4 70 ht I A J it dyn x1 x2 x3 0 x1))) (if (if (nI ht) < (Lb_X3_putBlock_6_v4 70 ht I A J it dyn x1 x2 x3 0 x1) then 0 else 1 : Int32) = 0 then A else (if (L_X3_turnPage_r ht I A J it dyn (Lb_X3_putBlock_6_v4 70 ht I A J it dyn x1 x2 x3 0 x1)) = 0 then A else (if x3 ≤ 0 then A else (L_X3_putHeader_A ht (L_X3_turnPage_I ht I A J it dyn (Lb_X3_putBlock_6_v4 70 ht I A J it dyn x1 x2 x3 0 x1)) A J it dyn (x1 - 1) (Lb_X3_putBlock_6_v4 70 ht I A J it dyn x1 x2 x3 0 x1))))) J it dyn x1 x2 x3 (Lb_X3_putBlock_6_v4 70 ht I A J it dyn x1 x2 x3 0 x1) (if (nI ht) < (Lb_X3_putBlock_6_v4 70 ht I A J it dyn x1 x2 x3 0 x1) then 0 else 1 : Int32) x1) J it dyn) := hq
  have hS : ((S_Lb_X3_putBlock_6 70 ht I A J it dyn x1 x2 x3 0 x1) ∧ ((¬ ((if (nI ht) < (Lb_X3_putBlock_6_v4 70 ht I A J it dyn x1 x2 x3 0 x1) then 0 else 1 : Int32) = 0) → ((S_X3_turnPage ht I A J it dyn (Lb_X3_putBlock_6_v4 70 ht I A J it dyn x1 x2 x3 0 x1)) ∧ (¬ ((L_X3_turnPage_r ht I A J it dyn (Lb_X3_putBlock_6_v4 70 ht I A J it dyn x1 x2 x3 0 x1)) = 0) → (¬ (x3 ≤ 0) → (S_X3_putHeader ht (L_X3_turnPage_I ht I A J it dyn (Lb_X3_putBlock_6_v4 70 ht I A J it dyn x1 x2 x3 0 x1)) A J it dyn (x1 - 1) (Lb_X3_putBlock_6_v4 70 ht I A J it dyn x1 x2 x3 0 x1)))))) ∧ (S_Lb_X3_putBlock_80 70 ht (if (if (nI ht) < (Lb_X3_putBlock_6_v4 70 ht I A J it dyn x1 x2 x3 0 x1) then 0 else 1 : Int32) = 0 then I else (L_X3_turnPage_I ht I A J it dyn (Lb_X3_putBlock_6_v4 70 ht I A J it dyn x1 x2 x3 0 x1))) (if (if (nI ht) < (Lb_X3_putBlock_6_v4 70 ht I A J it dyn x1 x2 x3 0 x1) then 0 else 1 : Int32) = 0 then A else (if (L_X3_turnPage_r ht I A J it dyn (Lb_X3_putBlock_6_v4 70 ht I A J it dyn x1 x2 x3 0 x1)) = 0 then A else (if x3 ≤ 0 then A else (L_X3_putHeader_A ht (L_X3_turnPage_I ht I A J it dyn (Lb_X3_putBlock_6_v4 70 ht I A J it dyn x1 x2 x3 0 x1)) A J it dyn (x1 - 1) (Lb_X3_putBlock_6_v4 70 ht I A J it dyn x1 x2 x3 0 x1))))) J it dyn x1 x2 x3 (Lb_X3_putBlock_6_v4 70 ht I A J it dyn x1 x2 x3 0 x1) (if (nI ht) < (Lb_X3_putBlock_6_v4 70 ht I A J it dyn x1 x2 x3 0 x1) then 0 else 1 : Int32) x1))) := hS
  refine (show fsW G l mX3_putBlock 3 0 0 0 0 Q 0 [(0, .inr (.inr (some 9))), (1, .inl x1), (2, .inl x2), (3, .inl x3)] [] (fs_mk ht I A J it dyn) from ?_)
  refine fs_iconst (v := 0) dX3_putBlock_0 rfl ?_
  refine fs_istore (L' := [(4, .inl 0), (0, .inr (.inr (some 9))), (1, .inl x1), (2, .inl x2), (3, .inl x3)]) dX3_putBlock_1 (by decide) rfl ?_
  refine fs_iload_n dX3_putBlock_3 rfl rfl ?_
  refine fs_istore (L' := [(5, .inl x1), (4, .inl 0), (0, .inr (.inr (some 9))), (1, .inl x1), (2, .inl x2), (3, .inl x3)]) dX3_putBlock_4 (by decide) rfl ?_
  refine fs_reL [2, 3, 4, 5, 1, 0] rfl ?_
  obtain ⟨ho1, hS⟩ := hS
  refine lp_Lb_X3_putBlock_6 G l Q 70 ht I A J it dyn x1 x2 x3 0 x1 ho1 ?_
  refine fs_iload dX3_putBlock_34 rfl ?_
  refine fs_aload_n dX3_putBlock_36 rfl rfl ?_
  refine fs_getfield (v := .inl (nI ht)) dX3_putBlock_37 sf_X3_33 rfl rfl ?_
  have key_48 : fsW G l mX3_putBlock 3 0 0 0 0 Q 48 [(0, .inr (.inr (some 9))), (1, .inl x1), (2, .inl x2), (3, .inl x3), (4, .inl (Lb_X3_putBlock_6_v4 70 ht I A J it dyn x1 x2 x3 0 x1)), (5, .inl (Lb_X3_putBlock_6_v5 70 ht I A J it dyn x1 x2 x3 0 x1))] [.inl (if (nI ht) < (Lb_X3_putBlock_6_v4 70 ht I A J it dyn x1 x2 x3 0 x1) then 0 else 1 : Int32)] (fs_mk ht I A J it dyn) := by
    refine fs_istore (L' := [(5, .inl (if (nI ht) < (Lb_X3_putBlock_6_v4 70 ht I A J it dyn x1 x2 x3 0 x1) then 0 else 1 : Int32)), (0, .inr (.inr (some 9))), (1, .inl x1), (2, .inl x2), (3, .inl x3), (4, .inl (Lb_X3_putBlock_6_v4 70 ht I A J it dyn x1 x2 x3 0 x1))]) dX3_putBlock_48 (by decide) rfl ?_
    refine fs_iload dX3_putBlock_50 rfl ?_
    obtain ⟨hR_52, hS⟩ := hS
    have key_77 : fsW G l mX3_putBlock 3 0 0 0 0 Q 77 [(0, .inr (.inr (some 9))), (1, .inl x1), (2, .inl x2), (3, .inl x3), (4, .inl (Lb_X3_putBlock_6_v4 70 ht I A J it dyn x1 x2 x3 0 x1)), (5, .inl (if (nI ht) < (Lb_X3_putBlock_6_v4 70 ht I A J it dyn x1 x2 x3 0 x1) then 0 else 1 : Int32))] [] (fs_mk ht (if (if (nI ht) < (Lb_X3_putBlock_6_v4 70 ht I A J it dyn x1 x2 x3 0 x1) then 0 else 1 : Int32) = 0 then I else (L_X3_turnPage_I ht I A J it dyn (Lb_X3_putBlock_6_v4 70 ht I A J it dyn x1 x2 x3 0 x1))) (if (if (nI ht) < (Lb_X3_putBlock_6_v4 70 ht I A J it dyn x1 x2 x3 0 x1) then 0 else 1 : Int32) = 0 then A else (if (L_X3_turnPage_r ht I A J it dyn (Lb_X3_putBlock_6_v4 70 ht I A J it dyn x1 x2 x3 0 x1)) = 0 then A else (if x3 ≤ 0 then A else (L_X3_putHeader_A ht (L_X3_turnPage_I ht I A J it dyn (Lb_X3_putBlock_6_v4 70 ht I A J it dyn x1 x2 x3 0 x1)) A J it dyn (x1 - 1) (Lb_X3_putBlock_6_v4 70 ht I A J it dyn x1 x2 x3 0 x1))))) J it dyn) := by
      refine fs_iload_n dX3_putBlock_77 rfl rfl ?_
      refine fs_istore (L' := [(6, .inl x1), (0, .inr (.inr (some 9))), (1, .inl x1), (2, .inl x2), (3, .inl x3), (4, .inl (Lb_X3_putBlock_6_v4 70 ht I A J it dyn x1 x2 x3 0 x1)), (5, .inl (if (nI ht) < (Lb_X3_putBlock_6_v4 70 ht I A J it dyn x1 x2 x3 0 x1) then 0 else 1 : Int32))]) dX3_putBlock_78 (by decide) rfl ?_
      refine fs_reL [1, 2, 3, 4, 5, 6, 0] rfl ?_
      have ho1 := hS
      refine lp_Lb_X3_putBlock_80 G l Q 70 ht (if (if (nI ht) < (Lb_X3_putBlock_6_v4 70 ht I A J it dyn x1 x2 x3 0 x1) then 0 else 1 : Int32) = 0 then I else (L_X3_turnPage_I ht I A J it dyn (Lb_X3_putBlock_6_v4 70 ht I A J it dyn x1 x2 x3 0 x1))) (if (if (nI ht) < (Lb_X3_putBlock_6_v4 70 ht I A J it dyn x1 x2 x3 0 x1) then 0 else 1 : Int32) = 0 then A else (if (L_X3_turnPage_r ht I A J it dyn (Lb_X3_putBlock_6_v4 70 ht I A J it dyn x1 x2 x3 0 x1)) = 0 then A else (if x3 ≤ 0 then A else (L_X3_putHeader_A ht (L_X3_turnPage_I ht I A J it dyn (Lb_X3_putBlock_6_v4 70 ht I A J it dyn x1 x2 x3 0 x1)) A J it dyn (x1 - 1) (Lb_X3_putBlock_6_v4 70 ht I A J it dyn x1 x2 x3 0 x1))))) J it dyn x1 x2 x3 (Lb_X3_putBlock_6_v4 70 ht I A J it dyn x1 x2 x3 0 x1) (if (nI ht) < (Lb_X3_putBlock_6_v4 70 ht I A J it dyn x1 x2 x3 0 x1) then 0 else 1 : Int32) x1 ho1 ?_
      have k9 := hq
      exact fs_ret dX3_putBlock_114 rfl k9
    refine fs_if_eq 77 dX3_putBlock_52 (by decide) (fun c_52 : (if (nI ht) < (Lb_X3_putBlock_6_v4 70 ht I A J it dyn x1 x2 x3 0 x1) then 0 else 1 : Int32) = 0 => ?_) (fun c_52 : ¬ ((if (nI ht) < (Lb_X3_putBlock_6_v4 70 ht I A J it dyn x1 x2 x3 0 x1) then 0 else 1 : Int32) = 0) => ?_)
    · refine fs_reL [1, 2, 3, 4, 5, 0] rfl ?_
      have k9 := key_77
      try simp only [if_pos c_52] at k9 ⊢
      exact k9
    · have hS := hR_52 c_52
      refine fs_aload_n dX3_putBlock_55 rfl rfl ?_
      refine fs_iload dX3_putBlock_56 rfl ?_
      obtain ⟨ho1, hS⟩ := hS
      refine fs_callV1 dX3_putBlock_58 sv_X3_107 rfl ⟨_, rfl, rfl⟩ (c_X3_turnPage G l ht I A J it dyn (Lb_X3_putBlock_6_v4 70 ht I A J it dyn x1 x2 x3 0 x1) ho1) rfl rfl (Nat.le_of_ble_eq_true rfl) (Nat.le_of_ble_eq_true rfl) (Nat.le_of_ble_eq_true rfl) (Nat.le_of_ble_eq_true rfl) ?_
      refine fs_if_eq 77 dX3_putBlock_61 (by decide) (fun c_61 : (L_X3_turnPage_r ht I A J it dyn (Lb_X3_putBlock_6_v4 70 ht I A J it dyn x1 x2 x3 0 x1)) = 0 => ?_) (fun c_61 : ¬ ((L_X3_turnPage_r ht I A J it dyn (Lb_X3_putBlock_6_v4 70 ht I A J it dyn x1 x2 x3 0 x1)) = 0) => ?_)
      · refine fs_reL [1, 2, 3, 4, 5, 0] rfl ?_
        have k9 := key_77
        try simp only [if_neg c_52, if_pos c_61] at k9 ⊢
        exact k9
      · have hS := hS c_61
        refine fs_iload_n dX3_putBlock_64 rfl rfl ?_
        refine fs_if_le 77 dX3_putBlock_65 (by decide) (fun c_65 : x3 ≤ 0 => ?_) (fun c_65 : ¬ (x3 ≤ 0) => ?_)
        · refine fs_reL [1, 2, 3, 4, 5, 0] rfl ?_
          have k9 := key_77
          try simp only [if_neg c_52, if_neg c_61, if_pos c_65] at k9 ⊢
          exact k9
        · have hS := hS c_65
          refine fs_aload_n dX3_putBlock_68 rfl rfl ?_
          refine fs_iload_n dX3_putBlock_69 rfl rfl ?_
          refine fs_iconst (v := 1) dX3_putBlock_70 rfl ?_
          refine fs_isub dX3_putBlock_71 ?_
          refine fs_iload dX3_putBlock_72 rfl ?_
          have ho1 := hS
          refine fs_callV0 dX3_putBlock_74 sv_X3_110 rfl ⟨_, rfl, rfl⟩ (c_X3_putHeader G l ht (L_X3_turnPage_I ht I A J it dyn (Lb_X3_putBlock_6_v4 70 ht I A J it dyn x1 x2 x3 0 x1)) A J it dyn (x1 - 1) (Lb_X3_putBlock_6_v4 70 ht I A J it dyn x1 x2 x3 0 x1) ho1) rfl rfl (Nat.le_of_ble_eq_true rfl) (Nat.le_of_ble_eq_true rfl) (Nat.le_of_ble_eq_true rfl) (Nat.le_of_ble_eq_true rfl) ?_
          refine fs_reL [1, 2, 3, 4, 5, 0] rfl ?_
          have k9 := key_77
          try simp only [if_neg c_52, if_neg c_61, if_neg c_65] at k9 ⊢
          exact k9
  refine fs_icmp_gt 47 dX3_putBlock_40 (by decide) (fun c_40 : (nI ht) < (Lb_X3_putBlock_6_v4 70 ht I A J it dyn x1 x2 x3 0 x1) => ?_) (fun c_40 : ¬ ((nI ht) < (Lb_X3_putBlock_6_v4 70 ht I A J it dyn x1 x2 x3 0 x1)) => ?_)
  · refine fs_iconst (v := 0) dX3_putBlock_47 rfl ?_
    have k9 := key_48
    try simp only [if_pos c_40] at k9 ⊢
    exact k9
  · refine fs_iconst (v := 1) dX3_putBlock_43 rfl ?_
    refine fs_goto 48 dX3_putBlock_44 (by decide) ?_
    have k9 := key_48
    try simp only [if_neg c_40] at k9 ⊢
    exact k9
def Lb_X3_putSection_2_v2 : Nat → Nat → (Nat → Int32) → (Nat → Nat → Int32) → (Nat → Nat → Int64) → (Nat → Option Nat) → fsH → Int32 → Int32 → Int32
  | 0, ht, I, A, J, it, dyn, v1, v2 => v2
  | n + 1, ht, I, A, J, it, dyn, v1, v2 => (if (I 4) ≤ v2 then v2 else (if (L_X1_repeats_r ht I A J it dyn v2) = 0 then v2 else (Lb_X3_putSection_2_v2 n ht I A J it dyn v1 (v2 + 1))))
def S_Lb_X3_putSection_2 : Nat → Nat → (Nat → Int32) → (Nat → Nat → Int32) → (Nat → Nat → Int64) → (Nat → Option Nat) → fsH → Int32 → Int32 → Prop
  | 0, _, _, _, _, _, _, _, _ => False
  | n + 1, ht, I, A, J, it, dyn, v1, v2 => (¬ ((I 4) ≤ v2) → ((S_X1_repeats ht I A J it dyn v2) ∧ (¬ ((L_X1_repeats_r ht I A J it dyn v2) = 0) → (S_Lb_X3_putSection_2 n ht I A J it dyn v1 (v2 + 1)))))
set_option maxRecDepth 100000 in
set_option maxHeartbeats 4000000 in
theorem lp_Lb_X3_putSection_2 (G : fsG) (l : Launch) (Q : Option fsV → fsH → Prop) : ∀ (n : Nat) (ht : Nat) (I : Nat → Int32) (A : Nat → Nat → Int32) (J : Nat → Nat → Int64) (it : Nat → Option Nat) (dyn : fsH) (v1 : Int32) (v2 : Int32), S_Lb_X3_putSection_2 n ht I A J it dyn v1 v2 → (fsW G l mX3_putSection 4 0 0 0 0 Q 30 [(0, .inr (.inr (some 9))), (1, .inl v1), (2, .inl (Lb_X3_putSection_2_v2 n ht I A J it dyn v1 v2))] [] (fs_mk ht I A J it dyn)) → fsW G l mX3_putSection 4 0 0 0 0 Q 2 [(0, .inr (.inr (some 9))), (1, .inl v1), (2, .inl v2)] [] (fs_mk ht I A J it dyn) := by
  intro n
  induction n with
  | zero =>
    intro ht I A J it dyn v1 v2 hS
    exact hS.elim
  | succ n ih =>
    intro ht I A J it dyn v1 v2 hS hq
    have hS : (¬ ((I 4) ≤ v2) → ((S_X1_repeats ht I A J it dyn v2) ∧ (¬ ((L_X1_repeats_r ht I A J it dyn v2) = 0) → (S_Lb_X3_putSection_2 n ht I A J it dyn v1 (v2 + 1))))) := hS
    have hq : fsW G l mX3_putSection 4 0 0 0 0 Q 30 [(0, .inr (.inr (some 9))), (1, .inl v1), (2, .inl (if (I 4) ≤ v2 then v2 else (if (L_X1_repeats_r ht I A J it dyn v2) = 0 then v2 else (Lb_X3_putSection_2_v2 n ht I A J it dyn v1 (v2 + 1)))))] [] (fs_mk ht I A J it dyn) := hq
    refine fs_iload_n dX3_putSection_2 rfl rfl ?_
    refine fs_aload_n dX3_putSection_3 rfl rfl ?_
    refine fs_getfield (v := .inr (.inr (some 3))) dX3_putSection_4 sf_X3_25 rfl rfl ?_
    refine fs_getfield (v := .inl (I 4)) dX3_putSection_7 sf_X3_58 rfl rfl ?_
    refine fs_icmp_ge 30 dX3_putSection_10 (by decide) (fun c_10 : (I 4) ≤ v2 => ?_) (fun c_10 : ¬ ((I 4) ≤ v2) => ?_)
    · have k9 := hq
      try simp only [if_pos c_10] at k9 ⊢
      exact k9
    · have hS := hS c_10
      refine fs_aload_n dX3_putSection_13 rfl rfl ?_
      refine fs_getfield (v := .inr (.inr (some 3))) dX3_putSection_14 sf_X3_25 rfl rfl ?_
      refine fs_iload_n dX3_putSection_17 rfl rfl ?_
      obtain ⟨ho1, hS⟩ := hS
      refine fs_callV1 dX3_putSection_18 sv_X3_61 rfl ⟨_, rfl, rfl⟩ (c_X1_repeats G l ht I A J it dyn v2 ho1) rfl rfl (Nat.le_of_ble_eq_true rfl) (Nat.le_of_ble_eq_true rfl) (Nat.le_of_ble_eq_true rfl) (Nat.le_of_ble_eq_true rfl) ?_
      refine fs_if_eq 30 dX3_putSection_21 (by decide) (fun c_21 : (L_X1_repeats_r ht I A J it dyn v2) = 0 => ?_) (fun c_21 : ¬ ((L_X1_repeats_r ht I A J it dyn v2) = 0) => ?_)
      · have k9 := hq
        try simp only [if_neg c_10, if_pos c_21] at k9 ⊢
        exact k9
      · have hS := hS c_21
        refine fs_iinc (v := (v2 + 1)) (L' := [(2, .inl (v2 + 1)), (0, .inr (.inr (some 9))), (1, .inl v1)]) dX3_putSection_24 rfl rfl (by decide) rfl ?_
        refine fs_goto 2 dX3_putSection_27 (by decide) ?_
        refine fs_reL [1, 2, 0] rfl ?_
        have k9 := hq
        try simp only [if_neg c_10, if_neg c_21] at hS k9 ⊢
        exact ih _ _ _ _ _ _ _ _ hS k9
def Lb_X3_putSection_32_I : Nat → Nat → (Nat → Int32) → (Nat → Nat → Int32) → (Nat → Nat → Int64) → (Nat → Option Nat) → fsH → Int32 → Int32 → Int32 → (Nat → Int32)
  | 0, ht, I, A, J, it, dyn, v1, v2, v3 => I
  | n + 1, ht, I, A, J, it, dyn, v1, v2, v3 => (if (I 5) ≤ v3 then I else (Lb_X3_putSection_32_I n ht (L_X3_putBlock_I ht I A J it dyn v1 v2 v3) (L_X3_putBlock_A ht I A J it dyn v1 v2 v3) J it dyn v1 v2 (v3 + 1)))
def Lb_X3_putSection_32_A : Nat → Nat → (Nat → Int32) → (Nat → Nat → Int32) → (Nat → Nat → Int64) → (Nat → Option Nat) → fsH → Int32 → Int32 → Int32 → (Nat → Nat → Int32)
  | 0, ht, I, A, J, it, dyn, v1, v2, v3 => A
  | n + 1, ht, I, A, J, it, dyn, v1, v2, v3 => (if (I 5) ≤ v3 then A else (Lb_X3_putSection_32_A n ht (L_X3_putBlock_I ht I A J it dyn v1 v2 v3) (L_X3_putBlock_A ht I A J it dyn v1 v2 v3) J it dyn v1 v2 (v3 + 1)))
def Lb_X3_putSection_32_v3 : Nat → Nat → (Nat → Int32) → (Nat → Nat → Int32) → (Nat → Nat → Int64) → (Nat → Option Nat) → fsH → Int32 → Int32 → Int32 → Int32
  | 0, ht, I, A, J, it, dyn, v1, v2, v3 => v3
  | n + 1, ht, I, A, J, it, dyn, v1, v2, v3 => (if (I 5) ≤ v3 then v3 else (Lb_X3_putSection_32_v3 n ht (L_X3_putBlock_I ht I A J it dyn v1 v2 v3) (L_X3_putBlock_A ht I A J it dyn v1 v2 v3) J it dyn v1 v2 (v3 + 1)))
def S_Lb_X3_putSection_32 : Nat → Nat → (Nat → Int32) → (Nat → Nat → Int32) → (Nat → Nat → Int64) → (Nat → Option Nat) → fsH → Int32 → Int32 → Int32 → Prop
  | 0, _, _, _, _, _, _, _, _, _ => False
  | n + 1, ht, I, A, J, it, dyn, v1, v2, v3 => (¬ ((I 5) ≤ v3) → ((S_X3_putBlock ht I A J it dyn v1 v2 v3) ∧ (S_Lb_X3_putSection_32 n ht (L_X3_putBlock_I ht I A J it dyn v1 v2 v3) (L_X3_putBlock_A ht I A J it dyn v1 v2 v3) J it dyn v1 v2 (v3 + 1))))
set_option maxRecDepth 100000 in
set_option maxHeartbeats 4000000 in
theorem lp_Lb_X3_putSection_32 (G : fsG) (l : Launch) (Q : Option fsV → fsH → Prop) : ∀ (n : Nat) (ht : Nat) (I : Nat → Int32) (A : Nat → Nat → Int32) (J : Nat → Nat → Int64) (it : Nat → Option Nat) (dyn : fsH) (v1 : Int32) (v2 : Int32) (v3 : Int32), S_Lb_X3_putSection_32 n ht I A J it dyn v1 v2 v3 → (fsW G l mX3_putSection 4 0 0 0 0 Q 56 [(0, .inr (.inr (some 9))), (1, .inl v1), (2, .inl v2), (3, .inl (Lb_X3_putSection_32_v3 n ht I A J it dyn v1 v2 v3))] [] (fs_mk ht (Lb_X3_putSection_32_I n ht I A J it dyn v1 v2 v3) (Lb_X3_putSection_32_A n ht I A J it dyn v1 v2 v3) J it dyn)) → fsW G l mX3_putSection 4 0 0 0 0 Q 32 [(0, .inr (.inr (some 9))), (1, .inl v1), (2, .inl v2), (3, .inl v3)] [] (fs_mk ht I A J it dyn) := by
  intro n
  induction n with
  | zero =>
    intro ht I A J it dyn v1 v2 v3 hS
    exact hS.elim
  | succ n ih =>
    intro ht I A J it dyn v1 v2 v3 hS hq
    have hS : (¬ ((I 5) ≤ v3) → ((S_X3_putBlock ht I A J it dyn v1 v2 v3) ∧ (S_Lb_X3_putSection_32 n ht (L_X3_putBlock_I ht I A J it dyn v1 v2 v3) (L_X3_putBlock_A ht I A J it dyn v1 v2 v3) J it dyn v1 v2 (v3 + 1)))) := hS
    have hq : fsW G l mX3_putSection 4 0 0 0 0 Q 56 [(0, .inr (.inr (some 9))), (1, .inl v1), (2, .inl v2), (3, .inl (if (I 5) ≤ v3 then v3 else (Lb_X3_putSection_32_v3 n ht (L_X3_putBlock_I ht I A J it dyn v1 v2 v3) (L_X3_putBlock_A ht I A J it dyn v1 v2 v3) J it dyn v1 v2 (v3 + 1))))] [] (fs_mk ht (if (I 5) ≤ v3 then I else (Lb_X3_putSection_32_I n ht (L_X3_putBlock_I ht I A J it dyn v1 v2 v3) (L_X3_putBlock_A ht I A J it dyn v1 v2 v3) J it dyn v1 v2 (v3 + 1))) (if (I 5) ≤ v3 then A else (Lb_X3_putSection_32_A n ht (L_X3_putBlock_I ht I A J it dyn v1 v2 v3) (L_X3_putBlock_A ht I A J it dyn v1 v2 v3) J it dyn v1 v2 (v3 + 1))) J it dyn) := hq
    refine fs_iload_n dX3_putSection_32 rfl rfl ?_
    refine fs_aload_n dX3_putSection_33 rfl rfl ?_
    refine fs_getfield (v := .inr (.inr (some 3))) dX3_putSection_34 sf_X3_25 rfl rfl ?_
    refine fs_getfield (v := .inl (I 5)) dX3_putSection_37 sf_X3_100 rfl rfl ?_
    refine fs_icmp_ge 56 dX3_putSection_40 (by decide) (fun c_40 : (I 5) ≤ v3 => ?_) (fun c_40 : ¬ ((I 5) ≤ v3) => ?_)
    · have k9 := hq
      try simp only [if_pos c_40] at k9 ⊢
      exact k9
    · have hS := hS c_40
      refine fs_aload_n dX3_putSection_43 rfl rfl ?_
      refine fs_iload_n dX3_putSection_44 rfl rfl ?_
      refine fs_iload_n dX3_putSection_45 rfl rfl ?_
      refine fs_iload_n dX3_putSection_46 rfl rfl ?_
      obtain ⟨ho1, hS⟩ := hS
      refine fs_callV0 dX3_putSection_47 sv_X3_103 rfl ⟨_, rfl, rfl⟩ (c_X3_putBlock G l ht I A J it dyn v1 v2 v3 ho1) rfl rfl (Nat.le_of_ble_eq_true rfl) (Nat.le_of_ble_eq_true rfl) (Nat.le_of_ble_eq_true rfl) (Nat.le_of_ble_eq_true rfl) ?_
      refine fs_iinc (v := (v3 + 1)) (L' := [(3, .inl (v3 + 1)), (0, .inr (.inr (some 9))), (1, .inl v1), (2, .inl v2)]) dX3_putSection_50 rfl rfl (by decide) rfl ?_
      refine fs_goto 32 dX3_putSection_53 (by decide) ?_
      refine fs_reL [1, 2, 3, 0] rfl ?_
      have k9 := hq
      try simp only [if_neg c_40] at hS k9 ⊢
      exact ih _ _ _ _ _ _ _ _ _ hS k9
def L_X3_putSection_I (ht : Nat) (I : Nat → Int32) (A : Nat → Nat → Int32) (J : Nat → Nat → Int64) (it : Nat → Option Nat) (dyn : fsH) (x1 : Int32) : Nat → Int32 := (Lb_X3_putSection_32_I 70 ht I A J it dyn x1 (Lb_X3_putSection_2_v2 70 ht I A J it dyn x1 x1) 0)
def L_X3_putSection_A (ht : Nat) (I : Nat → Int32) (A : Nat → Nat → Int32) (J : Nat → Nat → Int64) (it : Nat → Option Nat) (dyn : fsH) (x1 : Int32) : Nat → Nat → Int32 := (Lb_X3_putSection_32_A 70 ht I A J it dyn x1 (Lb_X3_putSection_2_v2 70 ht I A J it dyn x1 x1) 0)
def S_X3_putSection (ht : Nat) (I : Nat → Int32) (A : Nat → Nat → Int32) (J : Nat → Nat → Int64) (it : Nat → Option Nat) (dyn : fsH) (x1 : Int32) : Prop := ((S_Lb_X3_putSection_2 70 ht I A J it dyn x1 x1) ∧ (S_Lb_X3_putSection_32 70 ht I A J it dyn x1 (Lb_X3_putSection_2_v2 70 ht I A J it dyn x1 x1) 0))
set_option maxRecDepth 100000 in
set_option maxHeartbeats 4000000 in
theorem c_X3_putSection (G : fsG) (l : Launch) (ht : Nat) (I : Nat → Int32) (A : Nat → Nat → Int32) (J : Nat → Nat → Int64) (it : Nat → Option Nat) (dyn : fsH) (x1 : Int32) (hS : S_X3_putSection ht I A J it dyn x1) : fsFn G l mX3_putSection 4 0 0 [.inr (.inr (some 9)), .inl x1] (fs_mk ht I A J it dyn) none (fs_mk ht (L_X3_putSection_I ht I A J it dyn x1) (L_X3_putSection_A ht I A J it dyn x1) J it dyn) := by
  refine fsMet_of (by decide) (Nat.le_of_ble_eq_true rfl) ?_
  generalize hQ : (fun (r1 : Option fsV) (h1 : fsH) => r1 = none ∧ h1 = (fs_mk ht (L_X3_putSection_I ht I A J it dyn x1) (L_X3_putSection_A ht I A J it dyn x1) J it dyn)) = Q
  have hq : Q none (fs_mk ht (L_X3_putSection_I ht I A J it dyn x1) (L_X3_putSection_A ht I A J it dyn x1) J it dyn) := by rw [← hQ]; exact ⟨rfl, rfl⟩
  clear hQ
  have hq : Q none (fs_mk ht (Lb_X3_putSection_32_I 70 ht I A J it dyn x1 (Lb_X3_putSection_2_v2 70 ht I A J it dyn x1 x1) 0) (Lb_X3_putSection_32_A 70 ht I A J it dyn x1 (Lb_X3_putSection_2_v2 70 ht I A J it dyn x1 x1) 0) J it dyn) := hq
  have hS : ((S_Lb_X3_putSection_2 70 ht I A J it dyn x1 x1) ∧ (S_Lb_X3_putSection_32 70 ht I A J it dyn x1 (Lb_X3_putSection_2_v2 70 ht I A J it dyn x1 x1) 0)) := hS
  refine (show fsW G l mX3_putSection 4 0 0 0 0 Q 0 [(0, .inr (.inr (some 9))), (1, .inl x1)] [] (fs_mk ht I A J it dyn) from ?_)
  refine fs_iload_n dX3_putSection_0 rfl rfl ?_
  refine fs_istore_n (L' := [(2, .inl x1), (0, .inr (.inr (some 9))), (1, .inl x1)]) dX3_putSection_1 rfl (by decide) rfl ?_
  refine fs_reL [1, 2, 0] rfl ?_
  obtain ⟨ho1, hS⟩ := hS
  refine lp_Lb_X3_putSection_2 G l Q 70 ht I A J it dyn x1 x1 ho1 ?_
  refine fs_iconst (v := 0) dX3_putSection_30 rfl ?_
  refine fs_istore_n (L' := [(3, .inl 0), (0, .inr (.inr (some 9))), (1, .inl x1), (2, .inl (Lb_X3_putSection_2_v2 70 ht I A J it dyn x1 x1))]) dX3_putSection_31 rfl (by decide) rfl ?_
  refine fs_reL [1, 2, 3, 0] rfl ?_
  have ho1 := hS
  refine lp_Lb_X3_putSection_32 G l Q 70 ht I A J it dyn x1 (Lb_X3_putSection_2_v2 70 ht I A J it dyn x1 x1) 0 ho1 ?_
  have k9 := hq
  exact fs_ret dX3_putSection_56 rfl k9
def Lb_X3_layOut_27_I : Nat → Nat → (Nat → Int32) → (Nat → Nat → Int32) → (Nat → Nat → Int64) → (Nat → Option Nat) → fsH → Int32 → (Nat → Int32)
  | 0, ht, I, A, J, it, dyn, v1 => I
  | n + 1, ht, I, A, J, it, dyn, v1 => (if (I 4) ≤ v1 then I else (Lb_X3_layOut_27_I n ht (if (L_X1_repeats_r ht I A J it dyn v1) = 0 then (L_X3_putAlone_I ht I A J it dyn v1 0) else (if (L_X1_repeats_r ht I A J it dyn (v1 - 1)) = 0 then (L_X3_putSection_I ht I A J it dyn v1) else I)) (if (L_X1_repeats_r ht I A J it dyn v1) = 0 then (L_X3_putAlone_A ht I A J it dyn v1 0) else (if (L_X1_repeats_r ht I A J it dyn (v1 - 1)) = 0 then (L_X3_putSection_A ht I A J it dyn v1) else A)) J it dyn (v1 + 1)))
def Lb_X3_layOut_27_A : Nat → Nat → (Nat → Int32) → (Nat → Nat → Int32) → (Nat → Nat → Int64) → (Nat → Option Nat) → fsH → Int32 → (Nat → Nat → Int32)
  | 0, ht, I, A, J, it, dyn, v1 => A
  | n + 1, ht, I, A, J, it, dyn, v1 => (if (I 4) ≤ v1 then A else (Lb_X3_layOut_27_A n ht (if (L_X1_repeats_r ht I A J it dyn v1) = 0 then (L_X3_putAlone_I ht I A J it dyn v1 0) else (if (L_X1_repeats_r ht I A J it dyn (v1 - 1)) = 0 then (L_X3_putSection_I ht I A J it dyn v1) else I)) (if (L_X1_repeats_r ht I A J it dyn v1) = 0 then (L_X3_putAlone_A ht I A J it dyn v1 0) else (if (L_X1_repeats_r ht I A J it dyn (v1 - 1)) = 0 then (L_X3_putSection_A ht I A J it dyn v1) else A)) J it dyn (v1 + 1)))
def Lb_X3_layOut_27_v1 : Nat → Nat → (Nat → Int32) → (Nat → Nat → Int32) → (Nat → Nat → Int64) → (Nat → Option Nat) → fsH → Int32 → Int32
  | 0, ht, I, A, J, it, dyn, v1 => v1
  | n + 1, ht, I, A, J, it, dyn, v1 => (if (I 4) ≤ v1 then v1 else (Lb_X3_layOut_27_v1 n ht (if (L_X1_repeats_r ht I A J it dyn v1) = 0 then (L_X3_putAlone_I ht I A J it dyn v1 0) else (if (L_X1_repeats_r ht I A J it dyn (v1 - 1)) = 0 then (L_X3_putSection_I ht I A J it dyn v1) else I)) (if (L_X1_repeats_r ht I A J it dyn v1) = 0 then (L_X3_putAlone_A ht I A J it dyn v1 0) else (if (L_X1_repeats_r ht I A J it dyn (v1 - 1)) = 0 then (L_X3_putSection_A ht I A J it dyn v1) else A)) J it dyn (v1 + 1)))
def S_Lb_X3_layOut_27 : Nat → Nat → (Nat → Int32) → (Nat → Nat → Int32) → (Nat → Nat → Int64) → (Nat → Option Nat) → fsH → Int32 → Prop
  | 0, _, _, _, _, _, _, _ => False
  | n + 1, ht, I, A, J, it, dyn, v1 => (¬ ((I 4) ≤ v1) → ((S_X1_repeats ht I A J it dyn v1) ∧ (((((L_X1_repeats_r ht I A J it dyn v1) = 0) → (S_X3_putAlone ht I A J it dyn v1 0)) ∧ (¬ ((L_X1_repeats_r ht I A J it dyn v1) = 0) → ((S_X1_repeats ht I A J it dyn (v1 - 1)) ∧ (((L_X1_repeats_r ht I A J it dyn (v1 - 1)) = 0) → (S_X3_putSection ht I A J it dyn v1))))) ∧ (S_Lb_X3_layOut_27 n ht (if (L_X1_repeats_r ht I A J it dyn v1) = 0 then (L_X3_putAlone_I ht I A J it dyn v1 0) else (if (L_X1_repeats_r ht I A J it dyn (v1 - 1)) = 0 then (L_X3_putSection_I ht I A J it dyn v1) else I)) (if (L_X1_repeats_r ht I A J it dyn v1) = 0 then (L_X3_putAlone_A ht I A J it dyn v1 0) else (if (L_X1_repeats_r ht I A J it dyn (v1 - 1)) = 0 then (L_X3_putSection_A ht I A J it dyn v1) else A)) J it dyn (v1 + 1)))))
set_option maxRecDepth 100000 in
set_option maxHeartbeats 4000000 in
theorem lp_Lb_X3_layOut_27 (G : fsG) (l : Launch) (Q : Option fsV → fsH → Prop) : ∀ (n : Nat) (ht : Nat) (I : Nat → Int32) (A : Nat → Nat → Int32) (J : Nat → Nat → Int64) (it : Nat → Option Nat) (dyn : fsH) (v1 : Int32), S_Lb_X3_layOut_27 n ht I A J it dyn v1 → (fsW G l mX3_layOut 6 0 0 0 0 Q 82 [(0, .inr (.inr (some 9))), (1, .inl (Lb_X3_layOut_27_v1 n ht I A J it dyn v1))] [] (fs_mk ht (Lb_X3_layOut_27_I n ht I A J it dyn v1) (Lb_X3_layOut_27_A n ht I A J it dyn v1) J it dyn)) → fsW G l mX3_layOut 6 0 0 0 0 Q 27 [(0, .inr (.inr (some 9))), (1, .inl v1)] [] (fs_mk ht I A J it dyn) := by
  intro n
  induction n with
  | zero =>
    intro ht I A J it dyn v1 hS
    exact hS.elim
  | succ n ih =>
    intro ht I A J it dyn v1 hS hq
    have hS : (¬ ((I 4) ≤ v1) → ((S_X1_repeats ht I A J it dyn v1) ∧ (((((L_X1_repeats_r ht I A J it dyn v1) = 0) → (S_X3_putAlone ht I A J it dyn v1 0)) ∧ (¬ ((L_X1_repeats_r ht I A J it dyn v1) = 0) → ((S_X1_repeats ht I A J it dyn (v1 - 1)) ∧ (((L_X1_repeats_r ht I A J it dyn (v1 - 1)) = 0) → (S_X3_putSection ht I A J it dyn v1))))) ∧ (S_Lb_X3_layOut_27 n ht (if (L_X1_repeats_r ht I A J it dyn v1) = 0 then (L_X3_putAlone_I ht I A J it dyn v1 0) else (if (L_X1_repeats_r ht I A J it dyn (v1 - 1)) = 0 then (L_X3_putSection_I ht I A J it dyn v1) else I)) (if (L_X1_repeats_r ht I A J it dyn v1) = 0 then (L_X3_putAlone_A ht I A J it dyn v1 0) else (if (L_X1_repeats_r ht I A J it dyn (v1 - 1)) = 0 then (L_X3_putSection_A ht I A J it dyn v1) else A)) J it dyn (v1 + 1))))) := hS
    have hq : fsW G l mX3_layOut 6 0 0 0 0 Q 82 [(0, .inr (.inr (some 9))), (1, .inl (if (I 4) ≤ v1 then v1 else (Lb_X3_layOut_27_v1 n ht (if (L_X1_repeats_r ht I A J it dyn v1) = 0 then (L_X3_putAlone_I ht I A J it dyn v1 0) else (if (L_X1_repeats_r ht I A J it dyn (v1 - 1)) = 0 then (L_X3_putSection_I ht I A J it dyn v1) else I)) (if (L_X1_repeats_r ht I A J it dyn v1) = 0 then (L_X3_putAlone_A ht I A J it dyn v1 0) else (if (L_X1_repeats_r ht I A J it dyn (v1 - 1)) = 0 then (L_X3_putSection_A ht I A J it dyn v1) else A)) J it dyn (v1 + 1))))] [] (fs_mk ht (if (I 4) ≤ v1 then I else (Lb_X3_layOut_27_I n ht (if (L_X1_repeats_r ht I A J it dyn v1) = 0 then (L_X3_putAlone_I ht I A J it dyn v1 0) else (if (L_X1_repeats_r ht I A J it dyn (v1 - 1)) = 0 then (L_X3_putSection_I ht I A J it dyn v1) else I)) (if (L_X1_repeats_r ht I A J it dyn v1) = 0 then (L_X3_putAlone_A ht I A J it dyn v1 0) else (if (L_X1_repeats_r ht I A J it dyn (v1 - 1)) = 0 then (L_X3_putSection_A ht I A J it dyn v1) else A)) J it dyn (v1 + 1))) (if (I 4) ≤ v1 then A else (Lb_X3_layOut_27_A n ht (if (L_X1_repeats_r ht I A J it dyn v1) = 0 then (L_X3_putAlone_I ht I A J it dyn v1 0) else (if (L_X1_repeats_r ht I A J it dyn (v1 - 1)) = 0 then (L_X3_putSection_I ht I A J it dyn v1) else I)) (if (L_X1_repeats_r ht I A J it dyn v1) = 0 then (L_X3_putAlone_A ht I A J it dyn v1 0) else (if (L_X1_repeats_r ht I A J it dyn (v1 - 1)) = 0 then (L_X3_putSection_A ht I A J it dyn v1) else A)) J it dyn (v1 + 1))) J it dyn) := hq
    refine fs_iload_n dX3_layOut_27 rfl rfl ?_
    refine fs_aload_n dX3_layOut_28 rfl rfl ?_
    refine fs_getfield (v := .inr (.inr (some 3))) dX3_layOut_29 sf_X3_25 rfl rfl ?_
    refine fs_getfield (v := .inl (I 4)) dX3_layOut_32 sf_X3_58 rfl rfl ?_
    refine fs_icmp_ge 82 dX3_layOut_35 (by decide) (fun c_35 : (I 4) ≤ v1 => ?_) (fun c_35 : ¬ ((I 4) ≤ v1) => ?_)
    · have k9 := hq
      try simp only [if_pos c_35] at k9 ⊢
      exact k9
    · have hS := hS c_35
      refine fs_aload_n dX3_layOut_38 rfl rfl ?_
      refine fs_getfield (v := .inr (.inr (some 3))) dX3_layOut_39 sf_X3_25 rfl rfl ?_
      refine fs_iload_n dX3_layOut_42 rfl rfl ?_
      obtain ⟨ho1, hS⟩ := hS
      refine fs_callV1 dX3_layOut_43 sv_X3_61 rfl ⟨_, rfl, rfl⟩ (c_X1_repeats G l ht I A J it dyn v1 ho1) rfl rfl (Nat.le_of_ble_eq_true rfl) (Nat.le_of_ble_eq_true rfl) (Nat.le_of_ble_eq_true rfl) (Nat.le_of_ble_eq_true rfl) ?_
      obtain ⟨hR_46, hS⟩ := hS
      have key_76 : fsW G l mX3_layOut 6 0 0 0 0 Q 76 [(0, .inr (.inr (some 9))), (1, .inl v1)] [] (fs_mk ht (if (L_X1_repeats_r ht I A J it dyn v1) = 0 then (L_X3_putAlone_I ht I A J it dyn v1 0) else (if (L_X1_repeats_r ht I A J it dyn (v1 - 1)) = 0 then (L_X3_putSection_I ht I A J it dyn v1) else I)) (if (L_X1_repeats_r ht I A J it dyn v1) = 0 then (L_X3_putAlone_A ht I A J it dyn v1 0) else (if (L_X1_repeats_r ht I A J it dyn (v1 - 1)) = 0 then (L_X3_putSection_A ht I A J it dyn v1) else A)) J it dyn) := by
        refine fs_iinc (v := (v1 + 1)) (L' := [(1, .inl (v1 + 1)), (0, .inr (.inr (some 9)))]) dX3_layOut_76 rfl rfl (by decide) rfl ?_
        refine fs_goto 27 dX3_layOut_79 (by decide) ?_
        refine fs_reL [1, 0] rfl ?_
        have k9 := hq
        try simp only [if_neg c_35] at hS k9 ⊢
        exact ih _ _ _ _ _ _ _ hS k9
      refine fs_if_ne 58 dX3_layOut_46 (by decide) (fun c_46 : ¬ (L_X1_repeats_r ht I A J it dyn v1) = 0 => ?_) (fun c_46 : (L_X1_repeats_r ht I A J it dyn v1) = 0 => ?_)
      · have hS := hR_46.2 c_46
        refine fs_aload_n dX3_layOut_58 rfl rfl ?_
        refine fs_getfield (v := .inr (.inr (some 3))) dX3_layOut_59 sf_X3_25 rfl rfl ?_
        refine fs_iload_n dX3_layOut_62 rfl rfl ?_
        refine fs_iconst (v := 1) dX3_layOut_63 rfl ?_
        refine fs_isub dX3_layOut_64 ?_
        obtain ⟨ho1, hS⟩ := hS
        refine fs_callV1 dX3_layOut_65 sv_X3_61 rfl ⟨_, rfl, rfl⟩ (c_X1_repeats G l ht I A J it dyn (v1 - 1) ho1) rfl rfl (Nat.le_of_ble_eq_true rfl) (Nat.le_of_ble_eq_true rfl) (Nat.le_of_ble_eq_true rfl) (Nat.le_of_ble_eq_true rfl) ?_
        refine fs_if_ne 76 dX3_layOut_68 (by decide) (fun c_68 : ¬ (L_X1_repeats_r ht I A J it dyn (v1 - 1)) = 0 => ?_) (fun c_68 : (L_X1_repeats_r ht I A J it dyn (v1 - 1)) = 0 => ?_)
        · have k9 := key_76
          try simp only [if_neg c_35, if_neg c_46, if_neg c_68] at k9 ⊢
          exact k9
        · have hS := hS c_68
          refine fs_aload_n dX3_layOut_71 rfl rfl ?_
          refine fs_iload_n dX3_layOut_72 rfl rfl ?_
          have ho1 := hS
          refine fs_callV0 dX3_layOut_73 sv_X3_69 rfl ⟨_, rfl, rfl⟩ (c_X3_putSection G l ht I A J it dyn v1 ho1) rfl rfl (Nat.le_of_ble_eq_true rfl) (Nat.le_of_ble_eq_true rfl) (Nat.le_of_ble_eq_true rfl) (Nat.le_of_ble_eq_true rfl) ?_
          have k9 := key_76
          try simp only [if_neg c_35, if_neg c_46, if_pos c_68] at k9 ⊢
          exact k9
      · have hS := hR_46.1 c_46
        refine fs_aload_n dX3_layOut_49 rfl rfl ?_
        refine fs_iload_n dX3_layOut_50 rfl rfl ?_
        refine fs_iconst (v := 0) dX3_layOut_51 rfl ?_
        have ho1 := hS
        refine fs_callV0 dX3_layOut_52 sv_X3_65 rfl ⟨_, rfl, rfl⟩ (c_X3_putAlone G l ht I A J it dyn v1 0 ho1) rfl rfl (Nat.le_of_ble_eq_true rfl) (Nat.le_of_ble_eq_true rfl) (Nat.le_of_ble_eq_true rfl) (Nat.le_of_ble_eq_true rfl) ?_
        refine fs_goto 76 dX3_layOut_55 (by decide) ?_
        have k9 := key_76
        try simp only [if_neg c_35, if_pos c_46] at k9 ⊢
        exact k9
def L_X3_layOut_I (ht : Nat) (I : Nat → Int32) (A : Nat → Nat → Int32) (J : Nat → Nat → Int64) (it : Nat → Option Nat) (dyn : fsH)  : Nat → Int32 := (Lb_X3_layOut_27_I 70 ht (upd I 7 0) (L_X3_measure_A ht (upd I 7 0) (L_J7_fillI_10_A ht I (L_J7_fillI_11_A ht I A J it dyn (-1)) J it dyn 0) J it dyn) J it dyn 0)
def L_X3_layOut_A (ht : Nat) (I : Nat → Int32) (A : Nat → Nat → Int32) (J : Nat → Nat → Int64) (it : Nat → Option Nat) (dyn : fsH)  : Nat → Nat → Int32 := (Lb_X3_layOut_27_A 70 ht (upd I 7 0) (L_X3_measure_A ht (upd I 7 0) (L_J7_fillI_10_A ht I (L_J7_fillI_11_A ht I A J it dyn (-1)) J it dyn 0) J it dyn) J it dyn 0)
def S_X3_layOut (ht : Nat) (I : Nat → Int32) (A : Nat → Nat → Int32) (J : Nat → Nat → Int64) (it : Nat → Option Nat) (dyn : fsH)  : Prop := ((S_J7_fillI_11 ht I A J it dyn (-1)) ∧ ((S_J7_fillI_10 ht I (L_J7_fillI_11_A ht I A J it dyn (-1)) J it dyn 0) ∧ ((S_X3_measure ht (upd I 7 0) (L_J7_fillI_10_A ht I (L_J7_fillI_11_A ht I A J it dyn (-1)) J it dyn 0) J it dyn) ∧ (S_Lb_X3_layOut_27 70 ht (upd I 7 0) (L_X3_measure_A ht (upd I 7 0) (L_J7_fillI_10_A ht I (L_J7_fillI_11_A ht I A J it dyn (-1)) J it dyn 0) J it dyn) J it dyn 0))))
set_option maxRecDepth 100000 in
set_option maxHeartbeats 4000000 in
theorem c_X3_layOut (G : fsG) (l : Launch) (ht : Nat) (I : Nat → Int32) (A : Nat → Nat → Int32) (J : Nat → Nat → Int64) (it : Nat → Option Nat) (dyn : fsH)  (hS : S_X3_layOut ht I A J it dyn ) : fsFn G l mX3_layOut 6 0 0 [.inr (.inr (some 9))] (fs_mk ht I A J it dyn) none (fs_mk ht (L_X3_layOut_I ht I A J it dyn ) (L_X3_layOut_A ht I A J it dyn ) J it dyn) := by
  refine fsMet_of (by decide) (Nat.le_of_ble_eq_true rfl) ?_
  generalize hQ : (fun (r1 : Option fsV) (h1 : fsH) => r1 = none ∧ h1 = (fs_mk ht (L_X3_layOut_I ht I A J it dyn ) (L_X3_layOut_A ht I A J it dyn ) J it dyn)) = Q
  have hq : Q none (fs_mk ht (L_X3_layOut_I ht I A J it dyn ) (L_X3_layOut_A ht I A J it dyn ) J it dyn) := by rw [← hQ]; exact ⟨rfl, rfl⟩
  clear hQ
  have hq : Q none (fs_mk ht (Lb_X3_layOut_27_I 70 ht (upd I 7 0) (L_X3_measure_A ht (upd I 7 0) (L_J7_fillI_10_A ht I (L_J7_fillI_11_A ht I A J it dyn (-1)) J it dyn 0) J it dyn) J it dyn 0) (Lb_X3_layOut_27_A 70 ht (upd I 7 0) (L_X3_measure_A ht (upd I 7 0) (L_J7_fillI_10_A ht I (L_J7_fillI_11_A ht I A J it dyn (-1)) J it dyn 0) J it dyn) J it dyn 0) J it dyn) := hq
  have hS : ((S_J7_fillI_11 ht I A J it dyn (-1)) ∧ ((S_J7_fillI_10 ht I (L_J7_fillI_11_A ht I A J it dyn (-1)) J it dyn 0) ∧ ((S_X3_measure ht (upd I 7 0) (L_J7_fillI_10_A ht I (L_J7_fillI_11_A ht I A J it dyn (-1)) J it dyn 0) J it dyn) ∧ (S_Lb_X3_layOut_27 70 ht (upd I 7 0) (L_X3_measure_A ht (upd I 7 0) (L_J7_fillI_10_A ht I (L_J7_fillI_11_A ht I A J it dyn (-1)) J it dyn 0) J it dyn) J it dyn 0)))) := hS
  refine (show fsW G l mX3_layOut 6 0 0 0 0 Q 0 [(0, .inr (.inr (some 9)))] [] (fs_mk ht I A J it dyn) from ?_)
  refine fs_aload_n dX3_layOut_0 rfl rfl ?_
  refine fs_getfield (v := .inr (.inr (some 11))) dX3_layOut_1 sf_X3_15 rfl rfl ?_
  refine fs_iconst (v := (-1)) dX3_layOut_4 rfl ?_
  obtain ⟨ho1, hS⟩ := hS
  refine fs_callS0 dX3_layOut_5 sv_X3_49 (c_J7_fillI_11 G l ht I A J it dyn (-1) ho1) rfl rfl (Nat.le_of_ble_eq_true rfl) (Nat.le_of_ble_eq_true rfl) (Nat.le_of_ble_eq_true rfl) (Nat.le_of_ble_eq_true rfl) ?_
  refine fs_aload_n dX3_layOut_8 rfl rfl ?_
  refine fs_getfield (v := .inr (.inr (some 10))) dX3_layOut_9 sf_X3_9 rfl rfl ?_
  refine fs_iconst (v := 0) dX3_layOut_12 rfl ?_
  obtain ⟨ho1, hS⟩ := hS
  refine fs_callS0 dX3_layOut_13 sv_X3_49 (c_J7_fillI_10 G l ht I (L_J7_fillI_11_A ht I A J it dyn (-1)) J it dyn 0 ho1) rfl rfl (Nat.le_of_ble_eq_true rfl) (Nat.le_of_ble_eq_true rfl) (Nat.le_of_ble_eq_true rfl) (Nat.le_of_ble_eq_true rfl) ?_
  refine fs_aload_n dX3_layOut_16 rfl rfl ?_
  refine fs_iconst (v := 0) dX3_layOut_17 rfl ?_
  refine fsp_7 dX3_layOut_18 sp_X3_21 ?_
  refine fs_aload_n dX3_layOut_21 rfl rfl ?_
  obtain ⟨ho1, hS⟩ := hS
  refine fs_callV0 dX3_layOut_22 sv_X3_55 rfl ⟨_, rfl, rfl⟩ (c_X3_measure G l ht (upd I 7 0) (L_J7_fillI_10_A ht I (L_J7_fillI_11_A ht I A J it dyn (-1)) J it dyn 0) J it dyn ho1) rfl rfl (Nat.le_of_ble_eq_true rfl) (Nat.le_of_ble_eq_true rfl) (Nat.le_of_ble_eq_true rfl) (Nat.le_of_ble_eq_true rfl) ?_
  refine fs_iconst (v := 0) dX3_layOut_25 rfl ?_
  refine fs_istore_n (L' := [(1, .inl 0), (0, .inr (.inr (some 9)))]) dX3_layOut_26 rfl (by decide) rfl ?_
  refine fs_reL [1, 0] rfl ?_
  have ho1 := hS
  refine lp_Lb_X3_layOut_27 G l Q 70 ht (upd I 7 0) (L_X3_measure_A ht (upd I 7 0) (L_J7_fillI_10_A ht I (L_J7_fillI_11_A ht I A J it dyn (-1)) J it dyn 0) J it dyn) J it dyn 0 ho1 ?_
  have k9 := hq
  exact fs_ret dX3_layOut_82 rfl k9
def L_X7_isThere_r (ht : Nat) (I : Nat → Int32) (A : Nat → Nat → Int32) (J : Nat → Nat → Int64) (it : Nat → Option Nat) (dyn : fsH) (x1 : Int32) (x2 : Int32) : Int32 := (if (I 1) = 0 then 0 else (if (L_X1_has_r ht I A J it dyn x1 x2) = 0 then 0 else 1 : Int32) : Int32)
def S_X7_isThere (ht : Nat) (I : Nat → Int32) (A : Nat → Nat → Int32) (J : Nat → Nat → Int64) (it : Nat → Option Nat) (dyn : fsH) (x1 : Int32) (x2 : Int32) : Prop := (¬ ((I 1) = 0) → (S_X1_has ht I A J it dyn x1 x2))
set_option maxRecDepth 100000 in
set_option maxHeartbeats 4000000 in
theorem c_X7_isThere (G : fsG) (l : Launch) (ht : Nat) (I : Nat → Int32) (A : Nat → Nat → Int32) (J : Nat → Nat → Int64) (it : Nat → Option Nat) (dyn : fsH) (x1 : Int32) (x2 : Int32) (hS : S_X7_isThere ht I A J it dyn x1 x2) : fsFn G l mX7_isThere 2 0 0 [.inr (.inr (some 0)), .inl x1, .inl x2] (fs_mk ht I A J it dyn) (some (.inl (L_X7_isThere_r ht I A J it dyn x1 x2))) (fs_mk ht I A J it dyn) := by
  refine fsMet_of (by decide) (Nat.le_of_ble_eq_true rfl) ?_
  generalize hQ : (fun (r1 : Option fsV) (h1 : fsH) => r1 = (some (.inl (L_X7_isThere_r ht I A J it dyn x1 x2))) ∧ h1 = (fs_mk ht I A J it dyn)) = Q
  have hq : Q (some (.inl (L_X7_isThere_r ht I A J it dyn x1 x2))) (fs_mk ht I A J it dyn) := by rw [← hQ]; exact ⟨rfl, rfl⟩
  clear hQ
  have hq : Q (some (.inl (if (I 1) = 0 then 0 else (if (L_X1_has_r ht I A J it dyn x1 x2) = 0 then 0 else 1 : Int32) : Int32))) (fs_mk ht I A J it dyn) := hq
  have hS : (¬ ((I 1) = 0) → (S_X1_has ht I A J it dyn x1 x2)) := hS
  refine (show fsW G l mX7_isThere 2 0 0 0 0 Q 0 [(0, .inr (.inr (some 0))), (1, .inl x1), (2, .inl x2)] [] (fs_mk ht I A J it dyn) from ?_)
  refine fs_aload_n dX7_isThere_0 rfl rfl ?_
  refine fs_getfield (v := .inl (I 1)) dX7_isThere_1 sf_X7_13 rfl rfl ?_
  have hR_4 := hS
  have key_24 : fsW G l mX7_isThere 2 0 0 0 0 Q 24 [(0, .inr (.inr (some 0))), (1, .inl x1), (2, .inl x2)] [.inl (if (I 1) = 0 then 0 else (if (L_X1_has_r ht I A J it dyn x1 x2) = 0 then 0 else 1 : Int32) : Int32)] (fs_mk ht I A J it dyn) := by
    have k9 := hq
    exact fs_iret dX7_isThere_24 rfl (by (repeat' split) <;> first | rfl) k9
  refine fs_if_eq 23 dX7_isThere_4 (by decide) (fun c_4 : (I 1) = 0 => ?_) (fun c_4 : ¬ ((I 1) = 0) => ?_)
  · refine fs_iconst (v := 0) dX7_isThere_23 rfl ?_
    have k9 := key_24
    try simp only [if_pos c_4] at k9 ⊢
    exact k9
  · have hS := hR_4 c_4
    refine fs_aload_n dX7_isThere_7 rfl rfl ?_
    refine fs_getfield (v := .inr (.inr (some 3))) dX7_isThere_8 sf_X7_27 rfl rfl ?_
    refine fs_iload_n dX7_isThere_11 rfl rfl ?_
    refine fs_iload_n dX7_isThere_12 rfl rfl ?_
    have ho1 := hS
    refine fs_callV1 dX7_isThere_13 sv_X7_182 rfl ⟨_, rfl, rfl⟩ (c_X1_has G l ht I A J it dyn x1 x2 ho1) rfl rfl (Nat.le_of_ble_eq_true rfl) (Nat.le_of_ble_eq_true rfl) (Nat.le_of_ble_eq_true rfl) (Nat.le_of_ble_eq_true rfl) ?_
    refine fs_if_eq 23 dX7_isThere_16 (by decide) (fun c_16 : (L_X1_has_r ht I A J it dyn x1 x2) = 0 => ?_) (fun c_16 : ¬ ((L_X1_has_r ht I A J it dyn x1 x2) = 0) => ?_)
    · refine fs_iconst (v := 0) dX7_isThere_23 rfl ?_
      have k9 := key_24
      try simp only [if_neg c_4, if_pos c_16] at k9 ⊢
      exact k9
    · refine fs_iconst (v := 1) dX7_isThere_19 rfl ?_
      refine fs_goto 24 dX7_isThere_20 (by decide) ?_
      have k9 := key_24
      try simp only [if_neg c_4, if_neg c_16] at k9 ⊢
      exact k9
theorem nb_X7_isThere (ht : Nat) (I : Nat → Int32) (A : Nat → Nat → Int32) (J : Nat → Nat → Int64) (it : Nat → Option Nat) (dyn : fsH) (x1 : Int32) (x2 : Int32) : narrow .boolean (.int (L_X7_isThere_r ht I A J it dyn x1 x2)) = .int (L_X7_isThere_r ht I A J it dyn x1 x2) := by
  unfold L_X7_isThere_r
  exact (by (repeat' split) <;> first | rfl)
def L_X7_get_r (ht : Nat) (I : Nat → Int32) (A : Nat → Nat → Int32) (J : Nat → Nat → Int64) (it : Nat → Option Nat) (dyn : fsH) (x1 : Int32) (x2 : Int32) : Int64 := (if (L_X7_isThere_r ht I A J it dyn x1 x2) = 0 then 0 else (if (L_X1_isField_r ht I A J it dyn x1) = 0 then 0 else (if (L_X7_isFault_r ht I A J it dyn (L_X6_outcomeOf_r ht I A J it dyn x1 x2)) = 0 then (L_X6_outcomeOf_r ht I A J it dyn x1 x2) else 0 : Int64)))
def S_X7_get (ht : Nat) (I : Nat → Int32) (A : Nat → Nat → Int32) (J : Nat → Nat → Int64) (it : Nat → Option Nat) (dyn : fsH) (x1 : Int32) (x2 : Int32) : Prop := ((S_X7_isThere ht I A J it dyn x1 x2) ∧ (¬ ((L_X7_isThere_r ht I A J it dyn x1 x2) = 0) → ((S_X1_isField ht I A J it dyn x1) ∧ (¬ ((L_X1_isField_r ht I A J it dyn x1) = 0) → (S_X6_outcomeOf ht I A J it dyn x1 x2)))))
set_option maxRecDepth 100000 in
set_option maxHeartbeats 4000000 in
theorem c_X7_get (G : fsG) (l : Launch) (ht : Nat) (I : Nat → Int32) (A : Nat → Nat → Int32) (J : Nat → Nat → Int64) (it : Nat → Option Nat) (dyn : fsH) (x1 : Int32) (x2 : Int32) (hS : S_X7_get ht I A J it dyn x1 x2) : fsFn G l mX7_get 3 0 0 [.inr (.inr (some 0)), .inl x1, .inl x2] (fs_mk ht I A J it dyn) (some (.inr (.inl (L_X7_get_r ht I A J it dyn x1 x2)))) (fs_mk ht I A J it dyn) := by
  refine fsMet_of (by decide) (Nat.le_of_ble_eq_true rfl) ?_
  generalize hQ : (fun (r1 : Option fsV) (h1 : fsH) => r1 = (some (.inr (.inl (L_X7_get_r ht I A J it dyn x1 x2)))) ∧ h1 = (fs_mk ht I A J it dyn)) = Q
  have hq : Q (some (.inr (.inl (L_X7_get_r ht I A J it dyn x1 x2)))) (fs_mk ht I A J it dyn) := by rw [← hQ]; exact ⟨rfl, rfl⟩
  clear hQ
  have hq : Q (some (.inr (.inl (if (L_X7_isThere_r ht I A J it dyn x1 x2) = 0 then 0 else (if (L_X1_isField_r ht I A J it dyn x1) = 0 then 0 else (if (L_X7_isFault_r ht I A J it dyn (L_X6_outcomeOf_r ht I A J it dyn x1 x2)) = 0 then (L_X6_outcomeOf_r ht I A J it dyn x1 x2) else 0 : Int64) : Int64) : Int64)))) (fs_mk ht I A J it dyn) := hq
  have hS : ((S_X7_isThere ht I A J it dyn x1 x2) ∧ (¬ ((L_X7_isThere_r ht I A J it dyn x1 x2) = 0) → ((S_X1_isField ht I A J it dyn x1) ∧ (¬ ((L_X1_isField_r ht I A J it dyn x1) = 0) → (S_X6_outcomeOf ht I A J it dyn x1 x2))))) := hS
  refine (show fsW G l mX7_get 3 0 0 0 0 Q 0 [(0, .inr (.inr (some 0))), (1, .inl x1), (2, .inl x2)] [] (fs_mk ht I A J it dyn) from ?_)
  refine fs_aload_n dX7_get_0 rfl rfl ?_
  refine fs_iload_n dX7_get_1 rfl rfl ?_
  refine fs_iload_n dX7_get_2 rfl rfl ?_
  obtain ⟨ho1, hS⟩ := hS
  refine fs_callV1 dX7_get_3 sv_X7_120 rfl ⟨_, rfl, rfl⟩ (c_X7_isThere G l ht I A J it dyn x1 x2 ho1) rfl rfl (Nat.le_of_ble_eq_true rfl) (Nat.le_of_ble_eq_true rfl) (Nat.le_of_ble_eq_true rfl) (Nat.le_of_ble_eq_true rfl) ?_
  refine fs_if_eq 20 dX7_get_6 (by decide) (fun c_6 : (L_X7_isThere_r ht I A J it dyn x1 x2) = 0 => ?_) (fun c_6 : ¬ ((L_X7_isThere_r ht I A J it dyn x1 x2) = 0) => ?_)
  · refine fs_lconst (v := 0) dX7_get_20 rfl ?_
    have k9 := hq
    try simp only [if_pos c_6] at k9 ⊢
    exact fs_lret dX7_get_21 rfl k9
  · have hS := hS c_6
    refine fs_aload_n dX7_get_9 rfl rfl ?_
    refine fs_getfield (v := .inr (.inr (some 3))) dX7_get_10 sf_X7_27 rfl rfl ?_
    refine fs_iload_n dX7_get_13 rfl rfl ?_
    obtain ⟨ho1, hS⟩ := hS
    refine fs_callV1 dX7_get_14 sv_X7_139 rfl ⟨_, rfl, rfl⟩ (c_X1_isField G l ht I A J it dyn x1 ho1) rfl rfl (Nat.le_of_ble_eq_true rfl) (Nat.le_of_ble_eq_true rfl) (Nat.le_of_ble_eq_true rfl) (Nat.le_of_ble_eq_true rfl) ?_
    refine fs_if_ne 22 dX7_get_17 (by decide) (fun c_17 : ¬ (L_X1_isField_r ht I A J it dyn x1) = 0 => ?_) (fun c_17 : (L_X1_isField_r ht I A J it dyn x1) = 0 => ?_)
    · have hS := hS c_17
      refine fs_aload_n dX7_get_22 rfl rfl ?_
      refine fs_getfield (v := .inr (.inr (some 5))) dX7_get_23 sf_X7_36 rfl rfl ?_
      refine fs_iload_n dX7_get_26 rfl rfl ?_
      refine fs_iload_n dX7_get_27 rfl rfl ?_
      have ho1 := hS
      refine fs_callV1 dX7_get_28 sv_X7_142 rfl ⟨_, rfl, rfl⟩ (c_X6_outcomeOf G l ht I A J it dyn x1 x2 ho1) rfl rfl (Nat.le_of_ble_eq_true rfl) (Nat.le_of_ble_eq_true rfl) (Nat.le_of_ble_eq_true rfl) (Nat.le_of_ble_eq_true rfl) ?_
      refine fs_lstore_n (L' := [(3, .inr (.inl (L_X6_outcomeOf_r ht I A J it dyn x1 x2))), (0, .inr (.inr (some 0))), (1, .inl x1), (2, .inl x2)]) dX7_get_31 rfl (by decide) rfl ?_
      refine fs_lload_n dX7_get_32 rfl rfl ?_
      refine fs_callS1 dX7_get_33 sv_X7_146 (c_X7_isFault G l ht I A J it dyn (L_X6_outcomeOf_r ht I A J it dyn x1 x2)) rfl rfl (Nat.le_of_ble_eq_true rfl) (Nat.le_of_ble_eq_true rfl) (Nat.le_of_ble_eq_true rfl) (Nat.le_of_ble_eq_true rfl) ?_
      have key_44 : fsW G l mX7_get 3 0 0 0 0 Q 44 [(0, .inr (.inr (some 0))), (1, .inl x1), (2, .inl x2), (3, .inr (.inl (L_X6_outcomeOf_r ht I A J it dyn x1 x2)))] [.inr (.inl (if (L_X7_isFault_r ht I A J it dyn (L_X6_outcomeOf_r ht I A J it dyn x1 x2)) = 0 then (L_X6_outcomeOf_r ht I A J it dyn x1 x2) else 0 : Int64))] (fs_mk ht I A J it dyn) := by
        have k9 := hq
        try simp only [if_neg c_6, if_neg c_17] at k9 ⊢
        exact fs_lret dX7_get_44 rfl k9
      refine fs_if_eq 43 dX7_get_36 (by decide) (fun c_36 : (L_X7_isFault_r ht I A J it dyn (L_X6_outcomeOf_r ht I A J it dyn x1 x2)) = 0 => ?_) (fun c_36 : ¬ ((L_X7_isFault_r ht I A J it dyn (L_X6_outcomeOf_r ht I A J it dyn x1 x2)) = 0) => ?_)
      · refine fs_lload_n dX7_get_43 rfl rfl ?_
        refine fs_reL [1, 2, 3, 0] rfl ?_
        have k9 := key_44
        try simp only [if_neg c_6, if_neg c_17, if_pos c_36] at k9 ⊢
        exact k9
      · refine fs_lconst (v := 0) dX7_get_39 rfl ?_
        refine fs_goto 44 dX7_get_40 (by decide) ?_
        refine fs_reL [1, 2, 3, 0] rfl ?_
        have k9 := key_44
        try simp only [if_neg c_6, if_neg c_17, if_neg c_36] at k9 ⊢
        exact k9
    · refine fs_lconst (v := 0) dX7_get_20 rfl ?_
      have k9 := hq
      try simp only [if_neg c_6, if_pos c_17] at k9 ⊢
      exact fs_lret dX7_get_21 rfl k9
def L_X7_fault_r (ht : Nat) (I : Nat → Int32) (A : Nat → Nat → Int32) (J : Nat → Nat → Int64) (it : Nat → Option Nat) (dyn : fsH) (x1 : Int32) (x2 : Int32) : Int32 := (if (L_X7_isThere_r ht I A J it dyn x1 x2) = 0 then (-1) else (if (L_X1_isCaption_r ht I A J it dyn x1) = 0 then (if (L_X1_isCheck_r ht I A J it dyn x1) = 0 then (if (L_X7_isFault_r ht I A J it dyn (L_X6_outcomeOf_r ht I A J it dyn x1 x2)) = 0 then 0 else ((L_X6_outcomeOf_r ht I A J it dyn x1 x2) - (10000000000000000)).toInt32 : Int32) else (if (L_X6_fails_r ht I A J it dyn x1 x2) = 0 then 0 else 1 : Int32)) else (-1)))
def S_X7_fault (ht : Nat) (I : Nat → Int32) (A : Nat → Nat → Int32) (J : Nat → Nat → Int64) (it : Nat → Option Nat) (dyn : fsH) (x1 : Int32) (x2 : Int32) : Prop := ((S_X7_isThere ht I A J it dyn x1 x2) ∧ (¬ ((L_X7_isThere_r ht I A J it dyn x1 x2) = 0) → ((S_X1_isCaption ht I A J it dyn x1) ∧ (((L_X1_isCaption_r ht I A J it dyn x1) = 0) → ((S_X1_isCheck ht I A J it dyn x1) ∧ ((((L_X1_isCheck_r ht I A J it dyn x1) = 0) → (S_X6_outcomeOf ht I A J it dyn x1 x2)) ∧ (¬ ((L_X1_isCheck_r ht I A J it dyn x1) = 0) → (S_X6_fails ht I A J it dyn x1 x2))))))))
set_option maxRecDepth 100000 in
set_option maxHeartbeats 4000000 in
theorem c_X7_fault (G : fsG) (l : Launch) (ht : Nat) (I : Nat → Int32) (A : Nat → Nat → Int32) (J : Nat → Nat → Int64) (it : Nat → Option Nat) (dyn : fsH) (x1 : Int32) (x2 : Int32) (hS : S_X7_fault ht I A J it dyn x1 x2) : fsFn G l mX7_fault 4 0 0 [.inr (.inr (some 0)), .inl x1, .inl x2] (fs_mk ht I A J it dyn) (some (.inl (L_X7_fault_r ht I A J it dyn x1 x2))) (fs_mk ht I A J it dyn) := by
  refine fsMet_of (by decide) (Nat.le_of_ble_eq_true rfl) ?_
  generalize hQ : (fun (r1 : Option fsV) (h1 : fsH) => r1 = (some (.inl (L_X7_fault_r ht I A J it dyn x1 x2))) ∧ h1 = (fs_mk ht I A J it dyn)) = Q
  have hq : Q (some (.inl (L_X7_fault_r ht I A J it dyn x1 x2))) (fs_mk ht I A J it dyn) := by rw [← hQ]; exact ⟨rfl, rfl⟩
  clear hQ
  have hq : Q (some (.inl (if (L_X7_isThere_r ht I A J it dyn x1 x2) = 0 then (-1) else (if (L_X1_isCaption_r ht I A J it dyn x1) = 0 then (if (L_X1_isCheck_r ht I A J it dyn x1) = 0 then (if (L_X7_isFault_r ht I A J it dyn (L_X6_outcomeOf_r ht I A J it dyn x1 x2)) = 0 then 0 else ((L_X6_outcomeOf_r ht I A J it dyn x1 x2) - (10000000000000000)).toInt32 : Int32) else (if (L_X6_fails_r ht I A J it dyn x1 x2) = 0 then 0 else 1 : Int32) : Int32) else (-1) : Int32) : Int32))) (fs_mk ht I A J it dyn) := hq
  have hS : ((S_X7_isThere ht I A J it dyn x1 x2) ∧ (¬ ((L_X7_isThere_r ht I A J it dyn x1 x2) = 0) → ((S_X1_isCaption ht I A J it dyn x1) ∧ (((L_X1_isCaption_r ht I A J it dyn x1) = 0) → ((S_X1_isCheck ht I A J it dyn x1) ∧ ((((L_X1_isCheck_r ht I A J it dyn x1) = 0) → (S_X6_outcomeOf ht I A J it dyn x1 x2)) ∧ (¬ ((L_X1_isCheck_r ht I A J it dyn x1) = 0) → (S_X6_fails ht I A J it dyn x1 x2)))))))) := hS
  refine (show fsW G l mX7_fault 4 0 0 0 0 Q 0 [(0, .inr (.inr (some 0))), (1, .inl x1), (2, .inl x2)] [] (fs_mk ht I A J it dyn) from ?_)
  refine fs_aload_n dX7_fault_0 rfl rfl ?_
  refine fs_iload_n dX7_fault_1 rfl rfl ?_
  refine fs_iload_n dX7_fault_2 rfl rfl ?_
  obtain ⟨ho1, hS⟩ := hS
  refine fs_callV1 dX7_fault_3 sv_X7_120 rfl ⟨_, rfl, rfl⟩ (c_X7_isThere G l ht I A J it dyn x1 x2 ho1) rfl rfl (Nat.le_of_ble_eq_true rfl) (Nat.le_of_ble_eq_true rfl) (Nat.le_of_ble_eq_true rfl) (Nat.le_of_ble_eq_true rfl) ?_
  refine fs_if_eq 20 dX7_fault_6 (by decide) (fun c_6 : (L_X7_isThere_r ht I A J it dyn x1 x2) = 0 => ?_) (fun c_6 : ¬ ((L_X7_isThere_r ht I A J it dyn x1 x2) = 0) => ?_)
  · refine fs_iconst (v := (-1)) dX7_fault_20 rfl ?_
    have k9 := hq
    try simp only [if_pos c_6] at k9 ⊢
    exact fs_iret dX7_fault_21 rfl rfl k9
  · have hS := hS c_6
    refine fs_aload_n dX7_fault_9 rfl rfl ?_
    refine fs_getfield (v := .inr (.inr (some 3))) dX7_fault_10 sf_X7_27 rfl rfl ?_
    refine fs_iload_n dX7_fault_13 rfl rfl ?_
    obtain ⟨ho1, hS⟩ := hS
    refine fs_callV1 dX7_fault_14 sv_X7_149 rfl ⟨_, rfl, rfl⟩ (c_X1_isCaption G l ht I A J it dyn x1 ho1) rfl rfl (Nat.le_of_ble_eq_true rfl) (Nat.le_of_ble_eq_true rfl) (Nat.le_of_ble_eq_true rfl) (Nat.le_of_ble_eq_true rfl) ?_
    refine fs_if_eq 22 dX7_fault_17 (by decide) (fun c_17 : (L_X1_isCaption_r ht I A J it dyn x1) = 0 => ?_) (fun c_17 : ¬ ((L_X1_isCaption_r ht I A J it dyn x1) = 0) => ?_)
    · have hS := hS c_17
      refine fs_aload_n dX7_fault_22 rfl rfl ?_
      refine fs_getfield (v := .inr (.inr (some 3))) dX7_fault_23 sf_X7_27 rfl rfl ?_
      refine fs_iload_n dX7_fault_26 rfl rfl ?_
      obtain ⟨ho1, hS⟩ := hS
      refine fs_callV1 dX7_fault_27 sv_X7_152 rfl ⟨_, rfl, rfl⟩ (c_X1_isCheck G l ht I A J it dyn x1 ho1) rfl rfl (Nat.le_of_ble_eq_true rfl) (Nat.le_of_ble_eq_true rfl) (Nat.le_of_ble_eq_true rfl) (Nat.le_of_ble_eq_true rfl) ?_
      refine fs_if_eq 51 dX7_fault_30 (by decide) (fun c_30 : (L_X1_isCheck_r ht I A J it dyn x1) = 0 => ?_) (fun c_30 : ¬ ((L_X1_isCheck_r ht I A J it dyn x1) = 0) => ?_)
      · have hS := hS.1 c_30
        refine fs_aload_n dX7_fault_51 rfl rfl ?_
        refine fs_getfield (v := .inr (.inr (some 5))) dX7_fault_52 sf_X7_36 rfl rfl ?_
        refine fs_iload_n dX7_fault_55 rfl rfl ?_
        refine fs_iload_n dX7_fault_56 rfl rfl ?_
        have ho1 := hS
        refine fs_callV1 dX7_fault_57 sv_X7_142 rfl ⟨_, rfl, rfl⟩ (c_X6_outcomeOf G l ht I A J it dyn x1 x2 ho1) rfl rfl (Nat.le_of_ble_eq_true rfl) (Nat.le_of_ble_eq_true rfl) (Nat.le_of_ble_eq_true rfl) (Nat.le_of_ble_eq_true rfl) ?_
        refine fs_lstore_n (L' := [(3, .inr (.inl (L_X6_outcomeOf_r ht I A J it dyn x1 x2))), (0, .inr (.inr (some 0))), (1, .inl x1), (2, .inl x2)]) dX7_fault_60 rfl (by decide) rfl ?_
        refine fs_lload_n dX7_fault_61 rfl rfl ?_
        refine fs_callS1 dX7_fault_62 sv_X7_146 (c_X7_isFault G l ht I A J it dyn (L_X6_outcomeOf_r ht I A J it dyn x1 x2)) rfl rfl (Nat.le_of_ble_eq_true rfl) (Nat.le_of_ble_eq_true rfl) (Nat.le_of_ble_eq_true rfl) (Nat.le_of_ble_eq_true rfl) ?_
        have key_78 : fsW G l mX7_fault 4 0 0 0 0 Q 78 [(0, .inr (.inr (some 0))), (1, .inl x1), (2, .inl x2), (3, .inr (.inl (L_X6_outcomeOf_r ht I A J it dyn x1 x2)))] [.inl (if (L_X7_isFault_r ht I A J it dyn (L_X6_outcomeOf_r ht I A J it dyn x1 x2)) = 0 then 0 else ((L_X6_outcomeOf_r ht I A J it dyn x1 x2) - (10000000000000000)).toInt32 : Int32)] (fs_mk ht I A J it dyn) := by
          have k9 := hq
          try simp only [if_neg c_6, if_pos c_17, if_pos c_30] at k9 ⊢
          exact fs_iret dX7_fault_78 rfl rfl k9
        refine fs_if_eq 77 dX7_fault_65 (by decide) (fun c_65 : (L_X7_isFault_r ht I A J it dyn (L_X6_outcomeOf_r ht I A J it dyn x1 x2)) = 0 => ?_) (fun c_65 : ¬ ((L_X7_isFault_r ht I A J it dyn (L_X6_outcomeOf_r ht I A J it dyn x1 x2)) = 0) => ?_)
        · refine fs_iconst (v := 0) dX7_fault_77 rfl ?_
          refine fs_reL [1, 2, 3, 0] rfl ?_
          have k9 := key_78
          try simp only [if_neg c_6, if_pos c_17, if_pos c_30, if_pos c_65] at k9 ⊢
          exact k9
        · refine fs_lload_n dX7_fault_68 rfl rfl ?_
          refine fs_ldc2 (v := (10000000000000000)) dX7_fault_69 sk_X7_158 ?_
          refine fs_lsub dX7_fault_72 ?_
          refine fs_l2i dX7_fault_73 ?_
          refine fs_goto 78 dX7_fault_74 (by decide) ?_
          refine fs_reL [1, 2, 3, 0] rfl ?_
          have k9 := key_78
          try simp only [if_neg c_6, if_pos c_17, if_pos c_30, if_neg c_65] at k9 ⊢
          exact k9
      · have hS := hS.2 c_30
        refine fs_aload_n dX7_fault_33 rfl rfl ?_
        refine fs_getfield (v := .inr (.inr (some 5))) dX7_fault_34 sf_X7_36 rfl rfl ?_
        refine fs_iload_n dX7_fault_37 rfl rfl ?_
        refine fs_iload_n dX7_fault_38 rfl rfl ?_
        have ho1 := hS
        refine fs_callV1 dX7_fault_39 sv_X7_155 rfl ⟨_, rfl, rfl⟩ (c_X6_fails G l ht I A J it dyn x1 x2 ho1) rfl rfl (Nat.le_of_ble_eq_true rfl) (Nat.le_of_ble_eq_true rfl) (Nat.le_of_ble_eq_true rfl) (Nat.le_of_ble_eq_true rfl) ?_
        have key_50 : fsW G l mX7_fault 4 0 0 0 0 Q 50 [(0, .inr (.inr (some 0))), (1, .inl x1), (2, .inl x2)] [.inl (if (L_X6_fails_r ht I A J it dyn x1 x2) = 0 then 0 else 1 : Int32)] (fs_mk ht I A J it dyn) := by
          have k9 := hq
          try simp only [if_neg c_6, if_pos c_17, if_neg c_30] at k9 ⊢
          exact fs_iret dX7_fault_50 rfl rfl k9
        refine fs_if_eq 49 dX7_fault_42 (by decide) (fun c_42 : (L_X6_fails_r ht I A J it dyn x1 x2) = 0 => ?_) (fun c_42 : ¬ ((L_X6_fails_r ht I A J it dyn x1 x2) = 0) => ?_)
        · refine fs_iconst (v := 0) dX7_fault_49 rfl ?_
          have k9 := key_50
          try simp only [if_neg c_6, if_pos c_17, if_neg c_30, if_pos c_42] at k9 ⊢
          exact k9
        · refine fs_iconst (v := 1) dX7_fault_45 rfl ?_
          refine fs_goto 50 dX7_fault_46 (by decide) ?_
          have k9 := key_50
          try simp only [if_neg c_6, if_pos c_17, if_neg c_30, if_neg c_42] at k9 ⊢
          exact k9
    · refine fs_iconst (v := (-1)) dX7_fault_20 rfl ?_
      have k9 := hq
      try simp only [if_neg c_6, if_neg c_17] at k9 ⊢
      exact fs_iret dX7_fault_21 rfl rfl k9
def Lc_X7_message_25_f : Nat → Nat → (Nat → Int32) → (Nat → Nat → Int32) → (Nat → Nat → Int64) → (Nat → Option Nat) → fsH → Int32 → Int32 → Int32 → Int32 → Bool
  | 0, ht, I, A, J, it, dyn, v1, v2, v3, v4 => false
  | n + 1, ht, I, A, J, it, dyn, v1, v2, v3, v4 => (if (L_X1_rowsOf_r ht I A J it dyn v3) ≤ v4 then false else (if (L_X6_fails_r ht I A J it dyn v3 v4) = 0 then (Lc_X7_message_25_f n ht I A J it dyn v1 v2 v3 (v4 + 1)) else (if v2 = v1 then true else (Lc_X7_message_25_f n ht I A J it dyn v1 (v2 + 1) v3 (v4 + 1)))))
def Lc_X7_message_25_r : Nat → Nat → (Nat → Int32) → (Nat → Nat → Int32) → (Nat → Nat → Int64) → (Nat → Option Nat) → fsH → Int32 → Int32 → Int32 → Int32 → Int32
  | 0, ht, I, A, J, it, dyn, v1, v2, v3, v4 => 0
  | n + 1, ht, I, A, J, it, dyn, v1, v2, v3, v4 => (if (L_X1_rowsOf_r ht I A J it dyn v3) ≤ v4 then 0 else (if (L_X6_fails_r ht I A J it dyn v3 v4) = 0 then (Lc_X7_message_25_r n ht I A J it dyn v1 v2 v3 (v4 + 1)) else (if v2 = v1 then ((8 * v3) + v4) else (Lc_X7_message_25_r n ht I A J it dyn v1 (v2 + 1) v3 (v4 + 1)))))
def Lc_X7_message_25_v2 : Nat → Nat → (Nat → Int32) → (Nat → Nat → Int32) → (Nat → Nat → Int64) → (Nat → Option Nat) → fsH → Int32 → Int32 → Int32 → Int32 → Int32
  | 0, ht, I, A, J, it, dyn, v1, v2, v3, v4 => v2
  | n + 1, ht, I, A, J, it, dyn, v1, v2, v3, v4 => (if (L_X1_rowsOf_r ht I A J it dyn v3) ≤ v4 then v2 else (if (L_X6_fails_r ht I A J it dyn v3 v4) = 0 then (Lc_X7_message_25_v2 n ht I A J it dyn v1 v2 v3 (v4 + 1)) else (if v2 = v1 then v2 else (Lc_X7_message_25_v2 n ht I A J it dyn v1 (v2 + 1) v3 (v4 + 1)))))
def Lc_X7_message_25_v4 : Nat → Nat → (Nat → Int32) → (Nat → Nat → Int32) → (Nat → Nat → Int64) → (Nat → Option Nat) → fsH → Int32 → Int32 → Int32 → Int32 → Int32
  | 0, ht, I, A, J, it, dyn, v1, v2, v3, v4 => v4
  | n + 1, ht, I, A, J, it, dyn, v1, v2, v3, v4 => (if (L_X1_rowsOf_r ht I A J it dyn v3) ≤ v4 then v4 else (if (L_X6_fails_r ht I A J it dyn v3 v4) = 0 then (Lc_X7_message_25_v4 n ht I A J it dyn v1 v2 v3 (v4 + 1)) else (if v2 = v1 then v4 else (Lc_X7_message_25_v4 n ht I A J it dyn v1 (v2 + 1) v3 (v4 + 1)))))
def S_Lc_X7_message_25 : Nat → Nat → (Nat → Int32) → (Nat → Nat → Int32) → (Nat → Nat → Int64) → (Nat → Option Nat) → fsH → Int32 → Int32 → Int32 → Int32 → Prop
  | 0, _, _, _, _, _, _, _, _, _, _ => False
  | n + 1, ht, I, A, J, it, dyn, v1, v2, v3, v4 => ((S_X1_rowsOf ht I A J it dyn v3) ∧ (¬ ((L_X1_rowsOf_r ht I A J it dyn v3) ≤ v4) → ((S_X6_fails ht I A J it dyn v3 v4) ∧ ((((L_X6_fails_r ht I A J it dyn v3 v4) = 0) → (S_Lc_X7_message_25 n ht I A J it dyn v1 v2 v3 (v4 + 1))) ∧ (¬ ((L_X6_fails_r ht I A J it dyn v3 v4) = 0) → (¬ (v2 = v1) → (S_Lc_X7_message_25 n ht I A J it dyn v1 (v2 + 1) v3 (v4 + 1))))))))
set_option maxRecDepth 100000 in
set_option maxHeartbeats 4000000 in
theorem lp_Lc_X7_message_25 (G : fsG) (l : Launch) (Q : Option fsV → fsH → Prop) : ∀ (n : Nat) (ht : Nat) (I : Nat → Int32) (A : Nat → Nat → Int32) (J : Nat → Nat → Int64) (it : Nat → Option Nat) (dyn : fsH) (v1 : Int32) (v2 : Int32) (v3 : Int32) (v4 : Int32), S_Lc_X7_message_25 n ht I A J it dyn v1 v2 v3 v4 → (((Lc_X7_message_25_f n ht I A J it dyn v1 v2 v3 v4) = true → Q (some (.inl (Lc_X7_message_25_r n ht I A J it dyn v1 v2 v3 v4))) (fs_mk ht I A J it dyn)) ∧ (¬ (Lc_X7_message_25_f n ht I A J it dyn v1 v2 v3 v4) = true → fsW G l mX7_message 4 0 0 0 0 Q 73 [(0, .inr (.inr (some 0))), (1, .inl v1), (2, .inl (Lc_X7_message_25_v2 n ht I A J it dyn v1 v2 v3 v4)), (3, .inl v3), (4, .inl (Lc_X7_message_25_v4 n ht I A J it dyn v1 v2 v3 v4))] [] (fs_mk ht I A J it dyn))) → fsW G l mX7_message 4 0 0 0 0 Q 25 [(0, .inr (.inr (some 0))), (1, .inl v1), (2, .inl v2), (3, .inl v3), (4, .inl v4)] [] (fs_mk ht I A J it dyn) := by
  intro n
  induction n with
  | zero =>
    intro ht I A J it dyn v1 v2 v3 v4 hS
    exact hS.elim
  | succ n ih =>
    intro ht I A J it dyn v1 v2 v3 v4 hS hq
    have hS : ((S_X1_rowsOf ht I A J it dyn v3) ∧ (¬ ((L_X1_rowsOf_r ht I A J it dyn v3) ≤ v4) → ((S_X6_fails ht I A J it dyn v3 v4) ∧ ((((L_X6_fails_r ht I A J it dyn v3 v4) = 0) → (S_Lc_X7_message_25 n ht I A J it dyn v1 v2 v3 (v4 + 1))) ∧ (¬ ((L_X6_fails_r ht I A J it dyn v3 v4) = 0) → (¬ (v2 = v1) → (S_Lc_X7_message_25 n ht I A J it dyn v1 (v2 + 1) v3 (v4 + 1)))))))) := hS
    have hq : ((if (L_X1_rowsOf_r ht I A J it dyn v3) ≤ v4 then false else (if (L_X6_fails_r ht I A J it dyn v3 v4) = 0 then (Lc_X7_message_25_f n ht I A J it dyn v1 v2 v3 (v4 + 1)) else (if v2 = v1 then true else (Lc_X7_message_25_f n ht I A J it dyn v1 (v2 + 1) v3 (v4 + 1))))) = true → Q (some (.inl (if (L_X1_rowsOf_r ht I A J it dyn v3) ≤ v4 then 0 else (if (L_X6_fails_r ht I A J it dyn v3 v4) = 0 then (Lc_X7_message_25_r n ht I A J it dyn v1 v2 v3 (v4 + 1)) else (if v2 = v1 then ((8 * v3) + v4) else (Lc_X7_message_25_r n ht I A J it dyn v1 (v2 + 1) v3 (v4 + 1))))))) (fs_mk ht I A J it dyn)) ∧ (¬ (if (L_X1_rowsOf_r ht I A J it dyn v3) ≤ v4 then false else (if (L_X6_fails_r ht I A J it dyn v3 v4) = 0 then (Lc_X7_message_25_f n ht I A J it dyn v1 v2 v3 (v4 + 1)) else (if v2 = v1 then true else (Lc_X7_message_25_f n ht I A J it dyn v1 (v2 + 1) v3 (v4 + 1))))) = true → fsW G l mX7_message 4 0 0 0 0 Q 73 [(0, .inr (.inr (some 0))), (1, .inl v1), (2, .inl (if (L_X1_rowsOf_r ht I A J it dyn v3) ≤ v4 then v2 else (if (L_X6_fails_r ht I A J it dyn v3 v4) = 0 then (Lc_X7_message_25_v2 n ht I A J it dyn v1 v2 v3 (v4 + 1)) else (if v2 = v1 then v2 else (Lc_X7_message_25_v2 n ht I A J it dyn v1 (v2 + 1) v3 (v4 + 1)))))), (3, .inl v3), (4, .inl (if (L_X1_rowsOf_r ht I A J it dyn v3) ≤ v4 then v4 else (if (L_X6_fails_r ht I A J it dyn v3 v4) = 0 then (Lc_X7_message_25_v4 n ht I A J it dyn v1 v2 v3 (v4 + 1)) else (if v2 = v1 then v4 else (Lc_X7_message_25_v4 n ht I A J it dyn v1 (v2 + 1) v3 (v4 + 1))))))] [] (fs_mk ht I A J it dyn)) := hq
    refine fs_iload dX7_message_25 rfl ?_
    refine fs_aload_n dX7_message_27 rfl rfl ?_
    refine fs_getfield (v := .inr (.inr (some 3))) dX7_message_28 sf_X7_27 rfl rfl ?_
    refine fs_iload_n dX7_message_31 rfl rfl ?_
    obtain ⟨ho1, hS⟩ := hS
    refine fs_callV1 dX7_message_32 sv_X7_163 rfl ⟨_, rfl, rfl⟩ (c_X1_rowsOf G l ht I A J it dyn v3 ho1) rfl rfl (Nat.le_of_ble_eq_true rfl) (Nat.le_of_ble_eq_true rfl) (Nat.le_of_ble_eq_true rfl) (Nat.le_of_ble_eq_true rfl) ?_
    refine fs_icmp_ge 73 dX7_message_35 (by decide) (fun c_35 : (L_X1_rowsOf_r ht I A J it dyn v3) ≤ v4 => ?_) (fun c_35 : ¬ ((L_X1_rowsOf_r ht I A J it dyn v3) ≤ v4) => ?_)
    · have k9 := hq
      try simp only [if_pos c_35] at k9 ⊢
      first | exact k9.2 (by decide) | exact k9.2 (fun h => h) | exact k9.2 | exact k9
    · have hS := hS c_35
      refine fs_aload_n dX7_message_38 rfl rfl ?_
      refine fs_getfield (v := .inr (.inr (some 5))) dX7_message_39 sf_X7_36 rfl rfl ?_
      refine fs_iload_n dX7_message_42 rfl rfl ?_
      refine fs_iload dX7_message_43 rfl ?_
      obtain ⟨ho1, hS⟩ := hS
      refine fs_callV1 dX7_message_45 sv_X7_155 rfl ⟨_, rfl, rfl⟩ (c_X6_fails G l ht I A J it dyn v3 v4 ho1) rfl rfl (Nat.le_of_ble_eq_true rfl) (Nat.le_of_ble_eq_true rfl) (Nat.le_of_ble_eq_true rfl) (Nat.le_of_ble_eq_true rfl) ?_
      refine fs_if_eq 67 dX7_message_48 (by decide) (fun c_48 : (L_X6_fails_r ht I A J it dyn v3 v4) = 0 => ?_) (fun c_48 : ¬ ((L_X6_fails_r ht I A J it dyn v3 v4) = 0) => ?_)
      · have hS := hS.1 c_48
        refine fs_iinc (v := (v4 + 1)) (L' := [(4, .inl (v4 + 1)), (0, .inr (.inr (some 0))), (1, .inl v1), (2, .inl v2), (3, .inl v3)]) dX7_message_67 rfl rfl (by decide) rfl ?_
        refine fs_goto 25 dX7_message_70 (by decide) ?_
        refine fs_reL [1, 2, 3, 4, 0] rfl ?_
        have k9 := hq
        try simp only [if_neg c_35, if_pos c_48] at hS k9 ⊢
        exact ih _ _ _ _ _ _ _ _ _ _ hS k9
      · have hS := hS.2 c_48
        refine fs_iload_n dX7_message_51 rfl rfl ?_
        refine fs_iload_n dX7_message_52 rfl rfl ?_
        refine fs_icmp_ne 64 dX7_message_53 (by decide) (fun c_53 : ¬ v2 = v1 => ?_) (fun c_53 : v2 = v1 => ?_)
        · have hS := hS c_53
          refine fs_iinc (v := (v2 + 1)) (L' := [(2, .inl (v2 + 1)), (0, .inr (.inr (some 0))), (1, .inl v1), (3, .inl v3), (4, .inl v4)]) dX7_message_64 rfl rfl (by decide) rfl ?_
          refine fs_iinc (v := (v4 + 1)) (L' := [(4, .inl (v4 + 1)), (2, .inl (v2 + 1)), (0, .inr (.inr (some 0))), (1, .inl v1), (3, .inl v3)]) dX7_message_67 rfl rfl (by decide) rfl ?_
          refine fs_goto 25 dX7_message_70 (by decide) ?_
          refine fs_reL [2, 3, 1, 4, 0] rfl ?_
          have k9 := hq
          try simp only [if_neg c_35, if_neg c_48, if_neg c_53] at hS k9 ⊢
          exact ih _ _ _ _ _ _ _ _ _ _ hS k9
        · refine fs_bipush (v := 8) dX7_message_56 rfl ?_
          refine fs_iload_n dX7_message_58 rfl rfl ?_
          refine fs_imul dX7_message_59 ?_
          refine fs_iload dX7_message_60 rfl ?_
          refine fs_iadd dX7_message_62 ?_
          have k9 := hq
          try simp only [if_neg c_35, if_neg c_48, if_pos c_53] at k9 ⊢
          first | exact fs_iret dX7_message_63 rfl rfl (k9.1 rfl) | exact fs_iret dX7_message_63 rfl rfl (k9.1 trivial) | exact fs_iret dX7_message_63 rfl rfl k9.1
def La_X7_message_11_r : Nat → Nat → (Nat → Int32) → (Nat → Nat → Int32) → (Nat → Nat → Int64) → (Nat → Option Nat) → fsH → Int32 → Int32 → Int32 → Int32
  | 0, ht, I, A, J, it, dyn, v1, v2, v3 => 0
  | n + 1, ht, I, A, J, it, dyn, v1, v2, v3 => (if (I 4) ≤ v3 then (if v1 = (-1) then v2 else (-1) : Int32) else (if (Lc_X7_message_25_f 70 ht I A J it dyn v1 v2 v3 0) = true then (Lc_X7_message_25_r 70 ht I A J it dyn v1 v2 v3 0) else (La_X7_message_11_r n ht I A J it dyn v1 (Lc_X7_message_25_v2 70 ht I A J it dyn v1 v2 v3 0) (v3 + 1))))
def S_La_X7_message_11 : Nat → Nat → (Nat → Int32) → (Nat → Nat → Int32) → (Nat → Nat → Int64) → (Nat → Option Nat) → fsH → Int32 → Int32 → Int32 → Prop
  | 0, _, _, _, _, _, _, _, _, _ => False
  | n + 1, ht, I, A, J, it, dyn, v1, v2, v3 => (¬ ((I 4) ≤ v3) → ((S_Lc_X7_message_25 70 ht I A J it dyn v1 v2 v3 0) ∧ (¬ ((Lc_X7_message_25_f 70 ht I A J it dyn v1 v2 v3 0) = true) → (S_La_X7_message_11 n ht I A J it dyn v1 (Lc_X7_message_25_v2 70 ht I A J it dyn v1 v2 v3 0) (v3 + 1)))))
set_option maxRecDepth 100000 in
set_option maxHeartbeats 4000000 in
theorem lp_La_X7_message_11 (G : fsG) (l : Launch) (Q : Option fsV → fsH → Prop) : ∀ (n : Nat) (ht : Nat) (I : Nat → Int32) (A : Nat → Nat → Int32) (J : Nat → Nat → Int64) (it : Nat → Option Nat) (dyn : fsH) (v1 : Int32) (v2 : Int32) (v3 : Int32), S_La_X7_message_11 n ht I A J it dyn v1 v2 v3 → (Q (some (.inl (La_X7_message_11_r n ht I A J it dyn v1 v2 v3))) (fs_mk ht I A J it dyn)) → fsW G l mX7_message 4 0 0 0 0 Q 11 [(0, .inr (.inr (some 0))), (1, .inl v1), (2, .inl v2), (3, .inl v3)] [] (fs_mk ht I A J it dyn) := by
  intro n
  induction n with
  | zero =>
    intro ht I A J it dyn v1 v2 v3 hS
    exact hS.elim
  | succ n ih =>
    intro ht I A J it dyn v1 v2 v3 hS hq
    have hS : (¬ ((I 4) ≤ v3) → ((S_Lc_X7_message_25 70 ht I A J it dyn v1 v2 v3 0) ∧ (¬ ((Lc_X7_message_25_f 70 ht I A J it dyn v1 v2 v3 0) = true) → (S_La_X7_message_11 n ht I A J it dyn v1 (Lc_X7_message_25_v2 70 ht I A J it dyn v1 v2 v3 0) (v3 + 1))))) := hS
    have hq : Q (some (.inl (if (I 4) ≤ v3 then (if v1 = (-1) then v2 else (-1) : Int32) else (if (Lc_X7_message_25_f 70 ht I A J it dyn v1 v2 v3 0) = true then (Lc_X7_message_25_r 70 ht I A J it dyn v1 v2 v3 0) else (La_X7_message_11_r n ht I A J it dyn v1 (Lc_X7_message_25_v2 70 ht I A J it dyn v1 v2 v3 0) (v3 + 1)))))) (fs_mk ht I A J it dyn) := hq
    refine fs_iload_n dX7_message_11 rfl rfl ?_
    refine fs_aload_n dX7_message_12 rfl rfl ?_
    refine fs_getfield (v := .inr (.inr (some 3))) dX7_message_13 sf_X7_27 rfl rfl ?_
    refine fs_getfield (v := .inl (I 4)) dX7_message_16 sf_X7_160 rfl rfl ?_
    refine fs_icmp_ge 79 dX7_message_19 (by decide) (fun c_19 : (I 4) ≤ v3 => ?_) (fun c_19 : ¬ ((I 4) ≤ v3) => ?_)
    · refine fs_iload_n dX7_message_79 rfl rfl ?_
      refine fs_iconst (v := (-1)) dX7_message_80 rfl ?_
      have key_89 : fsW G l mX7_message 4 0 0 0 0 Q 89 [(0, .inr (.inr (some 0))), (1, .inl v1), (2, .inl v2), (3, .inl v3)] [.inl (if v1 = (-1) then v2 else (-1) : Int32)] (fs_mk ht I A J it dyn) := by
        have k9 := hq
        try simp only [if_pos c_19] at k9 ⊢
        exact fs_iret dX7_message_89 rfl rfl k9
      refine fs_icmp_ne 88 dX7_message_81 (by decide) (fun c_81 : ¬ v1 = (-1) => ?_) (fun c_81 : v1 = (-1) => ?_)
      · refine fs_iconst (v := (-1)) dX7_message_88 rfl ?_
        have k9 := key_89
        try simp only [if_pos c_19, if_neg c_81] at k9 ⊢
        exact k9
      · refine fs_iload_n dX7_message_84 rfl rfl ?_
        refine fs_goto 89 dX7_message_85 (by decide) ?_
        have k9 := key_89
        try simp only [if_pos c_19, if_pos c_81] at k9 ⊢
        exact k9
    · have hS := hS c_19
      refine fs_iconst (v := 0) dX7_message_22 rfl ?_
      refine fs_istore (L' := [(4, .inl 0), (0, .inr (.inr (some 0))), (1, .inl v1), (2, .inl v2), (3, .inl v3)]) dX7_message_23 (by decide) rfl ?_
      refine fs_reL [1, 2, 3, 4, 0] rfl ?_
      obtain ⟨ho1, hS⟩ := hS
      refine lp_Lc_X7_message_25 G l Q 70 ht I A J it dyn v1 v2 v3 0 ho1 ⟨fun cl_25 => ?_, fun cl_25 => ?_⟩
      · have k9 := hq
        try simp only [if_neg c_19, if_pos cl_25] at k9 ⊢
        exact k9
      · have hS := hS cl_25
        refine fs_iinc (v := (v3 + 1)) (L' := [(3, .inl (v3 + 1)), (0, .inr (.inr (some 0))), (1, .inl v1), (2, .inl (Lc_X7_message_25_v2 70 ht I A J it dyn v1 v2 v3 0)), (4, .inl (Lc_X7_message_25_v4 70 ht I A J it dyn v1 v2 v3 0))]) dX7_message_73 rfl rfl (by decide) rfl ?_
        refine fs_goto 11 dX7_message_76 (by decide) ?_
        refine fs_reL [1, 2, 3, 0] rfl ?_
        have k9 := hq
        try simp only [if_neg c_19, if_neg cl_25] at hS k9 ⊢
        exact ih _ _ _ _ _ _ _ _ _ hS k9
def L_X7_message_r (ht : Nat) (I : Nat → Int32) (A : Nat → Nat → Int32) (J : Nat → Nat → Int64) (it : Nat → Option Nat) (dyn : fsH) (x1 : Int32) : Int32 := (if (I 1) = 0 then (if x1 = (-1) then 0 else (-1) : Int32) else (La_X7_message_11_r 70 ht I A J it dyn x1 0 0))
def S_X7_message (ht : Nat) (I : Nat → Int32) (A : Nat → Nat → Int32) (J : Nat → Nat → Int64) (it : Nat → Option Nat) (dyn : fsH) (x1 : Int32) : Prop := (¬ ((I 1) = 0) → (S_La_X7_message_11 70 ht I A J it dyn x1 0 0))
set_option maxRecDepth 100000 in
set_option maxHeartbeats 4000000 in
theorem c_X7_message (G : fsG) (l : Launch) (ht : Nat) (I : Nat → Int32) (A : Nat → Nat → Int32) (J : Nat → Nat → Int64) (it : Nat → Option Nat) (dyn : fsH) (x1 : Int32) (hS : S_X7_message ht I A J it dyn x1) : fsFn G l mX7_message 4 0 0 [.inr (.inr (some 0)), .inl x1] (fs_mk ht I A J it dyn) (some (.inl (L_X7_message_r ht I A J it dyn x1))) (fs_mk ht I A J it dyn) := by
  refine fsMet_of (by decide) (Nat.le_of_ble_eq_true rfl) ?_
  generalize hQ : (fun (r1 : Option fsV) (h1 : fsH) => r1 = (some (.inl (L_X7_message_r ht I A J it dyn x1))) ∧ h1 = (fs_mk ht I A J it dyn)) = Q
  have hq : Q (some (.inl (L_X7_message_r ht I A J it dyn x1))) (fs_mk ht I A J it dyn) := by rw [← hQ]; exact ⟨rfl, rfl⟩
  clear hQ
  have hq : Q (some (.inl (if (I 1) = 0 then (if x1 = (-1) then 0 else (-1) : Int32) else (La_X7_message_11_r 70 ht I A J it dyn x1 0 0) : Int32))) (fs_mk ht I A J it dyn) := hq
  have hS : (¬ ((I 1) = 0) → (S_La_X7_message_11 70 ht I A J it dyn x1 0 0)) := hS
  refine (show fsW G l mX7_message 4 0 0 0 0 Q 0 [(0, .inr (.inr (some 0))), (1, .inl x1)] [] (fs_mk ht I A J it dyn) from ?_)
  refine fs_iconst (v := 0) dX7_message_0 rfl ?_
  refine fs_istore_n (L' := [(2, .inl 0), (0, .inr (.inr (some 0))), (1, .inl x1)]) dX7_message_1 rfl (by decide) rfl ?_
  refine fs_aload_n dX7_message_2 rfl rfl ?_
  refine fs_getfield (v := .inl (I 1)) dX7_message_3 sf_X7_13 rfl rfl ?_
  refine fs_if_eq 79 dX7_message_6 (by decide) (fun c_6 : (I 1) = 0 => ?_) (fun c_6 : ¬ ((I 1) = 0) => ?_)
  · refine fs_iload_n dX7_message_79 rfl rfl ?_
    refine fs_iconst (v := (-1)) dX7_message_80 rfl ?_
    have key_89 : fsW G l mX7_message 4 0 0 0 0 Q 89 [(0, .inr (.inr (some 0))), (1, .inl x1), (2, .inl 0)] [.inl (if x1 = (-1) then 0 else (-1) : Int32)] (fs_mk ht I A J it dyn) := by
      have k9 := hq
      try simp only [if_pos c_6] at k9 ⊢
      exact fs_iret dX7_message_89 rfl rfl k9
    refine fs_icmp_ne 88 dX7_message_81 (by decide) (fun c_81 : ¬ x1 = (-1) => ?_) (fun c_81 : x1 = (-1) => ?_)
    · refine fs_iconst (v := (-1)) dX7_message_88 rfl ?_
      refine fs_reL [1, 2, 0] rfl ?_
      have k9 := key_89
      try simp only [if_pos c_6, if_neg c_81] at k9 ⊢
      exact k9
    · refine fs_iload_n dX7_message_84 rfl rfl ?_
      refine fs_goto 89 dX7_message_85 (by decide) ?_
      refine fs_reL [1, 2, 0] rfl ?_
      have k9 := key_89
      try simp only [if_pos c_6, if_pos c_81] at k9 ⊢
      exact k9
  · have hS := hS c_6
    refine fs_iconst (v := 0) dX7_message_9 rfl ?_
    refine fs_istore_n (L' := [(3, .inl 0), (2, .inl 0), (0, .inr (.inr (some 0))), (1, .inl x1)]) dX7_message_10 rfl (by decide) rfl ?_
    refine fs_reL [2, 3, 1, 0] rfl ?_
    have ho1 := hS
    have k9 := hq
    try simp only [if_neg c_6] at ho1 k9 ⊢
    exact lp_La_X7_message_11 G l Q 70 _ _ _ _ _ _ _ _ _ ho1 k9
def L_X7_place_r (ht : Nat) (I : Nat → Int32) (A : Nat → Nat → Int32) (J : Nat → Nat → Int64) (it : Nat → Option Nat) (dyn : fsH) (x1 : Int32) (x2 : Int32) : Int32 := (if (L_X7_isThere_r ht I A J it dyn x1 x2) = 0 then (-1) else (L_X3_placeOf_r ht I A J it dyn x1 x2) : Int32)
def S_X7_place (ht : Nat) (I : Nat → Int32) (A : Nat → Nat → Int32) (J : Nat → Nat → Int64) (it : Nat → Option Nat) (dyn : fsH) (x1 : Int32) (x2 : Int32) : Prop := ((S_X7_isThere ht I A J it dyn x1 x2) ∧ (¬ ((L_X7_isThere_r ht I A J it dyn x1 x2) = 0) → (S_X3_placeOf ht I A J it dyn x1 x2)))
set_option maxRecDepth 100000 in
set_option maxHeartbeats 4000000 in
theorem c_X7_place (G : fsG) (l : Launch) (ht : Nat) (I : Nat → Int32) (A : Nat → Nat → Int32) (J : Nat → Nat → Int64) (it : Nat → Option Nat) (dyn : fsH) (x1 : Int32) (x2 : Int32) (hS : S_X7_place ht I A J it dyn x1 x2) : fsFn G l mX7_place 3 0 0 [.inr (.inr (some 0)), .inl x1, .inl x2] (fs_mk ht I A J it dyn) (some (.inl (L_X7_place_r ht I A J it dyn x1 x2))) (fs_mk ht I A J it dyn) := by
  refine fsMet_of (by decide) (Nat.le_of_ble_eq_true rfl) ?_
  generalize hQ : (fun (r1 : Option fsV) (h1 : fsH) => r1 = (some (.inl (L_X7_place_r ht I A J it dyn x1 x2))) ∧ h1 = (fs_mk ht I A J it dyn)) = Q
  have hq : Q (some (.inl (L_X7_place_r ht I A J it dyn x1 x2))) (fs_mk ht I A J it dyn) := by rw [← hQ]; exact ⟨rfl, rfl⟩
  clear hQ
  have hq : Q (some (.inl (if (L_X7_isThere_r ht I A J it dyn x1 x2) = 0 then (-1) else (L_X3_placeOf_r ht I A J it dyn x1 x2) : Int32))) (fs_mk ht I A J it dyn) := hq
  have hS : ((S_X7_isThere ht I A J it dyn x1 x2) ∧ (¬ ((L_X7_isThere_r ht I A J it dyn x1 x2) = 0) → (S_X3_placeOf ht I A J it dyn x1 x2))) := hS
  refine (show fsW G l mX7_place 3 0 0 0 0 Q 0 [(0, .inr (.inr (some 0))), (1, .inl x1), (2, .inl x2)] [] (fs_mk ht I A J it dyn) from ?_)
  refine fs_aload_n dX7_place_0 rfl rfl ?_
  refine fs_iload_n dX7_place_1 rfl rfl ?_
  refine fs_iload_n dX7_place_2 rfl rfl ?_
  obtain ⟨ho1, hS⟩ := hS
  refine fs_callV1 dX7_place_3 sv_X7_120 rfl ⟨_, rfl, rfl⟩ (c_X7_isThere G l ht I A J it dyn x1 x2 ho1) rfl rfl (Nat.le_of_ble_eq_true rfl) (Nat.le_of_ble_eq_true rfl) (Nat.le_of_ble_eq_true rfl) (Nat.le_of_ble_eq_true rfl) ?_
  have hR_6 := hS
  have key_22 : fsW G l mX7_place 3 0 0 0 0 Q 22 [(0, .inr (.inr (some 0))), (1, .inl x1), (2, .inl x2)] [.inl (if (L_X7_isThere_r ht I A J it dyn x1 x2) = 0 then (-1) else (L_X3_placeOf_r ht I A J it dyn x1 x2) : Int32)] (fs_mk ht I A J it dyn) := by
    have k9 := hq
    exact fs_iret dX7_place_22 rfl rfl k9
  refine fs_if_eq 21 dX7_place_6 (by decide) (fun c_6 : (L_X7_isThere_r ht I A J it dyn x1 x2) = 0 => ?_) (fun c_6 : ¬ ((L_X7_isThere_r ht I A J it dyn x1 x2) = 0) => ?_)
  · refine fs_iconst (v := (-1)) dX7_place_21 rfl ?_
    have k9 := key_22
    try simp only [if_pos c_6] at k9 ⊢
    exact k9
  · have hS := hR_6 c_6
    refine fs_aload_n dX7_place_9 rfl rfl ?_
    refine fs_getfield (v := .inr (.inr (some 9))) dX7_place_10 sf_X7_54 rfl rfl ?_
    refine fs_iload_n dX7_place_13 rfl rfl ?_
    refine fs_iload_n dX7_place_14 rfl rfl ?_
    have ho1 := hS
    refine fs_callV1 dX7_place_15 sv_X7_167 rfl ⟨_, rfl, rfl⟩ (c_X3_placeOf G l ht I A J it dyn x1 x2 ho1) rfl rfl (Nat.le_of_ble_eq_true rfl) (Nat.le_of_ble_eq_true rfl) (Nat.le_of_ble_eq_true rfl) (Nat.le_of_ble_eq_true rfl) ?_
    refine fs_goto 22 dX7_place_18 (by decide) ?_
    have k9 := key_22
    try simp only [if_neg c_6] at k9 ⊢
    exact k9
def L_X7_pages_r (ht : Nat) (I : Nat → Int32) (A : Nat → Nat → Int32) (J : Nat → Nat → Int64) (it : Nat → Option Nat) (dyn : fsH)  : Int32 := (if (I 1) = 0 then 0 else (L_X3_pageCount_r ht I A J it dyn) : Int32)
def S_X7_pages (ht : Nat) (I : Nat → Int32) (A : Nat → Nat → Int32) (J : Nat → Nat → Int64) (it : Nat → Option Nat) (dyn : fsH)  : Prop := (¬ ((I 1) = 0) → (S_X3_pageCount ht I A J it dyn))
set_option maxRecDepth 100000 in
set_option maxHeartbeats 4000000 in
theorem c_X7_pages (G : fsG) (l : Launch) (ht : Nat) (I : Nat → Int32) (A : Nat → Nat → Int32) (J : Nat → Nat → Int64) (it : Nat → Option Nat) (dyn : fsH)  (hS : S_X7_pages ht I A J it dyn ) : fsFn G l mX7_pages 1 0 0 [.inr (.inr (some 0))] (fs_mk ht I A J it dyn) (some (.inl (L_X7_pages_r ht I A J it dyn ))) (fs_mk ht I A J it dyn) := by
  refine fsMet_of (by decide) (Nat.le_of_ble_eq_true rfl) ?_
  generalize hQ : (fun (r1 : Option fsV) (h1 : fsH) => r1 = (some (.inl (L_X7_pages_r ht I A J it dyn ))) ∧ h1 = (fs_mk ht I A J it dyn)) = Q
  have hq : Q (some (.inl (L_X7_pages_r ht I A J it dyn ))) (fs_mk ht I A J it dyn) := by rw [← hQ]; exact ⟨rfl, rfl⟩
  clear hQ
  have hq : Q (some (.inl (if (I 1) = 0 then 0 else (L_X3_pageCount_r ht I A J it dyn) : Int32))) (fs_mk ht I A J it dyn) := hq
  have hS : (¬ ((I 1) = 0) → (S_X3_pageCount ht I A J it dyn)) := hS
  refine (show fsW G l mX7_pages 1 0 0 0 0 Q 0 [(0, .inr (.inr (some 0)))] [] (fs_mk ht I A J it dyn) from ?_)
  refine fs_aload_n dX7_pages_0 rfl rfl ?_
  refine fs_getfield (v := .inl (I 1)) dX7_pages_1 sf_X7_13 rfl rfl ?_
  have hR_4 := hS
  have key_18 : fsW G l mX7_pages 1 0 0 0 0 Q 18 [(0, .inr (.inr (some 0)))] [.inl (if (I 1) = 0 then 0 else (L_X3_pageCount_r ht I A J it dyn) : Int32)] (fs_mk ht I A J it dyn) := by
    have k9 := hq
    exact fs_iret dX7_pages_18 rfl rfl k9
  refine fs_if_eq 17 dX7_pages_4 (by decide) (fun c_4 : (I 1) = 0 => ?_) (fun c_4 : ¬ ((I 1) = 0) => ?_)
  · refine fs_iconst (v := 0) dX7_pages_17 rfl ?_
    have k9 := key_18
    try simp only [if_pos c_4] at k9 ⊢
    exact k9
  · have hS := hR_4 c_4
    refine fs_aload_n dX7_pages_7 rfl rfl ?_
    refine fs_getfield (v := .inr (.inr (some 9))) dX7_pages_8 sf_X7_54 rfl rfl ?_
    have ho1 := hS
    refine fs_callV1 dX7_pages_11 sv_X7_170 rfl ⟨_, rfl, rfl⟩ (c_X3_pageCount G l ht I A J it dyn ho1) rfl rfl (Nat.le_of_ble_eq_true rfl) (Nat.le_of_ble_eq_true rfl) (Nat.le_of_ble_eq_true rfl) (Nat.le_of_ble_eq_true rfl) ?_
    refine fs_goto 18 dX7_pages_14 (by decide) ?_
    have k9 := key_18
    try simp only [if_neg c_4] at k9 ⊢
    exact k9
def L_X7_line_r (ht : Nat) (I : Nat → Int32) (A : Nat → Nat → Int32) (J : Nat → Nat → Int64) (it : Nat → Option Nat) (dyn : fsH) (x1 : Int32) (x2 : Int32) : Int32 := (if (I 1) = 0 then (-1) else (L_X3_standsAt_r ht I A J it dyn x1 x2) : Int32)
def S_X7_line (ht : Nat) (I : Nat → Int32) (A : Nat → Nat → Int32) (J : Nat → Nat → Int64) (it : Nat → Option Nat) (dyn : fsH) (x1 : Int32) (x2 : Int32) : Prop := (¬ ((I 1) = 0) → (S_X3_standsAt ht I A J it dyn x1 x2))
set_option maxRecDepth 100000 in
set_option maxHeartbeats 4000000 in
theorem c_X7_line (G : fsG) (l : Launch) (ht : Nat) (I : Nat → Int32) (A : Nat → Nat → Int32) (J : Nat → Nat → Int64) (it : Nat → Option Nat) (dyn : fsH) (x1 : Int32) (x2 : Int32) (hS : S_X7_line ht I A J it dyn x1 x2) : fsFn G l mX7_line 1 0 0 [.inr (.inr (some 0)), .inl x1, .inl x2] (fs_mk ht I A J it dyn) (some (.inl (L_X7_line_r ht I A J it dyn x1 x2))) (fs_mk ht I A J it dyn) := by
  refine fsMet_of (by decide) (Nat.le_of_ble_eq_true rfl) ?_
  generalize hQ : (fun (r1 : Option fsV) (h1 : fsH) => r1 = (some (.inl (L_X7_line_r ht I A J it dyn x1 x2))) ∧ h1 = (fs_mk ht I A J it dyn)) = Q
  have hq : Q (some (.inl (L_X7_line_r ht I A J it dyn x1 x2))) (fs_mk ht I A J it dyn) := by rw [← hQ]; exact ⟨rfl, rfl⟩
  clear hQ
  have hq : Q (some (.inl (if (I 1) = 0 then (-1) else (L_X3_standsAt_r ht I A J it dyn x1 x2) : Int32))) (fs_mk ht I A J it dyn) := hq
  have hS : (¬ ((I 1) = 0) → (S_X3_standsAt ht I A J it dyn x1 x2)) := hS
  refine (show fsW G l mX7_line 1 0 0 0 0 Q 0 [(0, .inr (.inr (some 0))), (1, .inl x1), (2, .inl x2)] [] (fs_mk ht I A J it dyn) from ?_)
  refine fs_aload_n dX7_line_0 rfl rfl ?_
  refine fs_getfield (v := .inl (I 1)) dX7_line_1 sf_X7_13 rfl rfl ?_
  have hR_4 := hS
  have key_20 : fsW G l mX7_line 1 0 0 0 0 Q 20 [(0, .inr (.inr (some 0))), (1, .inl x1), (2, .inl x2)] [.inl (if (I 1) = 0 then (-1) else (L_X3_standsAt_r ht I A J it dyn x1 x2) : Int32)] (fs_mk ht I A J it dyn) := by
    have k9 := hq
    exact fs_iret dX7_line_20 rfl rfl k9
  refine fs_if_eq 19 dX7_line_4 (by decide) (fun c_4 : (I 1) = 0 => ?_) (fun c_4 : ¬ ((I 1) = 0) => ?_)
  · refine fs_iconst (v := (-1)) dX7_line_19 rfl ?_
    have k9 := key_20
    try simp only [if_pos c_4] at k9 ⊢
    exact k9
  · have hS := hR_4 c_4
    refine fs_aload_n dX7_line_7 rfl rfl ?_
    refine fs_getfield (v := .inr (.inr (some 9))) dX7_line_8 sf_X7_54 rfl rfl ?_
    refine fs_iload_n dX7_line_11 rfl rfl ?_
    refine fs_iload_n dX7_line_12 rfl rfl ?_
    have ho1 := hS
    refine fs_callV1 dX7_line_13 sv_X7_173 rfl ⟨_, rfl, rfl⟩ (c_X3_standsAt G l ht I A J it dyn x1 x2 ho1) rfl rfl (Nat.le_of_ble_eq_true rfl) (Nat.le_of_ble_eq_true rfl) (Nat.le_of_ble_eq_true rfl) (Nat.le_of_ble_eq_true rfl) ?_
    refine fs_goto 20 dX7_line_16 (by decide) ?_
    have k9 := key_20
    try simp only [if_neg c_4] at k9 ⊢
    exact k9
def L_X7_count_r (ht : Nat) (I : Nat → Int32) (A : Nat → Nat → Int32) (J : Nat → Nat → Int64) (it : Nat → Option Nat) (dyn : fsH) (x1 : Int32) : Int32 := (if x1 = 0 then (I 4) else (if x1 = 1 then (I 5) else (if x1 = 2 then (nI ht) else (if x1 = 3 then (if (I 1) = 0 then 0 else 1 : Int32) else (if x1 = 4 then (if (I 1) = 0 then 0 else (L_X6_faultCount_r ht I A J it dyn) : Int32) else (-1))))))
def S_X7_count (ht : Nat) (I : Nat → Int32) (A : Nat → Nat → Int32) (J : Nat → Nat → Int64) (it : Nat → Option Nat) (dyn : fsH) (x1 : Int32) : Prop := (¬ (x1 = 0) → (¬ (x1 = 1) → (¬ (x1 = 2) → (¬ (x1 = 3) → ((x1 = 4) → (¬ ((I 1) = 0) → (S_X6_faultCount ht I A J it dyn)))))))
set_option maxRecDepth 100000 in
set_option maxHeartbeats 4000000 in
theorem c_X7_count (G : fsG) (l : Launch) (ht : Nat) (I : Nat → Int32) (A : Nat → Nat → Int32) (J : Nat → Nat → Int64) (it : Nat → Option Nat) (dyn : fsH) (x1 : Int32) (hS : S_X7_count ht I A J it dyn x1) : fsFn G l mX7_count 4 0 0 [.inr (.inr (some 0)), .inl x1] (fs_mk ht I A J it dyn) (some (.inl (L_X7_count_r ht I A J it dyn x1))) (fs_mk ht I A J it dyn) := by
  refine fsMet_of (by decide) (Nat.le_of_ble_eq_true rfl) ?_
  generalize hQ : (fun (r1 : Option fsV) (h1 : fsH) => r1 = (some (.inl (L_X7_count_r ht I A J it dyn x1))) ∧ h1 = (fs_mk ht I A J it dyn)) = Q
  have hq : Q (some (.inl (L_X7_count_r ht I A J it dyn x1))) (fs_mk ht I A J it dyn) := by rw [← hQ]; exact ⟨rfl, rfl⟩
  clear hQ
  have hq : Q (some (.inl (if x1 = 0 then (I 4) else (if x1 = 1 then (I 5) else (if x1 = 2 then (nI ht) else (if x1 = 3 then (if (I 1) = 0 then 0 else 1 : Int32) else (if x1 = 4 then (if (I 1) = 0 then 0 else (L_X6_faultCount_r ht I A J it dyn) : Int32) else (-1) : Int32) : Int32) : Int32) : Int32) : Int32))) (fs_mk ht I A J it dyn) := hq
  have hS : (¬ (x1 = 0) → (¬ (x1 = 1) → (¬ (x1 = 2) → (¬ (x1 = 3) → ((x1 = 4) → (¬ ((I 1) = 0) → (S_X6_faultCount ht I A J it dyn))))))) := hS
  refine (show fsW G l mX7_count 4 0 0 0 0 Q 0 [(0, .inr (.inr (some 0))), (1, .inl x1)] [] (fs_mk ht I A J it dyn) from ?_)
  refine fs_iload_n dX7_count_0 rfl rfl ?_
  by_cases cs_1_0 : x1 = 0
  · refine fs_tableIn 36 dX7_count_1 (off := 35) (by rw [cs_1_0]; decide) (by rw [cs_1_0]; decide) (by rw [cs_1_0]; rfl) (by decide) ?_
    refine fs_aload_n dX7_count_36 rfl rfl ?_
    refine fs_getfield (v := .inr (.inr (some 3))) dX7_count_37 sf_X7_27 rfl rfl ?_
    refine fs_getfield (v := .inl (I 4)) dX7_count_40 sf_X7_160 rfl rfl ?_
    have k9 := hq
    try simp only [if_pos cs_1_0] at k9 ⊢
    exact fs_iret dX7_count_43 rfl rfl k9
  · have hS := hS cs_1_0
    by_cases cs_1_1 : x1 = 1
    · refine fs_tableIn 44 dX7_count_1 (off := 43) (by rw [cs_1_1]; decide) (by rw [cs_1_1]; decide) (by rw [cs_1_1]; rfl) (by decide) ?_
      refine fs_aload_n dX7_count_44 rfl rfl ?_
      refine fs_getfield (v := .inr (.inr (some 3))) dX7_count_45 sf_X7_27 rfl rfl ?_
      refine fs_getfield (v := .inl (I 5)) dX7_count_48 sf_X7_113 rfl rfl ?_
      have k9 := hq
      try simp only [if_neg cs_1_0, if_pos cs_1_1] at k9 ⊢
      exact fs_iret dX7_count_51 rfl rfl k9
    · have hS := hS cs_1_1
      by_cases cs_1_2 : x1 = 2
      · refine fs_tableIn 52 dX7_count_1 (off := 51) (by rw [cs_1_2]; decide) (by rw [cs_1_2]; decide) (by rw [cs_1_2]; rfl) (by decide) ?_
        refine fs_aload_n dX7_count_52 rfl rfl ?_
        refine fs_getfield (v := .inr (.inr (some 9))) dX7_count_53 sf_X7_54 rfl rfl ?_
        refine fs_getfield (v := .inl (nI ht)) dX7_count_56 sf_X7_176 rfl rfl ?_
        have k9 := hq
        try simp only [if_neg cs_1_0, if_neg cs_1_1, if_pos cs_1_2] at k9 ⊢
        exact fs_iret dX7_count_59 rfl rfl k9
      · have hS := hS cs_1_2
        by_cases cs_1_3 : x1 = 3
        · refine fs_tableIn 60 dX7_count_1 (off := 59) (by rw [cs_1_3]; decide) (by rw [cs_1_3]; decide) (by rw [cs_1_3]; rfl) (by decide) ?_
          refine fs_aload_n dX7_count_60 rfl rfl ?_
          refine fs_getfield (v := .inl (I 1)) dX7_count_61 sf_X7_13 rfl rfl ?_
          have key_72 : fsW G l mX7_count 4 0 0 0 0 Q 72 [(0, .inr (.inr (some 0))), (1, .inl x1)] [.inl (if (I 1) = 0 then 0 else 1 : Int32)] (fs_mk ht I A J it dyn) := by
            have k9 := hq
            try simp only [if_neg cs_1_0, if_neg cs_1_1, if_neg cs_1_2, if_pos cs_1_3] at k9 ⊢
            exact fs_iret dX7_count_72 rfl rfl k9
          refine fs_if_eq 71 dX7_count_64 (by decide) (fun c_64 : (I 1) = 0 => ?_) (fun c_64 : ¬ ((I 1) = 0) => ?_)
          · refine fs_iconst (v := 0) dX7_count_71 rfl ?_
            have k9 := key_72
            try simp only [if_neg cs_1_0, if_neg cs_1_1, if_neg cs_1_2, if_pos cs_1_3, if_pos c_64] at k9 ⊢
            exact k9
          · refine fs_iconst (v := 1) dX7_count_67 rfl ?_
            refine fs_goto 72 dX7_count_68 (by decide) ?_
            have k9 := key_72
            try simp only [if_neg cs_1_0, if_neg cs_1_1, if_neg cs_1_2, if_pos cs_1_3, if_neg c_64] at k9 ⊢
            exact k9
        · have hS := hS cs_1_3
          by_cases cs_1_4 : x1 = 4
          · have hS := hS cs_1_4
            refine fs_tableIn 73 dX7_count_1 (off := 72) (by rw [cs_1_4]; decide) (by rw [cs_1_4]; decide) (by rw [cs_1_4]; rfl) (by decide) ?_
            refine fs_aload_n dX7_count_73 rfl rfl ?_
            refine fs_getfield (v := .inl (I 1)) dX7_count_74 sf_X7_13 rfl rfl ?_
            have hR_77 := hS
            have key_91 : fsW G l mX7_count 4 0 0 0 0 Q 91 [(0, .inr (.inr (some 0))), (1, .inl x1)] [.inl (if (I 1) = 0 then 0 else (L_X6_faultCount_r ht I A J it dyn) : Int32)] (fs_mk ht I A J it dyn) := by
              have k9 := hq
              try simp only [if_neg cs_1_0, if_neg cs_1_1, if_neg cs_1_2, if_neg cs_1_3, if_pos cs_1_4] at k9 ⊢
              exact fs_iret dX7_count_91 rfl rfl k9
            refine fs_if_eq 90 dX7_count_77 (by decide) (fun c_77 : (I 1) = 0 => ?_) (fun c_77 : ¬ ((I 1) = 0) => ?_)
            · refine fs_iconst (v := 0) dX7_count_90 rfl ?_
              have k9 := key_91
              try simp only [if_neg cs_1_0, if_neg cs_1_1, if_neg cs_1_2, if_neg cs_1_3, if_pos cs_1_4, if_pos c_77] at k9 ⊢
              exact k9
            · have hS := hR_77 c_77
              refine fs_aload_n dX7_count_80 rfl rfl ?_
              refine fs_getfield (v := .inr (.inr (some 5))) dX7_count_81 sf_X7_36 rfl rfl ?_
              have ho1 := hS
              refine fs_callV1 dX7_count_84 sv_X7_179 rfl ⟨_, rfl, rfl⟩ (c_X6_faultCount G l ht I A J it dyn ho1) rfl rfl (Nat.le_of_ble_eq_true rfl) (Nat.le_of_ble_eq_true rfl) (Nat.le_of_ble_eq_true rfl) (Nat.le_of_ble_eq_true rfl) ?_
              refine fs_goto 91 dX7_count_87 (by decide) ?_
              have k9 := key_91
              try simp only [if_neg cs_1_0, if_neg cs_1_1, if_neg cs_1_2, if_neg cs_1_3, if_pos cs_1_4, if_neg c_77] at k9 ⊢
              exact k9
          · refine fs_tableOut 92 dX7_count_1 (by have h0 := lv_neT cs_1_0 (a := 0) rfl; have h1 := lv_neT cs_1_1 (a := 1) rfl; have h2 := lv_neT cs_1_2 (a := 2) rfl; have h3 := lv_neT cs_1_3 (a := 3) rfl; have h4 := lv_neT cs_1_4 (a := 4) rfl; omega) (by decide) ?_
            refine fs_iconst (v := (-1)) dX7_count_92 rfl ?_
            have k9 := hq
            try simp only [if_neg cs_1_0, if_neg cs_1_1, if_neg cs_1_2, if_neg cs_1_3, if_neg cs_1_4] at k9 ⊢
            exact fs_iret dX7_count_93 rfl rfl k9
def L_X7_clear_I (ht : Nat) (I : Nat → Int32) (A : Nat → Nat → Int32) (J : Nat → Nat → Int64) (it : Nat → Option Nat) (dyn : fsH)  : Nat → Int32 := (L_X1_empty_I ht (upd I 1 0) A J it dyn)
set_option maxRecDepth 100000 in
set_option maxHeartbeats 4000000 in
theorem c_X7_clear (G : fsG) (l : Launch) (ht : Nat) (I : Nat → Int32) (A : Nat → Nat → Int32) (J : Nat → Nat → Int64) (it : Nat → Option Nat) (dyn : fsH)  : fsFn G l mX7_clear 1 0 0 [.inr (.inr (some 0))] (fs_mk ht I A J it dyn) none (fs_mk ht (L_X7_clear_I ht I A J it dyn ) A J it dyn) := by
  refine fsMet_of (by decide) (Nat.le_of_ble_eq_true rfl) ?_
  generalize hQ : (fun (r1 : Option fsV) (h1 : fsH) => r1 = none ∧ h1 = (fs_mk ht (L_X7_clear_I ht I A J it dyn ) A J it dyn)) = Q
  have hq : Q none (fs_mk ht (L_X7_clear_I ht I A J it dyn ) A J it dyn) := by rw [← hQ]; exact ⟨rfl, rfl⟩
  clear hQ
  have hq : Q none (fs_mk ht (L_X1_empty_I ht (upd I 1 0) A J it dyn) A J it dyn) := hq
  refine (show fsW G l mX7_clear 1 0 0 0 0 Q 0 [(0, .inr (.inr (some 0)))] [] (fs_mk ht I A J it dyn) from ?_)
  refine fs_aload_n dX7_clear_0 rfl rfl ?_
  refine fs_iconst (v := 0) dX7_clear_1 rfl ?_
  refine fsp_1 dX7_clear_2 sp_X7_13 (by decide) ?_
  refine fs_aload_n dX7_clear_5 rfl rfl ?_
  refine fs_getfield (v := .inr (.inr (some 3))) dX7_clear_6 sf_X7_27 rfl rfl ?_
  refine fs_callV0 dX7_clear_9 sv_X7_110 rfl ⟨_, rfl, rfl⟩ (c_X1_empty G l ht (upd I 1 0) A J it dyn) rfl rfl (Nat.le_of_ble_eq_true rfl) (Nat.le_of_ble_eq_true rfl) (Nat.le_of_ble_eq_true rfl) (Nat.le_of_ble_eq_true rfl) ?_
  have k9 := hq
  exact fs_ret dX7_clear_12 rfl k9
def L_X7_write_r (ht : Nat) (I : Nat → Int32) (A : Nat → Nat → Int32) (J : Nat → Nat → Int64) (it : Nat → Option Nat) (dyn : fsH) (x1 : Int64) : Int32 := (L_X5_append_r ht I A J it dyn x1)
def L_X7_write_I (ht : Nat) (I : Nat → Int32) (A : Nat → Nat → Int32) (J : Nat → Nat → Int64) (it : Nat → Option Nat) (dyn : fsH) (x1 : Int64) : Nat → Int32 := (L_X5_append_I ht I A J it dyn x1)
def L_X7_write_A (ht : Nat) (I : Nat → Int32) (A : Nat → Nat → Int32) (J : Nat → Nat → Int64) (it : Nat → Option Nat) (dyn : fsH) (x1 : Int64) : Nat → Nat → Int32 := (L_X5_append_A ht I A J it dyn x1)
def S_X7_write (ht : Nat) (I : Nat → Int32) (A : Nat → Nat → Int32) (J : Nat → Nat → Int64) (it : Nat → Option Nat) (dyn : fsH) (x1 : Int64) : Prop := (S_X5_append ht I A J it dyn x1)
set_option maxRecDepth 100000 in
set_option maxHeartbeats 4000000 in
theorem c_X7_write (G : fsG) (l : Launch) (ht : Nat) (I : Nat → Int32) (A : Nat → Nat → Int32) (J : Nat → Nat → Int64) (it : Nat → Option Nat) (dyn : fsH) (x1 : Int64) (hS : S_X7_write ht I A J it dyn x1) : fsFn G l mX7_write 2 0 0 [.inr (.inr (some 0)), .inr (.inl x1)] (fs_mk ht I A J it dyn) (some (.inl (L_X7_write_r ht I A J it dyn x1))) (fs_mk ht (L_X7_write_I ht I A J it dyn x1) (L_X7_write_A ht I A J it dyn x1) J it dyn) := by
  refine fsMet_of (by decide) (Nat.le_of_ble_eq_true rfl) ?_
  generalize hQ : (fun (r1 : Option fsV) (h1 : fsH) => r1 = (some (.inl (L_X7_write_r ht I A J it dyn x1))) ∧ h1 = (fs_mk ht (L_X7_write_I ht I A J it dyn x1) (L_X7_write_A ht I A J it dyn x1) J it dyn)) = Q
  have hq : Q (some (.inl (L_X7_write_r ht I A J it dyn x1))) (fs_mk ht (L_X7_write_I ht I A J it dyn x1) (L_X7_write_A ht I A J it dyn x1) J it dyn) := by rw [← hQ]; exact ⟨rfl, rfl⟩
  clear hQ
  have hq : Q (some (.inl (L_X5_append_r ht I A J it dyn x1))) (fs_mk ht (L_X5_append_I ht I A J it dyn x1) (L_X5_append_A ht I A J it dyn x1) J it dyn) := hq
  have hS : (S_X5_append ht I A J it dyn x1) := hS
  refine (show fsW G l mX7_write 2 0 0 0 0 Q 0 [(0, .inr (.inr (some 0))), (1, .inr (.inl x1))] [] (fs_mk ht I A J it dyn) from ?_)
  refine fs_aload_n dX7_write_0 rfl rfl ?_
  refine fs_getfield (v := .inr (.inr (some 1))) dX7_write_1 sf_X7_20 rfl rfl ?_
  refine fs_lload_n dX7_write_4 rfl rfl ?_
  have ho1 := hS
  refine fs_callV1 dX7_write_5 sv_X7_58 rfl ⟨_, rfl, rfl⟩ (c_X5_append G l ht I A J it dyn x1 ho1) rfl rfl (Nat.le_of_ble_eq_true rfl) (Nat.le_of_ble_eq_true rfl) (Nat.le_of_ble_eq_true rfl) (Nat.le_of_ble_eq_true rfl) ?_
  have k9 := hq
  exact fs_iret dX7_write_8 rfl (by (repeat' split) <;> first | rfl | exact nb_X5_append _ _ _ _ _ _ _) k9
theorem nb_X7_write (ht : Nat) (I : Nat → Int32) (A : Nat → Nat → Int32) (J : Nat → Nat → Int64) (it : Nat → Option Nat) (dyn : fsH) (x1 : Int64) : narrow .boolean (.int (L_X7_write_r ht I A J it dyn x1)) = .int (L_X7_write_r ht I A J it dyn x1) := by
  unfold L_X7_write_r
  exact (by (repeat' split) <;> first | rfl | exact nb_X5_append _ _ _ _ _ _ _)
def L_X7_position_r (ht : Nat) (I : Nat → Int32) (A : Nat → Nat → Int32) (J : Nat → Nat → Int64) (it : Nat → Option Nat) (dyn : fsH)  : Int32 := (I 0)
set_option maxRecDepth 100000 in
set_option maxHeartbeats 4000000 in
theorem c_X7_position (G : fsG) (l : Launch) (ht : Nat) (I : Nat → Int32) (A : Nat → Nat → Int32) (J : Nat → Nat → Int64) (it : Nat → Option Nat) (dyn : fsH)  : fsFn G l mX7_position 0 0 0 [.inr (.inr (some 0))] (fs_mk ht I A J it dyn) (some (.inl (L_X7_position_r ht I A J it dyn ))) (fs_mk ht I A J it dyn) := by
  refine fsMet_of (by decide) (Nat.le_of_ble_eq_true rfl) ?_
  generalize hQ : (fun (r1 : Option fsV) (h1 : fsH) => r1 = (some (.inl (L_X7_position_r ht I A J it dyn ))) ∧ h1 = (fs_mk ht I A J it dyn)) = Q
  have hq : Q (some (.inl (L_X7_position_r ht I A J it dyn ))) (fs_mk ht I A J it dyn) := by rw [← hQ]; exact ⟨rfl, rfl⟩
  clear hQ
  have hq : Q (some (.inl (I 0))) (fs_mk ht I A J it dyn) := hq
  refine (show fsW G l mX7_position 0 0 0 0 0 Q 0 [(0, .inr (.inr (some 0)))] [] (fs_mk ht I A J it dyn) from ?_)
  refine fs_aload_n dX7_position_0 rfl rfl ?_
  refine fs_getfield (v := .inl (I 0)) dX7_position_1 sf_X7_9 rfl rfl ?_
  have k9 := hq
  exact fs_iret dX7_position_4 rfl rfl k9
def L_X7_rows_r (ht : Nat) (I : Nat → Int32) (A : Nat → Nat → Int32) (J : Nat → Nat → Int64) (it : Nat → Option Nat) (dyn : fsH) (x1 : Int32) : Int32 := (if (I 1) = 0 then (-1) else (if x1 < 0 then (-1) else (if x1 ≤ 4 then (L_X1_valueCount_r ht (L_X3_layOut_I ht (L_X6_workOutAll_I ht (upd I 5 x1) A (L_X6_forgetRowsFrom_J ht I A J it dyn (if (I 5) < x1 then (I 5) else x1)) it dyn) (L_X6_workOutAll_A ht (upd I 5 x1) A (L_X6_forgetRowsFrom_J ht I A J it dyn (if (I 5) < x1 then (I 5) else x1)) it dyn) (L_X6_workOutAll_J ht (upd I 5 x1) A (L_X6_forgetRowsFrom_J ht I A J it dyn (if (I 5) < x1 then (I 5) else x1)) it dyn) it dyn) (L_X3_layOut_A ht (L_X6_workOutAll_I ht (upd I 5 x1) A (L_X6_forgetRowsFrom_J ht I A J it dyn (if (I 5) < x1 then (I 5) else x1)) it dyn) (L_X6_workOutAll_A ht (upd I 5 x1) A (L_X6_forgetRowsFrom_J ht I A J it dyn (if (I 5) < x1 then (I 5) else x1)) it dyn) (L_X6_workOutAll_J ht (upd I 5 x1) A (L_X6_forgetRowsFrom_J ht I A J it dyn (if (I 5) < x1 then (I 5) else x1)) it dyn) it dyn) (L_X6_workOutAll_J ht (upd I 5 x1) A (L_X6_forgetRowsFrom_J ht I A J it dyn (if (I 5) < x1 then (I 5) else x1)) it dyn) it dyn) else (-1))))
def L_X7_rows_I (ht : Nat) (I : Nat → Int32) (A : Nat → Nat → Int32) (J : Nat → Nat → Int64) (it : Nat → Option Nat) (dyn : fsH) (x1 : Int32) : Nat → Int32 := (if (I 1) = 0 then I else (if x1 < 0 then I else (if x1 ≤ 4 then (L_X3_layOut_I ht (L_X6_workOutAll_I ht (upd I 5 x1) A (L_X6_forgetRowsFrom_J ht I A J it dyn (if (I 5) < x1 then (I 5) else x1)) it dyn) (L_X6_workOutAll_A ht (upd I 5 x1) A (L_X6_forgetRowsFrom_J ht I A J it dyn (if (I 5) < x1 then (I 5) else x1)) it dyn) (L_X6_workOutAll_J ht (upd I 5 x1) A (L_X6_forgetRowsFrom_J ht I A J it dyn (if (I 5) < x1 then (I 5) else x1)) it dyn) it dyn) else I)))
def L_X7_rows_A (ht : Nat) (I : Nat → Int32) (A : Nat → Nat → Int32) (J : Nat → Nat → Int64) (it : Nat → Option Nat) (dyn : fsH) (x1 : Int32) : Nat → Nat → Int32 := (if (I 1) = 0 then A else (if x1 < 0 then A else (if x1 ≤ 4 then (L_X3_layOut_A ht (L_X6_workOutAll_I ht (upd I 5 x1) A (L_X6_forgetRowsFrom_J ht I A J it dyn (if (I 5) < x1 then (I 5) else x1)) it dyn) (L_X6_workOutAll_A ht (upd I 5 x1) A (L_X6_forgetRowsFrom_J ht I A J it dyn (if (I 5) < x1 then (I 5) else x1)) it dyn) (L_X6_workOutAll_J ht (upd I 5 x1) A (L_X6_forgetRowsFrom_J ht I A J it dyn (if (I 5) < x1 then (I 5) else x1)) it dyn) it dyn) else A)))
def L_X7_rows_J (ht : Nat) (I : Nat → Int32) (A : Nat → Nat → Int32) (J : Nat → Nat → Int64) (it : Nat → Option Nat) (dyn : fsH) (x1 : Int32) : Nat → Nat → Int64 := (if (I 1) = 0 then J else (if x1 < 0 then J else (if x1 ≤ 4 then (L_X6_workOutAll_J ht (upd I 5 x1) A (L_X6_forgetRowsFrom_J ht I A J it dyn (if (I 5) < x1 then (I 5) else x1)) it dyn) else J)))
def S_X7_rows (ht : Nat) (I : Nat → Int32) (A : Nat → Nat → Int32) (J : Nat → Nat → Int64) (it : Nat → Option Nat) (dyn : fsH) (x1 : Int32) : Prop := (¬ ((I 1) = 0) → (¬ (x1 < 0) → ((x1 ≤ 4) → ((S_X6_forgetRowsFrom ht I A J it dyn (if (I 5) < x1 then (I 5) else x1)) ∧ ((S_X6_workOutAll ht (upd I 5 x1) A (L_X6_forgetRowsFrom_J ht I A J it dyn (if (I 5) < x1 then (I 5) else x1)) it dyn) ∧ ((S_X3_layOut ht (L_X6_workOutAll_I ht (upd I 5 x1) A (L_X6_forgetRowsFrom_J ht I A J it dyn (if (I 5) < x1 then (I 5) else x1)) it dyn) (L_X6_workOutAll_A ht (upd I 5 x1) A (L_X6_forgetRowsFrom_J ht I A J it dyn (if (I 5) < x1 then (I 5) else x1)) it dyn) (L_X6_workOutAll_J ht (upd I 5 x1) A (L_X6_forgetRowsFrom_J ht I A J it dyn (if (I 5) < x1 then (I 5) else x1)) it dyn) it dyn) ∧ (S_X1_valueCount ht (L_X3_layOut_I ht (L_X6_workOutAll_I ht (upd I 5 x1) A (L_X6_forgetRowsFrom_J ht I A J it dyn (if (I 5) < x1 then (I 5) else x1)) it dyn) (L_X6_workOutAll_A ht (upd I 5 x1) A (L_X6_forgetRowsFrom_J ht I A J it dyn (if (I 5) < x1 then (I 5) else x1)) it dyn) (L_X6_workOutAll_J ht (upd I 5 x1) A (L_X6_forgetRowsFrom_J ht I A J it dyn (if (I 5) < x1 then (I 5) else x1)) it dyn) it dyn) (L_X3_layOut_A ht (L_X6_workOutAll_I ht (upd I 5 x1) A (L_X6_forgetRowsFrom_J ht I A J it dyn (if (I 5) < x1 then (I 5) else x1)) it dyn) (L_X6_workOutAll_A ht (upd I 5 x1) A (L_X6_forgetRowsFrom_J ht I A J it dyn (if (I 5) < x1 then (I 5) else x1)) it dyn) (L_X6_workOutAll_J ht (upd I 5 x1) A (L_X6_forgetRowsFrom_J ht I A J it dyn (if (I 5) < x1 then (I 5) else x1)) it dyn) it dyn) (L_X6_workOutAll_J ht (upd I 5 x1) A (L_X6_forgetRowsFrom_J ht I A J it dyn (if (I 5) < x1 then (I 5) else x1)) it dyn) it dyn)))))))
set_option maxRecDepth 100000 in
set_option maxHeartbeats 4000000 in
theorem c_X7_rows (G : fsG) (l : Launch) (ht : Nat) (I : Nat → Int32) (A : Nat → Nat → Int32) (J : Nat → Nat → Int64) (it : Nat → Option Nat) (dyn : fsH) (x1 : Int32) (hS : S_X7_rows ht I A J it dyn x1) : fsFn G l mX7_rows 33 0 0 [.inr (.inr (some 0)), .inl x1] (fs_mk ht I A J it dyn) (some (.inl (L_X7_rows_r ht I A J it dyn x1))) (fs_mk ht (L_X7_rows_I ht I A J it dyn x1) (L_X7_rows_A ht I A J it dyn x1) (L_X7_rows_J ht I A J it dyn x1) it dyn) := by
  refine fsMet_of (by decide) (Nat.le_of_ble_eq_true rfl) ?_
  generalize hQ : (fun (r1 : Option fsV) (h1 : fsH) => r1 = (some (.inl (L_X7_rows_r ht I A J it dyn x1))) ∧ h1 = (fs_mk ht (L_X7_rows_I ht I A J it dyn x1) (L_X7_rows_A ht I A J it dyn x1) (L_X7_rows_J ht I A J it dyn x1) it dyn)) = Q
  have hq : Q (some (.inl (L_X7_rows_r ht I A J it dyn x1))) (fs_mk ht (L_X7_rows_I ht I A J it dyn x1) (L_X7_rows_A ht I A J it dyn x1) (L_X7_rows_J ht I A J it dyn x1) it dyn) := by rw [← hQ]; exact ⟨rfl, rfl⟩
  clear hQ
  have hq : Q (some (.inl (if (I 1) = 0 then (-1) else (if x1 < 0 then (-1) else (if x1 ≤ 4 then (L_X1_valueCount_r ht (L_X3_layOut_I ht (L_X6_workOutAll_I ht (upd I 5 x1) A (L_X6_forgetRowsFrom_J ht I A J it dyn (if (I 5) < x1 then (I 5) else x1)) it dyn) (L_X6_workOutAll_A ht (upd I 5 x1) A (L_X6_forgetRowsFrom_J ht I A J it dyn (if (I 5) < x1 then (I 5) else x1)) it dyn) (L_X6_workOutAll_J ht (upd I 5 x1) A (L_X6_forgetRowsFrom_J ht I A J it dyn (if (I 5) < x1 then (I 5) else x1)) it dyn) it dyn) (L_X3_layOut_A ht (L_X6_workOutAll_I ht (upd I 5 x1) A (L_X6_forgetRowsFrom_J ht I A J it dyn (if (I 5) < x1 then (I 5) else x1)) it dyn) (L_X6_workOutAll_A ht (upd I 5 x1) A (L_X6_forgetRowsFrom_J ht I A J it dyn (if (I 5) < x1 then (I 5) else x1)) it dyn) (L_X6_workOutAll_J ht (upd I 5 x1) A (L_X6_forgetRowsFrom_J ht I A J it dyn (if (I 5) < x1 then (I 5) else x1)) it dyn) it dyn) (L_X6_workOutAll_J ht (upd I 5 x1) A (L_X6_forgetRowsFrom_J ht I A J it dyn (if (I 5) < x1 then (I 5) else x1)) it dyn) it dyn) else (-1) : Int32) : Int32) : Int32))) (fs_mk ht (if (I 1) = 0 then I else (if x1 < 0 then I else (if x1 ≤ 4 then (L_X3_layOut_I ht (L_X6_workOutAll_I ht (upd I 5 x1) A (L_X6_forgetRowsFrom_J ht I A J it dyn (if (I 5) < x1 then (I 5) else x1)) it dyn) (L_X6_workOutAll_A ht (upd I 5 x1) A (L_X6_forgetRowsFrom_J ht I A J it dyn (if (I 5) < x1 then (I 5) else x1)) it dyn) (L_X6_workOutAll_J ht (upd I 5 x1) A (L_X6_forgetRowsFrom_J ht I A J it dyn (if (I 5) < x1 then (I 5) else x1)) it dyn) it dyn) else I))) (if (I 1) = 0 then A else (if x1 < 0 then A else (if x1 ≤ 4 then (L_X3_layOut_A ht (L_X6_workOutAll_I ht (upd I 5 x1) A (L_X6_forgetRowsFrom_J ht I A J it dyn (if (I 5) < x1 then (I 5) else x1)) it dyn) (L_X6_workOutAll_A ht (upd I 5 x1) A (L_X6_forgetRowsFrom_J ht I A J it dyn (if (I 5) < x1 then (I 5) else x1)) it dyn) (L_X6_workOutAll_J ht (upd I 5 x1) A (L_X6_forgetRowsFrom_J ht I A J it dyn (if (I 5) < x1 then (I 5) else x1)) it dyn) it dyn) else A))) (if (I 1) = 0 then J else (if x1 < 0 then J else (if x1 ≤ 4 then (L_X6_workOutAll_J ht (upd I 5 x1) A (L_X6_forgetRowsFrom_J ht I A J it dyn (if (I 5) < x1 then (I 5) else x1)) it dyn) else J))) it dyn) := hq
  have hS : (¬ ((I 1) = 0) → (¬ (x1 < 0) → ((x1 ≤ 4) → ((S_X6_forgetRowsFrom ht I A J it dyn (if (I 5) < x1 then (I 5) else x1)) ∧ ((S_X6_workOutAll ht (upd I 5 x1) A (L_X6_forgetRowsFrom_J ht I A J it dyn (if (I 5) < x1 then (I 5) else x1)) it dyn) ∧ ((S_X3_layOut ht (L_X6_workOutAll_I ht (upd I 5 x1) A (L_X6_forgetRowsFrom_J ht I A J it dyn (if (I 5) < x1 then (I 5) else x1)) it dyn) (L_X6_workOutAll_A ht (upd I 5 x1) A (L_X6_forgetRowsFrom_J ht I A J it dyn (if (I 5) < x1 then (I 5) else x1)) it dyn) (L_X6_workOutAll_J ht (upd I 5 x1) A (L_X6_forgetRowsFrom_J ht I A J it dyn (if (I 5) < x1 then (I 5) else x1)) it dyn) it dyn) ∧ (S_X1_valueCount ht (L_X3_layOut_I ht (L_X6_workOutAll_I ht (upd I 5 x1) A (L_X6_forgetRowsFrom_J ht I A J it dyn (if (I 5) < x1 then (I 5) else x1)) it dyn) (L_X6_workOutAll_A ht (upd I 5 x1) A (L_X6_forgetRowsFrom_J ht I A J it dyn (if (I 5) < x1 then (I 5) else x1)) it dyn) (L_X6_workOutAll_J ht (upd I 5 x1) A (L_X6_forgetRowsFrom_J ht I A J it dyn (if (I 5) < x1 then (I 5) else x1)) it dyn) it dyn) (L_X3_layOut_A ht (L_X6_workOutAll_I ht (upd I 5 x1) A (L_X6_forgetRowsFrom_J ht I A J it dyn (if (I 5) < x1 then (I 5) else x1)) it dyn) (L_X6_workOutAll_A ht (upd I 5 x1) A (L_X6_forgetRowsFrom_J ht I A J it dyn (if (I 5) < x1 then (I 5) else x1)) it dyn) (L_X6_workOutAll_J ht (upd I 5 x1) A (L_X6_forgetRowsFrom_J ht I A J it dyn (if (I 5) < x1 then (I 5) else x1)) it dyn) it dyn) (L_X6_workOutAll_J ht (upd I 5 x1) A (L_X6_forgetRowsFrom_J ht I A J it dyn (if (I 5) < x1 then (I 5) else x1)) it dyn) it dyn))))))) := hS
  refine (show fsW G l mX7_rows 33 0 0 0 0 Q 0 [(0, .inr (.inr (some 0))), (1, .inl x1)] [] (fs_mk ht I A J it dyn) from ?_)
  refine fs_aload_n dX7_rows_0 rfl rfl ?_
  refine fs_getfield (v := .inl (I 1)) dX7_rows_1 sf_X7_13 rfl rfl ?_
  refine fs_if_eq 16 dX7_rows_4 (by decide) (fun c_4 : (I 1) = 0 => ?_) (fun c_4 : ¬ ((I 1) = 0) => ?_)
  · refine fs_iconst (v := (-1)) dX7_rows_16 rfl ?_
    have k9 := hq
    try simp only [if_pos c_4] at k9 ⊢
    exact fs_iret dX7_rows_17 rfl rfl k9
  · have hS := hS c_4
    refine fs_iload_n dX7_rows_7 rfl rfl ?_
    refine fs_if_lt 16 dX7_rows_8 (by decide) (fun c_8 : x1 < 0 => ?_) (fun c_8 : ¬ (x1 < 0) => ?_)
    · refine fs_iconst (v := (-1)) dX7_rows_16 rfl ?_
      have k9 := hq
      try simp only [if_neg c_4, if_pos c_8] at k9 ⊢
      exact fs_iret dX7_rows_17 rfl rfl k9
    · have hS := hS c_8
      refine fs_iload_n dX7_rows_11 rfl rfl ?_
      refine fs_iconst (v := 4) dX7_rows_12 rfl ?_
      refine fs_icmp_le 18 dX7_rows_13 (by decide) (fun c_13 : x1 ≤ 4 => ?_) (fun c_13 : ¬ (x1 ≤ 4) => ?_)
      · have hS := hS c_13
        refine fs_aload_n dX7_rows_18 rfl rfl ?_
        refine fs_getfield (v := .inr (.inr (some 5))) dX7_rows_19 sf_X7_36 rfl rfl ?_
        refine fs_iload_n dX7_rows_22 rfl rfl ?_
        refine fs_aload_n dX7_rows_23 rfl rfl ?_
        refine fs_getfield (v := .inr (.inr (some 3))) dX7_rows_24 sf_X7_27 rfl rfl ?_
        refine fs_getfield (v := .inl (I 5)) dX7_rows_27 sf_X7_113 rfl rfl ?_
        refine fs_min dX7_rows_30 sl_X7_42 w_ms_min w_mi w_mc_min (Nat.le_of_ble_eq_true rfl) (Nat.le_of_ble_eq_true rfl) (Nat.le_of_ble_eq_true rfl) (Nat.le_of_ble_eq_true rfl) ?_
        obtain ⟨ho1, hS⟩ := hS
        refine fs_callV0 dX7_rows_33 sv_X7_116 rfl ⟨_, rfl, rfl⟩ (c_X6_forgetRowsFrom G l ht I A J it dyn (if (I 5) < x1 then (I 5) else x1) ho1) rfl rfl (Nat.le_of_ble_eq_true rfl) (Nat.le_of_ble_eq_true rfl) (Nat.le_of_ble_eq_true rfl) (Nat.le_of_ble_eq_true rfl) ?_
        refine fs_aload_n dX7_rows_36 rfl rfl ?_
        refine fs_getfield (v := .inr (.inr (some 3))) dX7_rows_37 sf_X7_27 rfl rfl ?_
        refine fs_iload_n dX7_rows_40 rfl rfl ?_
        refine fsp_5 dX7_rows_41 sp_X7_113 ?_
        refine fs_aload_n dX7_rows_44 rfl rfl ?_
        refine fs_getfield (v := .inr (.inr (some 5))) dX7_rows_45 sf_X7_36 rfl rfl ?_
        obtain ⟨ho1, hS⟩ := hS
        refine fs_callV0 dX7_rows_48 sv_X7_101 rfl ⟨_, rfl, rfl⟩ (c_X6_workOutAll G l ht (upd I 5 x1) A (L_X6_forgetRowsFrom_J ht I A J it dyn (if (I 5) < x1 then (I 5) else x1)) it dyn ho1) rfl rfl (Nat.le_of_ble_eq_true rfl) (Nat.le_of_ble_eq_true rfl) (Nat.le_of_ble_eq_true rfl) (Nat.le_of_ble_eq_true rfl) ?_
        refine fs_aload_n dX7_rows_51 rfl rfl ?_
        refine fs_getfield (v := .inr (.inr (some 9))) dX7_rows_52 sf_X7_54 rfl rfl ?_
        obtain ⟨ho1, hS⟩ := hS
        refine fs_callV0 dX7_rows_55 sv_X7_104 rfl ⟨_, rfl, rfl⟩ (c_X3_layOut G l ht (L_X6_workOutAll_I ht (upd I 5 x1) A (L_X6_forgetRowsFrom_J ht I A J it dyn (if (I 5) < x1 then (I 5) else x1)) it dyn) (L_X6_workOutAll_A ht (upd I 5 x1) A (L_X6_forgetRowsFrom_J ht I A J it dyn (if (I 5) < x1 then (I 5) else x1)) it dyn) (L_X6_workOutAll_J ht (upd I 5 x1) A (L_X6_forgetRowsFrom_J ht I A J it dyn (if (I 5) < x1 then (I 5) else x1)) it dyn) it dyn ho1) rfl rfl (Nat.le_of_ble_eq_true rfl) (Nat.le_of_ble_eq_true rfl) (Nat.le_of_ble_eq_true rfl) (Nat.le_of_ble_eq_true rfl) ?_
        refine fs_aload_n dX7_rows_58 rfl rfl ?_
        refine fs_getfield (v := .inr (.inr (some 3))) dX7_rows_59 sf_X7_27 rfl rfl ?_
        have ho1 := hS
        refine fs_callV1 dX7_rows_62 sv_X7_107 rfl ⟨_, rfl, rfl⟩ (c_X1_valueCount G l ht (L_X3_layOut_I ht (L_X6_workOutAll_I ht (upd I 5 x1) A (L_X6_forgetRowsFrom_J ht I A J it dyn (if (I 5) < x1 then (I 5) else x1)) it dyn) (L_X6_workOutAll_A ht (upd I 5 x1) A (L_X6_forgetRowsFrom_J ht I A J it dyn (if (I 5) < x1 then (I 5) else x1)) it dyn) (L_X6_workOutAll_J ht (upd I 5 x1) A (L_X6_forgetRowsFrom_J ht I A J it dyn (if (I 5) < x1 then (I 5) else x1)) it dyn) it dyn) (L_X3_layOut_A ht (L_X6_workOutAll_I ht (upd I 5 x1) A (L_X6_forgetRowsFrom_J ht I A J it dyn (if (I 5) < x1 then (I 5) else x1)) it dyn) (L_X6_workOutAll_A ht (upd I 5 x1) A (L_X6_forgetRowsFrom_J ht I A J it dyn (if (I 5) < x1 then (I 5) else x1)) it dyn) (L_X6_workOutAll_J ht (upd I 5 x1) A (L_X6_forgetRowsFrom_J ht I A J it dyn (if (I 5) < x1 then (I 5) else x1)) it dyn) it dyn) (L_X6_workOutAll_J ht (upd I 5 x1) A (L_X6_forgetRowsFrom_J ht I A J it dyn (if (I 5) < x1 then (I 5) else x1)) it dyn) it dyn ho1) rfl rfl (Nat.le_of_ble_eq_true rfl) (Nat.le_of_ble_eq_true rfl) (Nat.le_of_ble_eq_true rfl) (Nat.le_of_ble_eq_true rfl) ?_
        have k9 := hq
        try simp only [if_neg c_4, if_neg c_8, if_pos c_13] at k9 ⊢
        exact fs_iret dX7_rows_65 rfl rfl k9
      · refine fs_iconst (v := (-1)) dX7_rows_16 rfl ?_
        have k9 := hq
        try simp only [if_neg c_4, if_neg c_8, if_neg c_13] at k9 ⊢
        exact fs_iret dX7_rows_17 rfl rfl k9
def L_X7_set_r (ht : Nat) (I : Nat → Int32) (A : Nat → Nat → Int32) (J : Nat → Nat → Int64) (it : Nat → Option Nat) (dyn : fsH) (x1 : Int32) (x2 : Int32) (x3 : Int64) : Int32 := (if (L_X7_isThere_r ht I A J it dyn x1 x2) = 0 then (-1) else (if (L_X1_isTold_r ht I A J it dyn x1) = 0 then (-1) else (if (lg_cmp x3 (-1000000000000000)) < 0 then (-1) else (if (lg_cmp x3 (1000000000000000)) ≤ 0 then (L_X6_tell_r ht I A J it dyn (L_X7_cellOf_r ht I A J it dyn x1 x2) x3) else (-1)))))
def L_X7_set_I (ht : Nat) (I : Nat → Int32) (A : Nat → Nat → Int32) (J : Nat → Nat → Int64) (it : Nat → Option Nat) (dyn : fsH) (x1 : Int32) (x2 : Int32) (x3 : Int64) : Nat → Int32 := (if (L_X7_isThere_r ht I A J it dyn x1 x2) = 0 then I else (if (L_X1_isTold_r ht I A J it dyn x1) = 0 then I else (if (lg_cmp x3 (-1000000000000000)) < 0 then I else (if (lg_cmp x3 (1000000000000000)) ≤ 0 then (L_X3_layOut_I ht I A (L_X6_tell_J ht I A J it dyn (L_X7_cellOf_r ht I A J it dyn x1 x2) x3) it dyn) else I))))
def L_X7_set_A (ht : Nat) (I : Nat → Int32) (A : Nat → Nat → Int32) (J : Nat → Nat → Int64) (it : Nat → Option Nat) (dyn : fsH) (x1 : Int32) (x2 : Int32) (x3 : Int64) : Nat → Nat → Int32 := (if (L_X7_isThere_r ht I A J it dyn x1 x2) = 0 then A else (if (L_X1_isTold_r ht I A J it dyn x1) = 0 then A else (if (lg_cmp x3 (-1000000000000000)) < 0 then A else (if (lg_cmp x3 (1000000000000000)) ≤ 0 then (L_X3_layOut_A ht I A (L_X6_tell_J ht I A J it dyn (L_X7_cellOf_r ht I A J it dyn x1 x2) x3) it dyn) else A))))
def L_X7_set_J (ht : Nat) (I : Nat → Int32) (A : Nat → Nat → Int32) (J : Nat → Nat → Int64) (it : Nat → Option Nat) (dyn : fsH) (x1 : Int32) (x2 : Int32) (x3 : Int64) : Nat → Nat → Int64 := (if (L_X7_isThere_r ht I A J it dyn x1 x2) = 0 then J else (if (L_X1_isTold_r ht I A J it dyn x1) = 0 then J else (if (lg_cmp x3 (-1000000000000000)) < 0 then J else (if (lg_cmp x3 (1000000000000000)) ≤ 0 then (L_X6_tell_J ht I A J it dyn (L_X7_cellOf_r ht I A J it dyn x1 x2) x3) else J))))
def S_X7_set (ht : Nat) (I : Nat → Int32) (A : Nat → Nat → Int32) (J : Nat → Nat → Int64) (it : Nat → Option Nat) (dyn : fsH) (x1 : Int32) (x2 : Int32) (x3 : Int64) : Prop := ((S_X7_isThere ht I A J it dyn x1 x2) ∧ (¬ ((L_X7_isThere_r ht I A J it dyn x1 x2) = 0) → ((S_X1_isTold ht I A J it dyn x1) ∧ (¬ ((L_X1_isTold_r ht I A J it dyn x1) = 0) → (¬ ((lg_cmp x3 (-1000000000000000)) < 0) → (((lg_cmp x3 (1000000000000000)) ≤ 0) → ((S_X6_tell ht I A J it dyn (L_X7_cellOf_r ht I A J it dyn x1 x2) x3) ∧ (S_X3_layOut ht I A (L_X6_tell_J ht I A J it dyn (L_X7_cellOf_r ht I A J it dyn x1 x2) x3) it dyn))))))))
set_option maxRecDepth 100000 in
set_option maxHeartbeats 4000000 in
theorem c_X7_set (G : fsG) (l : Launch) (ht : Nat) (I : Nat → Int32) (A : Nat → Nat → Int32) (J : Nat → Nat → Int64) (it : Nat → Option Nat) (dyn : fsH) (x1 : Int32) (x2 : Int32) (x3 : Int64) (hS : S_X7_set ht I A J it dyn x1 x2 x3) : fsFn G l mX7_set 33 0 0 [.inr (.inr (some 0)), .inl x1, .inl x2, .inr (.inl x3)] (fs_mk ht I A J it dyn) (some (.inl (L_X7_set_r ht I A J it dyn x1 x2 x3))) (fs_mk ht (L_X7_set_I ht I A J it dyn x1 x2 x3) (L_X7_set_A ht I A J it dyn x1 x2 x3) (L_X7_set_J ht I A J it dyn x1 x2 x3) it dyn) := by
  refine fsMet_of (by decide) (Nat.le_of_ble_eq_true rfl) ?_
  generalize hQ : (fun (r1 : Option fsV) (h1 : fsH) => r1 = (some (.inl (L_X7_set_r ht I A J it dyn x1 x2 x3))) ∧ h1 = (fs_mk ht (L_X7_set_I ht I A J it dyn x1 x2 x3) (L_X7_set_A ht I A J it dyn x1 x2 x3) (L_X7_set_J ht I A J it dyn x1 x2 x3) it dyn)) = Q
  have hq : Q (some (.inl (L_X7_set_r ht I A J it dyn x1 x2 x3))) (fs_mk ht (L_X7_set_I ht I A J it dyn x1 x2 x3) (L_X7_set_A ht I A J it dyn x1 x2 x3) (L_X7_set_J ht I A J it dyn x1 x2 x3) it dyn) := by rw [← hQ]; exact ⟨rfl, rfl⟩
  clear hQ
  have hq : Q (some (.inl (if (L_X7_isThere_r ht I A J it dyn x1 x2) = 0 then (-1) else (if (L_X1_isTold_r ht I A J it dyn x1) = 0 then (-1) else (if (lg_cmp x3 (-1000000000000000)) < 0 then (-1) else (if (lg_cmp x3 (1000000000000000)) ≤ 0 then (L_X6_tell_r ht I A J it dyn (L_X7_cellOf_r ht I A J it dyn x1 x2) x3) else (-1) : Int32) : Int32) : Int32) : Int32))) (fs_mk ht (if (L_X7_isThere_r ht I A J it dyn x1 x2) = 0 then I else (if (L_X1_isTold_r ht I A J it dyn x1) = 0 then I else (if (lg_cmp x3 (-1000000000000000)) < 0 then I else (if (lg_cmp x3 (1000000000000000)) ≤ 0 then (L_X3_layOut_I ht I A (L_X6_tell_J ht I A J it dyn (L_X7_cellOf_r ht I A J it dyn x1 x2) x3) it dyn) else I)))) (if (L_X7_isThere_r ht I A J it dyn x1 x2) = 0 then A else (if (L_X1_isTold_r ht I A J it dyn x1) = 0 then A else (if (lg_cmp x3 (-1000000000000000)) < 0 then A else (if (lg_cmp x3 (1000000000000000)) ≤ 0 then (L_X3_layOut_A ht I A (L_X6_tell_J ht I A J it dyn (L_X7_cellOf_r ht I A J it dyn x1 x2) x3) it dyn) else A)))) (if (L_X7_isThere_r ht I A J it dyn x1 x2) = 0 then J else (if (L_X1_isTold_r ht I A J it dyn x1) = 0 then J else (if (lg_cmp x3 (-1000000000000000)) < 0 then J else (if (lg_cmp x3 (1000000000000000)) ≤ 0 then (L_X6_tell_J ht I A J it dyn (L_X7_cellOf_r ht I A J it dyn x1 x2) x3) else J)))) it dyn) := hq
  have hS : ((S_X7_isThere ht I A J it dyn x1 x2) ∧ (¬ ((L_X7_isThere_r ht I A J it dyn x1 x2) = 0) → ((S_X1_isTold ht I A J it dyn x1) ∧ (¬ ((L_X1_isTold_r ht I A J it dyn x1) = 0) → (¬ ((lg_cmp x3 (-1000000000000000)) < 0) → (((lg_cmp x3 (1000000000000000)) ≤ 0) → ((S_X6_tell ht I A J it dyn (L_X7_cellOf_r ht I A J it dyn x1 x2) x3) ∧ (S_X3_layOut ht I A (L_X6_tell_J ht I A J it dyn (L_X7_cellOf_r ht I A J it dyn x1 x2) x3) it dyn)))))))) := hS
  refine (show fsW G l mX7_set 33 0 0 0 0 Q 0 [(0, .inr (.inr (some 0))), (1, .inl x1), (2, .inl x2), (3, .inr (.inl x3))] [] (fs_mk ht I A J it dyn) from ?_)
  refine fs_aload_n dX7_set_0 rfl rfl ?_
  refine fs_iload_n dX7_set_1 rfl rfl ?_
  refine fs_iload_n dX7_set_2 rfl rfl ?_
  obtain ⟨ho1, hS⟩ := hS
  refine fs_callV1 dX7_set_3 sv_X7_120 rfl ⟨_, rfl, rfl⟩ (c_X7_isThere G l ht I A J it dyn x1 x2 ho1) rfl rfl (Nat.le_of_ble_eq_true rfl) (Nat.le_of_ble_eq_true rfl) (Nat.le_of_ble_eq_true rfl) (Nat.le_of_ble_eq_true rfl) ?_
  refine fs_if_eq 36 dX7_set_6 (by decide) (fun c_6 : (L_X7_isThere_r ht I A J it dyn x1 x2) = 0 => ?_) (fun c_6 : ¬ ((L_X7_isThere_r ht I A J it dyn x1 x2) = 0) => ?_)
  · refine fs_iconst (v := (-1)) dX7_set_36 rfl ?_
    have k9 := hq
    try simp only [if_pos c_6] at k9 ⊢
    exact fs_iret dX7_set_37 rfl rfl k9
  · have hS := hS c_6
    refine fs_aload_n dX7_set_9 rfl rfl ?_
    refine fs_getfield (v := .inr (.inr (some 3))) dX7_set_10 sf_X7_27 rfl rfl ?_
    refine fs_iload_n dX7_set_13 rfl rfl ?_
    obtain ⟨ho1, hS⟩ := hS
    refine fs_callV1 dX7_set_14 sv_X7_124 rfl ⟨_, rfl, rfl⟩ (c_X1_isTold G l ht I A J it dyn x1 ho1) rfl rfl (Nat.le_of_ble_eq_true rfl) (Nat.le_of_ble_eq_true rfl) (Nat.le_of_ble_eq_true rfl) (Nat.le_of_ble_eq_true rfl) ?_
    refine fs_if_eq 36 dX7_set_17 (by decide) (fun c_17 : (L_X1_isTold_r ht I A J it dyn x1) = 0 => ?_) (fun c_17 : ¬ ((L_X1_isTold_r ht I A J it dyn x1) = 0) => ?_)
    · refine fs_iconst (v := (-1)) dX7_set_36 rfl ?_
      have k9 := hq
      try simp only [if_neg c_6, if_pos c_17] at k9 ⊢
      exact fs_iret dX7_set_37 rfl rfl k9
    · have hS := hS c_17
      refine fs_lload_n dX7_set_20 rfl rfl ?_
      refine fs_ldc2 (v := (-1000000000000000)) dX7_set_21 sk_X7_128 ?_
      refine fs_lcmp dX7_set_24 ?_
      refine fs_if_lt 36 dX7_set_25 (by decide) (fun c_25 : (lg_cmp x3 (-1000000000000000)) < 0 => ?_) (fun c_25 : ¬ ((lg_cmp x3 (-1000000000000000)) < 0) => ?_)
      · refine fs_iconst (v := (-1)) dX7_set_36 rfl ?_
        have k9 := hq
        try simp only [if_neg c_6, if_neg c_17, if_pos c_25] at k9 ⊢
        exact fs_iret dX7_set_37 rfl rfl k9
      · have hS := hS c_25
        refine fs_lload_n dX7_set_28 rfl rfl ?_
        refine fs_ldc2 (v := (1000000000000000)) dX7_set_29 sk_X7_130 ?_
        refine fs_lcmp dX7_set_32 ?_
        refine fs_if_le 38 dX7_set_33 (by decide) (fun c_33 : (lg_cmp x3 (1000000000000000)) ≤ 0 => ?_) (fun c_33 : ¬ ((lg_cmp x3 (1000000000000000)) ≤ 0) => ?_)
        · have hS := hS c_33
          refine fs_aload_n dX7_set_38 rfl rfl ?_
          refine fs_getfield (v := .inr (.inr (some 5))) dX7_set_39 sf_X7_36 rfl rfl ?_
          refine fs_iload_n dX7_set_42 rfl rfl ?_
          refine fs_iload_n dX7_set_43 rfl rfl ?_
          refine fs_callS1 dX7_set_44 sv_X7_132 (c_X7_cellOf G l ht I A J it dyn x1 x2) rfl rfl (Nat.le_of_ble_eq_true rfl) (Nat.le_of_ble_eq_true rfl) (Nat.le_of_ble_eq_true rfl) (Nat.le_of_ble_eq_true rfl) ?_
          refine fs_lload_n dX7_set_47 rfl rfl ?_
          obtain ⟨ho1, hS⟩ := hS
          refine fs_callV1 dX7_set_48 sv_X7_135 rfl ⟨_, rfl, rfl⟩ (c_X6_tell G l ht I A J it dyn (L_X7_cellOf_r ht I A J it dyn x1 x2) x3 ho1) rfl rfl (Nat.le_of_ble_eq_true rfl) (Nat.le_of_ble_eq_true rfl) (Nat.le_of_ble_eq_true rfl) (Nat.le_of_ble_eq_true rfl) ?_
          refine fs_istore (L' := [(5, .inl (L_X6_tell_r ht I A J it dyn (L_X7_cellOf_r ht I A J it dyn x1 x2) x3)), (0, .inr (.inr (some 0))), (1, .inl x1), (2, .inl x2), (3, .inr (.inl x3))]) dX7_set_51 (by decide) rfl ?_
          refine fs_aload_n dX7_set_53 rfl rfl ?_
          refine fs_getfield (v := .inr (.inr (some 9))) dX7_set_54 sf_X7_54 rfl rfl ?_
          have ho1 := hS
          refine fs_callV0 dX7_set_57 sv_X7_104 rfl ⟨_, rfl, rfl⟩ (c_X3_layOut G l ht I A (L_X6_tell_J ht I A J it dyn (L_X7_cellOf_r ht I A J it dyn x1 x2) x3) it dyn ho1) rfl rfl (Nat.le_of_ble_eq_true rfl) (Nat.le_of_ble_eq_true rfl) (Nat.le_of_ble_eq_true rfl) (Nat.le_of_ble_eq_true rfl) ?_
          refine fs_iload dX7_set_60 rfl ?_
          have k9 := hq
          try simp only [if_neg c_6, if_neg c_17, if_neg c_25, if_pos c_33] at k9 ⊢
          exact fs_iret dX7_set_62 rfl rfl k9
        · refine fs_iconst (v := (-1)) dX7_set_36 rfl ?_
          have k9 := hq
          try simp only [if_neg c_6, if_neg c_17, if_neg c_25, if_neg c_33] at k9 ⊢
          exact fs_iret dX7_set_37 rfl rfl k9
