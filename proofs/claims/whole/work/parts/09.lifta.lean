def L_X7_isLetter_r (ht : Nat) (I : Nat → Int32) (A : Nat → Nat → Int32) (J : Nat → Nat → Int64) (it : Nat → Option Nat) (dyn : fsH) (x1 : Int32) : Int32 := (if x1 < 97 then 0 else (if 122 < x1 then 0 else 1 : Int32) : Int32)
set_option maxRecDepth 100000 in
set_option maxHeartbeats 4000000 in
theorem c_X7_isLetter (G : fsG) (l : Launch) (ht : Nat) (I : Nat → Int32) (A : Nat → Nat → Int32) (J : Nat → Nat → Int64) (it : Nat → Option Nat) (dyn : fsH) (x1 : Int32) : fsFn G l mX7_isLetter 0 0 0 [.inl x1] (fs_mk ht I A J it dyn) (some (.inl (L_X7_isLetter_r ht I A J it dyn x1))) (fs_mk ht I A J it dyn) := by
  refine fsMet_of (by decide) (Nat.le_of_ble_eq_true rfl) ?_
  generalize hQ : (fun (r1 : Option fsV) (h1 : fsH) => r1 = (some (.inl (L_X7_isLetter_r ht I A J it dyn x1))) ∧ h1 = (fs_mk ht I A J it dyn)) = Q
  have hq : Q (some (.inl (L_X7_isLetter_r ht I A J it dyn x1))) (fs_mk ht I A J it dyn) := by rw [← hQ]; exact ⟨rfl, rfl⟩
  clear hQ
  have hq : Q (some (.inl (if x1 < 97 then 0 else (if 122 < x1 then 0 else 1 : Int32) : Int32))) (fs_mk ht I A J it dyn) := hq
  refine (show fsW G l mX7_isLetter 0 0 0 0 0 Q 0 [(0, .inl x1)] [] (fs_mk ht I A J it dyn) from ?_)
  refine fs_iload_n dX7_isLetter_0 rfl rfl ?_
  refine fs_bipush (v := 97) dX7_isLetter_1 rfl ?_
  have key_17 : fsW G l mX7_isLetter 0 0 0 0 0 Q 17 [(0, .inl x1)] [.inl (if x1 < 97 then 0 else (if 122 < x1 then 0 else 1 : Int32) : Int32)] (fs_mk ht I A J it dyn) := by
    have k9 := hq
    exact fs_iret dX7_isLetter_17 rfl (by (repeat' split) <;> first | rfl) k9
  refine fs_icmp_lt 16 dX7_isLetter_3 (by decide) (fun c_3 : x1 < 97 => ?_) (fun c_3 : ¬ (x1 < 97) => ?_)
  · refine fs_iconst (v := 0) dX7_isLetter_16 rfl ?_
    have k9 := key_17
    try simp only [if_pos c_3] at k9 ⊢
    exact k9
  · refine fs_iload_n dX7_isLetter_6 rfl rfl ?_
    refine fs_bipush (v := 122) dX7_isLetter_7 rfl ?_
    refine fs_icmp_gt 16 dX7_isLetter_9 (by decide) (fun c_9 : 122 < x1 => ?_) (fun c_9 : ¬ (122 < x1) => ?_)
    · refine fs_iconst (v := 0) dX7_isLetter_16 rfl ?_
      have k9 := key_17
      try simp only [if_neg c_3, if_pos c_9] at k9 ⊢
      exact k9
    · refine fs_iconst (v := 1) dX7_isLetter_12 rfl ?_
      refine fs_goto 17 dX7_isLetter_13 (by decide) ?_
      have k9 := key_17
      try simp only [if_neg c_3, if_neg c_9] at k9 ⊢
      exact k9
theorem nb_X7_isLetter (ht : Nat) (I : Nat → Int32) (A : Nat → Nat → Int32) (J : Nat → Nat → Int64) (it : Nat → Option Nat) (dyn : fsH) (x1 : Int32) : narrow .boolean (.int (L_X7_isLetter_r ht I A J it dyn x1)) = .int (L_X7_isLetter_r ht I A J it dyn x1) := by
  unfold L_X7_isLetter_r
  exact (by (repeat' split) <;> first | rfl)
def L_X7_isDigit_r (ht : Nat) (I : Nat → Int32) (A : Nat → Nat → Int32) (J : Nat → Nat → Int64) (it : Nat → Option Nat) (dyn : fsH) (x1 : Int32) : Int32 := (if x1 < 48 then 0 else (if 57 < x1 then 0 else 1 : Int32) : Int32)
set_option maxRecDepth 100000 in
set_option maxHeartbeats 4000000 in
theorem c_X7_isDigit (G : fsG) (l : Launch) (ht : Nat) (I : Nat → Int32) (A : Nat → Nat → Int32) (J : Nat → Nat → Int64) (it : Nat → Option Nat) (dyn : fsH) (x1 : Int32) : fsFn G l mX7_isDigit 0 0 0 [.inl x1] (fs_mk ht I A J it dyn) (some (.inl (L_X7_isDigit_r ht I A J it dyn x1))) (fs_mk ht I A J it dyn) := by
  refine fsMet_of (by decide) (Nat.le_of_ble_eq_true rfl) ?_
  generalize hQ : (fun (r1 : Option fsV) (h1 : fsH) => r1 = (some (.inl (L_X7_isDigit_r ht I A J it dyn x1))) ∧ h1 = (fs_mk ht I A J it dyn)) = Q
  have hq : Q (some (.inl (L_X7_isDigit_r ht I A J it dyn x1))) (fs_mk ht I A J it dyn) := by rw [← hQ]; exact ⟨rfl, rfl⟩
  clear hQ
  have hq : Q (some (.inl (if x1 < 48 then 0 else (if 57 < x1 then 0 else 1 : Int32) : Int32))) (fs_mk ht I A J it dyn) := hq
  refine (show fsW G l mX7_isDigit 0 0 0 0 0 Q 0 [(0, .inl x1)] [] (fs_mk ht I A J it dyn) from ?_)
  refine fs_iload_n dX7_isDigit_0 rfl rfl ?_
  refine fs_bipush (v := 48) dX7_isDigit_1 rfl ?_
  have key_17 : fsW G l mX7_isDigit 0 0 0 0 0 Q 17 [(0, .inl x1)] [.inl (if x1 < 48 then 0 else (if 57 < x1 then 0 else 1 : Int32) : Int32)] (fs_mk ht I A J it dyn) := by
    have k9 := hq
    exact fs_iret dX7_isDigit_17 rfl (by (repeat' split) <;> first | rfl) k9
  refine fs_icmp_lt 16 dX7_isDigit_3 (by decide) (fun c_3 : x1 < 48 => ?_) (fun c_3 : ¬ (x1 < 48) => ?_)
  · refine fs_iconst (v := 0) dX7_isDigit_16 rfl ?_
    have k9 := key_17
    try simp only [if_pos c_3] at k9 ⊢
    exact k9
  · refine fs_iload_n dX7_isDigit_6 rfl rfl ?_
    refine fs_bipush (v := 57) dX7_isDigit_7 rfl ?_
    refine fs_icmp_gt 16 dX7_isDigit_9 (by decide) (fun c_9 : 57 < x1 => ?_) (fun c_9 : ¬ (57 < x1) => ?_)
    · refine fs_iconst (v := 0) dX7_isDigit_16 rfl ?_
      have k9 := key_17
      try simp only [if_neg c_3, if_pos c_9] at k9 ⊢
      exact k9
    · refine fs_iconst (v := 1) dX7_isDigit_12 rfl ?_
      refine fs_goto 17 dX7_isDigit_13 (by decide) ?_
      have k9 := key_17
      try simp only [if_neg c_3, if_neg c_9] at k9 ⊢
      exact k9
theorem nb_X7_isDigit (ht : Nat) (I : Nat → Int32) (A : Nat → Nat → Int32) (J : Nat → Nat → Int64) (it : Nat → Option Nat) (dyn : fsH) (x1 : Int32) : narrow .boolean (.int (L_X7_isDigit_r ht I A J it dyn x1)) = .int (L_X7_isDigit_r ht I A J it dyn x1) := by
  unfold L_X7_isDigit_r
  exact (by (repeat' split) <;> first | rfl)
def L_X7_isFault_r (ht : Nat) (I : Nat → Int32) (A : Nat → Nat → Int32) (J : Nat → Nat → Int64) (it : Nat → Option Nat) (dyn : fsH) (x1 : Int64) : Int32 := (if (lg_cmp x1 (1000000000000000)) ≤ 0 then 0 else 1 : Int32)
set_option maxRecDepth 100000 in
set_option maxHeartbeats 4000000 in
theorem c_X7_isFault (G : fsG) (l : Launch) (ht : Nat) (I : Nat → Int32) (A : Nat → Nat → Int32) (J : Nat → Nat → Int64) (it : Nat → Option Nat) (dyn : fsH) (x1 : Int64) : fsFn G l mX7_isFault 0 0 0 [.inr (.inl x1)] (fs_mk ht I A J it dyn) (some (.inl (L_X7_isFault_r ht I A J it dyn x1))) (fs_mk ht I A J it dyn) := by
  refine fsMet_of (by decide) (Nat.le_of_ble_eq_true rfl) ?_
  generalize hQ : (fun (r1 : Option fsV) (h1 : fsH) => r1 = (some (.inl (L_X7_isFault_r ht I A J it dyn x1))) ∧ h1 = (fs_mk ht I A J it dyn)) = Q
  have hq : Q (some (.inl (L_X7_isFault_r ht I A J it dyn x1))) (fs_mk ht I A J it dyn) := by rw [← hQ]; exact ⟨rfl, rfl⟩
  clear hQ
  have hq : Q (some (.inl (if (lg_cmp x1 (1000000000000000)) ≤ 0 then 0 else 1 : Int32))) (fs_mk ht I A J it dyn) := hq
  refine (show fsW G l mX7_isFault 0 0 0 0 0 Q 0 [(0, .inr (.inl x1))] [] (fs_mk ht I A J it dyn) from ?_)
  refine fs_lload_n dX7_isFault_0 rfl rfl ?_
  refine fs_ldc2 (v := (1000000000000000)) dX7_isFault_1 sk_X7_130 ?_
  refine fs_lcmp dX7_isFault_4 ?_
  have key_13 : fsW G l mX7_isFault 0 0 0 0 0 Q 13 [(0, .inr (.inl x1))] [.inl (if (lg_cmp x1 (1000000000000000)) ≤ 0 then 0 else 1 : Int32)] (fs_mk ht I A J it dyn) := by
    have k9 := hq
    exact fs_iret dX7_isFault_13 rfl (by (repeat' split) <;> first | rfl) k9
  refine fs_if_le 12 dX7_isFault_5 (by decide) (fun c_5 : (lg_cmp x1 (1000000000000000)) ≤ 0 => ?_) (fun c_5 : ¬ ((lg_cmp x1 (1000000000000000)) ≤ 0) => ?_)
  · refine fs_iconst (v := 0) dX7_isFault_12 rfl ?_
    have k9 := key_13
    try simp only [if_pos c_5] at k9 ⊢
    exact k9
  · refine fs_iconst (v := 1) dX7_isFault_8 rfl ?_
    refine fs_goto 13 dX7_isFault_9 (by decide) ?_
    have k9 := key_13
    try simp only [if_neg c_5] at k9 ⊢
    exact k9
theorem nb_X7_isFault (ht : Nat) (I : Nat → Int32) (A : Nat → Nat → Int32) (J : Nat → Nat → Int64) (it : Nat → Option Nat) (dyn : fsH) (x1 : Int64) : narrow .boolean (.int (L_X7_isFault_r ht I A J it dyn x1)) = .int (L_X7_isFault_r ht I A J it dyn x1) := by
  unfold L_X7_isFault_r
  exact (by (repeat' split) <;> first | rfl)
def L_X7_cellOf_r (ht : Nat) (I : Nat → Int32) (A : Nat → Nat → Int32) (J : Nat → Nat → Int64) (it : Nat → Option Nat) (dyn : fsH) (x1 : Int32) (x2 : Int32) : Int32 := ((x1 * 4) + x2)
set_option maxRecDepth 100000 in
set_option maxHeartbeats 4000000 in
theorem c_X7_cellOf (G : fsG) (l : Launch) (ht : Nat) (I : Nat → Int32) (A : Nat → Nat → Int32) (J : Nat → Nat → Int64) (it : Nat → Option Nat) (dyn : fsH) (x1 : Int32) (x2 : Int32) : fsFn G l mX7_cellOf 0 0 0 [.inl x1, .inl x2] (fs_mk ht I A J it dyn) (some (.inl (L_X7_cellOf_r ht I A J it dyn x1 x2))) (fs_mk ht I A J it dyn) := by
  refine fsMet_of (by decide) (Nat.le_of_ble_eq_true rfl) ?_
  generalize hQ : (fun (r1 : Option fsV) (h1 : fsH) => r1 = (some (.inl (L_X7_cellOf_r ht I A J it dyn x1 x2))) ∧ h1 = (fs_mk ht I A J it dyn)) = Q
  have hq : Q (some (.inl (L_X7_cellOf_r ht I A J it dyn x1 x2))) (fs_mk ht I A J it dyn) := by rw [← hQ]; exact ⟨rfl, rfl⟩
  clear hQ
  have hq : Q (some (.inl ((x1 * 4) + x2))) (fs_mk ht I A J it dyn) := hq
  refine (show fsW G l mX7_cellOf 0 0 0 0 0 Q 0 [(0, .inl x1), (1, .inl x2)] [] (fs_mk ht I A J it dyn) from ?_)
  refine fs_iload_n dX7_cellOf_0 rfl rfl ?_
  refine fs_iconst (v := 4) dX7_cellOf_1 rfl ?_
  refine fs_imul dX7_cellOf_2 ?_
  refine fs_iload_n dX7_cellOf_3 rfl rfl ?_
  refine fs_iadd dX7_cellOf_4 ?_
  have k9 := hq
  exact fs_iret dX7_cellOf_5 rfl rfl k9
def L_X5_next_r (ht : Nat) (I : Nat → Int32) (A : Nat → Nat → Int32) (J : Nat → Nat → Int64) (it : Nat → Option Nat) (dyn : fsH)  : Int32 := (if (I 2) ≤ (I 3) then 0 else (A 2 (I 3).toNatClampNeg) : Int32)
def S_X5_next (ht : Nat) (I : Nat → Int32) (A : Nat → Nat → Int32) (J : Nat → Nat → Int64) (it : Nat → Option Nat) (dyn : fsH)  : Prop := ((¬ ((I 2) ≤ (I 3)) → (vp_in (I 3) 60)) ∧ (narrow .char (.int (if (I 2) ≤ (I 3) then 0 else (A 2 (I 3).toNatClampNeg) : Int32)) = .int (if (I 2) ≤ (I 3) then 0 else (A 2 (I 3).toNatClampNeg) : Int32)))
set_option maxRecDepth 100000 in
set_option maxHeartbeats 4000000 in
theorem c_X5_next (G : fsG) (l : Launch) (ht : Nat) (I : Nat → Int32) (A : Nat → Nat → Int32) (J : Nat → Nat → Int64) (it : Nat → Option Nat) (dyn : fsH)  (hS : S_X5_next ht I A J it dyn ) : fsFn G l mX5_next 0 0 0 [.inr (.inr (some 1))] (fs_mk ht I A J it dyn) (some (.inl (L_X5_next_r ht I A J it dyn ))) (fs_mk ht I A J it dyn) := by
  refine fsMet_of (by decide) (Nat.le_of_ble_eq_true rfl) ?_
  generalize hQ : (fun (r1 : Option fsV) (h1 : fsH) => r1 = (some (.inl (L_X5_next_r ht I A J it dyn ))) ∧ h1 = (fs_mk ht I A J it dyn)) = Q
  have hq : Q (some (.inl (L_X5_next_r ht I A J it dyn ))) (fs_mk ht I A J it dyn) := by rw [← hQ]; exact ⟨rfl, rfl⟩
  clear hQ
  have hq : Q (some (.inl (if (I 2) ≤ (I 3) then 0 else (A 2 (I 3).toNatClampNeg) : Int32))) (fs_mk ht I A J it dyn) := hq
  have hS : ((¬ ((I 2) ≤ (I 3)) → (vp_in (I 3) 60)) ∧ (narrow .char (.int (if (I 2) ≤ (I 3) then 0 else (A 2 (I 3).toNatClampNeg) : Int32)) = .int (if (I 2) ≤ (I 3) then 0 else (A 2 (I 3).toNatClampNeg) : Int32))) := hS
  refine (show fsW G l mX5_next 0 0 0 0 0 Q 0 [(0, .inr (.inr (some 1)))] [] (fs_mk ht I A J it dyn) from ?_)
  refine fs_aload_n dX5_next_0 rfl rfl ?_
  refine fs_getfield (v := .inl (I 3)) dX5_next_1 sf_X5_19 rfl rfl ?_
  refine fs_aload_n dX5_next_4 rfl rfl ?_
  refine fs_getfield (v := .inl (I 2)) dX5_next_5 sf_X5_15 rfl rfl ?_
  obtain ⟨hR_8, hS⟩ := hS
  have key_24 : fsW G l mX5_next 0 0 0 0 0 Q 24 [(0, .inr (.inr (some 1)))] [.inl (if (I 2) ≤ (I 3) then 0 else (A 2 (I 3).toNatClampNeg) : Int32)] (fs_mk ht I A J it dyn) := by
    have ho1 := hS
    have k9 := hq
    exact fs_iret dX5_next_24 rfl ho1 k9
  refine fs_icmp_ge 23 dX5_next_8 (by decide) (fun c_8 : (I 2) ≤ (I 3) => ?_) (fun c_8 : ¬ ((I 2) ≤ (I 3)) => ?_)
  · refine fs_iconst (v := 0) dX5_next_23 rfl ?_
    have k9 := key_24
    try simp only [if_pos c_8] at k9 ⊢
    exact k9
  · have hS := hR_8 c_8
    refine fs_aload_n dX5_next_11 rfl rfl ?_
    refine fs_getfield (v := .inr (.inr (some 2))) dX5_next_12 sf_X5_9 rfl rfl ?_
    refine fs_aload_n dX5_next_15 rfl rfl ?_
    refine fs_getfield (v := .inl (I 3)) dX5_next_16 sf_X5_19 rfl rfl ?_
    have ho1 := hS
    refine fs_caload dX5_next_19 rfl ho1 ?_
    refine fs_goto 24 dX5_next_20 (by decide) ?_
    have k9 := key_24
    try simp only [if_neg c_8] at k9 ⊢
    exact k9
def L_X5_skip_r (ht : Nat) (I : Nat → Int32) (A : Nat → Nat → Int32) (J : Nat → Nat → Int64) (it : Nat → Option Nat) (dyn : fsH) (x1 : Int32) : Int32 := (if (L_X5_next_r ht I A J it dyn) = x1 then 1 else 0)
def L_X5_skip_I (ht : Nat) (I : Nat → Int32) (A : Nat → Nat → Int32) (J : Nat → Nat → Int64) (it : Nat → Option Nat) (dyn : fsH) (x1 : Int32) : Nat → Int32 := (if (L_X5_next_r ht I A J it dyn) = x1 then (upd I 3 ((I 3) + 1)) else I)
def S_X5_skip (ht : Nat) (I : Nat → Int32) (A : Nat → Nat → Int32) (J : Nat → Nat → Int64) (it : Nat → Option Nat) (dyn : fsH) (x1 : Int32) : Prop := (S_X5_next ht I A J it dyn)
set_option maxRecDepth 100000 in
set_option maxHeartbeats 4000000 in
theorem c_X5_skip (G : fsG) (l : Launch) (ht : Nat) (I : Nat → Int32) (A : Nat → Nat → Int32) (J : Nat → Nat → Int64) (it : Nat → Option Nat) (dyn : fsH) (x1 : Int32) (hS : S_X5_skip ht I A J it dyn x1) : fsFn G l mX5_skip 1 0 0 [.inr (.inr (some 1)), .inl x1] (fs_mk ht I A J it dyn) (some (.inl (L_X5_skip_r ht I A J it dyn x1))) (fs_mk ht (L_X5_skip_I ht I A J it dyn x1) A J it dyn) := by
  refine fsMet_of (by decide) (Nat.le_of_ble_eq_true rfl) ?_
  generalize hQ : (fun (r1 : Option fsV) (h1 : fsH) => r1 = (some (.inl (L_X5_skip_r ht I A J it dyn x1))) ∧ h1 = (fs_mk ht (L_X5_skip_I ht I A J it dyn x1) A J it dyn)) = Q
  have hq : Q (some (.inl (L_X5_skip_r ht I A J it dyn x1))) (fs_mk ht (L_X5_skip_I ht I A J it dyn x1) A J it dyn) := by rw [← hQ]; exact ⟨rfl, rfl⟩
  clear hQ
  have hq : Q (some (.inl (if (L_X5_next_r ht I A J it dyn) = x1 then 1 else 0))) (fs_mk ht (if (L_X5_next_r ht I A J it dyn) = x1 then (upd I 3 ((I 3) + 1)) else I) A J it dyn) := hq
  have hS : (S_X5_next ht I A J it dyn) := hS
  refine (show fsW G l mX5_skip 1 0 0 0 0 Q 0 [(0, .inr (.inr (some 1))), (1, .inl x1)] [] (fs_mk ht I A J it dyn) from ?_)
  refine fs_aload_n dX5_skip_0 rfl rfl ?_
  have ho1 := hS
  refine fs_callV1 dX5_skip_1 sv_X5_26 rfl ⟨_, rfl, rfl⟩ (c_X5_next G l ht I A J it dyn ho1) rfl rfl (Nat.le_of_ble_eq_true rfl) (Nat.le_of_ble_eq_true rfl) (Nat.le_of_ble_eq_true rfl) (Nat.le_of_ble_eq_true rfl) ?_
  refine fs_iload_n dX5_skip_4 rfl rfl ?_
  refine fs_icmp_eq 10 dX5_skip_5 (by decide) (fun c_5 : (L_X5_next_r ht I A J it dyn) = x1 => ?_) (fun c_5 : ¬ ((L_X5_next_r ht I A J it dyn) = x1) => ?_)
  · refine fs_aload_n dX5_skip_10 rfl rfl ?_
    refine fs_dup dX5_skip_11 rfl ?_
    refine fs_getfield (v := .inl (I 3)) dX5_skip_12 sf_X5_19 rfl rfl ?_
    refine fs_iconst (v := 1) dX5_skip_15 rfl ?_
    refine fs_iadd dX5_skip_16 ?_
    refine fsp_3 dX5_skip_17 sp_X5_19 ?_
    refine fs_iconst (v := 1) dX5_skip_20 rfl ?_
    have k9 := hq
    try simp only [if_pos c_5] at k9 ⊢
    exact fs_iret dX5_skip_21 rfl rfl k9
  · refine fs_iconst (v := 0) dX5_skip_8 rfl ?_
    have k9 := hq
    try simp only [if_neg c_5] at k9 ⊢
    exact fs_iret dX5_skip_9 rfl rfl k9
theorem nb_X5_skip (ht : Nat) (I : Nat → Int32) (A : Nat → Nat → Int32) (J : Nat → Nat → Int64) (it : Nat → Option Nat) (dyn : fsH) (x1 : Int32) : narrow .boolean (.int (L_X5_skip_r ht I A J it dyn x1)) = .int (L_X5_skip_r ht I A J it dyn x1) := by
  unfold L_X5_skip_r
  exact (by (repeat' split) <;> first | rfl)
def L_X5_reached_r (ht : Nat) (I : Nat → Int32) (A : Nat → Nat → Int32) (J : Nat → Nat → Int64) (it : Nat → Option Nat) (dyn : fsH)  : Int32 := (I 3)
set_option maxRecDepth 100000 in
set_option maxHeartbeats 4000000 in
theorem c_X5_reached (G : fsG) (l : Launch) (ht : Nat) (I : Nat → Int32) (A : Nat → Nat → Int32) (J : Nat → Nat → Int64) (it : Nat → Option Nat) (dyn : fsH)  : fsFn G l mX5_reached 0 0 0 [.inr (.inr (some 1))] (fs_mk ht I A J it dyn) (some (.inl (L_X5_reached_r ht I A J it dyn ))) (fs_mk ht I A J it dyn) := by
  refine fsMet_of (by decide) (Nat.le_of_ble_eq_true rfl) ?_
  generalize hQ : (fun (r1 : Option fsV) (h1 : fsH) => r1 = (some (.inl (L_X5_reached_r ht I A J it dyn ))) ∧ h1 = (fs_mk ht I A J it dyn)) = Q
  have hq : Q (some (.inl (L_X5_reached_r ht I A J it dyn ))) (fs_mk ht I A J it dyn) := by rw [← hQ]; exact ⟨rfl, rfl⟩
  clear hQ
  have hq : Q (some (.inl (I 3))) (fs_mk ht I A J it dyn) := hq
  refine (show fsW G l mX5_reached 0 0 0 0 0 Q 0 [(0, .inr (.inr (some 1)))] [] (fs_mk ht I A J it dyn) from ?_)
  refine fs_aload_n dX5_reached_0 rfl rfl ?_
  refine fs_getfield (v := .inl (I 3)) dX5_reached_1 sf_X5_19 rfl rfl ?_
  have k9 := hq
  exact fs_iret dX5_reached_4 rfl rfl k9
def L_X5_codeIn_r (ht : Nat) (I : Nat → Int32) (A : Nat → Nat → Int32) (J : Nat → Nat → Int64) (it : Nat → Option Nat) (dyn : fsH) (x1 : Int64) (x2 : Int32) : Int32 := ((x1.toUInt64 >>> (x2.toInt64.toUInt64 &&& Int64.toUInt64 63)).toInt64 &&& (255)).toInt32
set_option maxRecDepth 100000 in
set_option maxHeartbeats 4000000 in
theorem c_X5_codeIn (G : fsG) (l : Launch) (ht : Nat) (I : Nat → Int32) (A : Nat → Nat → Int32) (J : Nat → Nat → Int64) (it : Nat → Option Nat) (dyn : fsH) (x1 : Int64) (x2 : Int32) : fsFn G l mX5_codeIn 0 0 0 [.inr (.inl x1), .inl x2] (fs_mk ht I A J it dyn) (some (.inl (L_X5_codeIn_r ht I A J it dyn x1 x2))) (fs_mk ht I A J it dyn) := by
  refine fsMet_of (by decide) (Nat.le_of_ble_eq_true rfl) ?_
  generalize hQ : (fun (r1 : Option fsV) (h1 : fsH) => r1 = (some (.inl (L_X5_codeIn_r ht I A J it dyn x1 x2))) ∧ h1 = (fs_mk ht I A J it dyn)) = Q
  have hq : Q (some (.inl (L_X5_codeIn_r ht I A J it dyn x1 x2))) (fs_mk ht I A J it dyn) := by rw [← hQ]; exact ⟨rfl, rfl⟩
  clear hQ
  have hq : Q (some (.inl (((x1.toUInt64 >>> (x2.toInt64.toUInt64 &&& Int64.toUInt64 63)).toInt64 &&& (255)).toInt32))) (fs_mk ht I A J it dyn) := hq
  refine (show fsW G l mX5_codeIn 0 0 0 0 0 Q 0 [(0, .inr (.inl x1)), (2, .inl x2)] [] (fs_mk ht I A J it dyn) from ?_)
  refine fs_lload_n dX5_codeIn_0 rfl rfl ?_
  refine fs_iload_n dX5_codeIn_1 rfl rfl ?_
  refine fs_lushr dX5_codeIn_2 ?_
  refine fs_ldc2 (v := (255)) dX5_codeIn_3 sk_X5_47 ?_
  refine fs_land dX5_codeIn_6 ?_
  refine fs_l2i dX5_codeIn_7 ?_
  have k9 := hq
  exact fs_iret dX5_codeIn_8 rfl rfl k9
def L_X5_isSign_r (ht : Nat) (I : Nat → Int32) (A : Nat → Nat → Int32) (J : Nat → Nat → Int64) (it : Nat → Option Nat) (dyn : fsH) (x1 : Int32) : Int32 := (if x1 = 43 then 1 else (if x1 = 45 then 1 else (if x1 = 42 then 1 else (if x1 = 47 then 1 else (if x1 = 60 then 1 else (if x1 = 61 then 1 else (if x1 = 63 then 1 else 0 : Int32) : Int32) : Int32) : Int32) : Int32) : Int32) : Int32)
set_option maxRecDepth 100000 in
set_option maxHeartbeats 4000000 in
theorem c_X5_isSign (G : fsG) (l : Launch) (ht : Nat) (I : Nat → Int32) (A : Nat → Nat → Int32) (J : Nat → Nat → Int64) (it : Nat → Option Nat) (dyn : fsH) (x1 : Int32) : fsFn G l mX5_isSign 0 0 0 [.inl x1] (fs_mk ht I A J it dyn) (some (.inl (L_X5_isSign_r ht I A J it dyn x1))) (fs_mk ht I A J it dyn) := by
  refine fsMet_of (by decide) (Nat.le_of_ble_eq_true rfl) ?_
  generalize hQ : (fun (r1 : Option fsV) (h1 : fsH) => r1 = (some (.inl (L_X5_isSign_r ht I A J it dyn x1))) ∧ h1 = (fs_mk ht I A J it dyn)) = Q
  have hq : Q (some (.inl (L_X5_isSign_r ht I A J it dyn x1))) (fs_mk ht I A J it dyn) := by rw [← hQ]; exact ⟨rfl, rfl⟩
  clear hQ
  have hq : Q (some (.inl (if x1 = 43 then 1 else (if x1 = 45 then 1 else (if x1 = 42 then 1 else (if x1 = 47 then 1 else (if x1 = 60 then 1 else (if x1 = 61 then 1 else (if x1 = 63 then 1 else 0 : Int32) : Int32) : Int32) : Int32) : Int32) : Int32) : Int32))) (fs_mk ht I A J it dyn) := hq
  refine (show fsW G l mX5_isSign 0 0 0 0 0 Q 0 [(0, .inl x1)] [] (fs_mk ht I A J it dyn) from ?_)
  refine fs_iload_n dX5_isSign_0 rfl rfl ?_
  refine fs_bipush (v := 43) dX5_isSign_1 rfl ?_
  have key_47 : fsW G l mX5_isSign 0 0 0 0 0 Q 47 [(0, .inl x1)] [.inl (if x1 = 43 then 1 else (if x1 = 45 then 1 else (if x1 = 42 then 1 else (if x1 = 47 then 1 else (if x1 = 60 then 1 else (if x1 = 61 then 1 else (if x1 = 63 then 1 else 0 : Int32) : Int32) : Int32) : Int32) : Int32) : Int32) : Int32)] (fs_mk ht I A J it dyn) := by
    have k9 := hq
    exact fs_iret dX5_isSign_47 rfl (by (repeat' split) <;> first | rfl) k9
  refine fs_icmp_eq 42 dX5_isSign_3 (by decide) (fun c_3 : x1 = 43 => ?_) (fun c_3 : ¬ (x1 = 43) => ?_)
  · refine fs_iconst (v := 1) dX5_isSign_42 rfl ?_
    refine fs_goto 47 dX5_isSign_43 (by decide) ?_
    have k9 := key_47
    try simp only [if_pos c_3] at k9 ⊢
    exact k9
  · refine fs_iload_n dX5_isSign_6 rfl rfl ?_
    refine fs_bipush (v := 45) dX5_isSign_7 rfl ?_
    refine fs_icmp_eq 42 dX5_isSign_9 (by decide) (fun c_9 : x1 = 45 => ?_) (fun c_9 : ¬ (x1 = 45) => ?_)
    · refine fs_iconst (v := 1) dX5_isSign_42 rfl ?_
      refine fs_goto 47 dX5_isSign_43 (by decide) ?_
      have k9 := key_47
      try simp only [if_neg c_3, if_pos c_9] at k9 ⊢
      exact k9
    · refine fs_iload_n dX5_isSign_12 rfl rfl ?_
      refine fs_bipush (v := 42) dX5_isSign_13 rfl ?_
      refine fs_icmp_eq 42 dX5_isSign_15 (by decide) (fun c_15 : x1 = 42 => ?_) (fun c_15 : ¬ (x1 = 42) => ?_)
      · refine fs_iconst (v := 1) dX5_isSign_42 rfl ?_
        refine fs_goto 47 dX5_isSign_43 (by decide) ?_
        have k9 := key_47
        try simp only [if_neg c_3, if_neg c_9, if_pos c_15] at k9 ⊢
        exact k9
      · refine fs_iload_n dX5_isSign_18 rfl rfl ?_
        refine fs_bipush (v := 47) dX5_isSign_19 rfl ?_
        refine fs_icmp_eq 42 dX5_isSign_21 (by decide) (fun c_21 : x1 = 47 => ?_) (fun c_21 : ¬ (x1 = 47) => ?_)
        · refine fs_iconst (v := 1) dX5_isSign_42 rfl ?_
          refine fs_goto 47 dX5_isSign_43 (by decide) ?_
          have k9 := key_47
          try simp only [if_neg c_3, if_neg c_9, if_neg c_15, if_pos c_21] at k9 ⊢
          exact k9
        · refine fs_iload_n dX5_isSign_24 rfl rfl ?_
          refine fs_bipush (v := 60) dX5_isSign_25 rfl ?_
          refine fs_icmp_eq 42 dX5_isSign_27 (by decide) (fun c_27 : x1 = 60 => ?_) (fun c_27 : ¬ (x1 = 60) => ?_)
          · refine fs_iconst (v := 1) dX5_isSign_42 rfl ?_
            refine fs_goto 47 dX5_isSign_43 (by decide) ?_
            have k9 := key_47
            try simp only [if_neg c_3, if_neg c_9, if_neg c_15, if_neg c_21, if_pos c_27] at k9 ⊢
            exact k9
          · refine fs_iload_n dX5_isSign_30 rfl rfl ?_
            refine fs_bipush (v := 61) dX5_isSign_31 rfl ?_
            refine fs_icmp_eq 42 dX5_isSign_33 (by decide) (fun c_33 : x1 = 61 => ?_) (fun c_33 : ¬ (x1 = 61) => ?_)
            · refine fs_iconst (v := 1) dX5_isSign_42 rfl ?_
              refine fs_goto 47 dX5_isSign_43 (by decide) ?_
              have k9 := key_47
              try simp only [if_neg c_3, if_neg c_9, if_neg c_15, if_neg c_21, if_neg c_27, if_pos c_33] at k9 ⊢
              exact k9
            · refine fs_iload_n dX5_isSign_36 rfl rfl ?_
              refine fs_bipush (v := 63) dX5_isSign_37 rfl ?_
              refine fs_icmp_ne 46 dX5_isSign_39 (by decide) (fun c_39 : ¬ x1 = 63 => ?_) (fun c_39 : x1 = 63 => ?_)
              · refine fs_iconst (v := 0) dX5_isSign_46 rfl ?_
                have k9 := key_47
                try simp only [if_neg c_3, if_neg c_9, if_neg c_15, if_neg c_21, if_neg c_27, if_neg c_33, if_neg c_39] at k9 ⊢
                exact k9
              · refine fs_iconst (v := 1) dX5_isSign_42 rfl ?_
                refine fs_goto 47 dX5_isSign_43 (by decide) ?_
                have k9 := key_47
                try simp only [if_neg c_3, if_neg c_9, if_neg c_15, if_neg c_21, if_neg c_27, if_neg c_33, if_pos c_39] at k9 ⊢
                exact k9
theorem nb_X5_isSign (ht : Nat) (I : Nat → Int32) (A : Nat → Nat → Int32) (J : Nat → Nat → Int64) (it : Nat → Option Nat) (dyn : fsH) (x1 : Int32) : narrow .boolean (.int (L_X5_isSign_r ht I A J it dyn x1)) = .int (L_X5_isSign_r ht I A J it dyn x1) := by
  unfold L_X5_isSign_r
  exact (by (repeat' split) <;> first | rfl)
def Lb_X5_nameCode_4_I : Nat → Nat → (Nat → Int32) → (Nat → Nat → Int32) → (Nat → Nat → Int64) → (Nat → Option Nat) → fsH → Int32 → Int32 → (Nat → Int32)
  | 0, ht, I, A, J, it, dyn, v1, v2 => I
  | n + 1, ht, I, A, J, it, dyn, v1, v2 => (if 2 ≤ v2 then I else (if (L_X7_isLetter_r ht I A J it dyn (L_X5_next_r ht I A J it dyn)) = 0 then I else (Lb_X5_nameCode_4_I n ht (upd I 3 ((I 3) + 1)) A J it dyn ((128 * v1) + (L_X5_next_r ht I A J it dyn)) (v2 + 1))))
def Lb_X5_nameCode_4_v1 : Nat → Nat → (Nat → Int32) → (Nat → Nat → Int32) → (Nat → Nat → Int64) → (Nat → Option Nat) → fsH → Int32 → Int32 → Int32
  | 0, ht, I, A, J, it, dyn, v1, v2 => v1
  | n + 1, ht, I, A, J, it, dyn, v1, v2 => (if 2 ≤ v2 then v1 else (if (L_X7_isLetter_r ht I A J it dyn (L_X5_next_r ht I A J it dyn)) = 0 then v1 else (Lb_X5_nameCode_4_v1 n ht (upd I 3 ((I 3) + 1)) A J it dyn ((128 * v1) + (L_X5_next_r ht I A J it dyn)) (v2 + 1))))
def Lb_X5_nameCode_4_v2 : Nat → Nat → (Nat → Int32) → (Nat → Nat → Int32) → (Nat → Nat → Int64) → (Nat → Option Nat) → fsH → Int32 → Int32 → Int32
  | 0, ht, I, A, J, it, dyn, v1, v2 => v2
  | n + 1, ht, I, A, J, it, dyn, v1, v2 => (if 2 ≤ v2 then v2 else (if (L_X7_isLetter_r ht I A J it dyn (L_X5_next_r ht I A J it dyn)) = 0 then v2 else (Lb_X5_nameCode_4_v2 n ht (upd I 3 ((I 3) + 1)) A J it dyn ((128 * v1) + (L_X5_next_r ht I A J it dyn)) (v2 + 1))))
def S_Lb_X5_nameCode_4 : Nat → Nat → (Nat → Int32) → (Nat → Nat → Int32) → (Nat → Nat → Int64) → (Nat → Option Nat) → fsH → Int32 → Int32 → Prop
  | 0, _, _, _, _, _, _, _, _ => False
  | n + 1, ht, I, A, J, it, dyn, v1, v2 => (¬ (2 ≤ v2) → ((S_X5_next ht I A J it dyn) ∧ (¬ ((L_X7_isLetter_r ht I A J it dyn (L_X5_next_r ht I A J it dyn)) = 0) → ((S_X5_next ht I A J it dyn) ∧ (S_Lb_X5_nameCode_4 n ht (upd I 3 ((I 3) + 1)) A J it dyn ((128 * v1) + (L_X5_next_r ht I A J it dyn)) (v2 + 1))))))
set_option maxRecDepth 100000 in
set_option maxHeartbeats 4000000 in
theorem lp_Lb_X5_nameCode_4 (G : fsG) (l : Launch) (Q : Option fsV → fsH → Prop) : ∀ (n : Nat) (ht : Nat) (I : Nat → Int32) (A : Nat → Nat → Int32) (J : Nat → Nat → Int64) (it : Nat → Option Nat) (dyn : fsH) (v1 : Int32) (v2 : Int32), S_Lb_X5_nameCode_4 n ht I A J it dyn v1 v2 → (fsW G l mX5_nameCode 1 0 0 0 0 Q 46 [(0, .inr (.inr (some 1))), (1, .inl (Lb_X5_nameCode_4_v1 n ht I A J it dyn v1 v2)), (2, .inl (Lb_X5_nameCode_4_v2 n ht I A J it dyn v1 v2))] [] (fs_mk ht (Lb_X5_nameCode_4_I n ht I A J it dyn v1 v2) A J it dyn)) → fsW G l mX5_nameCode 1 0 0 0 0 Q 4 [(0, .inr (.inr (some 1))), (1, .inl v1), (2, .inl v2)] [] (fs_mk ht I A J it dyn) := by
  intro n
  induction n with
  | zero =>
    intro ht I A J it dyn v1 v2 hS
    exact hS.elim
  | succ n ih =>
    intro ht I A J it dyn v1 v2 hS hq
    have hS : (¬ (2 ≤ v2) → ((S_X5_next ht I A J it dyn) ∧ (¬ ((L_X7_isLetter_r ht I A J it dyn (L_X5_next_r ht I A J it dyn)) = 0) → ((S_X5_next ht I A J it dyn) ∧ (S_Lb_X5_nameCode_4 n ht (upd I 3 ((I 3) + 1)) A J it dyn ((128 * v1) + (L_X5_next_r ht I A J it dyn)) (v2 + 1)))))) := hS
    have hq : fsW G l mX5_nameCode 1 0 0 0 0 Q 46 [(0, .inr (.inr (some 1))), (1, .inl (if 2 ≤ v2 then v1 else (if (L_X7_isLetter_r ht I A J it dyn (L_X5_next_r ht I A J it dyn)) = 0 then v1 else (Lb_X5_nameCode_4_v1 n ht (upd I 3 ((I 3) + 1)) A J it dyn ((128 * v1) + (L_X5_next_r ht I A J it dyn)) (v2 + 1))))), (2, .inl (if 2 ≤ v2 then v2 else (if (L_X7_isLetter_r ht I A J it dyn (L_X5_next_r ht I A J it dyn)) = 0 then v2 else (Lb_X5_nameCode_4_v2 n ht (upd I 3 ((I 3) + 1)) A J it dyn ((128 * v1) + (L_X5_next_r ht I A J it dyn)) (v2 + 1)))))] [] (fs_mk ht (if 2 ≤ v2 then I else (if (L_X7_isLetter_r ht I A J it dyn (L_X5_next_r ht I A J it dyn)) = 0 then I else (Lb_X5_nameCode_4_I n ht (upd I 3 ((I 3) + 1)) A J it dyn ((128 * v1) + (L_X5_next_r ht I A J it dyn)) (v2 + 1)))) A J it dyn) := hq
    refine fs_iload_n dX5_nameCode_4 rfl rfl ?_
    refine fs_iconst (v := 2) dX5_nameCode_5 rfl ?_
    refine fs_icmp_ge 46 dX5_nameCode_6 (by decide) (fun c_6 : 2 ≤ v2 => ?_) (fun c_6 : ¬ (2 ≤ v2) => ?_)
    · have k9 := hq
      try simp only [if_pos c_6] at k9 ⊢
      exact k9
    · have hS := hS c_6
      refine fs_aload_n dX5_nameCode_9 rfl rfl ?_
      obtain ⟨ho1, hS⟩ := hS
      refine fs_callV1 dX5_nameCode_10 sv_X5_26 rfl ⟨_, rfl, rfl⟩ (c_X5_next G l ht I A J it dyn ho1) rfl rfl (Nat.le_of_ble_eq_true rfl) (Nat.le_of_ble_eq_true rfl) (Nat.le_of_ble_eq_true rfl) (Nat.le_of_ble_eq_true rfl) ?_
      refine fs_callSN1 dX5_nameCode_13 sv_X5_30 (c_X7_isLetter G l ht I A J it dyn (L_X5_next_r ht I A J it dyn)) rfl rfl (Nat.le_of_ble_eq_true rfl) (Nat.le_of_ble_eq_true rfl) (Nat.le_of_ble_eq_true rfl) (Nat.le_of_ble_eq_true rfl) ?_
      refine fs_if_eq 46 dX5_nameCode_16 (by decide) (fun c_16 : (L_X7_isLetter_r ht I A J it dyn (L_X5_next_r ht I A J it dyn)) = 0 => ?_) (fun c_16 : ¬ ((L_X7_isLetter_r ht I A J it dyn (L_X5_next_r ht I A J it dyn)) = 0) => ?_)
      · have k9 := hq
        try simp only [if_neg c_6, if_pos c_16] at k9 ⊢
        exact k9
      · have hS := hS c_16
        refine fs_sipush (v := 128) dX5_nameCode_19 rfl ?_
        refine fs_iload_n dX5_nameCode_22 rfl rfl ?_
        refine fs_imul dX5_nameCode_23 ?_
        refine fs_aload_n dX5_nameCode_24 rfl rfl ?_
        obtain ⟨ho1, hS⟩ := hS
        refine fs_callV1 dX5_nameCode_25 sv_X5_26 rfl ⟨_, rfl, rfl⟩ (c_X5_next G l ht I A J it dyn ho1) rfl rfl (Nat.le_of_ble_eq_true rfl) (Nat.le_of_ble_eq_true rfl) (Nat.le_of_ble_eq_true rfl) (Nat.le_of_ble_eq_true rfl) ?_
        refine fs_iadd dX5_nameCode_28 ?_
        refine fs_istore_n (L' := [(1, .inl ((128 * v1) + (L_X5_next_r ht I A J it dyn))), (0, .inr (.inr (some 1))), (2, .inl v2)]) dX5_nameCode_29 rfl (by decide) rfl ?_
        refine fs_aload_n dX5_nameCode_30 rfl rfl ?_
        refine fs_dup dX5_nameCode_31 rfl ?_
        refine fs_getfield (v := .inl (I 3)) dX5_nameCode_32 sf_X5_19 rfl rfl ?_
        refine fs_iconst (v := 1) dX5_nameCode_35 rfl ?_
        refine fs_iadd dX5_nameCode_36 ?_
        refine fsp_3 dX5_nameCode_37 sp_X5_19 ?_
        refine fs_iinc (v := (v2 + 1)) (L' := [(2, .inl (v2 + 1)), (1, .inl ((128 * v1) + (L_X5_next_r ht I A J it dyn))), (0, .inr (.inr (some 1)))]) dX5_nameCode_40 rfl rfl (by decide) rfl ?_
        refine fs_goto 4 dX5_nameCode_43 (by decide) ?_
        refine fs_reL [2, 1, 0] rfl ?_
        have k9 := hq
        try simp only [if_neg c_6, if_neg c_16] at hS k9 ⊢
        exact ih _ _ _ _ _ _ _ _ hS k9
def L_X5_nameCode_r (ht : Nat) (I : Nat → Int32) (A : Nat → Nat → Int32) (J : Nat → Nat → Int64) (it : Nat → Option Nat) (dyn : fsH)  : Int32 := (Lb_X5_nameCode_4_v1 70 ht I A J it dyn 0 0)
def L_X5_nameCode_I (ht : Nat) (I : Nat → Int32) (A : Nat → Nat → Int32) (J : Nat → Nat → Int64) (it : Nat → Option Nat) (dyn : fsH)  : Nat → Int32 := (Lb_X5_nameCode_4_I 70 ht I A J it dyn 0 0)
def S_X5_nameCode (ht : Nat) (I : Nat → Int32) (A : Nat → Nat → Int32) (J : Nat → Nat → Int64) (it : Nat → Option Nat) (dyn : fsH)  : Prop := (S_Lb_X5_nameCode_4 70 ht I A J it dyn 0 0)
set_option maxRecDepth 100000 in
set_option maxHeartbeats 4000000 in
theorem c_X5_nameCode (G : fsG) (l : Launch) (ht : Nat) (I : Nat → Int32) (A : Nat → Nat → Int32) (J : Nat → Nat → Int64) (it : Nat → Option Nat) (dyn : fsH)  (hS : S_X5_nameCode ht I A J it dyn ) : fsFn G l mX5_nameCode 1 0 0 [.inr (.inr (some 1))] (fs_mk ht I A J it dyn) (some (.inl (L_X5_nameCode_r ht I A J it dyn ))) (fs_mk ht (L_X5_nameCode_I ht I A J it dyn ) A J it dyn) := by
  refine fsMet_of (by decide) (Nat.le_of_ble_eq_true rfl) ?_
  generalize hQ : (fun (r1 : Option fsV) (h1 : fsH) => r1 = (some (.inl (L_X5_nameCode_r ht I A J it dyn ))) ∧ h1 = (fs_mk ht (L_X5_nameCode_I ht I A J it dyn ) A J it dyn)) = Q
  have hq : Q (some (.inl (L_X5_nameCode_r ht I A J it dyn ))) (fs_mk ht (L_X5_nameCode_I ht I A J it dyn ) A J it dyn) := by rw [← hQ]; exact ⟨rfl, rfl⟩
  clear hQ
  have hq : Q (some (.inl (Lb_X5_nameCode_4_v1 70 ht I A J it dyn 0 0))) (fs_mk ht (Lb_X5_nameCode_4_I 70 ht I A J it dyn 0 0) A J it dyn) := hq
  have hS : (S_Lb_X5_nameCode_4 70 ht I A J it dyn 0 0) := hS
  refine (show fsW G l mX5_nameCode 1 0 0 0 0 Q 0 [(0, .inr (.inr (some 1)))] [] (fs_mk ht I A J it dyn) from ?_)
  refine fs_iconst (v := 0) dX5_nameCode_0 rfl ?_
  refine fs_istore_n (L' := [(1, .inl 0), (0, .inr (.inr (some 1)))]) dX5_nameCode_1 rfl (by decide) rfl ?_
  refine fs_iconst (v := 0) dX5_nameCode_2 rfl ?_
  refine fs_istore_n (L' := [(2, .inl 0), (1, .inl 0), (0, .inr (.inr (some 1)))]) dX5_nameCode_3 rfl (by decide) rfl ?_
  refine fs_reL [2, 1, 0] rfl ?_
  have ho1 := hS
  refine lp_Lb_X5_nameCode_4 G l Q 70 ht I A J it dyn 0 0 ho1 ?_
  refine fs_iload_n dX5_nameCode_46 rfl rfl ?_
  have k9 := hq
  exact fs_iret dX5_nameCode_47 rfl rfl k9
def Lb_X5_digits_5_I : Nat → Nat → (Nat → Int32) → (Nat → Nat → Int32) → (Nat → Nat → Int64) → (Nat → Option Nat) → fsH → Int32 → Int64 → Int32 → (Nat → Int32)
  | 0, ht, I, A, J, it, dyn, v1, v2, v4 => I
  | n + 1, ht, I, A, J, it, dyn, v1, v2, v4 => (if v1 ≤ v4 then I else (if (L_X7_isDigit_r ht I A J it dyn (L_X5_next_r ht I A J it dyn)) = 0 then I else (Lb_X5_digits_5_I n ht (upd I 3 ((I 3) + 1)) A J it dyn v1 (((10) * v2) + ((L_X5_next_r ht I A J it dyn) - 48).toInt64) (v4 + 1))))
def Lb_X5_digits_5_v2 : Nat → Nat → (Nat → Int32) → (Nat → Nat → Int32) → (Nat → Nat → Int64) → (Nat → Option Nat) → fsH → Int32 → Int64 → Int32 → Int64
  | 0, ht, I, A, J, it, dyn, v1, v2, v4 => v2
  | n + 1, ht, I, A, J, it, dyn, v1, v2, v4 => (if v1 ≤ v4 then v2 else (if (L_X7_isDigit_r ht I A J it dyn (L_X5_next_r ht I A J it dyn)) = 0 then v2 else (Lb_X5_digits_5_v2 n ht (upd I 3 ((I 3) + 1)) A J it dyn v1 (((10) * v2) + ((L_X5_next_r ht I A J it dyn) - 48).toInt64) (v4 + 1))))
def Lb_X5_digits_5_v4 : Nat → Nat → (Nat → Int32) → (Nat → Nat → Int32) → (Nat → Nat → Int64) → (Nat → Option Nat) → fsH → Int32 → Int64 → Int32 → Int32
  | 0, ht, I, A, J, it, dyn, v1, v2, v4 => v4
  | n + 1, ht, I, A, J, it, dyn, v1, v2, v4 => (if v1 ≤ v4 then v4 else (if (L_X7_isDigit_r ht I A J it dyn (L_X5_next_r ht I A J it dyn)) = 0 then v4 else (Lb_X5_digits_5_v4 n ht (upd I 3 ((I 3) + 1)) A J it dyn v1 (((10) * v2) + ((L_X5_next_r ht I A J it dyn) - 48).toInt64) (v4 + 1))))
def S_Lb_X5_digits_5 : Nat → Nat → (Nat → Int32) → (Nat → Nat → Int32) → (Nat → Nat → Int64) → (Nat → Option Nat) → fsH → Int32 → Int64 → Int32 → Prop
  | 0, _, _, _, _, _, _, _, _, _ => False
  | n + 1, ht, I, A, J, it, dyn, v1, v2, v4 => (¬ (v1 ≤ v4) → ((S_X5_next ht I A J it dyn) ∧ (¬ ((L_X7_isDigit_r ht I A J it dyn (L_X5_next_r ht I A J it dyn)) = 0) → ((S_X5_next ht I A J it dyn) ∧ (S_Lb_X5_digits_5 n ht (upd I 3 ((I 3) + 1)) A J it dyn v1 (((10) * v2) + ((L_X5_next_r ht I A J it dyn) - 48).toInt64) (v4 + 1))))))
set_option maxRecDepth 100000 in
set_option maxHeartbeats 4000000 in
theorem lp_Lb_X5_digits_5 (G : fsG) (l : Launch) (Q : Option fsV → fsH → Prop) : ∀ (n : Nat) (ht : Nat) (I : Nat → Int32) (A : Nat → Nat → Int32) (J : Nat → Nat → Int64) (it : Nat → Option Nat) (dyn : fsH) (v1 : Int32) (v2 : Int64) (v4 : Int32), S_Lb_X5_digits_5 n ht I A J it dyn v1 v2 v4 → (fsW G l mX5_digits 1 0 0 0 0 Q 52 [(0, .inr (.inr (some 1))), (1, .inl v1), (2, .inr (.inl (Lb_X5_digits_5_v2 n ht I A J it dyn v1 v2 v4))), (4, .inl (Lb_X5_digits_5_v4 n ht I A J it dyn v1 v2 v4))] [] (fs_mk ht (Lb_X5_digits_5_I n ht I A J it dyn v1 v2 v4) A J it dyn)) → fsW G l mX5_digits 1 0 0 0 0 Q 5 [(0, .inr (.inr (some 1))), (1, .inl v1), (2, .inr (.inl v2)), (4, .inl v4)] [] (fs_mk ht I A J it dyn) := by
  intro n
  induction n with
  | zero =>
    intro ht I A J it dyn v1 v2 v4 hS
    exact hS.elim
  | succ n ih =>
    intro ht I A J it dyn v1 v2 v4 hS hq
    have hS : (¬ (v1 ≤ v4) → ((S_X5_next ht I A J it dyn) ∧ (¬ ((L_X7_isDigit_r ht I A J it dyn (L_X5_next_r ht I A J it dyn)) = 0) → ((S_X5_next ht I A J it dyn) ∧ (S_Lb_X5_digits_5 n ht (upd I 3 ((I 3) + 1)) A J it dyn v1 (((10) * v2) + ((L_X5_next_r ht I A J it dyn) - 48).toInt64) (v4 + 1)))))) := hS
    have hq : fsW G l mX5_digits 1 0 0 0 0 Q 52 [(0, .inr (.inr (some 1))), (1, .inl v1), (2, .inr (.inl (if v1 ≤ v4 then v2 else (if (L_X7_isDigit_r ht I A J it dyn (L_X5_next_r ht I A J it dyn)) = 0 then v2 else (Lb_X5_digits_5_v2 n ht (upd I 3 ((I 3) + 1)) A J it dyn v1 (((10) * v2) + ((L_X5_next_r ht I A J it dyn) - 48).toInt64) (v4 + 1)))))), (4, .inl (if v1 ≤ v4 then v4 else (if (L_X7_isDigit_r ht I A J it dyn (L_X5_next_r ht I A J it dyn)) = 0 then v4 else (Lb_X5_digits_5_v4 n ht (upd I 3 ((I 3) + 1)) A J it dyn v1 (((10) * v2) + ((L_X5_next_r ht I A J it dyn) - 48).toInt64) (v4 + 1)))))] [] (fs_mk ht (if v1 ≤ v4 then I else (if (L_X7_isDigit_r ht I A J it dyn (L_X5_next_r ht I A J it dyn)) = 0 then I else (Lb_X5_digits_5_I n ht (upd I 3 ((I 3) + 1)) A J it dyn v1 (((10) * v2) + ((L_X5_next_r ht I A J it dyn) - 48).toInt64) (v4 + 1)))) A J it dyn) := hq
    refine fs_iload dX5_digits_5 rfl ?_
    refine fs_iload_n dX5_digits_7 rfl rfl ?_
    refine fs_icmp_ge 52 dX5_digits_8 (by decide) (fun c_8 : v1 ≤ v4 => ?_) (fun c_8 : ¬ (v1 ≤ v4) => ?_)
    · have k9 := hq
      try simp only [if_pos c_8] at k9 ⊢
      exact k9
    · have hS := hS c_8
      refine fs_aload_n dX5_digits_11 rfl rfl ?_
      obtain ⟨ho1, hS⟩ := hS
      refine fs_callV1 dX5_digits_12 sv_X5_26 rfl ⟨_, rfl, rfl⟩ (c_X5_next G l ht I A J it dyn ho1) rfl rfl (Nat.le_of_ble_eq_true rfl) (Nat.le_of_ble_eq_true rfl) (Nat.le_of_ble_eq_true rfl) (Nat.le_of_ble_eq_true rfl) ?_
      refine fs_callSN1 dX5_digits_15 sv_X5_68 (c_X7_isDigit G l ht I A J it dyn (L_X5_next_r ht I A J it dyn)) rfl rfl (Nat.le_of_ble_eq_true rfl) (Nat.le_of_ble_eq_true rfl) (Nat.le_of_ble_eq_true rfl) (Nat.le_of_ble_eq_true rfl) ?_
      refine fs_if_eq 52 dX5_digits_18 (by decide) (fun c_18 : (L_X7_isDigit_r ht I A J it dyn (L_X5_next_r ht I A J it dyn)) = 0 => ?_) (fun c_18 : ¬ ((L_X7_isDigit_r ht I A J it dyn (L_X5_next_r ht I A J it dyn)) = 0) => ?_)
      · have k9 := hq
        try simp only [if_neg c_8, if_pos c_18] at k9 ⊢
        exact k9
      · have hS := hS c_18
        refine fs_ldc2 (v := (10)) dX5_digits_21 sk_X5_95 ?_
        refine fs_lload_n dX5_digits_24 rfl rfl ?_
        refine fs_lmul dX5_digits_25 ?_
        refine fs_aload_n dX5_digits_26 rfl rfl ?_
        obtain ⟨ho1, hS⟩ := hS
        refine fs_callV1 dX5_digits_27 sv_X5_26 rfl ⟨_, rfl, rfl⟩ (c_X5_next G l ht I A J it dyn ho1) rfl rfl (Nat.le_of_ble_eq_true rfl) (Nat.le_of_ble_eq_true rfl) (Nat.le_of_ble_eq_true rfl) (Nat.le_of_ble_eq_true rfl) ?_
        refine fs_bipush (v := 48) dX5_digits_30 rfl ?_
        refine fs_isub dX5_digits_32 ?_
        refine fs_i2l dX5_digits_33 ?_
        refine fs_ladd dX5_digits_34 ?_
        refine fs_lstore_n (L' := [(2, .inr (.inl (((10) * v2) + ((L_X5_next_r ht I A J it dyn) - 48).toInt64))), (0, .inr (.inr (some 1))), (1, .inl v1), (4, .inl v4)]) dX5_digits_35 rfl (by decide) rfl ?_
        refine fs_aload_n dX5_digits_36 rfl rfl ?_
        refine fs_dup dX5_digits_37 rfl ?_
        refine fs_getfield (v := .inl (I 3)) dX5_digits_38 sf_X5_19 rfl rfl ?_
        refine fs_iconst (v := 1) dX5_digits_41 rfl ?_
        refine fs_iadd dX5_digits_42 ?_
        refine fsp_3 dX5_digits_43 sp_X5_19 ?_
        refine fs_iinc (v := (v4 + 1)) (L' := [(4, .inl (v4 + 1)), (2, .inr (.inl (((10) * v2) + ((L_X5_next_r ht I A J it dyn) - 48).toInt64))), (0, .inr (.inr (some 1))), (1, .inl v1)]) dX5_digits_46 rfl rfl (by decide) rfl ?_
        refine fs_goto 5 dX5_digits_49 (by decide) ?_
        refine fs_reL [2, 3, 1, 0] rfl ?_
        have k9 := hq
        try simp only [if_neg c_8, if_neg c_18] at hS k9 ⊢
        exact ih _ _ _ _ _ _ _ _ _ hS k9
def L_X5_digits_r (ht : Nat) (I : Nat → Int32) (A : Nat → Nat → Int32) (J : Nat → Nat → Int64) (it : Nat → Option Nat) (dyn : fsH) (x1 : Int32) : Int64 := (Lb_X5_digits_5_v2 70 ht I A J it dyn x1 0 0)
def L_X5_digits_I (ht : Nat) (I : Nat → Int32) (A : Nat → Nat → Int32) (J : Nat → Nat → Int64) (it : Nat → Option Nat) (dyn : fsH) (x1 : Int32) : Nat → Int32 := (Lb_X5_digits_5_I 70 ht I A J it dyn x1 0 0)
def S_X5_digits (ht : Nat) (I : Nat → Int32) (A : Nat → Nat → Int32) (J : Nat → Nat → Int64) (it : Nat → Option Nat) (dyn : fsH) (x1 : Int32) : Prop := (S_Lb_X5_digits_5 70 ht I A J it dyn x1 0 0)
set_option maxRecDepth 100000 in
set_option maxHeartbeats 4000000 in
theorem c_X5_digits (G : fsG) (l : Launch) (ht : Nat) (I : Nat → Int32) (A : Nat → Nat → Int32) (J : Nat → Nat → Int64) (it : Nat → Option Nat) (dyn : fsH) (x1 : Int32) (hS : S_X5_digits ht I A J it dyn x1) : fsFn G l mX5_digits 1 0 0 [.inr (.inr (some 1)), .inl x1] (fs_mk ht I A J it dyn) (some (.inr (.inl (L_X5_digits_r ht I A J it dyn x1)))) (fs_mk ht (L_X5_digits_I ht I A J it dyn x1) A J it dyn) := by
  refine fsMet_of (by decide) (Nat.le_of_ble_eq_true rfl) ?_
  generalize hQ : (fun (r1 : Option fsV) (h1 : fsH) => r1 = (some (.inr (.inl (L_X5_digits_r ht I A J it dyn x1)))) ∧ h1 = (fs_mk ht (L_X5_digits_I ht I A J it dyn x1) A J it dyn)) = Q
  have hq : Q (some (.inr (.inl (L_X5_digits_r ht I A J it dyn x1)))) (fs_mk ht (L_X5_digits_I ht I A J it dyn x1) A J it dyn) := by rw [← hQ]; exact ⟨rfl, rfl⟩
  clear hQ
  have hq : Q (some (.inr (.inl (Lb_X5_digits_5_v2 70 ht I A J it dyn x1 0 0)))) (fs_mk ht (Lb_X5_digits_5_I 70 ht I A J it dyn x1 0 0) A J it dyn) := hq
  have hS : (S_Lb_X5_digits_5 70 ht I A J it dyn x1 0 0) := hS
  refine (show fsW G l mX5_digits 1 0 0 0 0 Q 0 [(0, .inr (.inr (some 1))), (1, .inl x1)] [] (fs_mk ht I A J it dyn) from ?_)
  refine fs_lconst (v := 0) dX5_digits_0 rfl ?_
  refine fs_lstore_n (L' := [(2, .inr (.inl 0)), (0, .inr (.inr (some 1))), (1, .inl x1)]) dX5_digits_1 rfl (by decide) rfl ?_
  refine fs_iconst (v := 0) dX5_digits_2 rfl ?_
  refine fs_istore (L' := [(4, .inl 0), (2, .inr (.inl 0)), (0, .inr (.inr (some 1))), (1, .inl x1)]) dX5_digits_3 (by decide) rfl ?_
  refine fs_reL [2, 3, 1, 0] rfl ?_
  have ho1 := hS
  refine lp_Lb_X5_digits_5 G l Q 70 ht I A J it dyn x1 0 0 ho1 ?_
  refine fs_lload_n dX5_digits_52 rfl rfl ?_
  have k9 := hq
  exact fs_lret dX5_digits_53 rfl k9
def Lb_X5_append_76_I : Nat → Nat → (Nat → Int32) → (Nat → Nat → Int32) → (Nat → Nat → Int64) → (Nat → Option Nat) → fsH → Int64 → Int32 → Int32 → (Nat → Int32)
  | 0, ht, I, A, J, it, dyn, v1, v3, v4 => I
  | n + 1, ht, I, A, J, it, dyn, v1, v3, v4 => (if v4 < 0 then I else (Lb_X5_append_76_I n ht (if (L_X5_codeIn_r ht I A J it dyn v1 v4) = 0 then I else (if 60 ≤ (I 2) then I else (upd I 2 ((I 2) + 1)))) (if (L_X5_codeIn_r ht I A J it dyn v1 v4) = 0 then A else (if 60 ≤ (I 2) then A else (va_up A 2 (upd (A 2) (I 2).toNatClampNeg (vp_nar .char (((L_X5_codeIn_r ht I A J it dyn v1 v4).toUInt32 % 65536).toInt32)))))) J it dyn v1 v3 (v4 + (-8))))
def Lb_X5_append_76_A : Nat → Nat → (Nat → Int32) → (Nat → Nat → Int32) → (Nat → Nat → Int64) → (Nat → Option Nat) → fsH → Int64 → Int32 → Int32 → (Nat → Nat → Int32)
  | 0, ht, I, A, J, it, dyn, v1, v3, v4 => A
  | n + 1, ht, I, A, J, it, dyn, v1, v3, v4 => (if v4 < 0 then A else (Lb_X5_append_76_A n ht (if (L_X5_codeIn_r ht I A J it dyn v1 v4) = 0 then I else (if 60 ≤ (I 2) then I else (upd I 2 ((I 2) + 1)))) (if (L_X5_codeIn_r ht I A J it dyn v1 v4) = 0 then A else (if 60 ≤ (I 2) then A else (va_up A 2 (upd (A 2) (I 2).toNatClampNeg (vp_nar .char (((L_X5_codeIn_r ht I A J it dyn v1 v4).toUInt32 % 65536).toInt32)))))) J it dyn v1 v3 (v4 + (-8))))
def Lb_X5_append_76_v4 : Nat → Nat → (Nat → Int32) → (Nat → Nat → Int32) → (Nat → Nat → Int64) → (Nat → Option Nat) → fsH → Int64 → Int32 → Int32 → Int32
  | 0, ht, I, A, J, it, dyn, v1, v3, v4 => v4
  | n + 1, ht, I, A, J, it, dyn, v1, v3, v4 => (if v4 < 0 then v4 else (Lb_X5_append_76_v4 n ht (if (L_X5_codeIn_r ht I A J it dyn v1 v4) = 0 then I else (if 60 ≤ (I 2) then I else (upd I 2 ((I 2) + 1)))) (if (L_X5_codeIn_r ht I A J it dyn v1 v4) = 0 then A else (if 60 ≤ (I 2) then A else (va_up A 2 (upd (A 2) (I 2).toNatClampNeg (vp_nar .char (((L_X5_codeIn_r ht I A J it dyn v1 v4).toUInt32 % 65536).toInt32)))))) J it dyn v1 v3 (v4 + (-8))))
def S_Lb_X5_append_76 : Nat → Nat → (Nat → Int32) → (Nat → Nat → Int32) → (Nat → Nat → Int64) → (Nat → Option Nat) → fsH → Int64 → Int32 → Int32 → Prop
  | 0, _, _, _, _, _, _, _, _, _ => False
  | n + 1, ht, I, A, J, it, dyn, v1, v3, v4 => (¬ (v4 < 0) → ((¬ ((L_X5_codeIn_r ht I A J it dyn v1 v4) = 0) → (¬ (60 ≤ (I 2)) → (vp_in (I 2) 60))) ∧ (S_Lb_X5_append_76 n ht (if (L_X5_codeIn_r ht I A J it dyn v1 v4) = 0 then I else (if 60 ≤ (I 2) then I else (upd I 2 ((I 2) + 1)))) (if (L_X5_codeIn_r ht I A J it dyn v1 v4) = 0 then A else (if 60 ≤ (I 2) then A else (va_up A 2 (upd (A 2) (I 2).toNatClampNeg (vp_nar .char (((L_X5_codeIn_r ht I A J it dyn v1 v4).toUInt32 % 65536).toInt32)))))) J it dyn v1 v3 (v4 + (-8)))))
set_option maxRecDepth 100000 in
set_option maxHeartbeats 4000000 in
theorem lp_Lb_X5_append_76 (G : fsG) (l : Launch) (Q : Option fsV → fsH → Prop) : ∀ (n : Nat) (ht : Nat) (I : Nat → Int32) (A : Nat → Nat → Int32) (J : Nat → Nat → Int64) (it : Nat → Option Nat) (dyn : fsH) (v1 : Int64) (v3 : Int32) (v4 : Int32), S_Lb_X5_append_76 n ht I A J it dyn v1 v3 v4 → (fsW G l mX5_append 1 0 0 0 0 Q 131 [(0, .inr (.inr (some 1))), (1, .inr (.inl v1)), (3, .inl v3), (4, .inl (Lb_X5_append_76_v4 n ht I A J it dyn v1 v3 v4))] [] (fs_mk ht (Lb_X5_append_76_I n ht I A J it dyn v1 v3 v4) (Lb_X5_append_76_A n ht I A J it dyn v1 v3 v4) J it dyn)) → fsW G l mX5_append 1 0 0 0 0 Q 76 [(0, .inr (.inr (some 1))), (1, .inr (.inl v1)), (3, .inl v3), (4, .inl v4)] [] (fs_mk ht I A J it dyn) := by
  intro n
  induction n with
  | zero =>
    intro ht I A J it dyn v1 v3 v4 hS
    exact hS.elim
  | succ n ih =>
    intro ht I A J it dyn v1 v3 v4 hS hq
    have hS : (¬ (v4 < 0) → ((¬ ((L_X5_codeIn_r ht I A J it dyn v1 v4) = 0) → (¬ (60 ≤ (I 2)) → (vp_in (I 2) 60))) ∧ (S_Lb_X5_append_76 n ht (if (L_X5_codeIn_r ht I A J it dyn v1 v4) = 0 then I else (if 60 ≤ (I 2) then I else (upd I 2 ((I 2) + 1)))) (if (L_X5_codeIn_r ht I A J it dyn v1 v4) = 0 then A else (if 60 ≤ (I 2) then A else (va_up A 2 (upd (A 2) (I 2).toNatClampNeg (vp_nar .char (((L_X5_codeIn_r ht I A J it dyn v1 v4).toUInt32 % 65536).toInt32)))))) J it dyn v1 v3 (v4 + (-8))))) := hS
    have hq : fsW G l mX5_append 1 0 0 0 0 Q 131 [(0, .inr (.inr (some 1))), (1, .inr (.inl v1)), (3, .inl v3), (4, .inl (if v4 < 0 then v4 else (Lb_X5_append_76_v4 n ht (if (L_X5_codeIn_r ht I A J it dyn v1 v4) = 0 then I else (if 60 ≤ (I 2) then I else (upd I 2 ((I 2) + 1)))) (if (L_X5_codeIn_r ht I A J it dyn v1 v4) = 0 then A else (if 60 ≤ (I 2) then A else (va_up A 2 (upd (A 2) (I 2).toNatClampNeg (vp_nar .char (((L_X5_codeIn_r ht I A J it dyn v1 v4).toUInt32 % 65536).toInt32)))))) J it dyn v1 v3 (v4 + (-8)))))] [] (fs_mk ht (if v4 < 0 then I else (Lb_X5_append_76_I n ht (if (L_X5_codeIn_r ht I A J it dyn v1 v4) = 0 then I else (if 60 ≤ (I 2) then I else (upd I 2 ((I 2) + 1)))) (if (L_X5_codeIn_r ht I A J it dyn v1 v4) = 0 then A else (if 60 ≤ (I 2) then A else (va_up A 2 (upd (A 2) (I 2).toNatClampNeg (vp_nar .char (((L_X5_codeIn_r ht I A J it dyn v1 v4).toUInt32 % 65536).toInt32)))))) J it dyn v1 v3 (v4 + (-8)))) (if v4 < 0 then A else (Lb_X5_append_76_A n ht (if (L_X5_codeIn_r ht I A J it dyn v1 v4) = 0 then I else (if 60 ≤ (I 2) then I else (upd I 2 ((I 2) + 1)))) (if (L_X5_codeIn_r ht I A J it dyn v1 v4) = 0 then A else (if 60 ≤ (I 2) then A else (va_up A 2 (upd (A 2) (I 2).toNatClampNeg (vp_nar .char (((L_X5_codeIn_r ht I A J it dyn v1 v4).toUInt32 % 65536).toInt32)))))) J it dyn v1 v3 (v4 + (-8)))) J it dyn) := hq
    refine fs_iload dX5_append_76 rfl ?_
    refine fs_if_lt 131 dX5_append_78 (by decide) (fun c_78 : v4 < 0 => ?_) (fun c_78 : ¬ (v4 < 0) => ?_)
    · have k9 := hq
      try simp only [if_pos c_78] at k9 ⊢
      exact k9
    · have hS := hS c_78
      refine fs_lload_n dX5_append_81 rfl rfl ?_
      refine fs_iload dX5_append_82 rfl ?_
      refine fs_callS1 dX5_append_84 sv_X5_22 (c_X5_codeIn G l ht I A J it dyn v1 v4) rfl rfl (Nat.le_of_ble_eq_true rfl) (Nat.le_of_ble_eq_true rfl) (Nat.le_of_ble_eq_true rfl) (Nat.le_of_ble_eq_true rfl) ?_
      refine fs_istore (L' := [(5, .inl (L_X5_codeIn_r ht I A J it dyn v1 v4)), (0, .inr (.inr (some 1))), (1, .inr (.inl v1)), (3, .inl v3), (4, .inl v4)]) dX5_append_87 (by decide) rfl ?_
      refine fs_iload dX5_append_89 rfl ?_
      obtain ⟨hR_91, hS⟩ := hS
      have key_125 : fsW G l mX5_append 1 0 0 0 0 Q 125 [(0, .inr (.inr (some 1))), (1, .inr (.inl v1)), (3, .inl v3), (4, .inl v4), (5, .inl (L_X5_codeIn_r ht I A J it dyn v1 v4))] [] (fs_mk ht (if (L_X5_codeIn_r ht I A J it dyn v1 v4) = 0 then I else (if 60 ≤ (I 2) then I else (upd I 2 ((I 2) + 1)))) (if (L_X5_codeIn_r ht I A J it dyn v1 v4) = 0 then A else (if 60 ≤ (I 2) then A else (va_up A 2 (upd (A 2) (I 2).toNatClampNeg (vp_nar .char (((L_X5_codeIn_r ht I A J it dyn v1 v4).toUInt32 % 65536).toInt32)))))) J it dyn) := by
        refine fs_iinc (v := (v4 + (-8))) (L' := [(4, .inl (v4 + (-8))), (0, .inr (.inr (some 1))), (1, .inr (.inl v1)), (3, .inl v3), (5, .inl (L_X5_codeIn_r ht I A J it dyn v1 v4))]) dX5_append_125 rfl rfl (by decide) rfl ?_
        refine fs_goto 76 dX5_append_128 (by decide) ?_
        refine fs_reL [1, 2, 3, 0] rfl ?_
        have k9 := hq
        try simp only [if_neg c_78] at hS k9 ⊢
        exact ih _ _ _ _ _ _ _ _ _ hS k9
      refine fs_if_eq 125 dX5_append_91 (by decide) (fun c_91 : (L_X5_codeIn_r ht I A J it dyn v1 v4) = 0 => ?_) (fun c_91 : ¬ ((L_X5_codeIn_r ht I A J it dyn v1 v4) = 0) => ?_)
      · refine fs_reL [1, 2, 3, 4, 0] rfl ?_
        have k9 := key_125
        try simp only [if_neg c_78, if_pos c_91] at k9 ⊢
        exact k9
      · have hS := hR_91 c_91
        refine fs_aload_n dX5_append_94 rfl rfl ?_
        refine fs_getfield (v := .inl (I 2)) dX5_append_95 sf_X5_15 rfl rfl ?_
        refine fs_bipush (v := 60) dX5_append_98 rfl ?_
        refine fs_icmp_ge 125 dX5_append_100 (by decide) (fun c_100 : 60 ≤ (I 2) => ?_) (fun c_100 : ¬ (60 ≤ (I 2)) => ?_)
        · refine fs_reL [1, 2, 3, 4, 0] rfl ?_
          have k9 := key_125
          try simp only [if_neg c_78, if_neg c_91, if_pos c_100] at k9 ⊢
          exact k9
        · have hS := hS c_100
          refine fs_aload_n dX5_append_103 rfl rfl ?_
          refine fs_getfield (v := .inr (.inr (some 2))) dX5_append_104 sf_X5_9 rfl rfl ?_
          refine fs_aload_n dX5_append_107 rfl rfl ?_
          refine fs_getfield (v := .inl (I 2)) dX5_append_108 sf_X5_15 rfl rfl ?_
          refine fs_iload dX5_append_111 rfl ?_
          refine fs_i2c dX5_append_113 ?_
          have ho1 := hS
          refine fss_2 dX5_append_114 ho1 ?_
          refine fs_aload_n dX5_append_115 rfl rfl ?_
          refine fs_dup dX5_append_116 rfl ?_
          refine fs_getfield (v := .inl (I 2)) dX5_append_117 sf_X5_15 rfl rfl ?_
          refine fs_iconst (v := 1) dX5_append_120 rfl ?_
          refine fs_iadd dX5_append_121 ?_
          refine fsp_2 dX5_append_122 sp_X5_15 ?_
          refine fs_reL [1, 2, 3, 4, 0] rfl ?_
          have k9 := key_125
          try simp only [if_neg c_78, if_neg c_91, if_neg c_100] at k9 ⊢
          exact k9
def La_X5_append_6_r : Nat → Nat → (Nat → Int32) → (Nat → Nat → Int32) → (Nat → Nat → Int64) → (Nat → Option Nat) → fsH → Int64 → Int32 → Int32 → Int32
  | 0, ht, I, A, J, it, dyn, v1, v3, v4 => 0
  | n + 1, ht, I, A, J, it, dyn, v1, v3, v4 => (if v4 < 0 then (if v3 ≤ (60 - (I 2)) then 1 else 0) else (if (L_X5_codeIn_r ht I A J it dyn v1 v4) = 0 then (La_X5_append_6_r n ht I A J it dyn v1 (v3 + 0) (v4 + (-8))) else (if (L_X5_codeIn_r ht I A J it dyn v1 v4) < 32 then 0 else (if (L_X5_codeIn_r ht I A J it dyn v1 v4) ≤ 126 then (La_X5_append_6_r n ht I A J it dyn v1 (v3 + 1) (v4 + (-8))) else 0))))
def La_X5_append_6_I : Nat → Nat → (Nat → Int32) → (Nat → Nat → Int32) → (Nat → Nat → Int64) → (Nat → Option Nat) → fsH → Int64 → Int32 → Int32 → (Nat → Int32)
  | 0, ht, I, A, J, it, dyn, v1, v3, v4 => I
  | n + 1, ht, I, A, J, it, dyn, v1, v3, v4 => (if v4 < 0 then (if v3 ≤ (60 - (I 2)) then (Lb_X5_append_76_I 70 ht I A J it dyn v1 v3 56) else I) else (if (L_X5_codeIn_r ht I A J it dyn v1 v4) = 0 then (La_X5_append_6_I n ht I A J it dyn v1 (v3 + 0) (v4 + (-8))) else (if (L_X5_codeIn_r ht I A J it dyn v1 v4) < 32 then I else (if (L_X5_codeIn_r ht I A J it dyn v1 v4) ≤ 126 then (La_X5_append_6_I n ht I A J it dyn v1 (v3 + 1) (v4 + (-8))) else I))))
def La_X5_append_6_A : Nat → Nat → (Nat → Int32) → (Nat → Nat → Int32) → (Nat → Nat → Int64) → (Nat → Option Nat) → fsH → Int64 → Int32 → Int32 → (Nat → Nat → Int32)
  | 0, ht, I, A, J, it, dyn, v1, v3, v4 => A
  | n + 1, ht, I, A, J, it, dyn, v1, v3, v4 => (if v4 < 0 then (if v3 ≤ (60 - (I 2)) then (Lb_X5_append_76_A 70 ht I A J it dyn v1 v3 56) else A) else (if (L_X5_codeIn_r ht I A J it dyn v1 v4) = 0 then (La_X5_append_6_A n ht I A J it dyn v1 (v3 + 0) (v4 + (-8))) else (if (L_X5_codeIn_r ht I A J it dyn v1 v4) < 32 then A else (if (L_X5_codeIn_r ht I A J it dyn v1 v4) ≤ 126 then (La_X5_append_6_A n ht I A J it dyn v1 (v3 + 1) (v4 + (-8))) else A))))
def S_La_X5_append_6 : Nat → Nat → (Nat → Int32) → (Nat → Nat → Int32) → (Nat → Nat → Int64) → (Nat → Option Nat) → fsH → Int64 → Int32 → Int32 → Prop
  | 0, _, _, _, _, _, _, _, _, _ => False
  | n + 1, ht, I, A, J, it, dyn, v1, v3, v4 => (((v4 < 0) → ((v3 ≤ (60 - (I 2))) → (S_Lb_X5_append_76 70 ht I A J it dyn v1 v3 56))) ∧ (¬ (v4 < 0) → ((((L_X5_codeIn_r ht I A J it dyn v1 v4) = 0) → (S_La_X5_append_6 n ht I A J it dyn v1 (v3 + 0) (v4 + (-8)))) ∧ (¬ ((L_X5_codeIn_r ht I A J it dyn v1 v4) = 0) → (¬ ((L_X5_codeIn_r ht I A J it dyn v1 v4) < 32) → (((L_X5_codeIn_r ht I A J it dyn v1 v4) ≤ 126) → (S_La_X5_append_6 n ht I A J it dyn v1 (v3 + 1) (v4 + (-8)))))))))
set_option maxRecDepth 100000 in
set_option maxHeartbeats 4000000 in
theorem lp_La_X5_append_6 (G : fsG) (l : Launch) (Q : Option fsV → fsH → Prop) : ∀ (n : Nat) (ht : Nat) (I : Nat → Int32) (A : Nat → Nat → Int32) (J : Nat → Nat → Int64) (it : Nat → Option Nat) (dyn : fsH) (v1 : Int64) (v3 : Int32) (v4 : Int32), S_La_X5_append_6 n ht I A J it dyn v1 v3 v4 → (Q (some (.inl (La_X5_append_6_r n ht I A J it dyn v1 v3 v4))) (fs_mk ht (La_X5_append_6_I n ht I A J it dyn v1 v3 v4) (La_X5_append_6_A n ht I A J it dyn v1 v3 v4) J it dyn)) → fsW G l mX5_append 1 0 0 0 0 Q 6 [(0, .inr (.inr (some 1))), (1, .inr (.inl v1)), (3, .inl v3), (4, .inl v4)] [] (fs_mk ht I A J it dyn) := by
  intro n
  induction n with
  | zero =>
    intro ht I A J it dyn v1 v3 v4 hS
    exact hS.elim
  | succ n ih =>
    intro ht I A J it dyn v1 v3 v4 hS hq
    have hS : (((v4 < 0) → ((v3 ≤ (60 - (I 2))) → (S_Lb_X5_append_76 70 ht I A J it dyn v1 v3 56))) ∧ (¬ (v4 < 0) → ((((L_X5_codeIn_r ht I A J it dyn v1 v4) = 0) → (S_La_X5_append_6 n ht I A J it dyn v1 (v3 + 0) (v4 + (-8)))) ∧ (¬ ((L_X5_codeIn_r ht I A J it dyn v1 v4) = 0) → (¬ ((L_X5_codeIn_r ht I A J it dyn v1 v4) < 32) → (((L_X5_codeIn_r ht I A J it dyn v1 v4) ≤ 126) → (S_La_X5_append_6 n ht I A J it dyn v1 (v3 + 1) (v4 + (-8))))))))) := hS
    have hq : Q (some (.inl (if v4 < 0 then (if v3 ≤ (60 - (I 2)) then 1 else 0) else (if (L_X5_codeIn_r ht I A J it dyn v1 v4) = 0 then (La_X5_append_6_r n ht I A J it dyn v1 (v3 + 0) (v4 + (-8))) else (if (L_X5_codeIn_r ht I A J it dyn v1 v4) < 32 then 0 else (if (L_X5_codeIn_r ht I A J it dyn v1 v4) ≤ 126 then (La_X5_append_6_r n ht I A J it dyn v1 (v3 + 1) (v4 + (-8))) else 0)))))) (fs_mk ht (if v4 < 0 then (if v3 ≤ (60 - (I 2)) then (Lb_X5_append_76_I 70 ht I A J it dyn v1 v3 56) else I) else (if (L_X5_codeIn_r ht I A J it dyn v1 v4) = 0 then (La_X5_append_6_I n ht I A J it dyn v1 (v3 + 0) (v4 + (-8))) else (if (L_X5_codeIn_r ht I A J it dyn v1 v4) < 32 then I else (if (L_X5_codeIn_r ht I A J it dyn v1 v4) ≤ 126 then (La_X5_append_6_I n ht I A J it dyn v1 (v3 + 1) (v4 + (-8))) else I)))) (if v4 < 0 then (if v3 ≤ (60 - (I 2)) then (Lb_X5_append_76_A 70 ht I A J it dyn v1 v3 56) else A) else (if (L_X5_codeIn_r ht I A J it dyn v1 v4) = 0 then (La_X5_append_6_A n ht I A J it dyn v1 (v3 + 0) (v4 + (-8))) else (if (L_X5_codeIn_r ht I A J it dyn v1 v4) < 32 then A else (if (L_X5_codeIn_r ht I A J it dyn v1 v4) ≤ 126 then (La_X5_append_6_A n ht I A J it dyn v1 (v3 + 1) (v4 + (-8))) else A)))) J it dyn) := hq
    refine fs_iload dX5_append_6 rfl ?_
    refine fs_if_lt 59 dX5_append_8 (by decide) (fun c_8 : v4 < 0 => ?_) (fun c_8 : ¬ (v4 < 0) => ?_)
    · have hS := hS.1 c_8
      refine fs_iload_n dX5_append_59 rfl rfl ?_
      refine fs_bipush (v := 60) dX5_append_60 rfl ?_
      refine fs_aload_n dX5_append_62 rfl rfl ?_
      refine fs_getfield (v := .inl (I 2)) dX5_append_63 sf_X5_15 rfl rfl ?_
      refine fs_isub dX5_append_66 ?_
      refine fs_icmp_le 72 dX5_append_67 (by decide) (fun c_67 : v3 ≤ (60 - (I 2)) => ?_) (fun c_67 : ¬ (v3 ≤ (60 - (I 2))) => ?_)
      · have hS := hS c_67
        refine fs_bipush (v := 56) dX5_append_72 rfl ?_
        refine fs_istore (L' := [(4, .inl 56), (0, .inr (.inr (some 1))), (1, .inr (.inl v1)), (3, .inl v3)]) dX5_append_74 (by decide) rfl ?_
        refine fs_reL [1, 2, 3, 0] rfl ?_
        have ho1 := hS
        refine lp_Lb_X5_append_76 G l Q 70 ht I A J it dyn v1 v3 56 ho1 ?_
        refine fs_iconst (v := 1) dX5_append_131 rfl ?_
        have k9 := hq
        try simp only [if_pos c_8, if_pos c_67] at k9 ⊢
        exact fs_iret dX5_append_132 rfl rfl k9
      · refine fs_iconst (v := 0) dX5_append_70 rfl ?_
        have k9 := hq
        try simp only [if_pos c_8, if_neg c_67] at k9 ⊢
        exact fs_iret dX5_append_71 rfl rfl k9
    · have hS := hS.2 c_8
      refine fs_lload_n dX5_append_11 rfl rfl ?_
      refine fs_iload dX5_append_12 rfl ?_
      refine fs_callS1 dX5_append_14 sv_X5_22 (c_X5_codeIn G l ht I A J it dyn v1 v4) rfl rfl (Nat.le_of_ble_eq_true rfl) (Nat.le_of_ble_eq_true rfl) (Nat.le_of_ble_eq_true rfl) (Nat.le_of_ble_eq_true rfl) ?_
      refine fs_istore (L' := [(5, .inl (L_X5_codeIn_r ht I A J it dyn v1 v4)), (0, .inr (.inr (some 1))), (1, .inr (.inl v1)), (3, .inl v3), (4, .inl v4)]) dX5_append_17 (by decide) rfl ?_
      refine fs_iload dX5_append_19 rfl ?_
      refine fs_if_eq 40 dX5_append_21 (by decide) (fun c_21 : (L_X5_codeIn_r ht I A J it dyn v1 v4) = 0 => ?_) (fun c_21 : ¬ ((L_X5_codeIn_r ht I A J it dyn v1 v4) = 0) => ?_)
      · have hS := hS.1 c_21
        refine fs_iload_n dX5_append_40 rfl rfl ?_
        refine fs_iload dX5_append_41 rfl ?_
        refine fs_if_eq 50 dX5_append_43 (by decide) (fun c_43 : (L_X5_codeIn_r ht I A J it dyn v1 v4) = 0 => ?_) (fun c_43 : ¬ ((L_X5_codeIn_r ht I A J it dyn v1 v4) = 0) => ?_)
        · refine fs_iconst (v := 0) dX5_append_50 rfl ?_
          refine fs_iadd dX5_append_51 ?_
          refine fs_istore_n (L' := [(3, .inl (v3 + 0)), (5, .inl (L_X5_codeIn_r ht I A J it dyn v1 v4)), (0, .inr (.inr (some 1))), (1, .inr (.inl v1)), (4, .inl v4)]) dX5_append_52 rfl (by decide) rfl ?_
          refine fs_iinc (v := (v4 + (-8))) (L' := [(4, .inl (v4 + (-8))), (3, .inl (v3 + 0)), (5, .inl (L_X5_codeIn_r ht I A J it dyn v1 v4)), (0, .inr (.inr (some 1))), (1, .inr (.inl v1))]) dX5_append_53 rfl rfl (by decide) rfl ?_
          refine fs_goto 6 dX5_append_56 (by decide) ?_
          refine fs_reL [3, 4, 1, 0] rfl ?_
          have k9 := hq
          try simp only [if_neg c_8, if_pos c_21] at hS k9 ⊢
          exact ih _ _ _ _ _ _ _ _ _ hS k9
        · exact absurd c_21 c_43
      · have hS := hS.2 c_21
        refine fs_iload dX5_append_24 rfl ?_
        refine fs_bipush (v := 32) dX5_append_26 rfl ?_
        refine fs_icmp_lt 38 dX5_append_28 (by decide) (fun c_28 : (L_X5_codeIn_r ht I A J it dyn v1 v4) < 32 => ?_) (fun c_28 : ¬ ((L_X5_codeIn_r ht I A J it dyn v1 v4) < 32) => ?_)
        · refine fs_iconst (v := 0) dX5_append_38 rfl ?_
          have k9 := hq
          try simp only [if_neg c_8, if_neg c_21, if_pos c_28] at k9 ⊢
          exact fs_iret dX5_append_39 rfl rfl k9
        · have hS := hS c_28
          refine fs_iload dX5_append_31 rfl ?_
          refine fs_bipush (v := 126) dX5_append_33 rfl ?_
          refine fs_icmp_le 40 dX5_append_35 (by decide) (fun c_35 : (L_X5_codeIn_r ht I A J it dyn v1 v4) ≤ 126 => ?_) (fun c_35 : ¬ ((L_X5_codeIn_r ht I A J it dyn v1 v4) ≤ 126) => ?_)
          · have hS := hS c_35
            refine fs_iload_n dX5_append_40 rfl rfl ?_
            refine fs_iload dX5_append_41 rfl ?_
            refine fs_if_eq 50 dX5_append_43 (by decide) (fun c_43 : (L_X5_codeIn_r ht I A J it dyn v1 v4) = 0 => ?_) (fun c_43 : ¬ ((L_X5_codeIn_r ht I A J it dyn v1 v4) = 0) => ?_)
            · exact absurd c_43 c_21
            · refine fs_iconst (v := 1) dX5_append_46 rfl ?_
              refine fs_goto 51 dX5_append_47 (by decide) ?_
              refine fs_iadd dX5_append_51 ?_
              refine fs_istore_n (L' := [(3, .inl (v3 + 1)), (5, .inl (L_X5_codeIn_r ht I A J it dyn v1 v4)), (0, .inr (.inr (some 1))), (1, .inr (.inl v1)), (4, .inl v4)]) dX5_append_52 rfl (by decide) rfl ?_
              refine fs_iinc (v := (v4 + (-8))) (L' := [(4, .inl (v4 + (-8))), (3, .inl (v3 + 1)), (5, .inl (L_X5_codeIn_r ht I A J it dyn v1 v4)), (0, .inr (.inr (some 1))), (1, .inr (.inl v1))]) dX5_append_53 rfl rfl (by decide) rfl ?_
              refine fs_goto 6 dX5_append_56 (by decide) ?_
              refine fs_reL [3, 4, 1, 0] rfl ?_
              have k9 := hq
              try simp only [if_neg c_8, if_neg c_21, if_neg c_28, if_pos c_35] at hS k9 ⊢
              exact ih _ _ _ _ _ _ _ _ _ hS k9
          · refine fs_iconst (v := 0) dX5_append_38 rfl ?_
            have k9 := hq
            try simp only [if_neg c_8, if_neg c_21, if_neg c_28, if_neg c_35] at k9 ⊢
            exact fs_iret dX5_append_39 rfl rfl k9
theorem nb_La_X5_append_6 : ∀ (n : Nat) (ht : Nat) (I : Nat → Int32) (A : Nat → Nat → Int32) (J : Nat → Nat → Int64) (it : Nat → Option Nat) (dyn : fsH) (v1 : Int64) (v3 : Int32) (v4 : Int32), narrow .boolean (.int (La_X5_append_6_r n ht I A J it dyn v1 v3 v4)) = .int (La_X5_append_6_r n ht I A J it dyn v1 v3 v4) := by
  intro n
  induction n with
  | zero =>
    intro ht I A J it dyn v1 v3 v4
    exact (rfl : narrow .boolean (.int 0) = .int 0)
  | succ n ih =>
    intro ht I A J it dyn v1 v3 v4
    unfold La_X5_append_6_r
    (repeat' split) <;> first | rfl | exact ih _ _ _ _ _ _ _ _ _
def L_X5_append_r (ht : Nat) (I : Nat → Int32) (A : Nat → Nat → Int32) (J : Nat → Nat → Int64) (it : Nat → Option Nat) (dyn : fsH) (x1 : Int64) : Int32 := (La_X5_append_6_r 70 ht I A J it dyn x1 0 56)
def L_X5_append_I (ht : Nat) (I : Nat → Int32) (A : Nat → Nat → Int32) (J : Nat → Nat → Int64) (it : Nat → Option Nat) (dyn : fsH) (x1 : Int64) : Nat → Int32 := (La_X5_append_6_I 70 ht I A J it dyn x1 0 56)
def L_X5_append_A (ht : Nat) (I : Nat → Int32) (A : Nat → Nat → Int32) (J : Nat → Nat → Int64) (it : Nat → Option Nat) (dyn : fsH) (x1 : Int64) : Nat → Nat → Int32 := (La_X5_append_6_A 70 ht I A J it dyn x1 0 56)
def S_X5_append (ht : Nat) (I : Nat → Int32) (A : Nat → Nat → Int32) (J : Nat → Nat → Int64) (it : Nat → Option Nat) (dyn : fsH) (x1 : Int64) : Prop := (S_La_X5_append_6 70 ht I A J it dyn x1 0 56)
set_option maxRecDepth 100000 in
set_option maxHeartbeats 4000000 in
theorem c_X5_append (G : fsG) (l : Launch) (ht : Nat) (I : Nat → Int32) (A : Nat → Nat → Int32) (J : Nat → Nat → Int64) (it : Nat → Option Nat) (dyn : fsH) (x1 : Int64) (hS : S_X5_append ht I A J it dyn x1) : fsFn G l mX5_append 1 0 0 [.inr (.inr (some 1)), .inr (.inl x1)] (fs_mk ht I A J it dyn) (some (.inl (L_X5_append_r ht I A J it dyn x1))) (fs_mk ht (L_X5_append_I ht I A J it dyn x1) (L_X5_append_A ht I A J it dyn x1) J it dyn) := by
  refine fsMet_of (by decide) (Nat.le_of_ble_eq_true rfl) ?_
  generalize hQ : (fun (r1 : Option fsV) (h1 : fsH) => r1 = (some (.inl (L_X5_append_r ht I A J it dyn x1))) ∧ h1 = (fs_mk ht (L_X5_append_I ht I A J it dyn x1) (L_X5_append_A ht I A J it dyn x1) J it dyn)) = Q
  have hq : Q (some (.inl (L_X5_append_r ht I A J it dyn x1))) (fs_mk ht (L_X5_append_I ht I A J it dyn x1) (L_X5_append_A ht I A J it dyn x1) J it dyn) := by rw [← hQ]; exact ⟨rfl, rfl⟩
  clear hQ
  have hq : Q (some (.inl (La_X5_append_6_r 70 ht I A J it dyn x1 0 56))) (fs_mk ht (La_X5_append_6_I 70 ht I A J it dyn x1 0 56) (La_X5_append_6_A 70 ht I A J it dyn x1 0 56) J it dyn) := hq
  have hS : (S_La_X5_append_6 70 ht I A J it dyn x1 0 56) := hS
  refine (show fsW G l mX5_append 1 0 0 0 0 Q 0 [(0, .inr (.inr (some 1))), (1, .inr (.inl x1))] [] (fs_mk ht I A J it dyn) from ?_)
  refine fs_iconst (v := 0) dX5_append_0 rfl ?_
  refine fs_istore_n (L' := [(3, .inl 0), (0, .inr (.inr (some 1))), (1, .inr (.inl x1))]) dX5_append_1 rfl (by decide) rfl ?_
  refine fs_bipush (v := 56) dX5_append_2 rfl ?_
  refine fs_istore (L' := [(4, .inl 56), (3, .inl 0), (0, .inr (.inr (some 1))), (1, .inr (.inl x1))]) dX5_append_4 (by decide) rfl ?_
  refine fs_reL [2, 3, 1, 0] rfl ?_
  have ho1 := hS
  have k9 := hq
  exact lp_La_X5_append_6 G l Q 70 _ _ _ _ _ _ _ _ _ ho1 k9
theorem nb_X5_append (ht : Nat) (I : Nat → Int32) (A : Nat → Nat → Int32) (J : Nat → Nat → Int64) (it : Nat → Option Nat) (dyn : fsH) (x1 : Int64) : narrow .boolean (.int (L_X5_append_r ht I A J it dyn x1)) = .int (L_X5_append_r ht I A J it dyn x1) := by
  unfold L_X5_append_r
  exact (by (repeat' split) <;> first | rfl | exact nb_La_X5_append_6 _ _ _ _ _ _ _ _ _ _)
def L_X0_limited_r (ht : Nat) (I : Nat → Int32) (A : Nat → Nat → Int32) (J : Nat → Nat → Int64) (it : Nat → Option Nat) (dyn : fsH) (x1 : Int64) : Int64 := (if (lg_cmp x1 (-1000000000000000)) < 0 then (10000000000000001) else (if (lg_cmp x1 (1000000000000000)) ≤ 0 then x1 else (10000000000000001) : Int64) : Int64)
set_option maxRecDepth 100000 in
set_option maxHeartbeats 4000000 in
theorem c_X0_limited (G : fsG) (l : Launch) (ht : Nat) (I : Nat → Int32) (A : Nat → Nat → Int32) (J : Nat → Nat → Int64) (it : Nat → Option Nat) (dyn : fsH) (x1 : Int64) : fsFn G l mX0_limited 0 0 0 [.inr (.inl x1)] (fs_mk ht I A J it dyn) (some (.inr (.inl (L_X0_limited_r ht I A J it dyn x1)))) (fs_mk ht I A J it dyn) := by
  refine fsMet_of (by decide) (Nat.le_of_ble_eq_true rfl) ?_
  generalize hQ : (fun (r1 : Option fsV) (h1 : fsH) => r1 = (some (.inr (.inl (L_X0_limited_r ht I A J it dyn x1)))) ∧ h1 = (fs_mk ht I A J it dyn)) = Q
  have hq : Q (some (.inr (.inl (L_X0_limited_r ht I A J it dyn x1)))) (fs_mk ht I A J it dyn) := by rw [← hQ]; exact ⟨rfl, rfl⟩
  clear hQ
  have hq : Q (some (.inr (.inl (if (lg_cmp x1 (-1000000000000000)) < 0 then (10000000000000001) else (if (lg_cmp x1 (1000000000000000)) ≤ 0 then x1 else (10000000000000001) : Int64) : Int64)))) (fs_mk ht I A J it dyn) := hq
  refine (show fsW G l mX0_limited 0 0 0 0 0 Q 0 [(0, .inr (.inl x1))] [] (fs_mk ht I A J it dyn) from ?_)
  refine fs_lload_n dX0_limited_0 rfl rfl ?_
  refine fs_ldc2 (v := (-1000000000000000)) dX0_limited_1 sk_X0_9 ?_
  refine fs_lcmp dX0_limited_4 ?_
  have key_23 : fsW G l mX0_limited 0 0 0 0 0 Q 23 [(0, .inr (.inl x1))] [.inr (.inl (if (lg_cmp x1 (-1000000000000000)) < 0 then (10000000000000001) else (if (lg_cmp x1 (1000000000000000)) ≤ 0 then x1 else (10000000000000001) : Int64) : Int64))] (fs_mk ht I A J it dyn) := by
    have k9 := hq
    exact fs_lret dX0_limited_23 rfl k9
  refine fs_if_lt 16 dX0_limited_5 (by decide) (fun c_5 : (lg_cmp x1 (-1000000000000000)) < 0 => ?_) (fun c_5 : ¬ ((lg_cmp x1 (-1000000000000000)) < 0) => ?_)
  · refine fs_ldc2 (v := (10000000000000001)) dX0_limited_16 sk_X0_13 ?_
    refine fs_goto 23 dX0_limited_19 (by decide) ?_
    have k9 := key_23
    try simp only [if_pos c_5] at k9 ⊢
    exact k9
  · refine fs_lload_n dX0_limited_8 rfl rfl ?_
    refine fs_ldc2 (v := (1000000000000000)) dX0_limited_9 sk_X0_11 ?_
    refine fs_lcmp dX0_limited_12 ?_
    refine fs_if_le 22 dX0_limited_13 (by decide) (fun c_13 : (lg_cmp x1 (1000000000000000)) ≤ 0 => ?_) (fun c_13 : ¬ ((lg_cmp x1 (1000000000000000)) ≤ 0) => ?_)
    · refine fs_lload_n dX0_limited_22 rfl rfl ?_
      have k9 := key_23
      try simp only [if_neg c_5, if_pos c_13] at k9 ⊢
      exact k9
    · refine fs_ldc2 (v := (10000000000000001)) dX0_limited_16 sk_X0_13 ?_
      refine fs_goto 23 dX0_limited_19 (by decide) ?_
      have k9 := key_23
      try simp only [if_neg c_5, if_neg c_13] at k9 ⊢
      exact k9
def L_X0_rounded_r (ht : Nat) (I : Nat → Int32) (A : Nat → Nat → Int32) (J : Nat → Nat → Int64) (it : Nat → Option Nat) (dyn : fsH) (x1 : Int64) (x2 : Int64) : Int64 := (if 0 < (lg_cmp x2 0) then (if (if 0 < (lg_cmp ((2) * (x1 - x1 / x2 * x2)) x2) then 1 else (if (lg_cmp ((2) * (x1 - x1 / x2 * x2)) x2) = 0 then (if (lg_cmp ((x1 / x2) &&& 1) 1) = 0 then 1 else 0 : Int32) else 0 : Int32) : Int32) = 0 then (x1 / x2) else ((x1 / x2) + 1) : Int64) else 0)
def S_X0_rounded (ht : Nat) (I : Nat → Int32) (A : Nat → Nat → Int32) (J : Nat → Nat → Int64) (it : Nat → Option Nat) (dyn : fsH) (x1 : Int64) (x2 : Int64) : Prop := ((0 < (lg_cmp x2 0)) → ((¬ x2 = 0) ∧ (¬ x2 = 0)))
set_option maxRecDepth 100000 in
set_option maxHeartbeats 4000000 in
theorem c_X0_rounded (G : fsG) (l : Launch) (ht : Nat) (I : Nat → Int32) (A : Nat → Nat → Int32) (J : Nat → Nat → Int64) (it : Nat → Option Nat) (dyn : fsH) (x1 : Int64) (x2 : Int64) (hS : S_X0_rounded ht I A J it dyn x1 x2) : fsFn G l mX0_rounded 0 0 0 [.inr (.inl x1), .inr (.inl x2)] (fs_mk ht I A J it dyn) (some (.inr (.inl (L_X0_rounded_r ht I A J it dyn x1 x2)))) (fs_mk ht I A J it dyn) := by
  refine fsMet_of (by decide) (Nat.le_of_ble_eq_true rfl) ?_
  generalize hQ : (fun (r1 : Option fsV) (h1 : fsH) => r1 = (some (.inr (.inl (L_X0_rounded_r ht I A J it dyn x1 x2)))) ∧ h1 = (fs_mk ht I A J it dyn)) = Q
  have hq : Q (some (.inr (.inl (L_X0_rounded_r ht I A J it dyn x1 x2)))) (fs_mk ht I A J it dyn) := by rw [← hQ]; exact ⟨rfl, rfl⟩
  clear hQ
  have hq : Q (some (.inr (.inl (if 0 < (lg_cmp x2 0) then (if (if 0 < (lg_cmp ((2) * (x1 - x1 / x2 * x2)) x2) then 1 else (if (lg_cmp ((2) * (x1 - x1 / x2 * x2)) x2) = 0 then (if (lg_cmp ((x1 / x2) &&& 1) 1) = 0 then 1 else 0 : Int32) else 0 : Int32) : Int32) = 0 then (x1 / x2) else ((x1 / x2) + 1) : Int64) else 0)))) (fs_mk ht I A J it dyn) := hq
  have hS : ((0 < (lg_cmp x2 0)) → ((¬ x2 = 0) ∧ (¬ x2 = 0))) := hS
  refine (show fsW G l mX0_rounded 0 0 0 0 0 Q 0 [(0, .inr (.inl x1)), (2, .inr (.inl x2))] [] (fs_mk ht I A J it dyn) from ?_)
  refine fs_lload_n dX0_rounded_0 rfl rfl ?_
  refine fs_lconst (v := 0) dX0_rounded_1 rfl ?_
  refine fs_lcmp dX0_rounded_2 ?_
  refine fs_if_gt 8 dX0_rounded_3 (by decide) (fun c_3 : 0 < (lg_cmp x2 0) => ?_) (fun c_3 : ¬ (0 < (lg_cmp x2 0)) => ?_)
  · have hS := hS c_3
    refine fs_lload_n dX0_rounded_8 rfl rfl ?_
    refine fs_lload_n dX0_rounded_9 rfl rfl ?_
    obtain ⟨ho1, hS⟩ := hS
    refine fs_ldiv dX0_rounded_10 ho1 ?_
    refine fs_lstore (L' := [(4, .inr (.inl (x1 / x2))), (0, .inr (.inl x1)), (2, .inr (.inl x2))]) dX0_rounded_11 (by decide) rfl ?_
    refine fs_ldc2 (v := (2)) dX0_rounded_13 sk_X0_36 ?_
    refine fs_lload_n dX0_rounded_16 rfl rfl ?_
    refine fs_lload_n dX0_rounded_17 rfl rfl ?_
    have ho1 := hS
    refine fs_lrem dX0_rounded_18 ho1 ?_
    refine fs_lmul dX0_rounded_19 ?_
    refine fs_lstore (L' := [(6, .inr (.inl ((2) * (x1 - x1 / x2 * x2)))), (4, .inr (.inl (x1 / x2))), (0, .inr (.inl x1)), (2, .inr (.inl x2))]) dX0_rounded_20 (by decide) rfl ?_
    refine fs_lload dX0_rounded_22 rfl ?_
    refine fs_lload_n dX0_rounded_24 rfl rfl ?_
    refine fs_lcmp dX0_rounded_25 ?_
    have key_50 : fsW G l mX0_rounded 0 0 0 0 0 Q 50 [(0, .inr (.inl x1)), (2, .inr (.inl x2)), (4, .inr (.inl (x1 / x2))), (6, .inr (.inl ((2) * (x1 - x1 / x2 * x2))))] [.inl (if 0 < (lg_cmp ((2) * (x1 - x1 / x2 * x2)) x2) then 1 else (if (lg_cmp ((2) * (x1 - x1 / x2 * x2)) x2) = 0 then (if (lg_cmp ((x1 / x2) &&& 1) 1) = 0 then 1 else 0 : Int32) else 0 : Int32) : Int32)] (fs_mk ht I A J it dyn) := by
      refine fs_istore (L' := [(8, .inl (if 0 < (lg_cmp ((2) * (x1 - x1 / x2 * x2)) x2) then 1 else (if (lg_cmp ((2) * (x1 - x1 / x2 * x2)) x2) = 0 then (if (lg_cmp ((x1 / x2) &&& 1) 1) = 0 then 1 else 0 : Int32) else 0 : Int32) : Int32)), (0, .inr (.inl x1)), (2, .inr (.inl x2)), (4, .inr (.inl (x1 / x2))), (6, .inr (.inl ((2) * (x1 - x1 / x2 * x2))))]) dX0_rounded_50 (by decide) rfl ?_
      refine fs_iload dX0_rounded_52 rfl ?_
      have key_66 : fsW G l mX0_rounded 0 0 0 0 0 Q 66 [(0, .inr (.inl x1)), (2, .inr (.inl x2)), (4, .inr (.inl (x1 / x2))), (6, .inr (.inl ((2) * (x1 - x1 / x2 * x2)))), (8, .inl (if 0 < (lg_cmp ((2) * (x1 - x1 / x2 * x2)) x2) then 1 else (if (lg_cmp ((2) * (x1 - x1 / x2 * x2)) x2) = 0 then (if (lg_cmp ((x1 / x2) &&& 1) 1) = 0 then 1 else 0 : Int32) else 0 : Int32) : Int32))] [.inr (.inl (if (if 0 < (lg_cmp ((2) * (x1 - x1 / x2 * x2)) x2) then 1 else (if (lg_cmp ((2) * (x1 - x1 / x2 * x2)) x2) = 0 then (if (lg_cmp ((x1 / x2) &&& 1) 1) = 0 then 1 else 0 : Int32) else 0 : Int32) : Int32) = 0 then (x1 / x2) else ((x1 / x2) + 1) : Int64))] (fs_mk ht I A J it dyn) := by
        have k9 := hq
        try simp only [if_pos c_3] at k9 ⊢
        exact fs_lret dX0_rounded_66 rfl k9
      refine fs_if_eq 64 dX0_rounded_54 (by decide) (fun c_54 : (if 0 < (lg_cmp ((2) * (x1 - x1 / x2 * x2)) x2) then 1 else (if (lg_cmp ((2) * (x1 - x1 / x2 * x2)) x2) = 0 then (if (lg_cmp ((x1 / x2) &&& 1) 1) = 0 then 1 else 0 : Int32) else 0 : Int32) : Int32) = 0 => ?_) (fun c_54 : ¬ ((if 0 < (lg_cmp ((2) * (x1 - x1 / x2 * x2)) x2) then 1 else (if (lg_cmp ((2) * (x1 - x1 / x2 * x2)) x2) = 0 then (if (lg_cmp ((x1 / x2) &&& 1) 1) = 0 then 1 else 0 : Int32) else 0 : Int32) : Int32) = 0) => ?_)
      · refine fs_lload dX0_rounded_64 rfl ?_
        refine fs_reL [1, 2, 3, 4, 0] rfl ?_
        have k9 := key_66
        try simp only [if_pos c_3, if_pos c_54] at k9 ⊢
        exact k9
      · refine fs_lload dX0_rounded_57 rfl ?_
        refine fs_lconst (v := 1) dX0_rounded_59 rfl ?_
        refine fs_ladd dX0_rounded_60 ?_
        refine fs_goto 66 dX0_rounded_61 (by decide) ?_
        refine fs_reL [1, 2, 3, 4, 0] rfl ?_
        have k9 := key_66
        try simp only [if_pos c_3, if_neg c_54] at k9 ⊢
        exact k9
    refine fs_if_gt 45 dX0_rounded_26 (by decide) (fun c_26 : 0 < (lg_cmp ((2) * (x1 - x1 / x2 * x2)) x2) => ?_) (fun c_26 : ¬ (0 < (lg_cmp ((2) * (x1 - x1 / x2 * x2)) x2)) => ?_)
    · refine fs_iconst (v := 1) dX0_rounded_45 rfl ?_
      refine fs_goto 50 dX0_rounded_46 (by decide) ?_
      refine fs_reL [2, 3, 1, 0] rfl ?_
      have k9 := key_50
      try simp only [if_pos c_3, if_pos c_26] at k9 ⊢
      exact k9
    · refine fs_lload dX0_rounded_29 rfl ?_
      refine fs_lload_n dX0_rounded_31 rfl rfl ?_
      refine fs_lcmp dX0_rounded_32 ?_
      refine fs_if_ne 49 dX0_rounded_33 (by decide) (fun c_33 : ¬ (lg_cmp ((2) * (x1 - x1 / x2 * x2)) x2) = 0 => ?_) (fun c_33 : (lg_cmp ((2) * (x1 - x1 / x2 * x2)) x2) = 0 => ?_)
      · refine fs_iconst (v := 0) dX0_rounded_49 rfl ?_
        refine fs_reL [2, 3, 1, 0] rfl ?_
        have k9 := key_50
        try simp only [if_pos c_3, if_neg c_26, if_neg c_33] at k9 ⊢
        exact k9
      · refine fs_lload dX0_rounded_36 rfl ?_
        refine fs_lconst (v := 1) dX0_rounded_38 rfl ?_
        refine fs_land dX0_rounded_39 ?_
        refine fs_lconst (v := 1) dX0_rounded_40 rfl ?_
        refine fs_lcmp dX0_rounded_41 ?_
        refine fs_if_ne 49 dX0_rounded_42 (by decide) (fun c_42 : ¬ (lg_cmp ((x1 / x2) &&& 1) 1) = 0 => ?_) (fun c_42 : (lg_cmp ((x1 / x2) &&& 1) 1) = 0 => ?_)
        · refine fs_iconst (v := 0) dX0_rounded_49 rfl ?_
          refine fs_reL [2, 3, 1, 0] rfl ?_
          have k9 := key_50
          try simp only [if_pos c_3, if_neg c_26, if_pos c_33, if_neg c_42] at k9 ⊢
          exact k9
        · refine fs_iconst (v := 1) dX0_rounded_45 rfl ?_
          refine fs_goto 50 dX0_rounded_46 (by decide) ?_
          refine fs_reL [2, 3, 1, 0] rfl ?_
          have k9 := key_50
          try simp only [if_pos c_3, if_neg c_26, if_pos c_33, if_pos c_42] at k9 ⊢
          exact k9
  · refine fs_lconst (v := 0) dX0_rounded_6 rfl ?_
    have k9 := hq
    try simp only [if_neg c_3] at k9 ⊢
    exact fs_lret dX0_rounded_7 rfl k9
def L_X0_product_r (ht : Nat) (I : Nat → Int32) (A : Nat → Nat → Int32) (J : Nat → Nat → Int64) (it : Nat → Option Nat) (dyn : fsH) (x1 : Int64) (x2 : Int64) : Int64 := (if (lg_cmp (if 0 < x1 then x1 else -x1) 0) = 0 then 0 else (if (lg_cmp (if 0 < x2 then x2 else -x2) ((100000000000000050) / (if 0 < x1 then x1 else -x1))) ≤ 0 then (L_X0_limited_r ht I A J it dyn (if (if 0 ≤ (lg_cmp x1 0) then 0 else 1 : Int32) = (if 0 ≤ (lg_cmp x2 0) then 0 else 1 : Int32) then (L_X0_rounded_r ht I A J it dyn ((if 0 < x1 then x1 else -x1) * (if 0 < x2 then x2 else -x2)) (100)) else (-(L_X0_rounded_r ht I A J it dyn ((if 0 < x1 then x1 else -x1) * (if 0 < x2 then x2 else -x2)) (100))) : Int64)) else (10000000000000001)))
def S_X0_product (ht : Nat) (I : Nat → Int32) (A : Nat → Nat → Int32) (J : Nat → Nat → Int64) (it : Nat → Option Nat) (dyn : fsH) (x1 : Int64) (x2 : Int64) : Prop := (¬ ((lg_cmp (if 0 < x1 then x1 else -x1) 0) = 0) → ((¬ (if 0 < x1 then x1 else -x1) = 0) ∧ (((lg_cmp (if 0 < x2 then x2 else -x2) ((100000000000000050) / (if 0 < x1 then x1 else -x1))) ≤ 0) → (S_X0_rounded ht I A J it dyn ((if 0 < x1 then x1 else -x1) * (if 0 < x2 then x2 else -x2)) (100)))))
set_option maxRecDepth 100000 in
set_option maxHeartbeats 4000000 in
theorem c_X0_product (G : fsG) (l : Launch) (ht : Nat) (I : Nat → Int32) (A : Nat → Nat → Int32) (J : Nat → Nat → Int64) (it : Nat → Option Nat) (dyn : fsH) (x1 : Int64) (x2 : Int64) (hS : S_X0_product ht I A J it dyn x1 x2) : fsFn G l mX0_product 1 0 0 [.inr (.inl x1), .inr (.inl x2)] (fs_mk ht I A J it dyn) (some (.inr (.inl (L_X0_product_r ht I A J it dyn x1 x2)))) (fs_mk ht I A J it dyn) := by
  refine fsMet_of (by decide) (Nat.le_of_ble_eq_true rfl) ?_
  generalize hQ : (fun (r1 : Option fsV) (h1 : fsH) => r1 = (some (.inr (.inl (L_X0_product_r ht I A J it dyn x1 x2)))) ∧ h1 = (fs_mk ht I A J it dyn)) = Q
  have hq : Q (some (.inr (.inl (L_X0_product_r ht I A J it dyn x1 x2)))) (fs_mk ht I A J it dyn) := by rw [← hQ]; exact ⟨rfl, rfl⟩
  clear hQ
  have hq : Q (some (.inr (.inl (if (lg_cmp (if 0 < x1 then x1 else -x1) 0) = 0 then 0 else (if (lg_cmp (if 0 < x2 then x2 else -x2) ((100000000000000050) / (if 0 < x1 then x1 else -x1))) ≤ 0 then (L_X0_limited_r ht I A J it dyn (if (if 0 ≤ (lg_cmp x1 0) then 0 else 1 : Int32) = (if 0 ≤ (lg_cmp x2 0) then 0 else 1 : Int32) then (L_X0_rounded_r ht I A J it dyn ((if 0 < x1 then x1 else -x1) * (if 0 < x2 then x2 else -x2)) (100)) else (-(L_X0_rounded_r ht I A J it dyn ((if 0 < x1 then x1 else -x1) * (if 0 < x2 then x2 else -x2)) (100))) : Int64)) else (10000000000000001)))))) (fs_mk ht I A J it dyn) := hq
  have hS : (¬ ((lg_cmp (if 0 < x1 then x1 else -x1) 0) = 0) → ((¬ (if 0 < x1 then x1 else -x1) = 0) ∧ (((lg_cmp (if 0 < x2 then x2 else -x2) ((100000000000000050) / (if 0 < x1 then x1 else -x1))) ≤ 0) → (S_X0_rounded ht I A J it dyn ((if 0 < x1 then x1 else -x1) * (if 0 < x2 then x2 else -x2)) (100))))) := hS
  refine (show fsW G l mX0_product 1 0 0 0 0 Q 0 [(0, .inr (.inl x1)), (2, .inr (.inl x2))] [] (fs_mk ht I A J it dyn) from ?_)
  refine fs_lload_n dX0_product_0 rfl rfl ?_
  refine fs_absL dX0_product_1 sl_X0_15 w_ms_abs w_mi w_mc_abs (Nat.le_of_ble_eq_true rfl) (Nat.le_of_ble_eq_true rfl) (Nat.le_of_ble_eq_true rfl) (Nat.le_of_ble_eq_true rfl) ?_
  refine fs_lstore (L' := [(4, .inr (.inl (if 0 < x1 then x1 else -x1))), (0, .inr (.inl x1)), (2, .inr (.inl x2))]) dX0_product_4 (by decide) rfl ?_
  refine fs_lload_n dX0_product_6 rfl rfl ?_
  refine fs_absL dX0_product_7 sl_X0_15 w_ms_abs w_mi w_mc_abs (Nat.le_of_ble_eq_true rfl) (Nat.le_of_ble_eq_true rfl) (Nat.le_of_ble_eq_true rfl) (Nat.le_of_ble_eq_true rfl) ?_
  refine fs_lstore (L' := [(6, .inr (.inl (if 0 < x2 then x2 else -x2))), (4, .inr (.inl (if 0 < x1 then x1 else -x1))), (0, .inr (.inl x1)), (2, .inr (.inl x2))]) dX0_product_10 (by decide) rfl ?_
  refine fs_lload dX0_product_12 rfl ?_
  refine fs_lconst (v := 0) dX0_product_14 rfl ?_
  refine fs_lcmp dX0_product_15 ?_
  refine fs_if_ne 21 dX0_product_16 (by decide) (fun c_16 : ¬ (lg_cmp (if 0 < x1 then x1 else -x1) 0) = 0 => ?_) (fun c_16 : (lg_cmp (if 0 < x1 then x1 else -x1) 0) = 0 => ?_)
  · have hS := hS c_16
    refine fs_lload dX0_product_21 rfl ?_
    refine fs_ldc2 (v := (100000000000000050)) dX0_product_23 sk_X0_21 ?_
    refine fs_lload dX0_product_26 rfl ?_
    obtain ⟨ho1, hS⟩ := hS
    refine fs_ldiv dX0_product_28 ho1 ?_
    refine fs_lcmp dX0_product_29 ?_
    refine fs_if_le 37 dX0_product_30 (by decide) (fun c_30 : (lg_cmp (if 0 < x2 then x2 else -x2) ((100000000000000050) / (if 0 < x1 then x1 else -x1))) ≤ 0 => ?_) (fun c_30 : ¬ ((lg_cmp (if 0 < x2 then x2 else -x2) ((100000000000000050) / (if 0 < x1 then x1 else -x1))) ≤ 0) => ?_)
    · have hS := hS c_30
      refine fs_lload dX0_product_37 rfl ?_
      refine fs_lload dX0_product_39 rfl ?_
      refine fs_lmul dX0_product_41 ?_
      refine fs_ldc2 (v := (100)) dX0_product_42 sk_X0_23 ?_
      have ho1 := hS
      refine fs_callS1 dX0_product_45 sv_X0_25 (c_X0_rounded G l ht I A J it dyn ((if 0 < x1 then x1 else -x1) * (if 0 < x2 then x2 else -x2)) (100) ho1) rfl rfl (Nat.le_of_ble_eq_true rfl) (Nat.le_of_ble_eq_true rfl) (Nat.le_of_ble_eq_true rfl) (Nat.le_of_ble_eq_true rfl) ?_
      refine fs_lstore (L' := [(8, .inr (.inl (L_X0_rounded_r ht I A J it dyn ((if 0 < x1 then x1 else -x1) * (if 0 < x2 then x2 else -x2)) (100)))), (6, .inr (.inl (if 0 < x2 then x2 else -x2))), (4, .inr (.inl (if 0 < x1 then x1 else -x1))), (0, .inr (.inl x1)), (2, .inr (.inl x2))]) dX0_product_48 (by decide) rfl ?_
      refine fs_lload_n dX0_product_50 rfl rfl ?_
      refine fs_lconst (v := 0) dX0_product_51 rfl ?_
      refine fs_lcmp dX0_product_52 ?_
      have key_61 : fsW G l mX0_product 1 0 0 0 0 Q 61 [(0, .inr (.inl x1)), (2, .inr (.inl x2)), (4, .inr (.inl (if 0 < x1 then x1 else -x1))), (6, .inr (.inl (if 0 < x2 then x2 else -x2))), (8, .inr (.inl (L_X0_rounded_r ht I A J it dyn ((if 0 < x1 then x1 else -x1) * (if 0 < x2 then x2 else -x2)) (100))))] [.inl (if 0 ≤ (lg_cmp x1 0) then 0 else 1 : Int32)] (fs_mk ht I A J it dyn) := by
        refine fs_lload_n dX0_product_61 rfl rfl ?_
        refine fs_lconst (v := 0) dX0_product_62 rfl ?_
        refine fs_lcmp dX0_product_63 ?_
        have key_72 : fsW G l mX0_product 1 0 0 0 0 Q 72 [(0, .inr (.inl x1)), (2, .inr (.inl x2)), (4, .inr (.inl (if 0 < x1 then x1 else -x1))), (6, .inr (.inl (if 0 < x2 then x2 else -x2))), (8, .inr (.inl (L_X0_rounded_r ht I A J it dyn ((if 0 < x1 then x1 else -x1) * (if 0 < x2 then x2 else -x2)) (100))))] [.inl (if 0 ≤ (lg_cmp x2 0) then 0 else 1 : Int32), .inl (if 0 ≤ (lg_cmp x1 0) then 0 else 1 : Int32)] (fs_mk ht I A J it dyn) := by
          have key_83 : fsW G l mX0_product 1 0 0 0 0 Q 83 [(0, .inr (.inl x1)), (2, .inr (.inl x2)), (4, .inr (.inl (if 0 < x1 then x1 else -x1))), (6, .inr (.inl (if 0 < x2 then x2 else -x2))), (8, .inr (.inl (L_X0_rounded_r ht I A J it dyn ((if 0 < x1 then x1 else -x1) * (if 0 < x2 then x2 else -x2)) (100))))] [.inr (.inl (if (if 0 ≤ (lg_cmp x1 0) then 0 else 1 : Int32) = (if 0 ≤ (lg_cmp x2 0) then 0 else 1 : Int32) then (L_X0_rounded_r ht I A J it dyn ((if 0 < x1 then x1 else -x1) * (if 0 < x2 then x2 else -x2)) (100)) else (-(L_X0_rounded_r ht I A J it dyn ((if 0 < x1 then x1 else -x1) * (if 0 < x2 then x2 else -x2)) (100))) : Int64))] (fs_mk ht I A J it dyn) := by
            refine fs_callS1 dX0_product_83 sv_X0_31 (c_X0_limited G l ht I A J it dyn (if (if 0 ≤ (lg_cmp x1 0) then 0 else 1 : Int32) = (if 0 ≤ (lg_cmp x2 0) then 0 else 1 : Int32) then (L_X0_rounded_r ht I A J it dyn ((if 0 < x1 then x1 else -x1) * (if 0 < x2 then x2 else -x2)) (100)) else (-(L_X0_rounded_r ht I A J it dyn ((if 0 < x1 then x1 else -x1) * (if 0 < x2 then x2 else -x2)) (100))) : Int64)) rfl rfl (Nat.le_of_ble_eq_true rfl) (Nat.le_of_ble_eq_true rfl) (Nat.le_of_ble_eq_true rfl) (Nat.le_of_ble_eq_true rfl) ?_
            have k9 := hq
            try simp only [if_neg c_16, if_pos c_30] at k9 ⊢
            exact fs_lret dX0_product_86 rfl k9
          refine fs_icmp_eq 81 dX0_product_72 (by decide) (fun c_72 : (if 0 ≤ (lg_cmp x1 0) then 0 else 1 : Int32) = (if 0 ≤ (lg_cmp x2 0) then 0 else 1 : Int32) => ?_) (fun c_72 : ¬ ((if 0 ≤ (lg_cmp x1 0) then 0 else 1 : Int32) = (if 0 ≤ (lg_cmp x2 0) then 0 else 1 : Int32)) => ?_)
          · refine fs_lload dX0_product_81 rfl ?_
            have k9 := key_83
            try simp only [if_neg c_16, if_pos c_30, if_pos c_72] at k9 ⊢
            exact k9
          · refine fs_lload dX0_product_75 rfl ?_
            refine fs_lneg dX0_product_77 ?_
            refine fs_goto 83 dX0_product_78 (by decide) ?_
            have k9 := key_83
            try simp only [if_neg c_16, if_pos c_30, if_neg c_72] at k9 ⊢
            exact k9
        refine fs_if_ge 71 dX0_product_64 (by decide) (fun c_64 : 0 ≤ (lg_cmp x2 0) => ?_) (fun c_64 : ¬ (0 ≤ (lg_cmp x2 0)) => ?_)
        · refine fs_iconst (v := 0) dX0_product_71 rfl ?_
          have k9 := key_72
          try simp only [if_neg c_16, if_pos c_30, if_pos c_64] at k9 ⊢
          exact k9
        · refine fs_iconst (v := 1) dX0_product_67 rfl ?_
          refine fs_goto 72 dX0_product_68 (by decide) ?_
          have k9 := key_72
          try simp only [if_neg c_16, if_pos c_30, if_neg c_64] at k9 ⊢
          exact k9
      refine fs_if_ge 60 dX0_product_53 (by decide) (fun c_53 : 0 ≤ (lg_cmp x1 0) => ?_) (fun c_53 : ¬ (0 ≤ (lg_cmp x1 0)) => ?_)
      · refine fs_iconst (v := 0) dX0_product_60 rfl ?_
        refine fs_reL [3, 4, 2, 1, 0] rfl ?_
        have k9 := key_61
        try simp only [if_neg c_16, if_pos c_30, if_pos c_53] at k9 ⊢
        exact k9
      · refine fs_iconst (v := 1) dX0_product_56 rfl ?_
        refine fs_goto 61 dX0_product_57 (by decide) ?_
        refine fs_reL [3, 4, 2, 1, 0] rfl ?_
        have k9 := key_61
        try simp only [if_neg c_16, if_pos c_30, if_neg c_53] at k9 ⊢
        exact k9
    · refine fs_ldc2 (v := (10000000000000001)) dX0_product_33 sk_X0_13 ?_
      have k9 := hq
      try simp only [if_neg c_16, if_neg c_30] at k9 ⊢
      exact fs_lret dX0_product_36 rfl k9
  · refine fs_lconst (v := 0) dX0_product_19 rfl ?_
    have k9 := hq
    try simp only [if_pos c_16] at k9 ⊢
    exact fs_lret dX0_product_20 rfl k9
def L_X0_quotient_r (ht : Nat) (I : Nat → Int32) (A : Nat → Nat → Int32) (J : Nat → Nat → Int64) (it : Nat → Option Nat) (dyn : fsH) (x1 : Int64) (x2 : Int64) : Int64 := (if (lg_cmp x2 0) = 0 then (10000000000000002) else (L_X0_limited_r ht I A J it dyn (if (if 0 ≤ (lg_cmp x1 0) then 0 else 1 : Int32) = (if 0 ≤ (lg_cmp x2 0) then 0 else 1 : Int32) then (L_X0_rounded_r ht I A J it dyn ((100) * (if 0 < x1 then x1 else -x1)) (if 0 < x2 then x2 else -x2)) else (-(L_X0_rounded_r ht I A J it dyn ((100) * (if 0 < x1 then x1 else -x1)) (if 0 < x2 then x2 else -x2))) : Int64)))
def S_X0_quotient (ht : Nat) (I : Nat → Int32) (A : Nat → Nat → Int32) (J : Nat → Nat → Int64) (it : Nat → Option Nat) (dyn : fsH) (x1 : Int64) (x2 : Int64) : Prop := (¬ ((lg_cmp x2 0) = 0) → (S_X0_rounded ht I A J it dyn ((100) * (if 0 < x1 then x1 else -x1)) (if 0 < x2 then x2 else -x2)))
set_option maxRecDepth 100000 in
set_option maxHeartbeats 4000000 in
theorem c_X0_quotient (G : fsG) (l : Launch) (ht : Nat) (I : Nat → Int32) (A : Nat → Nat → Int32) (J : Nat → Nat → Int64) (it : Nat → Option Nat) (dyn : fsH) (x1 : Int64) (x2 : Int64) (hS : S_X0_quotient ht I A J it dyn x1 x2) : fsFn G l mX0_quotient 1 0 0 [.inr (.inl x1), .inr (.inl x2)] (fs_mk ht I A J it dyn) (some (.inr (.inl (L_X0_quotient_r ht I A J it dyn x1 x2)))) (fs_mk ht I A J it dyn) := by
  refine fsMet_of (by decide) (Nat.le_of_ble_eq_true rfl) ?_
  generalize hQ : (fun (r1 : Option fsV) (h1 : fsH) => r1 = (some (.inr (.inl (L_X0_quotient_r ht I A J it dyn x1 x2)))) ∧ h1 = (fs_mk ht I A J it dyn)) = Q
  have hq : Q (some (.inr (.inl (L_X0_quotient_r ht I A J it dyn x1 x2)))) (fs_mk ht I A J it dyn) := by rw [← hQ]; exact ⟨rfl, rfl⟩
  clear hQ
  have hq : Q (some (.inr (.inl (if (lg_cmp x2 0) = 0 then (10000000000000002) else (L_X0_limited_r ht I A J it dyn (if (if 0 ≤ (lg_cmp x1 0) then 0 else 1 : Int32) = (if 0 ≤ (lg_cmp x2 0) then 0 else 1 : Int32) then (L_X0_rounded_r ht I A J it dyn ((100) * (if 0 < x1 then x1 else -x1)) (if 0 < x2 then x2 else -x2)) else (-(L_X0_rounded_r ht I A J it dyn ((100) * (if 0 < x1 then x1 else -x1)) (if 0 < x2 then x2 else -x2))) : Int64)))))) (fs_mk ht I A J it dyn) := hq
  have hS : (¬ ((lg_cmp x2 0) = 0) → (S_X0_rounded ht I A J it dyn ((100) * (if 0 < x1 then x1 else -x1)) (if 0 < x2 then x2 else -x2))) := hS
  refine (show fsW G l mX0_quotient 1 0 0 0 0 Q 0 [(0, .inr (.inl x1)), (2, .inr (.inl x2))] [] (fs_mk ht I A J it dyn) from ?_)
  refine fs_lload_n dX0_quotient_0 rfl rfl ?_
  refine fs_lconst (v := 0) dX0_quotient_1 rfl ?_
  refine fs_lcmp dX0_quotient_2 ?_
  refine fs_if_ne 10 dX0_quotient_3 (by decide) (fun c_3 : ¬ (lg_cmp x2 0) = 0 => ?_) (fun c_3 : (lg_cmp x2 0) = 0 => ?_)
  · have hS := hS c_3
    refine fs_ldc2 (v := (100)) dX0_quotient_10 sk_X0_23 ?_
    refine fs_lload_n dX0_quotient_13 rfl rfl ?_
    refine fs_absL dX0_quotient_14 sl_X0_15 w_ms_abs w_mi w_mc_abs (Nat.le_of_ble_eq_true rfl) (Nat.le_of_ble_eq_true rfl) (Nat.le_of_ble_eq_true rfl) (Nat.le_of_ble_eq_true rfl) ?_
    refine fs_lmul dX0_quotient_17 ?_
    refine fs_lload_n dX0_quotient_18 rfl rfl ?_
    refine fs_absL dX0_quotient_19 sl_X0_15 w_ms_abs w_mi w_mc_abs (Nat.le_of_ble_eq_true rfl) (Nat.le_of_ble_eq_true rfl) (Nat.le_of_ble_eq_true rfl) (Nat.le_of_ble_eq_true rfl) ?_
    have ho1 := hS
    refine fs_callS1 dX0_quotient_22 sv_X0_25 (c_X0_rounded G l ht I A J it dyn ((100) * (if 0 < x1 then x1 else -x1)) (if 0 < x2 then x2 else -x2) ho1) rfl rfl (Nat.le_of_ble_eq_true rfl) (Nat.le_of_ble_eq_true rfl) (Nat.le_of_ble_eq_true rfl) (Nat.le_of_ble_eq_true rfl) ?_
    refine fs_lstore (L' := [(4, .inr (.inl (L_X0_rounded_r ht I A J it dyn ((100) * (if 0 < x1 then x1 else -x1)) (if 0 < x2 then x2 else -x2)))), (0, .inr (.inl x1)), (2, .inr (.inl x2))]) dX0_quotient_25 (by decide) rfl ?_
    refine fs_lload_n dX0_quotient_27 rfl rfl ?_
    refine fs_lconst (v := 0) dX0_quotient_28 rfl ?_
    refine fs_lcmp dX0_quotient_29 ?_
    have key_38 : fsW G l mX0_quotient 1 0 0 0 0 Q 38 [(0, .inr (.inl x1)), (2, .inr (.inl x2)), (4, .inr (.inl (L_X0_rounded_r ht I A J it dyn ((100) * (if 0 < x1 then x1 else -x1)) (if 0 < x2 then x2 else -x2))))] [.inl (if 0 ≤ (lg_cmp x1 0) then 0 else 1 : Int32)] (fs_mk ht I A J it dyn) := by
      refine fs_lload_n dX0_quotient_38 rfl rfl ?_
      refine fs_lconst (v := 0) dX0_quotient_39 rfl ?_
      refine fs_lcmp dX0_quotient_40 ?_
      have key_49 : fsW G l mX0_quotient 1 0 0 0 0 Q 49 [(0, .inr (.inl x1)), (2, .inr (.inl x2)), (4, .inr (.inl (L_X0_rounded_r ht I A J it dyn ((100) * (if 0 < x1 then x1 else -x1)) (if 0 < x2 then x2 else -x2))))] [.inl (if 0 ≤ (lg_cmp x2 0) then 0 else 1 : Int32), .inl (if 0 ≤ (lg_cmp x1 0) then 0 else 1 : Int32)] (fs_mk ht I A J it dyn) := by
        have key_60 : fsW G l mX0_quotient 1 0 0 0 0 Q 60 [(0, .inr (.inl x1)), (2, .inr (.inl x2)), (4, .inr (.inl (L_X0_rounded_r ht I A J it dyn ((100) * (if 0 < x1 then x1 else -x1)) (if 0 < x2 then x2 else -x2))))] [.inr (.inl (if (if 0 ≤ (lg_cmp x1 0) then 0 else 1 : Int32) = (if 0 ≤ (lg_cmp x2 0) then 0 else 1 : Int32) then (L_X0_rounded_r ht I A J it dyn ((100) * (if 0 < x1 then x1 else -x1)) (if 0 < x2 then x2 else -x2)) else (-(L_X0_rounded_r ht I A J it dyn ((100) * (if 0 < x1 then x1 else -x1)) (if 0 < x2 then x2 else -x2))) : Int64))] (fs_mk ht I A J it dyn) := by
          refine fs_callS1 dX0_quotient_60 sv_X0_31 (c_X0_limited G l ht I A J it dyn (if (if 0 ≤ (lg_cmp x1 0) then 0 else 1 : Int32) = (if 0 ≤ (lg_cmp x2 0) then 0 else 1 : Int32) then (L_X0_rounded_r ht I A J it dyn ((100) * (if 0 < x1 then x1 else -x1)) (if 0 < x2 then x2 else -x2)) else (-(L_X0_rounded_r ht I A J it dyn ((100) * (if 0 < x1 then x1 else -x1)) (if 0 < x2 then x2 else -x2))) : Int64)) rfl rfl (Nat.le_of_ble_eq_true rfl) (Nat.le_of_ble_eq_true rfl) (Nat.le_of_ble_eq_true rfl) (Nat.le_of_ble_eq_true rfl) ?_
          have k9 := hq
          try simp only [if_neg c_3] at k9 ⊢
          exact fs_lret dX0_quotient_63 rfl k9
        refine fs_icmp_eq 58 dX0_quotient_49 (by decide) (fun c_49 : (if 0 ≤ (lg_cmp x1 0) then 0 else 1 : Int32) = (if 0 ≤ (lg_cmp x2 0) then 0 else 1 : Int32) => ?_) (fun c_49 : ¬ ((if 0 ≤ (lg_cmp x1 0) then 0 else 1 : Int32) = (if 0 ≤ (lg_cmp x2 0) then 0 else 1 : Int32)) => ?_)
        · refine fs_lload dX0_quotient_58 rfl ?_
          have k9 := key_60
          try simp only [if_neg c_3, if_pos c_49] at k9 ⊢
          exact k9
        · refine fs_lload dX0_quotient_52 rfl ?_
          refine fs_lneg dX0_quotient_54 ?_
          refine fs_goto 60 dX0_quotient_55 (by decide) ?_
          have k9 := key_60
          try simp only [if_neg c_3, if_neg c_49] at k9 ⊢
          exact k9
      refine fs_if_ge 48 dX0_quotient_41 (by decide) (fun c_41 : 0 ≤ (lg_cmp x2 0) => ?_) (fun c_41 : ¬ (0 ≤ (lg_cmp x2 0)) => ?_)
      · refine fs_iconst (v := 0) dX0_quotient_48 rfl ?_
        have k9 := key_49
        try simp only [if_neg c_3, if_pos c_41] at k9 ⊢
        exact k9
      · refine fs_iconst (v := 1) dX0_quotient_44 rfl ?_
        refine fs_goto 49 dX0_quotient_45 (by decide) ?_
        have k9 := key_49
        try simp only [if_neg c_3, if_neg c_41] at k9 ⊢
        exact k9
    refine fs_if_ge 37 dX0_quotient_30 (by decide) (fun c_30 : 0 ≤ (lg_cmp x1 0) => ?_) (fun c_30 : ¬ (0 ≤ (lg_cmp x1 0)) => ?_)
    · refine fs_iconst (v := 0) dX0_quotient_37 rfl ?_
      refine fs_reL [1, 2, 0] rfl ?_
      have k9 := key_38
      try simp only [if_neg c_3, if_pos c_30] at k9 ⊢
      exact k9
    · refine fs_iconst (v := 1) dX0_quotient_33 rfl ?_
      refine fs_goto 38 dX0_quotient_34 (by decide) ?_
      refine fs_reL [1, 2, 0] rfl ?_
      have k9 := key_38
      try simp only [if_neg c_3, if_neg c_30] at k9 ⊢
      exact k9
  · refine fs_ldc2 (v := (10000000000000002)) dX0_quotient_6 sk_X0_34 ?_
    have k9 := hq
    try simp only [if_pos c_3] at k9 ⊢
    exact fs_lret dX0_quotient_9 rfl k9
def L_X6_setOf_r (ht : Nat) (I : Nat → Int32) (A : Nat → Nat → Int32) (J : Nat → Nat → Int64) (it : Nat → Option Nat) (dyn : fsH) (x1 : Int32) : Int64 := (1 <<< (x1.toInt64 &&& 63))
set_option maxRecDepth 100000 in
set_option maxHeartbeats 4000000 in
theorem c_X6_setOf (G : fsG) (l : Launch) (ht : Nat) (I : Nat → Int32) (A : Nat → Nat → Int32) (J : Nat → Nat → Int64) (it : Nat → Option Nat) (dyn : fsH) (x1 : Int32) : fsFn G l mX6_setOf 0 0 0 [.inl x1] (fs_mk ht I A J it dyn) (some (.inr (.inl (L_X6_setOf_r ht I A J it dyn x1)))) (fs_mk ht I A J it dyn) := by
  refine fsMet_of (by decide) (Nat.le_of_ble_eq_true rfl) ?_
  generalize hQ : (fun (r1 : Option fsV) (h1 : fsH) => r1 = (some (.inr (.inl (L_X6_setOf_r ht I A J it dyn x1)))) ∧ h1 = (fs_mk ht I A J it dyn)) = Q
  have hq : Q (some (.inr (.inl (L_X6_setOf_r ht I A J it dyn x1)))) (fs_mk ht I A J it dyn) := by rw [← hQ]; exact ⟨rfl, rfl⟩
  clear hQ
  have hq : Q (some (.inr (.inl (1 <<< (x1.toInt64 &&& 63))))) (fs_mk ht I A J it dyn) := hq
  refine (show fsW G l mX6_setOf 0 0 0 0 0 Q 0 [(0, .inl x1)] [] (fs_mk ht I A J it dyn) from ?_)
  refine fs_lconst (v := 1) dX6_setOf_0 rfl ?_
  refine fs_iload_n dX6_setOf_1 rfl rfl ?_
  refine fs_lshl dX6_setOf_2 ?_
  have k9 := hq
  exact fs_lret dX6_setOf_3 rfl k9
def L_X1_empty_I (ht : Nat) (I : Nat → Int32) (A : Nat → Nat → Int32) (J : Nat → Nat → Int64) (it : Nat → Option Nat) (dyn : fsH)  : Nat → Int32 := (upd (upd I 4 0) 5 1)
set_option maxRecDepth 100000 in
set_option maxHeartbeats 4000000 in
theorem c_X1_empty (G : fsG) (l : Launch) (ht : Nat) (I : Nat → Int32) (A : Nat → Nat → Int32) (J : Nat → Nat → Int64) (it : Nat → Option Nat) (dyn : fsH)  : fsFn G l mX1_empty 0 0 0 [.inr (.inr (some 3))] (fs_mk ht I A J it dyn) none (fs_mk ht (L_X1_empty_I ht I A J it dyn ) A J it dyn) := by
  refine fsMet_of (by decide) (Nat.le_of_ble_eq_true rfl) ?_
  generalize hQ : (fun (r1 : Option fsV) (h1 : fsH) => r1 = none ∧ h1 = (fs_mk ht (L_X1_empty_I ht I A J it dyn ) A J it dyn)) = Q
  have hq : Q none (fs_mk ht (L_X1_empty_I ht I A J it dyn ) A J it dyn) := by rw [← hQ]; exact ⟨rfl, rfl⟩
  clear hQ
  have hq : Q none (fs_mk ht (upd (upd I 4 0) 5 1) A J it dyn) := hq
  refine (show fsW G l mX1_empty 0 0 0 0 0 Q 0 [(0, .inr (.inr (some 3)))] [] (fs_mk ht I A J it dyn) from ?_)
  refine fs_aload_n dX1_empty_0 rfl rfl ?_
  refine fs_iconst (v := 0) dX1_empty_1 rfl ?_
  refine fsp_4 dX1_empty_2 sp_X1_17 ?_
  refine fs_aload_n dX1_empty_5 rfl rfl ?_
  refine fs_iconst (v := 1) dX1_empty_6 rfl ?_
  refine fsp_5 dX1_empty_7 sp_X1_21 ?_
  have k9 := hq
  exact fs_ret dX1_empty_10 rfl k9
def L_X1_isOfKind_r (ht : Nat) (I : Nat → Int32) (A : Nat → Nat → Int32) (J : Nat → Nat → Int64) (it : Nat → Option Nat) (dyn : fsH) (x1 : Int32) (x2 : Int32) : Int32 := (if x1 < 0 then 0 else (if (I 4) ≤ x1 then 0 else (if (fs_dI dyn (it x1.toNatClampNeg) 0) = x2 then 1 else 0 : Int32) : Int32) : Int32)
def S_X1_isOfKind (ht : Nat) (I : Nat → Int32) (A : Nat → Nat → Int32) (J : Nat → Nat → Int64) (it : Nat → Option Nat) (dyn : fsH) (x1 : Int32) (x2 : Int32) : Prop := (¬ (x1 < 0) → (¬ ((I 4) ≤ x1) → ((vp_in x1 16) ∧ (fs_okI dyn (it x1.toNatClampNeg)))))
set_option maxRecDepth 100000 in
set_option maxHeartbeats 4000000 in
theorem c_X1_isOfKind (G : fsG) (l : Launch) (ht : Nat) (I : Nat → Int32) (A : Nat → Nat → Int32) (J : Nat → Nat → Int64) (it : Nat → Option Nat) (dyn : fsH) (x1 : Int32) (x2 : Int32) (hS : S_X1_isOfKind ht I A J it dyn x1 x2) : fsFn G l mX1_isOfKind 0 0 0 [.inr (.inr (some 3)), .inl x1, .inl x2] (fs_mk ht I A J it dyn) (some (.inl (L_X1_isOfKind_r ht I A J it dyn x1 x2))) (fs_mk ht I A J it dyn) := by
  refine fsMet_of (by decide) (Nat.le_of_ble_eq_true rfl) ?_
  generalize hQ : (fun (r1 : Option fsV) (h1 : fsH) => r1 = (some (.inl (L_X1_isOfKind_r ht I A J it dyn x1 x2))) ∧ h1 = (fs_mk ht I A J it dyn)) = Q
  have hq : Q (some (.inl (L_X1_isOfKind_r ht I A J it dyn x1 x2))) (fs_mk ht I A J it dyn) := by rw [← hQ]; exact ⟨rfl, rfl⟩
  clear hQ
  have hq : Q (some (.inl (if x1 < 0 then 0 else (if (I 4) ≤ x1 then 0 else (if (fs_dI dyn (it x1.toNatClampNeg) 0) = x2 then 1 else 0 : Int32) : Int32) : Int32))) (fs_mk ht I A J it dyn) := hq
  have hS : (¬ (x1 < 0) → (¬ ((I 4) ≤ x1) → ((vp_in x1 16) ∧ (fs_okI dyn (it x1.toNatClampNeg))))) := hS
  refine (show fsW G l mX1_isOfKind 0 0 0 0 0 Q 0 [(0, .inr (.inr (some 3))), (1, .inl x1), (2, .inl x2)] [] (fs_mk ht I A J it dyn) from ?_)
  refine fs_iload_n dX1_isOfKind_0 rfl rfl ?_
  have hR_1 := hS
  have key_30 : fsW G l mX1_isOfKind 0 0 0 0 0 Q 30 [(0, .inr (.inr (some 3))), (1, .inl x1), (2, .inl x2)] [.inl (if x1 < 0 then 0 else (if (I 4) ≤ x1 then 0 else (if (fs_dI dyn (it x1.toNatClampNeg) 0) = x2 then 1 else 0 : Int32) : Int32) : Int32)] (fs_mk ht I A J it dyn) := by
    have k9 := hq
    exact fs_iret dX1_isOfKind_30 rfl (by (repeat' split) <;> first | rfl) k9
  refine fs_if_lt 29 dX1_isOfKind_1 (by decide) (fun c_1 : x1 < 0 => ?_) (fun c_1 : ¬ (x1 < 0) => ?_)
  · refine fs_iconst (v := 0) dX1_isOfKind_29 rfl ?_
    have k9 := key_30
    try simp only [if_pos c_1] at k9 ⊢
    exact k9
  · have hS := hR_1 c_1
    refine fs_iload_n dX1_isOfKind_4 rfl rfl ?_
    refine fs_aload_n dX1_isOfKind_5 rfl rfl ?_
    refine fs_getfield (v := .inl (I 4)) dX1_isOfKind_6 sf_X1_17 rfl rfl ?_
    refine fs_icmp_ge 29 dX1_isOfKind_9 (by decide) (fun c_9 : (I 4) ≤ x1 => ?_) (fun c_9 : ¬ ((I 4) ≤ x1) => ?_)
    · refine fs_iconst (v := 0) dX1_isOfKind_29 rfl ?_
      have k9 := key_30
      try simp only [if_neg c_1, if_pos c_9] at k9 ⊢
      exact k9
    · have hS := hS c_9
      refine fs_aload_n dX1_isOfKind_12 rfl rfl ?_
      refine fs_getfield (v := .inr (.inr (some 4))) dX1_isOfKind_13 sf_X1_11 rfl rfl ?_
      refine fs_iload_n dX1_isOfKind_16 rfl rfl ?_
      obtain ⟨ho1, hS⟩ := hS
      refine fs_aaload dX1_isOfKind_17 rfl ho1 ?_
      have ho1 := hS
      refine fsg_I0 dX1_isOfKind_18 sf_X1_24 ho1 ?_
      refine fs_iload_n dX1_isOfKind_21 rfl rfl ?_
      refine fs_icmp_ne 29 dX1_isOfKind_22 (by decide) (fun c_22 : ¬ (fs_dI dyn (it x1.toNatClampNeg) 0) = x2 => ?_) (fun c_22 : (fs_dI dyn (it x1.toNatClampNeg) 0) = x2 => ?_)
      · refine fs_iconst (v := 0) dX1_isOfKind_29 rfl ?_
        have k9 := key_30
        try simp only [if_neg c_1, if_neg c_9, if_neg c_22] at k9 ⊢
        exact k9
      · refine fs_iconst (v := 1) dX1_isOfKind_25 rfl ?_
        refine fs_goto 30 dX1_isOfKind_26 (by decide) ?_
        have k9 := key_30
        try simp only [if_neg c_1, if_neg c_9, if_pos c_22] at k9 ⊢
        exact k9
theorem nb_X1_isOfKind (ht : Nat) (I : Nat → Int32) (A : Nat → Nat → Int32) (J : Nat → Nat → Int64) (it : Nat → Option Nat) (dyn : fsH) (x1 : Int32) (x2 : Int32) : narrow .boolean (.int (L_X1_isOfKind_r ht I A J it dyn x1 x2)) = .int (L_X1_isOfKind_r ht I A J it dyn x1 x2) := by
  unfold L_X1_isOfKind_r
  exact (by (repeat' split) <;> first | rfl)
def L_X1_isField_r (ht : Nat) (I : Nat → Int32) (A : Nat → Nat → Int32) (J : Nat → Nat → Int64) (it : Nat → Option Nat) (dyn : fsH) (x1 : Int32) : Int32 := (L_X1_isOfKind_r ht I A J it dyn x1 102)
def S_X1_isField (ht : Nat) (I : Nat → Int32) (A : Nat → Nat → Int32) (J : Nat → Nat → Int64) (it : Nat → Option Nat) (dyn : fsH) (x1 : Int32) : Prop := (S_X1_isOfKind ht I A J it dyn x1 102)
set_option maxRecDepth 100000 in
set_option maxHeartbeats 4000000 in
theorem c_X1_isField (G : fsG) (l : Launch) (ht : Nat) (I : Nat → Int32) (A : Nat → Nat → Int32) (J : Nat → Nat → Int64) (it : Nat → Option Nat) (dyn : fsH) (x1 : Int32) (hS : S_X1_isField ht I A J it dyn x1) : fsFn G l mX1_isField 1 0 0 [.inr (.inr (some 3)), .inl x1] (fs_mk ht I A J it dyn) (some (.inl (L_X1_isField_r ht I A J it dyn x1))) (fs_mk ht I A J it dyn) := by
  refine fsMet_of (by decide) (Nat.le_of_ble_eq_true rfl) ?_
  generalize hQ : (fun (r1 : Option fsV) (h1 : fsH) => r1 = (some (.inl (L_X1_isField_r ht I A J it dyn x1))) ∧ h1 = (fs_mk ht I A J it dyn)) = Q
  have hq : Q (some (.inl (L_X1_isField_r ht I A J it dyn x1))) (fs_mk ht I A J it dyn) := by rw [← hQ]; exact ⟨rfl, rfl⟩
  clear hQ
  have hq : Q (some (.inl (L_X1_isOfKind_r ht I A J it dyn x1 102))) (fs_mk ht I A J it dyn) := hq
  have hS : (S_X1_isOfKind ht I A J it dyn x1 102) := hS
  refine (show fsW G l mX1_isField 1 0 0 0 0 Q 0 [(0, .inr (.inr (some 3))), (1, .inl x1)] [] (fs_mk ht I A J it dyn) from ?_)
  refine fs_aload_n dX1_isField_0 rfl rfl ?_
  refine fs_iload_n dX1_isField_1 rfl rfl ?_
  refine fs_bipush (v := 102) dX1_isField_2 rfl ?_
  have ho1 := hS
  refine fs_callV1 dX1_isField_4 sv_X1_42 rfl ⟨_, rfl, rfl⟩ (c_X1_isOfKind G l ht I A J it dyn x1 102 ho1) rfl rfl (Nat.le_of_ble_eq_true rfl) (Nat.le_of_ble_eq_true rfl) (Nat.le_of_ble_eq_true rfl) (Nat.le_of_ble_eq_true rfl) ?_
  have k9 := hq
  exact fs_iret dX1_isField_7 rfl (by (repeat' split) <;> first | rfl | exact nb_X1_isOfKind _ _ _ _ _ _ _ _) k9
theorem nb_X1_isField (ht : Nat) (I : Nat → Int32) (A : Nat → Nat → Int32) (J : Nat → Nat → Int64) (it : Nat → Option Nat) (dyn : fsH) (x1 : Int32) : narrow .boolean (.int (L_X1_isField_r ht I A J it dyn x1)) = .int (L_X1_isField_r ht I A J it dyn x1) := by
  unfold L_X1_isField_r
  exact (by (repeat' split) <;> first | rfl | exact nb_X1_isOfKind _ _ _ _ _ _ _ _)
def L_X1_isCheck_r (ht : Nat) (I : Nat → Int32) (A : Nat → Nat → Int32) (J : Nat → Nat → Int64) (it : Nat → Option Nat) (dyn : fsH) (x1 : Int32) : Int32 := (L_X1_isOfKind_r ht I A J it dyn x1 33)
def S_X1_isCheck (ht : Nat) (I : Nat → Int32) (A : Nat → Nat → Int32) (J : Nat → Nat → Int64) (it : Nat → Option Nat) (dyn : fsH) (x1 : Int32) : Prop := (S_X1_isOfKind ht I A J it dyn x1 33)
set_option maxRecDepth 100000 in
set_option maxHeartbeats 4000000 in
theorem c_X1_isCheck (G : fsG) (l : Launch) (ht : Nat) (I : Nat → Int32) (A : Nat → Nat → Int32) (J : Nat → Nat → Int64) (it : Nat → Option Nat) (dyn : fsH) (x1 : Int32) (hS : S_X1_isCheck ht I A J it dyn x1) : fsFn G l mX1_isCheck 1 0 0 [.inr (.inr (some 3)), .inl x1] (fs_mk ht I A J it dyn) (some (.inl (L_X1_isCheck_r ht I A J it dyn x1))) (fs_mk ht I A J it dyn) := by
  refine fsMet_of (by decide) (Nat.le_of_ble_eq_true rfl) ?_
  generalize hQ : (fun (r1 : Option fsV) (h1 : fsH) => r1 = (some (.inl (L_X1_isCheck_r ht I A J it dyn x1))) ∧ h1 = (fs_mk ht I A J it dyn)) = Q
  have hq : Q (some (.inl (L_X1_isCheck_r ht I A J it dyn x1))) (fs_mk ht I A J it dyn) := by rw [← hQ]; exact ⟨rfl, rfl⟩
  clear hQ
  have hq : Q (some (.inl (L_X1_isOfKind_r ht I A J it dyn x1 33))) (fs_mk ht I A J it dyn) := hq
  have hS : (S_X1_isOfKind ht I A J it dyn x1 33) := hS
  refine (show fsW G l mX1_isCheck 1 0 0 0 0 Q 0 [(0, .inr (.inr (some 3))), (1, .inl x1)] [] (fs_mk ht I A J it dyn) from ?_)
  refine fs_aload_n dX1_isCheck_0 rfl rfl ?_
  refine fs_iload_n dX1_isCheck_1 rfl rfl ?_
  refine fs_bipush (v := 33) dX1_isCheck_2 rfl ?_
  have ho1 := hS
  refine fs_callV1 dX1_isCheck_4 sv_X1_42 rfl ⟨_, rfl, rfl⟩ (c_X1_isOfKind G l ht I A J it dyn x1 33 ho1) rfl rfl (Nat.le_of_ble_eq_true rfl) (Nat.le_of_ble_eq_true rfl) (Nat.le_of_ble_eq_true rfl) (Nat.le_of_ble_eq_true rfl) ?_
  have k9 := hq
  exact fs_iret dX1_isCheck_7 rfl (by (repeat' split) <;> first | rfl | exact nb_X1_isOfKind _ _ _ _ _ _ _ _) k9
theorem nb_X1_isCheck (ht : Nat) (I : Nat → Int32) (A : Nat → Nat → Int32) (J : Nat → Nat → Int64) (it : Nat → Option Nat) (dyn : fsH) (x1 : Int32) : narrow .boolean (.int (L_X1_isCheck_r ht I A J it dyn x1)) = .int (L_X1_isCheck_r ht I A J it dyn x1) := by
  unfold L_X1_isCheck_r
  exact (by (repeat' split) <;> first | rfl | exact nb_X1_isOfKind _ _ _ _ _ _ _ _)
def L_X1_isCaption_r (ht : Nat) (I : Nat → Int32) (A : Nat → Nat → Int32) (J : Nat → Nat → Int64) (it : Nat → Option Nat) (dyn : fsH) (x1 : Int32) : Int32 := (L_X1_isOfKind_r ht I A J it dyn x1 34)
def S_X1_isCaption (ht : Nat) (I : Nat → Int32) (A : Nat → Nat → Int32) (J : Nat → Nat → Int64) (it : Nat → Option Nat) (dyn : fsH) (x1 : Int32) : Prop := (S_X1_isOfKind ht I A J it dyn x1 34)
set_option maxRecDepth 100000 in
set_option maxHeartbeats 4000000 in
theorem c_X1_isCaption (G : fsG) (l : Launch) (ht : Nat) (I : Nat → Int32) (A : Nat → Nat → Int32) (J : Nat → Nat → Int64) (it : Nat → Option Nat) (dyn : fsH) (x1 : Int32) (hS : S_X1_isCaption ht I A J it dyn x1) : fsFn G l mX1_isCaption 1 0 0 [.inr (.inr (some 3)), .inl x1] (fs_mk ht I A J it dyn) (some (.inl (L_X1_isCaption_r ht I A J it dyn x1))) (fs_mk ht I A J it dyn) := by
  refine fsMet_of (by decide) (Nat.le_of_ble_eq_true rfl) ?_
  generalize hQ : (fun (r1 : Option fsV) (h1 : fsH) => r1 = (some (.inl (L_X1_isCaption_r ht I A J it dyn x1))) ∧ h1 = (fs_mk ht I A J it dyn)) = Q
  have hq : Q (some (.inl (L_X1_isCaption_r ht I A J it dyn x1))) (fs_mk ht I A J it dyn) := by rw [← hQ]; exact ⟨rfl, rfl⟩
  clear hQ
  have hq : Q (some (.inl (L_X1_isOfKind_r ht I A J it dyn x1 34))) (fs_mk ht I A J it dyn) := hq
  have hS : (S_X1_isOfKind ht I A J it dyn x1 34) := hS
  refine (show fsW G l mX1_isCaption 1 0 0 0 0 Q 0 [(0, .inr (.inr (some 3))), (1, .inl x1)] [] (fs_mk ht I A J it dyn) from ?_)
  refine fs_aload_n dX1_isCaption_0 rfl rfl ?_
  refine fs_iload_n dX1_isCaption_1 rfl rfl ?_
  refine fs_bipush (v := 34) dX1_isCaption_2 rfl ?_
  have ho1 := hS
  refine fs_callV1 dX1_isCaption_4 sv_X1_42 rfl ⟨_, rfl, rfl⟩ (c_X1_isOfKind G l ht I A J it dyn x1 34 ho1) rfl rfl (Nat.le_of_ble_eq_true rfl) (Nat.le_of_ble_eq_true rfl) (Nat.le_of_ble_eq_true rfl) (Nat.le_of_ble_eq_true rfl) ?_
  have k9 := hq
  exact fs_iret dX1_isCaption_7 rfl (by (repeat' split) <;> first | rfl | exact nb_X1_isOfKind _ _ _ _ _ _ _ _) k9
theorem nb_X1_isCaption (ht : Nat) (I : Nat → Int32) (A : Nat → Nat → Int32) (J : Nat → Nat → Int64) (it : Nat → Option Nat) (dyn : fsH) (x1 : Int32) : narrow .boolean (.int (L_X1_isCaption_r ht I A J it dyn x1)) = .int (L_X1_isCaption_r ht I A J it dyn x1) := by
  unfold L_X1_isCaption_r
  exact (by (repeat' split) <;> first | rfl | exact nb_X1_isOfKind _ _ _ _ _ _ _ _)
def L_X1_isTold_r (ht : Nat) (I : Nat → Int32) (A : Nat → Nat → Int32) (J : Nat → Nat → Int64) (it : Nat → Option Nat) (dyn : fsH) (x1 : Int32) : Int32 := (if (L_X1_isField_r ht I A J it dyn x1) = 0 then 0 else (if (fs_dR dyn (it x1.toNatClampNeg) 3) = none then 1 else 0 : Int32) : Int32)
def S_X1_isTold (ht : Nat) (I : Nat → Int32) (A : Nat → Nat → Int32) (J : Nat → Nat → Int64) (it : Nat → Option Nat) (dyn : fsH) (x1 : Int32) : Prop := ((S_X1_isField ht I A J it dyn x1) ∧ (¬ ((L_X1_isField_r ht I A J it dyn x1) = 0) → ((vp_in x1 16) ∧ (fs_okI dyn (it x1.toNatClampNeg)))))
set_option maxRecDepth 100000 in
set_option maxHeartbeats 4000000 in
theorem c_X1_isTold (G : fsG) (l : Launch) (ht : Nat) (I : Nat → Int32) (A : Nat → Nat → Int32) (J : Nat → Nat → Int64) (it : Nat → Option Nat) (dyn : fsH) (x1 : Int32) (hS : S_X1_isTold ht I A J it dyn x1) : fsFn G l mX1_isTold 2 0 0 [.inr (.inr (some 3)), .inl x1] (fs_mk ht I A J it dyn) (some (.inl (L_X1_isTold_r ht I A J it dyn x1))) (fs_mk ht I A J it dyn) := by
  refine fsMet_of (by decide) (Nat.le_of_ble_eq_true rfl) ?_
  generalize hQ : (fun (r1 : Option fsV) (h1 : fsH) => r1 = (some (.inl (L_X1_isTold_r ht I A J it dyn x1))) ∧ h1 = (fs_mk ht I A J it dyn)) = Q
  have hq : Q (some (.inl (L_X1_isTold_r ht I A J it dyn x1))) (fs_mk ht I A J it dyn) := by rw [← hQ]; exact ⟨rfl, rfl⟩
  clear hQ
  have hq : Q (some (.inl (if (L_X1_isField_r ht I A J it dyn x1) = 0 then 0 else (if (fs_dR dyn (it x1.toNatClampNeg) 3) = none then 1 else 0 : Int32) : Int32))) (fs_mk ht I A J it dyn) := hq
  have hS : ((S_X1_isField ht I A J it dyn x1) ∧ (¬ ((L_X1_isField_r ht I A J it dyn x1) = 0) → ((vp_in x1 16) ∧ (fs_okI dyn (it x1.toNatClampNeg))))) := hS
  refine (show fsW G l mX1_isTold 2 0 0 0 0 Q 0 [(0, .inr (.inr (some 3))), (1, .inl x1)] [] (fs_mk ht I A J it dyn) from ?_)
  refine fs_aload_n dX1_isTold_0 rfl rfl ?_
  refine fs_iload_n dX1_isTold_1 rfl rfl ?_
  obtain ⟨ho1, hS⟩ := hS
  refine fs_callV1 dX1_isTold_2 sv_X1_46 rfl ⟨_, rfl, rfl⟩ (c_X1_isField G l ht I A J it dyn x1 ho1) rfl rfl (Nat.le_of_ble_eq_true rfl) (Nat.le_of_ble_eq_true rfl) (Nat.le_of_ble_eq_true rfl) (Nat.le_of_ble_eq_true rfl) ?_
  have hR_5 := hS
  have key_25 : fsW G l mX1_isTold 2 0 0 0 0 Q 25 [(0, .inr (.inr (some 3))), (1, .inl x1)] [.inl (if (L_X1_isField_r ht I A J it dyn x1) = 0 then 0 else (if (fs_dR dyn (it x1.toNatClampNeg) 3) = none then 1 else 0 : Int32) : Int32)] (fs_mk ht I A J it dyn) := by
    have k9 := hq
    exact fs_iret dX1_isTold_25 rfl (by (repeat' split) <;> first | rfl) k9
  refine fs_if_eq 24 dX1_isTold_5 (by decide) (fun c_5 : (L_X1_isField_r ht I A J it dyn x1) = 0 => ?_) (fun c_5 : ¬ ((L_X1_isField_r ht I A J it dyn x1) = 0) => ?_)
  · refine fs_iconst (v := 0) dX1_isTold_24 rfl ?_
    have k9 := key_25
    try simp only [if_pos c_5] at k9 ⊢
    exact k9
  · have hS := hR_5 c_5
    refine fs_aload_n dX1_isTold_8 rfl rfl ?_
    refine fs_getfield (v := .inr (.inr (some 4))) dX1_isTold_9 sf_X1_11 rfl rfl ?_
    refine fs_iload_n dX1_isTold_12 rfl rfl ?_
    obtain ⟨ho1, hS⟩ := hS
    refine fs_aaload dX1_isTold_13 rfl ho1 ?_
    have ho1 := hS
    refine fsg_I3 dX1_isTold_14 sf_X1_50 ho1 ?_
    refine fs_ifnonnull' 24 dX1_isTold_17 (by decide) (fun c_17 : ¬ (fs_dR dyn (it x1.toNatClampNeg) 3) = none => ?_) (fun c_17 : (fs_dR dyn (it x1.toNatClampNeg) 3) = none => ?_)
    · refine fs_iconst (v := 0) dX1_isTold_24 rfl ?_
      have k9 := key_25
      try simp only [if_neg c_5, if_neg c_17] at k9 ⊢
      exact k9
    · refine fs_iconst (v := 1) dX1_isTold_20 rfl ?_
      refine fs_goto 25 dX1_isTold_21 (by decide) ?_
      have k9 := key_25
      try simp only [if_neg c_5, if_pos c_17] at k9 ⊢
      exact k9
theorem nb_X1_isTold (ht : Nat) (I : Nat → Int32) (A : Nat → Nat → Int32) (J : Nat → Nat → Int64) (it : Nat → Option Nat) (dyn : fsH) (x1 : Int32) : narrow .boolean (.int (L_X1_isTold_r ht I A J it dyn x1)) = .int (L_X1_isTold_r ht I A J it dyn x1) := by
  unfold L_X1_isTold_r
  exact (by (repeat' split) <;> first | rfl)
def L_X1_repeats_r (ht : Nat) (I : Nat → Int32) (A : Nat → Nat → Int32) (J : Nat → Nat → Int64) (it : Nat → Option Nat) (dyn : fsH) (x1 : Int32) : Int32 := (if x1 < 0 then 0 else (if (I 4) ≤ x1 then 0 else (if (fs_dI dyn (it x1.toNatClampNeg) 2) = 0 then 0 else 1 : Int32) : Int32) : Int32)
def S_X1_repeats (ht : Nat) (I : Nat → Int32) (A : Nat → Nat → Int32) (J : Nat → Nat → Int64) (it : Nat → Option Nat) (dyn : fsH) (x1 : Int32) : Prop := (¬ (x1 < 0) → (¬ ((I 4) ≤ x1) → ((vp_in x1 16) ∧ (fs_okI dyn (it x1.toNatClampNeg)))))
set_option maxRecDepth 100000 in
set_option maxHeartbeats 4000000 in
theorem c_X1_repeats (G : fsG) (l : Launch) (ht : Nat) (I : Nat → Int32) (A : Nat → Nat → Int32) (J : Nat → Nat → Int64) (it : Nat → Option Nat) (dyn : fsH) (x1 : Int32) (hS : S_X1_repeats ht I A J it dyn x1) : fsFn G l mX1_repeats 0 0 0 [.inr (.inr (some 3)), .inl x1] (fs_mk ht I A J it dyn) (some (.inl (L_X1_repeats_r ht I A J it dyn x1))) (fs_mk ht I A J it dyn) := by
  refine fsMet_of (by decide) (Nat.le_of_ble_eq_true rfl) ?_
  generalize hQ : (fun (r1 : Option fsV) (h1 : fsH) => r1 = (some (.inl (L_X1_repeats_r ht I A J it dyn x1))) ∧ h1 = (fs_mk ht I A J it dyn)) = Q
  have hq : Q (some (.inl (L_X1_repeats_r ht I A J it dyn x1))) (fs_mk ht I A J it dyn) := by rw [← hQ]; exact ⟨rfl, rfl⟩
  clear hQ
  have hq : Q (some (.inl (if x1 < 0 then 0 else (if (I 4) ≤ x1 then 0 else (if (fs_dI dyn (it x1.toNatClampNeg) 2) = 0 then 0 else 1 : Int32) : Int32) : Int32))) (fs_mk ht I A J it dyn) := hq
  have hS : (¬ (x1 < 0) → (¬ ((I 4) ≤ x1) → ((vp_in x1 16) ∧ (fs_okI dyn (it x1.toNatClampNeg))))) := hS
  refine (show fsW G l mX1_repeats 0 0 0 0 0 Q 0 [(0, .inr (.inr (some 3))), (1, .inl x1)] [] (fs_mk ht I A J it dyn) from ?_)
  refine fs_iload_n dX1_repeats_0 rfl rfl ?_
  have hR_1 := hS
  have key_29 : fsW G l mX1_repeats 0 0 0 0 0 Q 29 [(0, .inr (.inr (some 3))), (1, .inl x1)] [.inl (if x1 < 0 then 0 else (if (I 4) ≤ x1 then 0 else (if (fs_dI dyn (it x1.toNatClampNeg) 2) = 0 then 0 else 1 : Int32) : Int32) : Int32)] (fs_mk ht I A J it dyn) := by
    have k9 := hq
    exact fs_iret dX1_repeats_29 rfl (by (repeat' split) <;> first | rfl) k9
  refine fs_if_lt 28 dX1_repeats_1 (by decide) (fun c_1 : x1 < 0 => ?_) (fun c_1 : ¬ (x1 < 0) => ?_)
  · refine fs_iconst (v := 0) dX1_repeats_28 rfl ?_
    have k9 := key_29
    try simp only [if_pos c_1] at k9 ⊢
    exact k9
  · have hS := hR_1 c_1
    refine fs_iload_n dX1_repeats_4 rfl rfl ?_
    refine fs_aload_n dX1_repeats_5 rfl rfl ?_
    refine fs_getfield (v := .inl (I 4)) dX1_repeats_6 sf_X1_17 rfl rfl ?_
    refine fs_icmp_ge 28 dX1_repeats_9 (by decide) (fun c_9 : (I 4) ≤ x1 => ?_) (fun c_9 : ¬ ((I 4) ≤ x1) => ?_)
    · refine fs_iconst (v := 0) dX1_repeats_28 rfl ?_
      have k9 := key_29
      try simp only [if_neg c_1, if_pos c_9] at k9 ⊢
      exact k9
    · have hS := hS c_9
      refine fs_aload_n dX1_repeats_12 rfl rfl ?_
      refine fs_getfield (v := .inr (.inr (some 4))) dX1_repeats_13 sf_X1_11 rfl rfl ?_
      refine fs_iload_n dX1_repeats_16 rfl rfl ?_
      obtain ⟨ho1, hS⟩ := hS
      refine fs_aaload dX1_repeats_17 rfl ho1 ?_
      have ho1 := hS
      refine fsg_I2 dX1_repeats_18 sf_X1_35 ho1 ?_
      refine fs_if_eq 28 dX1_repeats_21 (by decide) (fun c_21 : (fs_dI dyn (it x1.toNatClampNeg) 2) = 0 => ?_) (fun c_21 : ¬ ((fs_dI dyn (it x1.toNatClampNeg) 2) = 0) => ?_)
      · refine fs_iconst (v := 0) dX1_repeats_28 rfl ?_
        have k9 := key_29
        try simp only [if_neg c_1, if_neg c_9, if_pos c_21] at k9 ⊢
        exact k9
      · refine fs_iconst (v := 1) dX1_repeats_24 rfl ?_
        refine fs_goto 29 dX1_repeats_25 (by decide) ?_
        have k9 := key_29
        try simp only [if_neg c_1, if_neg c_9, if_neg c_21] at k9 ⊢
        exact k9
theorem nb_X1_repeats (ht : Nat) (I : Nat → Int32) (A : Nat → Nat → Int32) (J : Nat → Nat → Int64) (it : Nat → Option Nat) (dyn : fsH) (x1 : Int32) : narrow .boolean (.int (L_X1_repeats_r ht I A J it dyn x1)) = .int (L_X1_repeats_r ht I A J it dyn x1) := by
  unfold L_X1_repeats_r
  exact (by (repeat' split) <;> first | rfl)
def L_X1_rowsOf_r (ht : Nat) (I : Nat → Int32) (A : Nat → Nat → Int32) (J : Nat → Nat → Int64) (it : Nat → Option Nat) (dyn : fsH) (x1 : Int32) : Int32 := (if x1 < 0 then 0 else (if x1 < (I 4) then (if (fs_dI dyn (it x1.toNatClampNeg) 2) = 0 then 1 else (I 5) : Int32) else 0))
def S_X1_rowsOf (ht : Nat) (I : Nat → Int32) (A : Nat → Nat → Int32) (J : Nat → Nat → Int64) (it : Nat → Option Nat) (dyn : fsH) (x1 : Int32) : Prop := (¬ (x1 < 0) → ((x1 < (I 4)) → ((vp_in x1 16) ∧ (fs_okI dyn (it x1.toNatClampNeg)))))
set_option maxRecDepth 100000 in
set_option maxHeartbeats 4000000 in
theorem c_X1_rowsOf (G : fsG) (l : Launch) (ht : Nat) (I : Nat → Int32) (A : Nat → Nat → Int32) (J : Nat → Nat → Int64) (it : Nat → Option Nat) (dyn : fsH) (x1 : Int32) (hS : S_X1_rowsOf ht I A J it dyn x1) : fsFn G l mX1_rowsOf 0 0 0 [.inr (.inr (some 3)), .inl x1] (fs_mk ht I A J it dyn) (some (.inl (L_X1_rowsOf_r ht I A J it dyn x1))) (fs_mk ht I A J it dyn) := by
  refine fsMet_of (by decide) (Nat.le_of_ble_eq_true rfl) ?_
  generalize hQ : (fun (r1 : Option fsV) (h1 : fsH) => r1 = (some (.inl (L_X1_rowsOf_r ht I A J it dyn x1))) ∧ h1 = (fs_mk ht I A J it dyn)) = Q
  have hq : Q (some (.inl (L_X1_rowsOf_r ht I A J it dyn x1))) (fs_mk ht I A J it dyn) := by rw [← hQ]; exact ⟨rfl, rfl⟩
  clear hQ
  have hq : Q (some (.inl (if x1 < 0 then 0 else (if x1 < (I 4) then (if (fs_dI dyn (it x1.toNatClampNeg) 2) = 0 then 1 else (I 5) : Int32) else 0)))) (fs_mk ht I A J it dyn) := hq
  have hS : (¬ (x1 < 0) → ((x1 < (I 4)) → ((vp_in x1 16) ∧ (fs_okI dyn (it x1.toNatClampNeg))))) := hS
  refine (show fsW G l mX1_rowsOf 0 0 0 0 0 Q 0 [(0, .inr (.inr (some 3))), (1, .inl x1)] [] (fs_mk ht I A J it dyn) from ?_)
  refine fs_iload_n dX1_rowsOf_0 rfl rfl ?_
  refine fs_if_lt 12 dX1_rowsOf_1 (by decide) (fun c_1 : x1 < 0 => ?_) (fun c_1 : ¬ (x1 < 0) => ?_)
  · refine fs_iconst (v := 0) dX1_rowsOf_12 rfl ?_
    have k9 := hq
    try simp only [if_pos c_1] at k9 ⊢
    exact fs_iret dX1_rowsOf_13 rfl rfl k9
  · have hS := hS c_1
    refine fs_iload_n dX1_rowsOf_4 rfl rfl ?_
    refine fs_aload_n dX1_rowsOf_5 rfl rfl ?_
    refine fs_getfield (v := .inl (I 4)) dX1_rowsOf_6 sf_X1_17 rfl rfl ?_
    refine fs_icmp_lt 14 dX1_rowsOf_9 (by decide) (fun c_9 : x1 < (I 4) => ?_) (fun c_9 : ¬ (x1 < (I 4)) => ?_)
    · have hS := hS c_9
      refine fs_aload_n dX1_rowsOf_14 rfl rfl ?_
      refine fs_getfield (v := .inr (.inr (some 4))) dX1_rowsOf_15 sf_X1_11 rfl rfl ?_
      refine fs_iload_n dX1_rowsOf_18 rfl rfl ?_
      obtain ⟨ho1, hS⟩ := hS
      refine fs_aaload dX1_rowsOf_19 rfl ho1 ?_
      have ho1 := hS
      refine fsg_I2 dX1_rowsOf_20 sf_X1_35 ho1 ?_
      have key_34 : fsW G l mX1_rowsOf 0 0 0 0 0 Q 34 [(0, .inr (.inr (some 3))), (1, .inl x1)] [.inl (if (fs_dI dyn (it x1.toNatClampNeg) 2) = 0 then 1 else (I 5) : Int32)] (fs_mk ht I A J it dyn) := by
        have k9 := hq
        try simp only [if_neg c_1, if_pos c_9] at k9 ⊢
        exact fs_iret dX1_rowsOf_34 rfl rfl k9
      refine fs_if_eq 33 dX1_rowsOf_23 (by decide) (fun c_23 : (fs_dI dyn (it x1.toNatClampNeg) 2) = 0 => ?_) (fun c_23 : ¬ ((fs_dI dyn (it x1.toNatClampNeg) 2) = 0) => ?_)
      · refine fs_iconst (v := 1) dX1_rowsOf_33 rfl ?_
        have k9 := key_34
        try simp only [if_neg c_1, if_pos c_9, if_pos c_23] at k9 ⊢
        exact k9
      · refine fs_aload_n dX1_rowsOf_26 rfl rfl ?_
        refine fs_getfield (v := .inl (I 5)) dX1_rowsOf_27 sf_X1_21 rfl rfl ?_
        refine fs_goto 34 dX1_rowsOf_30 (by decide) ?_
        have k9 := key_34
        try simp only [if_neg c_1, if_pos c_9, if_neg c_23] at k9 ⊢
        exact k9
    · refine fs_iconst (v := 0) dX1_rowsOf_12 rfl ?_
      have k9 := hq
      try simp only [if_neg c_1, if_neg c_9] at k9 ⊢
      exact fs_iret dX1_rowsOf_13 rfl rfl k9
def L_X1_has_r (ht : Nat) (I : Nat → Int32) (A : Nat → Nat → Int32) (J : Nat → Nat → Int64) (it : Nat → Option Nat) (dyn : fsH) (x1 : Int32) (x2 : Int32) : Int32 := (if x2 < 0 then 0 else (if (L_X1_rowsOf_r ht I A J it dyn x1) ≤ x2 then 0 else 1 : Int32) : Int32)
def S_X1_has (ht : Nat) (I : Nat → Int32) (A : Nat → Nat → Int32) (J : Nat → Nat → Int64) (it : Nat → Option Nat) (dyn : fsH) (x1 : Int32) (x2 : Int32) : Prop := (¬ (x2 < 0) → (S_X1_rowsOf ht I A J it dyn x1))
set_option maxRecDepth 100000 in
set_option maxHeartbeats 4000000 in
theorem c_X1_has (G : fsG) (l : Launch) (ht : Nat) (I : Nat → Int32) (A : Nat → Nat → Int32) (J : Nat → Nat → Int64) (it : Nat → Option Nat) (dyn : fsH) (x1 : Int32) (x2 : Int32) (hS : S_X1_has ht I A J it dyn x1 x2) : fsFn G l mX1_has 1 0 0 [.inr (.inr (some 3)), .inl x1, .inl x2] (fs_mk ht I A J it dyn) (some (.inl (L_X1_has_r ht I A J it dyn x1 x2))) (fs_mk ht I A J it dyn) := by
  refine fsMet_of (by decide) (Nat.le_of_ble_eq_true rfl) ?_
  generalize hQ : (fun (r1 : Option fsV) (h1 : fsH) => r1 = (some (.inl (L_X1_has_r ht I A J it dyn x1 x2))) ∧ h1 = (fs_mk ht I A J it dyn)) = Q
  have hq : Q (some (.inl (L_X1_has_r ht I A J it dyn x1 x2))) (fs_mk ht I A J it dyn) := by rw [← hQ]; exact ⟨rfl, rfl⟩
  clear hQ
  have hq : Q (some (.inl (if x2 < 0 then 0 else (if (L_X1_rowsOf_r ht I A J it dyn x1) ≤ x2 then 0 else 1 : Int32) : Int32))) (fs_mk ht I A J it dyn) := hq
  have hS : (¬ (x2 < 0) → (S_X1_rowsOf ht I A J it dyn x1)) := hS
  refine (show fsW G l mX1_has 1 0 0 0 0 Q 0 [(0, .inr (.inr (some 3))), (1, .inl x1), (2, .inl x2)] [] (fs_mk ht I A J it dyn) from ?_)
  refine fs_iload_n dX1_has_0 rfl rfl ?_
  have hR_1 := hS
  have key_18 : fsW G l mX1_has 1 0 0 0 0 Q 18 [(0, .inr (.inr (some 3))), (1, .inl x1), (2, .inl x2)] [.inl (if x2 < 0 then 0 else (if (L_X1_rowsOf_r ht I A J it dyn x1) ≤ x2 then 0 else 1 : Int32) : Int32)] (fs_mk ht I A J it dyn) := by
    have k9 := hq
    exact fs_iret dX1_has_18 rfl (by (repeat' split) <;> first | rfl) k9
  refine fs_if_lt 17 dX1_has_1 (by decide) (fun c_1 : x2 < 0 => ?_) (fun c_1 : ¬ (x2 < 0) => ?_)
  · refine fs_iconst (v := 0) dX1_has_17 rfl ?_
    have k9 := key_18
    try simp only [if_pos c_1] at k9 ⊢
    exact k9
  · have hS := hR_1 c_1
    refine fs_iload_n dX1_has_4 rfl rfl ?_
    refine fs_aload_n dX1_has_5 rfl rfl ?_
    refine fs_iload_n dX1_has_6 rfl rfl ?_
    have ho1 := hS
    refine fs_callV1 dX1_has_7 sv_X1_39 rfl ⟨_, rfl, rfl⟩ (c_X1_rowsOf G l ht I A J it dyn x1 ho1) rfl rfl (Nat.le_of_ble_eq_true rfl) (Nat.le_of_ble_eq_true rfl) (Nat.le_of_ble_eq_true rfl) (Nat.le_of_ble_eq_true rfl) ?_
    refine fs_icmp_ge 17 dX1_has_10 (by decide) (fun c_10 : (L_X1_rowsOf_r ht I A J it dyn x1) ≤ x2 => ?_) (fun c_10 : ¬ ((L_X1_rowsOf_r ht I A J it dyn x1) ≤ x2) => ?_)
    · refine fs_iconst (v := 0) dX1_has_17 rfl ?_
      have k9 := key_18
      try simp only [if_neg c_1, if_pos c_10] at k9 ⊢
      exact k9
    · refine fs_iconst (v := 1) dX1_has_13 rfl ?_
      refine fs_goto 18 dX1_has_14 (by decide) ?_
      have k9 := key_18
      try simp only [if_neg c_1, if_neg c_10] at k9 ⊢
      exact k9
theorem nb_X1_has (ht : Nat) (I : Nat → Int32) (A : Nat → Nat → Int32) (J : Nat → Nat → Int64) (it : Nat → Option Nat) (dyn : fsH) (x1 : Int32) (x2 : Int32) : narrow .boolean (.int (L_X1_has_r ht I A J it dyn x1 x2)) = .int (L_X1_has_r ht I A J it dyn x1 x2) := by
  unfold L_X1_has_r
  exact (by (repeat' split) <;> first | rfl)
def La_X1_fieldNamed_2_r : Nat → Nat → (Nat → Int32) → (Nat → Nat → Int32) → (Nat → Nat → Int64) → (Nat → Option Nat) → fsH → Int32 → Int32 → Int32
  | 0, ht, I, A, J, it, dyn, v1, v2 => 0
  | n + 1, ht, I, A, J, it, dyn, v1, v2 => (if (I 4) ≤ v2 then (-1) else (if (L_X1_isField_r ht I A J it dyn v2) = 0 then (La_X1_fieldNamed_2_r n ht I A J it dyn v1 (v2 + 1)) else (if (fs_dI dyn (it v2.toNatClampNeg) 1) = v1 then v2 else (La_X1_fieldNamed_2_r n ht I A J it dyn v1 (v2 + 1)))))
def S_La_X1_fieldNamed_2 : Nat → Nat → (Nat → Int32) → (Nat → Nat → Int32) → (Nat → Nat → Int64) → (Nat → Option Nat) → fsH → Int32 → Int32 → Prop
  | 0, _, _, _, _, _, _, _, _ => False
  | n + 1, ht, I, A, J, it, dyn, v1, v2 => (¬ ((I 4) ≤ v2) → ((S_X1_isField ht I A J it dyn v2) ∧ ((((L_X1_isField_r ht I A J it dyn v2) = 0) → (S_La_X1_fieldNamed_2 n ht I A J it dyn v1 (v2 + 1))) ∧ (¬ ((L_X1_isField_r ht I A J it dyn v2) = 0) → ((vp_in v2 16) ∧ ((fs_okI dyn (it v2.toNatClampNeg)) ∧ (¬ ((fs_dI dyn (it v2.toNatClampNeg) 1) = v1) → (S_La_X1_fieldNamed_2 n ht I A J it dyn v1 (v2 + 1)))))))))
set_option maxRecDepth 100000 in
set_option maxHeartbeats 4000000 in
theorem lp_La_X1_fieldNamed_2 (G : fsG) (l : Launch) (Q : Option fsV → fsH → Prop) : ∀ (n : Nat) (ht : Nat) (I : Nat → Int32) (A : Nat → Nat → Int32) (J : Nat → Nat → Int64) (it : Nat → Option Nat) (dyn : fsH) (v1 : Int32) (v2 : Int32), S_La_X1_fieldNamed_2 n ht I A J it dyn v1 v2 → (Q (some (.inl (La_X1_fieldNamed_2_r n ht I A J it dyn v1 v2))) (fs_mk ht I A J it dyn)) → fsW G l mX1_fieldNamed 2 0 0 0 0 Q 2 [(0, .inr (.inr (some 3))), (1, .inl v1), (2, .inl v2)] [] (fs_mk ht I A J it dyn) := by
  intro n
  induction n with
  | zero =>
    intro ht I A J it dyn v1 v2 hS
    exact hS.elim
  | succ n ih =>
    intro ht I A J it dyn v1 v2 hS hq
    have hS : (¬ ((I 4) ≤ v2) → ((S_X1_isField ht I A J it dyn v2) ∧ ((((L_X1_isField_r ht I A J it dyn v2) = 0) → (S_La_X1_fieldNamed_2 n ht I A J it dyn v1 (v2 + 1))) ∧ (¬ ((L_X1_isField_r ht I A J it dyn v2) = 0) → ((vp_in v2 16) ∧ ((fs_okI dyn (it v2.toNatClampNeg)) ∧ (¬ ((fs_dI dyn (it v2.toNatClampNeg) 1) = v1) → (S_La_X1_fieldNamed_2 n ht I A J it dyn v1 (v2 + 1))))))))) := hS
    have hq : Q (some (.inl (if (I 4) ≤ v2 then (-1) else (if (L_X1_isField_r ht I A J it dyn v2) = 0 then (La_X1_fieldNamed_2_r n ht I A J it dyn v1 (v2 + 1)) else (if (fs_dI dyn (it v2.toNatClampNeg) 1) = v1 then v2 else (La_X1_fieldNamed_2_r n ht I A J it dyn v1 (v2 + 1))))))) (fs_mk ht I A J it dyn) := hq
    refine fs_iload_n dX1_fieldNamed_2 rfl rfl ?_
    refine fs_aload_n dX1_fieldNamed_3 rfl rfl ?_
    refine fs_getfield (v := .inl (I 4)) dX1_fieldNamed_4 sf_X1_17 rfl rfl ?_
    refine fs_icmp_ge 39 dX1_fieldNamed_7 (by decide) (fun c_7 : (I 4) ≤ v2 => ?_) (fun c_7 : ¬ ((I 4) ≤ v2) => ?_)
    · refine fs_iconst (v := (-1)) dX1_fieldNamed_39 rfl ?_
      have k9 := hq
      try simp only [if_pos c_7] at k9 ⊢
      exact fs_iret dX1_fieldNamed_40 rfl rfl k9
    · have hS := hS c_7
      refine fs_aload_n dX1_fieldNamed_10 rfl rfl ?_
      refine fs_iload_n dX1_fieldNamed_11 rfl rfl ?_
      obtain ⟨ho1, hS⟩ := hS
      refine fs_callV1 dX1_fieldNamed_12 sv_X1_46 rfl ⟨_, rfl, rfl⟩ (c_X1_isField G l ht I A J it dyn v2 ho1) rfl rfl (Nat.le_of_ble_eq_true rfl) (Nat.le_of_ble_eq_true rfl) (Nat.le_of_ble_eq_true rfl) (Nat.le_of_ble_eq_true rfl) ?_
      refine fs_if_eq 33 dX1_fieldNamed_15 (by decide) (fun c_15 : (L_X1_isField_r ht I A J it dyn v2) = 0 => ?_) (fun c_15 : ¬ ((L_X1_isField_r ht I A J it dyn v2) = 0) => ?_)
      · have hS := hS.1 c_15
        refine fs_iinc (v := (v2 + 1)) (L' := [(2, .inl (v2 + 1)), (0, .inr (.inr (some 3))), (1, .inl v1)]) dX1_fieldNamed_33 rfl rfl (by decide) rfl ?_
        refine fs_goto 2 dX1_fieldNamed_36 (by decide) ?_
        refine fs_reL [1, 2, 0] rfl ?_
        have k9 := hq
        try simp only [if_neg c_7, if_pos c_15] at hS k9 ⊢
        exact ih _ _ _ _ _ _ _ _ hS k9
      · have hS := hS.2 c_15
        refine fs_aload_n dX1_fieldNamed_18 rfl rfl ?_
        refine fs_getfield (v := .inr (.inr (some 4))) dX1_fieldNamed_19 sf_X1_11 rfl rfl ?_
        refine fs_iload_n dX1_fieldNamed_22 rfl rfl ?_
        obtain ⟨ho1, hS⟩ := hS
        refine fs_aaload dX1_fieldNamed_23 rfl ho1 ?_
        obtain ⟨ho1, hS⟩ := hS
        refine fsg_I1 dX1_fieldNamed_24 sf_X1_28 ho1 ?_
        refine fs_iload_n dX1_fieldNamed_27 rfl rfl ?_
        refine fs_icmp_ne 33 dX1_fieldNamed_28 (by decide) (fun c_28 : ¬ (fs_dI dyn (it v2.toNatClampNeg) 1) = v1 => ?_) (fun c_28 : (fs_dI dyn (it v2.toNatClampNeg) 1) = v1 => ?_)
        · have hS := hS c_28
          refine fs_iinc (v := (v2 + 1)) (L' := [(2, .inl (v2 + 1)), (0, .inr (.inr (some 3))), (1, .inl v1)]) dX1_fieldNamed_33 rfl rfl (by decide) rfl ?_
          refine fs_goto 2 dX1_fieldNamed_36 (by decide) ?_
          refine fs_reL [1, 2, 0] rfl ?_
          have k9 := hq
          try simp only [if_neg c_7, if_neg c_15, if_neg c_28] at hS k9 ⊢
          exact ih _ _ _ _ _ _ _ _ hS k9
        · refine fs_iload_n dX1_fieldNamed_31 rfl rfl ?_
          have k9 := hq
          try simp only [if_neg c_7, if_neg c_15, if_pos c_28] at k9 ⊢
          exact fs_iret dX1_fieldNamed_32 rfl rfl k9
def L_X1_fieldNamed_r (ht : Nat) (I : Nat → Int32) (A : Nat → Nat → Int32) (J : Nat → Nat → Int64) (it : Nat → Option Nat) (dyn : fsH) (x1 : Int32) : Int32 := (La_X1_fieldNamed_2_r 70 ht I A J it dyn x1 0)
def S_X1_fieldNamed (ht : Nat) (I : Nat → Int32) (A : Nat → Nat → Int32) (J : Nat → Nat → Int64) (it : Nat → Option Nat) (dyn : fsH) (x1 : Int32) : Prop := (S_La_X1_fieldNamed_2 70 ht I A J it dyn x1 0)
set_option maxRecDepth 100000 in
set_option maxHeartbeats 4000000 in
theorem c_X1_fieldNamed (G : fsG) (l : Launch) (ht : Nat) (I : Nat → Int32) (A : Nat → Nat → Int32) (J : Nat → Nat → Int64) (it : Nat → Option Nat) (dyn : fsH) (x1 : Int32) (hS : S_X1_fieldNamed ht I A J it dyn x1) : fsFn G l mX1_fieldNamed 2 0 0 [.inr (.inr (some 3)), .inl x1] (fs_mk ht I A J it dyn) (some (.inl (L_X1_fieldNamed_r ht I A J it dyn x1))) (fs_mk ht I A J it dyn) := by
  refine fsMet_of (by decide) (Nat.le_of_ble_eq_true rfl) ?_
  generalize hQ : (fun (r1 : Option fsV) (h1 : fsH) => r1 = (some (.inl (L_X1_fieldNamed_r ht I A J it dyn x1))) ∧ h1 = (fs_mk ht I A J it dyn)) = Q
  have hq : Q (some (.inl (L_X1_fieldNamed_r ht I A J it dyn x1))) (fs_mk ht I A J it dyn) := by rw [← hQ]; exact ⟨rfl, rfl⟩
  clear hQ
  have hq : Q (some (.inl (La_X1_fieldNamed_2_r 70 ht I A J it dyn x1 0))) (fs_mk ht I A J it dyn) := hq
  have hS : (S_La_X1_fieldNamed_2 70 ht I A J it dyn x1 0) := hS
  refine (show fsW G l mX1_fieldNamed 2 0 0 0 0 Q 0 [(0, .inr (.inr (some 3))), (1, .inl x1)] [] (fs_mk ht I A J it dyn) from ?_)
  refine fs_iconst (v := 0) dX1_fieldNamed_0 rfl ?_
  refine fs_istore_n (L' := [(2, .inl 0), (0, .inr (.inr (some 3))), (1, .inl x1)]) dX1_fieldNamed_1 rfl (by decide) rfl ?_
  refine fs_reL [1, 2, 0] rfl ?_
  have ho1 := hS
  have k9 := hq
  exact lp_La_X1_fieldNamed_2 G l Q 70 _ _ _ _ _ _ _ _ ho1 k9
def Lb_X1_valueCount_4_v1 : Nat → Nat → (Nat → Int32) → (Nat → Nat → Int32) → (Nat → Nat → Int64) → (Nat → Option Nat) → fsH → Int32 → Int32 → Int32
  | 0, ht, I, A, J, it, dyn, v1, v2 => v1
  | n + 1, ht, I, A, J, it, dyn, v1, v2 => (if (I 4) ≤ v2 then v1 else (Lb_X1_valueCount_4_v1 n ht I A J it dyn (if (L_X1_isField_r ht I A J it dyn v2) = 0 then v1 else (v1 + (L_X1_rowsOf_r ht I A J it dyn v2)) : Int32) (v2 + 1)))
def Lb_X1_valueCount_4_v2 : Nat → Nat → (Nat → Int32) → (Nat → Nat → Int32) → (Nat → Nat → Int64) → (Nat → Option Nat) → fsH → Int32 → Int32 → Int32
  | 0, ht, I, A, J, it, dyn, v1, v2 => v2
  | n + 1, ht, I, A, J, it, dyn, v1, v2 => (if (I 4) ≤ v2 then v2 else (Lb_X1_valueCount_4_v2 n ht I A J it dyn (if (L_X1_isField_r ht I A J it dyn v2) = 0 then v1 else (v1 + (L_X1_rowsOf_r ht I A J it dyn v2)) : Int32) (v2 + 1)))
def S_Lb_X1_valueCount_4 : Nat → Nat → (Nat → Int32) → (Nat → Nat → Int32) → (Nat → Nat → Int64) → (Nat → Option Nat) → fsH → Int32 → Int32 → Prop
  | 0, _, _, _, _, _, _, _, _ => False
  | n + 1, ht, I, A, J, it, dyn, v1, v2 => (¬ ((I 4) ≤ v2) → ((S_X1_isField ht I A J it dyn v2) ∧ ((¬ ((L_X1_isField_r ht I A J it dyn v2) = 0) → (S_X1_rowsOf ht I A J it dyn v2)) ∧ (S_Lb_X1_valueCount_4 n ht I A J it dyn (if (L_X1_isField_r ht I A J it dyn v2) = 0 then v1 else (v1 + (L_X1_rowsOf_r ht I A J it dyn v2)) : Int32) (v2 + 1)))))
set_option maxRecDepth 100000 in
set_option maxHeartbeats 4000000 in
theorem lp_Lb_X1_valueCount_4 (G : fsG) (l : Launch) (Q : Option fsV → fsH → Prop) : ∀ (n : Nat) (ht : Nat) (I : Nat → Int32) (A : Nat → Nat → Int32) (J : Nat → Nat → Int64) (it : Nat → Option Nat) (dyn : fsH) (v1 : Int32) (v2 : Int32), S_Lb_X1_valueCount_4 n ht I A J it dyn v1 v2 → (fsW G l mX1_valueCount 2 0 0 0 0 Q 34 [(0, .inr (.inr (some 3))), (1, .inl (Lb_X1_valueCount_4_v1 n ht I A J it dyn v1 v2)), (2, .inl (Lb_X1_valueCount_4_v2 n ht I A J it dyn v1 v2))] [] (fs_mk ht I A J it dyn)) → fsW G l mX1_valueCount 2 0 0 0 0 Q 4 [(0, .inr (.inr (some 3))), (1, .inl v1), (2, .inl v2)] [] (fs_mk ht I A J it dyn) := by
  intro n
  induction n with
  | zero =>
    intro ht I A J it dyn v1 v2 hS
    exact hS.elim
  | succ n ih =>
    intro ht I A J it dyn v1 v2 hS hq
    have hS : (¬ ((I 4) ≤ v2) → ((S_X1_isField ht I A J it dyn v2) ∧ ((¬ ((L_X1_isField_r ht I A J it dyn v2) = 0) → (S_X1_rowsOf ht I A J it dyn v2)) ∧ (S_Lb_X1_valueCount_4 n ht I A J it dyn (if (L_X1_isField_r ht I A J it dyn v2) = 0 then v1 else (v1 + (L_X1_rowsOf_r ht I A J it dyn v2)) : Int32) (v2 + 1))))) := hS
    have hq : fsW G l mX1_valueCount 2 0 0 0 0 Q 34 [(0, .inr (.inr (some 3))), (1, .inl (if (I 4) ≤ v2 then v1 else (Lb_X1_valueCount_4_v1 n ht I A J it dyn (if (L_X1_isField_r ht I A J it dyn v2) = 0 then v1 else (v1 + (L_X1_rowsOf_r ht I A J it dyn v2)) : Int32) (v2 + 1)))), (2, .inl (if (I 4) ≤ v2 then v2 else (Lb_X1_valueCount_4_v2 n ht I A J it dyn (if (L_X1_isField_r ht I A J it dyn v2) = 0 then v1 else (v1 + (L_X1_rowsOf_r ht I A J it dyn v2)) : Int32) (v2 + 1))))] [] (fs_mk ht I A J it dyn) := hq
    refine fs_iload_n dX1_valueCount_4 rfl rfl ?_
    refine fs_aload_n dX1_valueCount_5 rfl rfl ?_
    refine fs_getfield (v := .inl (I 4)) dX1_valueCount_6 sf_X1_17 rfl rfl ?_
    refine fs_icmp_ge 34 dX1_valueCount_9 (by decide) (fun c_9 : (I 4) ≤ v2 => ?_) (fun c_9 : ¬ ((I 4) ≤ v2) => ?_)
    · have k9 := hq
      try simp only [if_pos c_9] at k9 ⊢
      exact k9
    · have hS := hS c_9
      refine fs_aload_n dX1_valueCount_12 rfl rfl ?_
      refine fs_iload_n dX1_valueCount_13 rfl rfl ?_
      obtain ⟨ho1, hS⟩ := hS
      refine fs_callV1 dX1_valueCount_14 sv_X1_46 rfl ⟨_, rfl, rfl⟩ (c_X1_isField G l ht I A J it dyn v2 ho1) rfl rfl (Nat.le_of_ble_eq_true rfl) (Nat.le_of_ble_eq_true rfl) (Nat.le_of_ble_eq_true rfl) (Nat.le_of_ble_eq_true rfl) ?_
      obtain ⟨hR_17, hS⟩ := hS
      have key_28 : fsW G l mX1_valueCount 2 0 0 0 0 Q 28 [(0, .inr (.inr (some 3))), (1, .inl (if (L_X1_isField_r ht I A J it dyn v2) = 0 then v1 else (v1 + (L_X1_rowsOf_r ht I A J it dyn v2)) : Int32)), (2, .inl v2)] [] (fs_mk ht I A J it dyn) := by
        refine fs_iinc (v := (v2 + 1)) (L' := [(2, .inl (v2 + 1)), (0, .inr (.inr (some 3))), (1, .inl (if (L_X1_isField_r ht I A J it dyn v2) = 0 then v1 else (v1 + (L_X1_rowsOf_r ht I A J it dyn v2)) : Int32))]) dX1_valueCount_28 rfl rfl (by decide) rfl ?_
        refine fs_goto 4 dX1_valueCount_31 (by decide) ?_
        refine fs_reL [1, 2, 0] rfl ?_
        have k9 := hq
        try simp only [if_neg c_9] at hS k9 ⊢
        exact ih _ _ _ _ _ _ _ _ hS k9
      refine fs_if_eq 28 dX1_valueCount_17 (by decide) (fun c_17 : (L_X1_isField_r ht I A J it dyn v2) = 0 => ?_) (fun c_17 : ¬ ((L_X1_isField_r ht I A J it dyn v2) = 0) => ?_)
      · have k9 := key_28
        try simp only [if_neg c_9, if_pos c_17] at k9 ⊢
        exact k9
      · have hS := hR_17 c_17
        refine fs_iload_n dX1_valueCount_20 rfl rfl ?_
        refine fs_aload_n dX1_valueCount_21 rfl rfl ?_
        refine fs_iload_n dX1_valueCount_22 rfl rfl ?_
        have ho1 := hS
        refine fs_callV1 dX1_valueCount_23 sv_X1_39 rfl ⟨_, rfl, rfl⟩ (c_X1_rowsOf G l ht I A J it dyn v2 ho1) rfl rfl (Nat.le_of_ble_eq_true rfl) (Nat.le_of_ble_eq_true rfl) (Nat.le_of_ble_eq_true rfl) (Nat.le_of_ble_eq_true rfl) ?_
        refine fs_iadd dX1_valueCount_26 ?_
        refine fs_istore_n (L' := [(1, .inl (v1 + (L_X1_rowsOf_r ht I A J it dyn v2))), (0, .inr (.inr (some 3))), (2, .inl v2)]) dX1_valueCount_27 rfl (by decide) rfl ?_
        refine fs_reL [1, 0, 2] rfl ?_
        have k9 := key_28
        try simp only [if_neg c_9, if_neg c_17] at k9 ⊢
        exact k9
def L_X1_valueCount_r (ht : Nat) (I : Nat → Int32) (A : Nat → Nat → Int32) (J : Nat → Nat → Int64) (it : Nat → Option Nat) (dyn : fsH)  : Int32 := (Lb_X1_valueCount_4_v1 70 ht I A J it dyn 0 0)
def S_X1_valueCount (ht : Nat) (I : Nat → Int32) (A : Nat → Nat → Int32) (J : Nat → Nat → Int64) (it : Nat → Option Nat) (dyn : fsH)  : Prop := (S_Lb_X1_valueCount_4 70 ht I A J it dyn 0 0)
set_option maxRecDepth 100000 in
set_option maxHeartbeats 4000000 in
theorem c_X1_valueCount (G : fsG) (l : Launch) (ht : Nat) (I : Nat → Int32) (A : Nat → Nat → Int32) (J : Nat → Nat → Int64) (it : Nat → Option Nat) (dyn : fsH)  (hS : S_X1_valueCount ht I A J it dyn ) : fsFn G l mX1_valueCount 2 0 0 [.inr (.inr (some 3))] (fs_mk ht I A J it dyn) (some (.inl (L_X1_valueCount_r ht I A J it dyn ))) (fs_mk ht I A J it dyn) := by
  refine fsMet_of (by decide) (Nat.le_of_ble_eq_true rfl) ?_
  generalize hQ : (fun (r1 : Option fsV) (h1 : fsH) => r1 = (some (.inl (L_X1_valueCount_r ht I A J it dyn ))) ∧ h1 = (fs_mk ht I A J it dyn)) = Q
  have hq : Q (some (.inl (L_X1_valueCount_r ht I A J it dyn ))) (fs_mk ht I A J it dyn) := by rw [← hQ]; exact ⟨rfl, rfl⟩
  clear hQ
  have hq : Q (some (.inl (Lb_X1_valueCount_4_v1 70 ht I A J it dyn 0 0))) (fs_mk ht I A J it dyn) := hq
  have hS : (S_Lb_X1_valueCount_4 70 ht I A J it dyn 0 0) := hS
  refine (show fsW G l mX1_valueCount 2 0 0 0 0 Q 0 [(0, .inr (.inr (some 3)))] [] (fs_mk ht I A J it dyn) from ?_)
  refine fs_iconst (v := 0) dX1_valueCount_0 rfl ?_
  refine fs_istore_n (L' := [(1, .inl 0), (0, .inr (.inr (some 3)))]) dX1_valueCount_1 rfl (by decide) rfl ?_
  refine fs_iconst (v := 0) dX1_valueCount_2 rfl ?_
  refine fs_istore_n (L' := [(2, .inl 0), (1, .inl 0), (0, .inr (.inr (some 3)))]) dX1_valueCount_3 rfl (by decide) rfl ?_
  refine fs_reL [2, 1, 0] rfl ?_
  have ho1 := hS
  refine lp_Lb_X1_valueCount_4 G l Q 70 ht I A J it dyn 0 0 ho1 ?_
  refine fs_iload_n dX1_valueCount_34 rfl rfl ?_
  have k9 := hq
  exact fs_iret dX1_valueCount_35 rfl rfl k9
def L_X1_canTake_r (ht : Nat) (I : Nat → Int32) (A : Nat → Nat → Int32) (J : Nat → Nat → Int64) (it : Nat → Option Nat) (dyn : fsH) (x1 : Option Nat) : Int32 := (if 16 ≤ (I 4) then 0 else (if (fs_dI dyn x1 0) = 102 then (if (L_X1_fieldNamed_r ht I A J it dyn (fs_dI dyn x1 1)) = (-1) then 1 else 0 : Int32) else 1 : Int32) : Int32)
def S_X1_canTake (ht : Nat) (I : Nat → Int32) (A : Nat → Nat → Int32) (J : Nat → Nat → Int64) (it : Nat → Option Nat) (dyn : fsH) (x1 : Option Nat) : Prop := (¬ (16 ≤ (I 4)) → ((fs_okI dyn x1) ∧ (((fs_dI dyn x1 0) = 102) → ((fs_okI dyn x1) ∧ (S_X1_fieldNamed ht I A J it dyn (fs_dI dyn x1 1))))))
set_option maxRecDepth 100000 in
set_option maxHeartbeats 4000000 in
theorem c_X1_canTake (G : fsG) (l : Launch) (ht : Nat) (I : Nat → Int32) (A : Nat → Nat → Int32) (J : Nat → Nat → Int64) (it : Nat → Option Nat) (dyn : fsH) (x1 : Option Nat) (hS : S_X1_canTake ht I A J it dyn x1) : fsFn G l mX1_canTake 3 0 0 [.inr (.inr (some 3)), .inr (.inr x1)] (fs_mk ht I A J it dyn) (some (.inl (L_X1_canTake_r ht I A J it dyn x1))) (fs_mk ht I A J it dyn) := by
  refine fsMet_of (by decide) (Nat.le_of_ble_eq_true rfl) ?_
  generalize hQ : (fun (r1 : Option fsV) (h1 : fsH) => r1 = (some (.inl (L_X1_canTake_r ht I A J it dyn x1))) ∧ h1 = (fs_mk ht I A J it dyn)) = Q
  have hq : Q (some (.inl (L_X1_canTake_r ht I A J it dyn x1))) (fs_mk ht I A J it dyn) := by rw [← hQ]; exact ⟨rfl, rfl⟩
  clear hQ
  have hq : Q (some (.inl (if 16 ≤ (I 4) then 0 else (if (fs_dI dyn x1 0) = 102 then (if (L_X1_fieldNamed_r ht I A J it dyn (fs_dI dyn x1 1)) = (-1) then 1 else 0 : Int32) else 1 : Int32) : Int32))) (fs_mk ht I A J it dyn) := hq
  have hS : (¬ (16 ≤ (I 4)) → ((fs_okI dyn x1) ∧ (((fs_dI dyn x1 0) = 102) → ((fs_okI dyn x1) ∧ (S_X1_fieldNamed ht I A J it dyn (fs_dI dyn x1 1)))))) := hS
  refine (show fsW G l mX1_canTake 3 0 0 0 0 Q 0 [(0, .inr (.inr (some 3))), (1, .inr (.inr x1))] [] (fs_mk ht I A J it dyn) from ?_)
  refine fs_aload_n dX1_canTake_0 rfl rfl ?_
  refine fs_getfield (v := .inl (I 4)) dX1_canTake_1 sf_X1_17 rfl rfl ?_
  refine fs_bipush (v := 16) dX1_canTake_4 rfl ?_
  have hR_6 := hS
  have key_35 : fsW G l mX1_canTake 3 0 0 0 0 Q 35 [(0, .inr (.inr (some 3))), (1, .inr (.inr x1))] [.inl (if 16 ≤ (I 4) then 0 else (if (fs_dI dyn x1 0) = 102 then (if (L_X1_fieldNamed_r ht I A J it dyn (fs_dI dyn x1 1)) = (-1) then 1 else 0 : Int32) else 1 : Int32) : Int32)] (fs_mk ht I A J it dyn) := by
    have k9 := hq
    exact fs_iret dX1_canTake_35 rfl (by (repeat' split) <;> first | rfl) k9
  refine fs_icmp_ge 34 dX1_canTake_6 (by decide) (fun c_6 : 16 ≤ (I 4) => ?_) (fun c_6 : ¬ (16 ≤ (I 4)) => ?_)
  · refine fs_iconst (v := 0) dX1_canTake_34 rfl ?_
    have k9 := key_35
    try simp only [if_pos c_6] at k9 ⊢
    exact k9
  · have hS := hR_6 c_6
    refine fs_aload_n dX1_canTake_9 rfl rfl ?_
    obtain ⟨ho1, hS⟩ := hS
    refine fsg_I0 dX1_canTake_10 sf_X1_24 ho1 ?_
    refine fs_bipush (v := 102) dX1_canTake_13 rfl ?_
    refine fs_icmp_ne 30 dX1_canTake_15 (by decide) (fun c_15 : ¬ (fs_dI dyn x1 0) = 102 => ?_) (fun c_15 : (fs_dI dyn x1 0) = 102 => ?_)
    · refine fs_iconst (v := 1) dX1_canTake_30 rfl ?_
      refine fs_goto 35 dX1_canTake_31 (by decide) ?_
      have k9 := key_35
      try simp only [if_neg c_6, if_neg c_15] at k9 ⊢
      exact k9
    · have hS := hS c_15
      refine fs_aload_n dX1_canTake_18 rfl rfl ?_
      refine fs_aload_n dX1_canTake_19 rfl rfl ?_
      obtain ⟨ho1, hS⟩ := hS
      refine fsg_I1 dX1_canTake_20 sf_X1_28 ho1 ?_
      have ho1 := hS
      refine fs_callV1 dX1_canTake_23 sv_X1_31 rfl ⟨_, rfl, rfl⟩ (c_X1_fieldNamed G l ht I A J it dyn (fs_dI dyn x1 1) ho1) rfl rfl (Nat.le_of_ble_eq_true rfl) (Nat.le_of_ble_eq_true rfl) (Nat.le_of_ble_eq_true rfl) (Nat.le_of_ble_eq_true rfl) ?_
      refine fs_iconst (v := (-1)) dX1_canTake_26 rfl ?_
      refine fs_icmp_ne 34 dX1_canTake_27 (by decide) (fun c_27 : ¬ (L_X1_fieldNamed_r ht I A J it dyn (fs_dI dyn x1 1)) = (-1) => ?_) (fun c_27 : (L_X1_fieldNamed_r ht I A J it dyn (fs_dI dyn x1 1)) = (-1) => ?_)
      · refine fs_iconst (v := 0) dX1_canTake_34 rfl ?_
        have k9 := key_35
        try simp only [if_neg c_6, if_pos c_15, if_neg c_27] at k9 ⊢
        exact k9
      · refine fs_iconst (v := 1) dX1_canTake_30 rfl ?_
        refine fs_goto 35 dX1_canTake_31 (by decide) ?_
        have k9 := key_35
        try simp only [if_neg c_6, if_pos c_15, if_pos c_27] at k9 ⊢
        exact k9
theorem nb_X1_canTake (ht : Nat) (I : Nat → Int32) (A : Nat → Nat → Int32) (J : Nat → Nat → Int64) (it : Nat → Option Nat) (dyn : fsH) (x1 : Option Nat) : narrow .boolean (.int (L_X1_canTake_r ht I A J it dyn x1)) = .int (L_X1_canTake_r ht I A J it dyn x1) := by
  unfold L_X1_canTake_r
  exact (by (repeat' split) <;> first | rfl)
def Lb_X6_forgetRowsFrom_19_J : Nat → Nat → (Nat → Int32) → (Nat → Nat → Int32) → (Nat → Nat → Int64) → (Nat → Option Nat) → fsH → Int32 → Int32 → Int32 → (Nat → Nat → Int64)
  | 0, ht, I, A, J, it, dyn, v1, v2, v3 => J
  | n + 1, ht, I, A, J, it, dyn, v1, v2, v3 => (if 4 ≤ v3 then J else (if (L_X1_repeats_r ht I A J it dyn v2) = 0 then J else (Lb_X6_forgetRowsFrom_19_J n ht I A (va_up J 6 (vp_updL (J 6) (L_X7_cellOf_r ht I A J it dyn v2 v3).toNatClampNeg 0)) it dyn v1 v2 (v3 + 1))))
def Lb_X6_forgetRowsFrom_19_v3 : Nat → Nat → (Nat → Int32) → (Nat → Nat → Int32) → (Nat → Nat → Int64) → (Nat → Option Nat) → fsH → Int32 → Int32 → Int32 → Int32
  | 0, ht, I, A, J, it, dyn, v1, v2, v3 => v3
  | n + 1, ht, I, A, J, it, dyn, v1, v2, v3 => (if 4 ≤ v3 then v3 else (if (L_X1_repeats_r ht I A J it dyn v2) = 0 then v3 else (Lb_X6_forgetRowsFrom_19_v3 n ht I A (va_up J 6 (vp_updL (J 6) (L_X7_cellOf_r ht I A J it dyn v2 v3).toNatClampNeg 0)) it dyn v1 v2 (v3 + 1))))
def S_Lb_X6_forgetRowsFrom_19 : Nat → Nat → (Nat → Int32) → (Nat → Nat → Int32) → (Nat → Nat → Int64) → (Nat → Option Nat) → fsH → Int32 → Int32 → Int32 → Prop
  | 0, _, _, _, _, _, _, _, _, _ => False
  | n + 1, ht, I, A, J, it, dyn, v1, v2, v3 => (¬ (4 ≤ v3) → ((S_X1_repeats ht I A J it dyn v2) ∧ (¬ ((L_X1_repeats_r ht I A J it dyn v2) = 0) → ((vp_in (L_X7_cellOf_r ht I A J it dyn v2 v3) 64) ∧ (S_Lb_X6_forgetRowsFrom_19 n ht I A (va_up J 6 (vp_updL (J 6) (L_X7_cellOf_r ht I A J it dyn v2 v3).toNatClampNeg 0)) it dyn v1 v2 (v3 + 1))))))
set_option maxRecDepth 100000 in
set_option maxHeartbeats 4000000 in
theorem lp_Lb_X6_forgetRowsFrom_19 (G : fsG) (l : Launch) (Q : Option fsV → fsH → Prop) : ∀ (n : Nat) (ht : Nat) (I : Nat → Int32) (A : Nat → Nat → Int32) (J : Nat → Nat → Int64) (it : Nat → Option Nat) (dyn : fsH) (v1 : Int32) (v2 : Int32) (v3 : Int32), S_Lb_X6_forgetRowsFrom_19 n ht I A J it dyn v1 v2 v3 → (fsW G l mX6_forgetRowsFrom 1 0 0 0 0 Q 52 [(0, .inr (.inr (some 5))), (1, .inl v1), (2, .inl v2), (3, .inl (Lb_X6_forgetRowsFrom_19_v3 n ht I A J it dyn v1 v2 v3))] [] (fs_mk ht I A (Lb_X6_forgetRowsFrom_19_J n ht I A J it dyn v1 v2 v3) it dyn)) → fsW G l mX6_forgetRowsFrom 1 0 0 0 0 Q 19 [(0, .inr (.inr (some 5))), (1, .inl v1), (2, .inl v2), (3, .inl v3)] [] (fs_mk ht I A J it dyn) := by
  intro n
  induction n with
  | zero =>
    intro ht I A J it dyn v1 v2 v3 hS
    exact hS.elim
  | succ n ih =>
    intro ht I A J it dyn v1 v2 v3 hS hq
    have hS : (¬ (4 ≤ v3) → ((S_X1_repeats ht I A J it dyn v2) ∧ (¬ ((L_X1_repeats_r ht I A J it dyn v2) = 0) → ((vp_in (L_X7_cellOf_r ht I A J it dyn v2 v3) 64) ∧ (S_Lb_X6_forgetRowsFrom_19 n ht I A (va_up J 6 (vp_updL (J 6) (L_X7_cellOf_r ht I A J it dyn v2 v3).toNatClampNeg 0)) it dyn v1 v2 (v3 + 1)))))) := hS
    have hq : fsW G l mX6_forgetRowsFrom 1 0 0 0 0 Q 52 [(0, .inr (.inr (some 5))), (1, .inl v1), (2, .inl v2), (3, .inl (if 4 ≤ v3 then v3 else (if (L_X1_repeats_r ht I A J it dyn v2) = 0 then v3 else (Lb_X6_forgetRowsFrom_19_v3 n ht I A (va_up J 6 (vp_updL (J 6) (L_X7_cellOf_r ht I A J it dyn v2 v3).toNatClampNeg 0)) it dyn v1 v2 (v3 + 1)))))] [] (fs_mk ht I A (if 4 ≤ v3 then J else (if (L_X1_repeats_r ht I A J it dyn v2) = 0 then J else (Lb_X6_forgetRowsFrom_19_J n ht I A (va_up J 6 (vp_updL (J 6) (L_X7_cellOf_r ht I A J it dyn v2 v3).toNatClampNeg 0)) it dyn v1 v2 (v3 + 1)))) it dyn) := hq
    refine fs_iload_n dX6_forgetRowsFrom_19 rfl rfl ?_
    refine fs_iconst (v := 4) dX6_forgetRowsFrom_20 rfl ?_
    refine fs_icmp_ge 52 dX6_forgetRowsFrom_21 (by decide) (fun c_21 : 4 ≤ v3 => ?_) (fun c_21 : ¬ (4 ≤ v3) => ?_)
    · have k9 := hq
      try simp only [if_pos c_21] at k9 ⊢
      exact k9
    · have hS := hS c_21
      refine fs_aload_n dX6_forgetRowsFrom_24 rfl rfl ?_
      refine fs_getfield (v := .inr (.inr (some 3))) dX6_forgetRowsFrom_25 sf_X6_26 rfl rfl ?_
      refine fs_iload_n dX6_forgetRowsFrom_28 rfl rfl ?_
      obtain ⟨ho1, hS⟩ := hS
      refine fs_callV1 dX6_forgetRowsFrom_29 sv_X6_47 rfl ⟨_, rfl, rfl⟩ (c_X1_repeats G l ht I A J it dyn v2 ho1) rfl rfl (Nat.le_of_ble_eq_true rfl) (Nat.le_of_ble_eq_true rfl) (Nat.le_of_ble_eq_true rfl) (Nat.le_of_ble_eq_true rfl) ?_
      refine fs_if_eq 52 dX6_forgetRowsFrom_32 (by decide) (fun c_32 : (L_X1_repeats_r ht I A J it dyn v2) = 0 => ?_) (fun c_32 : ¬ ((L_X1_repeats_r ht I A J it dyn v2) = 0) => ?_)
      · have k9 := hq
        try simp only [if_neg c_21, if_pos c_32] at k9 ⊢
        exact k9
      · have hS := hS c_32
        refine fs_aload_n dX6_forgetRowsFrom_35 rfl rfl ?_
        refine fs_getfield (v := .inr (.inr (some 6))) dX6_forgetRowsFrom_36 sf_X6_9 rfl rfl ?_
        refine fs_iload_n dX6_forgetRowsFrom_39 rfl rfl ?_
        refine fs_iload_n dX6_forgetRowsFrom_40 rfl rfl ?_
        refine fs_callSN1 dX6_forgetRowsFrom_41 sv_X6_51 (c_X7_cellOf G l ht I A J it dyn v2 v3) rfl rfl (Nat.le_of_ble_eq_true rfl) (Nat.le_of_ble_eq_true rfl) (Nat.le_of_ble_eq_true rfl) (Nat.le_of_ble_eq_true rfl) ?_
        refine fs_lconst (v := 0) dX6_forgetRowsFrom_44 rfl ?_
        obtain ⟨ho1, hS⟩ := hS
        refine fss_6 dX6_forgetRowsFrom_45 ho1 ?_
        refine fs_iinc (v := (v3 + 1)) (L' := [(3, .inl (v3 + 1)), (0, .inr (.inr (some 5))), (1, .inl v1), (2, .inl v2)]) dX6_forgetRowsFrom_46 rfl rfl (by decide) rfl ?_
        refine fs_goto 19 dX6_forgetRowsFrom_49 (by decide) ?_
        refine fs_reL [1, 2, 3, 0] rfl ?_
        have k9 := hq
        try simp only [if_neg c_21, if_neg c_32] at hS k9 ⊢
        exact ih _ _ _ _ _ _ _ _ _ hS k9
def Lb_X6_forgetRowsFrom_2_J : Nat → Nat → (Nat → Int32) → (Nat → Nat → Int32) → (Nat → Nat → Int64) → (Nat → Option Nat) → fsH → Int32 → Int32 → (Nat → Nat → Int64)
  | 0, ht, I, A, J, it, dyn, v1, v2 => J
  | n + 1, ht, I, A, J, it, dyn, v1, v2 => (if (I 4) ≤ v2 then J else (Lb_X6_forgetRowsFrom_2_J n ht I A (Lb_X6_forgetRowsFrom_19_J 70 ht I A J it dyn v1 v2 (if v1 < 0 then 0 else v1)) it dyn v1 (v2 + 1)))
def Lb_X6_forgetRowsFrom_2_v2 : Nat → Nat → (Nat → Int32) → (Nat → Nat → Int32) → (Nat → Nat → Int64) → (Nat → Option Nat) → fsH → Int32 → Int32 → Int32
  | 0, ht, I, A, J, it, dyn, v1, v2 => v2
  | n + 1, ht, I, A, J, it, dyn, v1, v2 => (if (I 4) ≤ v2 then v2 else (Lb_X6_forgetRowsFrom_2_v2 n ht I A (Lb_X6_forgetRowsFrom_19_J 70 ht I A J it dyn v1 v2 (if v1 < 0 then 0 else v1)) it dyn v1 (v2 + 1)))
def S_Lb_X6_forgetRowsFrom_2 : Nat → Nat → (Nat → Int32) → (Nat → Nat → Int32) → (Nat → Nat → Int64) → (Nat → Option Nat) → fsH → Int32 → Int32 → Prop
  | 0, _, _, _, _, _, _, _, _ => False
  | n + 1, ht, I, A, J, it, dyn, v1, v2 => (¬ ((I 4) ≤ v2) → ((S_Lb_X6_forgetRowsFrom_19 70 ht I A J it dyn v1 v2 (if v1 < 0 then 0 else v1)) ∧ (S_Lb_X6_forgetRowsFrom_2 n ht I A (Lb_X6_forgetRowsFrom_19_J 70 ht I A J it dyn v1 v2 (if v1 < 0 then 0 else v1)) it dyn v1 (v2 + 1))))
set_option maxRecDepth 100000 in
set_option maxHeartbeats 4000000 in
theorem lp_Lb_X6_forgetRowsFrom_2 (G : fsG) (l : Launch) (Q : Option fsV → fsH → Prop) : ∀ (n : Nat) (ht : Nat) (I : Nat → Int32) (A : Nat → Nat → Int32) (J : Nat → Nat → Int64) (it : Nat → Option Nat) (dyn : fsH) (v1 : Int32) (v2 : Int32), S_Lb_X6_forgetRowsFrom_2 n ht I A J it dyn v1 v2 → (fsW G l mX6_forgetRowsFrom 1 0 0 0 0 Q 58 [(0, .inr (.inr (some 5))), (1, .inl v1), (2, .inl (Lb_X6_forgetRowsFrom_2_v2 n ht I A J it dyn v1 v2))] [] (fs_mk ht I A (Lb_X6_forgetRowsFrom_2_J n ht I A J it dyn v1 v2) it dyn)) → fsW G l mX6_forgetRowsFrom 1 0 0 0 0 Q 2 [(0, .inr (.inr (some 5))), (1, .inl v1), (2, .inl v2)] [] (fs_mk ht I A J it dyn) := by
  intro n
  induction n with
  | zero =>
    intro ht I A J it dyn v1 v2 hS
    exact hS.elim
  | succ n ih =>
    intro ht I A J it dyn v1 v2 hS hq
    have hS : (¬ ((I 4) ≤ v2) → ((S_Lb_X6_forgetRowsFrom_19 70 ht I A J it dyn v1 v2 (if v1 < 0 then 0 else v1)) ∧ (S_Lb_X6_forgetRowsFrom_2 n ht I A (Lb_X6_forgetRowsFrom_19_J 70 ht I A J it dyn v1 v2 (if v1 < 0 then 0 else v1)) it dyn v1 (v2 + 1)))) := hS
    have hq : fsW G l mX6_forgetRowsFrom 1 0 0 0 0 Q 58 [(0, .inr (.inr (some 5))), (1, .inl v1), (2, .inl (if (I 4) ≤ v2 then v2 else (Lb_X6_forgetRowsFrom_2_v2 n ht I A (Lb_X6_forgetRowsFrom_19_J 70 ht I A J it dyn v1 v2 (if v1 < 0 then 0 else v1)) it dyn v1 (v2 + 1))))] [] (fs_mk ht I A (if (I 4) ≤ v2 then J else (Lb_X6_forgetRowsFrom_2_J n ht I A (Lb_X6_forgetRowsFrom_19_J 70 ht I A J it dyn v1 v2 (if v1 < 0 then 0 else v1)) it dyn v1 (v2 + 1))) it dyn) := hq
    refine fs_iload_n dX6_forgetRowsFrom_2 rfl rfl ?_
    refine fs_aload_n dX6_forgetRowsFrom_3 rfl rfl ?_
    refine fs_getfield (v := .inr (.inr (some 3))) dX6_forgetRowsFrom_4 sf_X6_26 rfl rfl ?_
    refine fs_getfield (v := .inl (I 4)) dX6_forgetRowsFrom_7 sf_X6_36 rfl rfl ?_
    refine fs_icmp_ge 58 dX6_forgetRowsFrom_10 (by decide) (fun c_10 : (I 4) ≤ v2 => ?_) (fun c_10 : ¬ ((I 4) ≤ v2) => ?_)
    · have k9 := hq
      try simp only [if_pos c_10] at k9 ⊢
      exact k9
    · have hS := hS c_10
      refine fs_iload_n dX6_forgetRowsFrom_13 rfl rfl ?_
      refine fs_iconst (v := 0) dX6_forgetRowsFrom_14 rfl ?_
      refine fs_max dX6_forgetRowsFrom_15 sl_X6_41 w_ms_max w_mi w_mc_max (Nat.le_of_ble_eq_true rfl) (Nat.le_of_ble_eq_true rfl) (Nat.le_of_ble_eq_true rfl) (Nat.le_of_ble_eq_true rfl) ?_
      refine fs_istore_n (L' := [(3, .inl (if v1 < 0 then 0 else v1)), (0, .inr (.inr (some 5))), (1, .inl v1), (2, .inl v2)]) dX6_forgetRowsFrom_18 rfl (by decide) rfl ?_
      refine fs_reL [1, 2, 3, 0] rfl ?_
      obtain ⟨ho1, hS⟩ := hS
      refine lp_Lb_X6_forgetRowsFrom_19 G l Q 70 ht I A J it dyn v1 v2 (if v1 < 0 then 0 else v1) ho1 ?_
      refine fs_iinc (v := (v2 + 1)) (L' := [(2, .inl (v2 + 1)), (0, .inr (.inr (some 5))), (1, .inl v1), (3, .inl (Lb_X6_forgetRowsFrom_19_v3 70 ht I A J it dyn v1 v2 (if v1 < 0 then 0 else v1)))]) dX6_forgetRowsFrom_52 rfl rfl (by decide) rfl ?_
      refine fs_goto 2 dX6_forgetRowsFrom_55 (by decide) ?_
      refine fs_reL [1, 2, 0] rfl ?_
      have k9 := hq
      try simp only [if_neg c_10] at hS k9 ⊢
      exact ih _ _ _ _ _ _ _ _ hS k9
def L_X6_forgetRowsFrom_J (ht : Nat) (I : Nat → Int32) (A : Nat → Nat → Int32) (J : Nat → Nat → Int64) (it : Nat → Option Nat) (dyn : fsH) (x1 : Int32) : Nat → Nat → Int64 := (Lb_X6_forgetRowsFrom_2_J 70 ht I A J it dyn x1 0)
def S_X6_forgetRowsFrom (ht : Nat) (I : Nat → Int32) (A : Nat → Nat → Int32) (J : Nat → Nat → Int64) (it : Nat → Option Nat) (dyn : fsH) (x1 : Int32) : Prop := (S_Lb_X6_forgetRowsFrom_2 70 ht I A J it dyn x1 0)
set_option maxRecDepth 100000 in
set_option maxHeartbeats 4000000 in
theorem c_X6_forgetRowsFrom (G : fsG) (l : Launch) (ht : Nat) (I : Nat → Int32) (A : Nat → Nat → Int32) (J : Nat → Nat → Int64) (it : Nat → Option Nat) (dyn : fsH) (x1 : Int32) (hS : S_X6_forgetRowsFrom ht I A J it dyn x1) : fsFn G l mX6_forgetRowsFrom 1 0 0 [.inr (.inr (some 5)), .inl x1] (fs_mk ht I A J it dyn) none (fs_mk ht I A (L_X6_forgetRowsFrom_J ht I A J it dyn x1) it dyn) := by
  refine fsMet_of (by decide) (Nat.le_of_ble_eq_true rfl) ?_
  generalize hQ : (fun (r1 : Option fsV) (h1 : fsH) => r1 = none ∧ h1 = (fs_mk ht I A (L_X6_forgetRowsFrom_J ht I A J it dyn x1) it dyn)) = Q
  have hq : Q none (fs_mk ht I A (L_X6_forgetRowsFrom_J ht I A J it dyn x1) it dyn) := by rw [← hQ]; exact ⟨rfl, rfl⟩
  clear hQ
  have hq : Q none (fs_mk ht I A (Lb_X6_forgetRowsFrom_2_J 70 ht I A J it dyn x1 0) it dyn) := hq
  have hS : (S_Lb_X6_forgetRowsFrom_2 70 ht I A J it dyn x1 0) := hS
  refine (show fsW G l mX6_forgetRowsFrom 1 0 0 0 0 Q 0 [(0, .inr (.inr (some 5))), (1, .inl x1)] [] (fs_mk ht I A J it dyn) from ?_)
  refine fs_iconst (v := 0) dX6_forgetRowsFrom_0 rfl ?_
  refine fs_istore_n (L' := [(2, .inl 0), (0, .inr (.inr (some 5))), (1, .inl x1)]) dX6_forgetRowsFrom_1 rfl (by decide) rfl ?_
  refine fs_reL [1, 2, 0] rfl ?_
  have ho1 := hS
  refine lp_Lb_X6_forgetRowsFrom_2 G l Q 70 ht I A J it dyn x1 0 ho1 ?_
  have k9 := hq
  exact fs_ret dX6_forgetRowsFrom_58 rfl k9
def L_X6_outcomeOf_r (ht : Nat) (I : Nat → Int32) (A : Nat → Nat → Int32) (J : Nat → Nat → Int64) (it : Nat → Option Nat) (dyn : fsH) (x1 : Int32) (x2 : Int32) : Int64 := (if (L_X1_has_r ht I A J it dyn x1 x2) = 0 then 0 else (J 6 (L_X7_cellOf_r ht I A J it dyn x1 x2).toNatClampNeg) : Int64)
def S_X6_outcomeOf (ht : Nat) (I : Nat → Int32) (A : Nat → Nat → Int32) (J : Nat → Nat → Int64) (it : Nat → Option Nat) (dyn : fsH) (x1 : Int32) (x2 : Int32) : Prop := ((S_X1_has ht I A J it dyn x1 x2) ∧ (¬ ((L_X1_has_r ht I A J it dyn x1 x2) = 0) → (vp_in (L_X7_cellOf_r ht I A J it dyn x1 x2) 64)))
set_option maxRecDepth 100000 in
set_option maxHeartbeats 4000000 in
theorem c_X6_outcomeOf (G : fsG) (l : Launch) (ht : Nat) (I : Nat → Int32) (A : Nat → Nat → Int32) (J : Nat → Nat → Int64) (it : Nat → Option Nat) (dyn : fsH) (x1 : Int32) (x2 : Int32) (hS : S_X6_outcomeOf ht I A J it dyn x1 x2) : fsFn G l mX6_outcomeOf 2 0 0 [.inr (.inr (some 5)), .inl x1, .inl x2] (fs_mk ht I A J it dyn) (some (.inr (.inl (L_X6_outcomeOf_r ht I A J it dyn x1 x2)))) (fs_mk ht I A J it dyn) := by
  refine fsMet_of (by decide) (Nat.le_of_ble_eq_true rfl) ?_
  generalize hQ : (fun (r1 : Option fsV) (h1 : fsH) => r1 = (some (.inr (.inl (L_X6_outcomeOf_r ht I A J it dyn x1 x2)))) ∧ h1 = (fs_mk ht I A J it dyn)) = Q
  have hq : Q (some (.inr (.inl (L_X6_outcomeOf_r ht I A J it dyn x1 x2)))) (fs_mk ht I A J it dyn) := by rw [← hQ]; exact ⟨rfl, rfl⟩
  clear hQ
  have hq : Q (some (.inr (.inl (if (L_X1_has_r ht I A J it dyn x1 x2) = 0 then 0 else (J 6 (L_X7_cellOf_r ht I A J it dyn x1 x2).toNatClampNeg) : Int64)))) (fs_mk ht I A J it dyn) := hq
  have hS : ((S_X1_has ht I A J it dyn x1 x2) ∧ (¬ ((L_X1_has_r ht I A J it dyn x1 x2) = 0) → (vp_in (L_X7_cellOf_r ht I A J it dyn x1 x2) 64))) := hS
  refine (show fsW G l mX6_outcomeOf 2 0 0 0 0 Q 0 [(0, .inr (.inr (some 5))), (1, .inl x1), (2, .inl x2)] [] (fs_mk ht I A J it dyn) from ?_)
  refine fs_aload_n dX6_outcomeOf_0 rfl rfl ?_
  refine fs_getfield (v := .inr (.inr (some 3))) dX6_outcomeOf_1 sf_X6_26 rfl rfl ?_
  refine fs_iload_n dX6_outcomeOf_4 rfl rfl ?_
  refine fs_iload_n dX6_outcomeOf_5 rfl rfl ?_
  obtain ⟨ho1, hS⟩ := hS
  refine fs_callV1 dX6_outcomeOf_6 sv_X6_54 rfl ⟨_, rfl, rfl⟩ (c_X1_has G l ht I A J it dyn x1 x2 ho1) rfl rfl (Nat.le_of_ble_eq_true rfl) (Nat.le_of_ble_eq_true rfl) (Nat.le_of_ble_eq_true rfl) (Nat.le_of_ble_eq_true rfl) ?_
  have hR_9 := hS
  have key_26 : fsW G l mX6_outcomeOf 2 0 0 0 0 Q 26 [(0, .inr (.inr (some 5))), (1, .inl x1), (2, .inl x2)] [.inr (.inl (if (L_X1_has_r ht I A J it dyn x1 x2) = 0 then 0 else (J 6 (L_X7_cellOf_r ht I A J it dyn x1 x2).toNatClampNeg) : Int64))] (fs_mk ht I A J it dyn) := by
    have k9 := hq
    exact fs_lret dX6_outcomeOf_26 rfl k9
  refine fs_if_eq 25 dX6_outcomeOf_9 (by decide) (fun c_9 : (L_X1_has_r ht I A J it dyn x1 x2) = 0 => ?_) (fun c_9 : ¬ ((L_X1_has_r ht I A J it dyn x1 x2) = 0) => ?_)
  · refine fs_lconst (v := 0) dX6_outcomeOf_25 rfl ?_
    have k9 := key_26
    try simp only [if_pos c_9] at k9 ⊢
    exact k9
  · have hS := hR_9 c_9
    refine fs_aload_n dX6_outcomeOf_12 rfl rfl ?_
    refine fs_getfield (v := .inr (.inr (some 6))) dX6_outcomeOf_13 sf_X6_9 rfl rfl ?_
    refine fs_iload_n dX6_outcomeOf_16 rfl rfl ?_
    refine fs_iload_n dX6_outcomeOf_17 rfl rfl ?_
    refine fs_callSN1 dX6_outcomeOf_18 sv_X6_51 (c_X7_cellOf G l ht I A J it dyn x1 x2) rfl rfl (Nat.le_of_ble_eq_true rfl) (Nat.le_of_ble_eq_true rfl) (Nat.le_of_ble_eq_true rfl) (Nat.le_of_ble_eq_true rfl) ?_
    have ho1 := hS
    refine fs_laload dX6_outcomeOf_21 rfl ho1 ?_
    refine fs_goto 26 dX6_outcomeOf_22 (by decide) ?_
    have k9 := key_26
    try simp only [if_neg c_9] at k9 ⊢
    exact k9
def L_X6_fails_r (ht : Nat) (I : Nat → Int32) (A : Nat → Nat → Int32) (J : Nat → Nat → Int64) (it : Nat → Option Nat) (dyn : fsH) (x1 : Int32) (x2 : Int32) : Int32 := (if (L_X1_isCheck_r ht I A J it dyn x1) = 0 then 0 else (if (lg_cmp (L_X6_outcomeOf_r ht I A J it dyn x1 x2) 0) = 0 then 1 else (if (L_X7_isFault_r ht I A J it dyn (L_X6_outcomeOf_r ht I A J it dyn x1 x2)) = 0 then 0 else 1 : Int32) : Int32))
def S_X6_fails (ht : Nat) (I : Nat → Int32) (A : Nat → Nat → Int32) (J : Nat → Nat → Int64) (it : Nat → Option Nat) (dyn : fsH) (x1 : Int32) (x2 : Int32) : Prop := ((S_X1_isCheck ht I A J it dyn x1) ∧ (¬ ((L_X1_isCheck_r ht I A J it dyn x1) = 0) → (S_X6_outcomeOf ht I A J it dyn x1 x2)))
set_option maxRecDepth 100000 in
set_option maxHeartbeats 4000000 in
theorem c_X6_fails (G : fsG) (l : Launch) (ht : Nat) (I : Nat → Int32) (A : Nat → Nat → Int32) (J : Nat → Nat → Int64) (it : Nat → Option Nat) (dyn : fsH) (x1 : Int32) (x2 : Int32) (hS : S_X6_fails ht I A J it dyn x1 x2) : fsFn G l mX6_fails 3 0 0 [.inr (.inr (some 5)), .inl x1, .inl x2] (fs_mk ht I A J it dyn) (some (.inl (L_X6_fails_r ht I A J it dyn x1 x2))) (fs_mk ht I A J it dyn) := by
  refine fsMet_of (by decide) (Nat.le_of_ble_eq_true rfl) ?_
  generalize hQ : (fun (r1 : Option fsV) (h1 : fsH) => r1 = (some (.inl (L_X6_fails_r ht I A J it dyn x1 x2))) ∧ h1 = (fs_mk ht I A J it dyn)) = Q
  have hq : Q (some (.inl (L_X6_fails_r ht I A J it dyn x1 x2))) (fs_mk ht I A J it dyn) := by rw [← hQ]; exact ⟨rfl, rfl⟩
  clear hQ
  have hq : Q (some (.inl (if (L_X1_isCheck_r ht I A J it dyn x1) = 0 then 0 else (if (lg_cmp (L_X6_outcomeOf_r ht I A J it dyn x1 x2) 0) = 0 then 1 else (if (L_X7_isFault_r ht I A J it dyn (L_X6_outcomeOf_r ht I A J it dyn x1 x2)) = 0 then 0 else 1 : Int32) : Int32)))) (fs_mk ht I A J it dyn) := hq
  have hS : ((S_X1_isCheck ht I A J it dyn x1) ∧ (¬ ((L_X1_isCheck_r ht I A J it dyn x1) = 0) → (S_X6_outcomeOf ht I A J it dyn x1 x2))) := hS
  refine (show fsW G l mX6_fails 3 0 0 0 0 Q 0 [(0, .inr (.inr (some 5))), (1, .inl x1), (2, .inl x2)] [] (fs_mk ht I A J it dyn) from ?_)
  refine fs_aload_n dX6_fails_0 rfl rfl ?_
  refine fs_getfield (v := .inr (.inr (some 3))) dX6_fails_1 sf_X6_26 rfl rfl ?_
  refine fs_iload_n dX6_fails_4 rfl rfl ?_
  obtain ⟨ho1, hS⟩ := hS
  refine fs_callV1 dX6_fails_5 sv_X6_58 rfl ⟨_, rfl, rfl⟩ (c_X1_isCheck G l ht I A J it dyn x1 ho1) rfl rfl (Nat.le_of_ble_eq_true rfl) (Nat.le_of_ble_eq_true rfl) (Nat.le_of_ble_eq_true rfl) (Nat.le_of_ble_eq_true rfl) ?_
  refine fs_if_ne 13 dX6_fails_8 (by decide) (fun c_8 : ¬ (L_X1_isCheck_r ht I A J it dyn x1) = 0 => ?_) (fun c_8 : (L_X1_isCheck_r ht I A J it dyn x1) = 0 => ?_)
  · have hS := hS c_8
    refine fs_aload_n dX6_fails_13 rfl rfl ?_
    refine fs_iload_n dX6_fails_14 rfl rfl ?_
    refine fs_iload_n dX6_fails_15 rfl rfl ?_
    have ho1 := hS
    refine fs_callV1 dX6_fails_16 sv_X6_61 rfl ⟨_, rfl, rfl⟩ (c_X6_outcomeOf G l ht I A J it dyn x1 x2 ho1) rfl rfl (Nat.le_of_ble_eq_true rfl) (Nat.le_of_ble_eq_true rfl) (Nat.le_of_ble_eq_true rfl) (Nat.le_of_ble_eq_true rfl) ?_
    refine fs_lstore_n (L' := [(3, .inr (.inl (L_X6_outcomeOf_r ht I A J it dyn x1 x2))), (0, .inr (.inr (some 5))), (1, .inl x1), (2, .inl x2)]) dX6_fails_19 rfl (by decide) rfl ?_
    refine fs_lload_n dX6_fails_20 rfl rfl ?_
    refine fs_lconst (v := 0) dX6_fails_21 rfl ?_
    refine fs_lcmp dX6_fails_22 ?_
    have key_38 : fsW G l mX6_fails 3 0 0 0 0 Q 38 [(0, .inr (.inr (some 5))), (1, .inl x1), (2, .inl x2), (3, .inr (.inl (L_X6_outcomeOf_r ht I A J it dyn x1 x2)))] [.inl (if (lg_cmp (L_X6_outcomeOf_r ht I A J it dyn x1 x2) 0) = 0 then 1 else (if (L_X7_isFault_r ht I A J it dyn (L_X6_outcomeOf_r ht I A J it dyn x1 x2)) = 0 then 0 else 1 : Int32) : Int32)] (fs_mk ht I A J it dyn) := by
      have k9 := hq
      try simp only [if_neg c_8] at k9 ⊢
      exact fs_iret dX6_fails_38 rfl (by (repeat' split) <;> first | rfl) k9
    refine fs_if_eq 33 dX6_fails_23 (by decide) (fun c_23 : (lg_cmp (L_X6_outcomeOf_r ht I A J it dyn x1 x2) 0) = 0 => ?_) (fun c_23 : ¬ ((lg_cmp (L_X6_outcomeOf_r ht I A J it dyn x1 x2) 0) = 0) => ?_)
    · refine fs_iconst (v := 1) dX6_fails_33 rfl ?_
      refine fs_goto 38 dX6_fails_34 (by decide) ?_
      refine fs_reL [1, 2, 3, 0] rfl ?_
      have k9 := key_38
      try simp only [if_neg c_8, if_pos c_23] at k9 ⊢
      exact k9
    · refine fs_lload_n dX6_fails_26 rfl rfl ?_
      refine fs_callSN1 dX6_fails_27 sv_X6_65 (c_X7_isFault G l ht I A J it dyn (L_X6_outcomeOf_r ht I A J it dyn x1 x2)) rfl rfl (Nat.le_of_ble_eq_true rfl) (Nat.le_of_ble_eq_true rfl) (Nat.le_of_ble_eq_true rfl) (Nat.le_of_ble_eq_true rfl) ?_
      refine fs_if_eq 37 dX6_fails_30 (by decide) (fun c_30 : (L_X7_isFault_r ht I A J it dyn (L_X6_outcomeOf_r ht I A J it dyn x1 x2)) = 0 => ?_) (fun c_30 : ¬ ((L_X7_isFault_r ht I A J it dyn (L_X6_outcomeOf_r ht I A J it dyn x1 x2)) = 0) => ?_)
      · refine fs_iconst (v := 0) dX6_fails_37 rfl ?_
        refine fs_reL [1, 2, 3, 0] rfl ?_
        have k9 := key_38
        try simp only [if_neg c_8, if_neg c_23, if_pos c_30] at k9 ⊢
        exact k9
      · refine fs_iconst (v := 1) dX6_fails_33 rfl ?_
        refine fs_goto 38 dX6_fails_34 (by decide) ?_
        refine fs_reL [1, 2, 3, 0] rfl ?_
        have k9 := key_38
        try simp only [if_neg c_8, if_neg c_23, if_neg c_30] at k9 ⊢
        exact k9
  · refine fs_iconst (v := 0) dX6_fails_11 rfl ?_
    have k9 := hq
    try simp only [if_pos c_8] at k9 ⊢
    exact fs_iret dX6_fails_12 rfl rfl k9
theorem nb_X6_fails (ht : Nat) (I : Nat → Int32) (A : Nat → Nat → Int32) (J : Nat → Nat → Int64) (it : Nat → Option Nat) (dyn : fsH) (x1 : Int32) (x2 : Int32) : narrow .boolean (.int (L_X6_fails_r ht I A J it dyn x1 x2)) = .int (L_X6_fails_r ht I A J it dyn x1 x2) := by
  unfold L_X6_fails_r
  exact (by (repeat' split) <;> first | rfl)
def Lb_X6_faultCount_17_v1 : Nat → Nat → (Nat → Int32) → (Nat → Nat → Int32) → (Nat → Nat → Int64) → (Nat → Option Nat) → fsH → Int32 → Int32 → Int32 → Int32
  | 0, ht, I, A, J, it, dyn, v1, v2, v3 => v1
  | n + 1, ht, I, A, J, it, dyn, v1, v2, v3 => (if (L_X1_rowsOf_r ht I A J it dyn v2) ≤ v3 then v1 else (if (L_X1_isField_r ht I A J it dyn v2) = 0 then v1 else (Lb_X6_faultCount_17_v1 n ht I A J it dyn (if (L_X7_isFault_r ht I A J it dyn (L_X6_outcomeOf_r ht I A J it dyn v2 v3)) = 0 then v1 else (v1 + 1) : Int32) v2 (v3 + 1))))
def Lb_X6_faultCount_17_v3 : Nat → Nat → (Nat → Int32) → (Nat → Nat → Int32) → (Nat → Nat → Int64) → (Nat → Option Nat) → fsH → Int32 → Int32 → Int32 → Int32
  | 0, ht, I, A, J, it, dyn, v1, v2, v3 => v3
  | n + 1, ht, I, A, J, it, dyn, v1, v2, v3 => (if (L_X1_rowsOf_r ht I A J it dyn v2) ≤ v3 then v3 else (if (L_X1_isField_r ht I A J it dyn v2) = 0 then v3 else (Lb_X6_faultCount_17_v3 n ht I A J it dyn (if (L_X7_isFault_r ht I A J it dyn (L_X6_outcomeOf_r ht I A J it dyn v2 v3)) = 0 then v1 else (v1 + 1) : Int32) v2 (v3 + 1))))
def S_Lb_X6_faultCount_17 : Nat → Nat → (Nat → Int32) → (Nat → Nat → Int32) → (Nat → Nat → Int64) → (Nat → Option Nat) → fsH → Int32 → Int32 → Int32 → Prop
  | 0, _, _, _, _, _, _, _, _, _ => False
  | n + 1, ht, I, A, J, it, dyn, v1, v2, v3 => ((S_X1_rowsOf ht I A J it dyn v2) ∧ (¬ ((L_X1_rowsOf_r ht I A J it dyn v2) ≤ v3) → ((S_X1_isField ht I A J it dyn v2) ∧ (¬ ((L_X1_isField_r ht I A J it dyn v2) = 0) → ((S_X6_outcomeOf ht I A J it dyn v2 v3) ∧ (S_Lb_X6_faultCount_17 n ht I A J it dyn (if (L_X7_isFault_r ht I A J it dyn (L_X6_outcomeOf_r ht I A J it dyn v2 v3)) = 0 then v1 else (v1 + 1) : Int32) v2 (v3 + 1)))))))
set_option maxRecDepth 100000 in
set_option maxHeartbeats 4000000 in
theorem lp_Lb_X6_faultCount_17 (G : fsG) (l : Launch) (Q : Option fsV → fsH → Prop) : ∀ (n : Nat) (ht : Nat) (I : Nat → Int32) (A : Nat → Nat → Int32) (J : Nat → Nat → Int64) (it : Nat → Option Nat) (dyn : fsH) (v1 : Int32) (v2 : Int32) (v3 : Int32), S_Lb_X6_faultCount_17 n ht I A J it dyn v1 v2 v3 → (fsW G l mX6_faultCount 3 0 0 0 0 Q 61 [(0, .inr (.inr (some 5))), (1, .inl (Lb_X6_faultCount_17_v1 n ht I A J it dyn v1 v2 v3)), (2, .inl v2), (3, .inl (Lb_X6_faultCount_17_v3 n ht I A J it dyn v1 v2 v3))] [] (fs_mk ht I A J it dyn)) → fsW G l mX6_faultCount 3 0 0 0 0 Q 17 [(0, .inr (.inr (some 5))), (1, .inl v1), (2, .inl v2), (3, .inl v3)] [] (fs_mk ht I A J it dyn) := by
  intro n
  induction n with
  | zero =>
    intro ht I A J it dyn v1 v2 v3 hS
    exact hS.elim
  | succ n ih =>
    intro ht I A J it dyn v1 v2 v3 hS hq
    have hS : ((S_X1_rowsOf ht I A J it dyn v2) ∧ (¬ ((L_X1_rowsOf_r ht I A J it dyn v2) ≤ v3) → ((S_X1_isField ht I A J it dyn v2) ∧ (¬ ((L_X1_isField_r ht I A J it dyn v2) = 0) → ((S_X6_outcomeOf ht I A J it dyn v2 v3) ∧ (S_Lb_X6_faultCount_17 n ht I A J it dyn (if (L_X7_isFault_r ht I A J it dyn (L_X6_outcomeOf_r ht I A J it dyn v2 v3)) = 0 then v1 else (v1 + 1) : Int32) v2 (v3 + 1))))))) := hS
    have hq : fsW G l mX6_faultCount 3 0 0 0 0 Q 61 [(0, .inr (.inr (some 5))), (1, .inl (if (L_X1_rowsOf_r ht I A J it dyn v2) ≤ v3 then v1 else (if (L_X1_isField_r ht I A J it dyn v2) = 0 then v1 else (Lb_X6_faultCount_17_v1 n ht I A J it dyn (if (L_X7_isFault_r ht I A J it dyn (L_X6_outcomeOf_r ht I A J it dyn v2 v3)) = 0 then v1 else (v1 + 1) : Int32) v2 (v3 + 1))))), (2, .inl v2), (3, .inl (if (L_X1_rowsOf_r ht I A J it dyn v2) ≤ v3 then v3 else (if (L_X1_isField_r ht I A J it dyn v2) = 0 then v3 else (Lb_X6_faultCount_17_v3 n ht I A J it dyn (if (L_X7_isFault_r ht I A J it dyn (L_X6_outcomeOf_r ht I A J it dyn v2 v3)) = 0 then v1 else (v1 + 1) : Int32) v2 (v3 + 1)))))] [] (fs_mk ht I A J it dyn) := hq
    refine fs_iload_n dX6_faultCount_17 rfl rfl ?_
    refine fs_aload_n dX6_faultCount_18 rfl rfl ?_
    refine fs_getfield (v := .inr (.inr (some 3))) dX6_faultCount_19 sf_X6_26 rfl rfl ?_
    refine fs_iload_n dX6_faultCount_22 rfl rfl ?_
    obtain ⟨ho1, hS⟩ := hS
    refine fs_callV1 dX6_faultCount_23 sv_X6_69 rfl ⟨_, rfl, rfl⟩ (c_X1_rowsOf G l ht I A J it dyn v2 ho1) rfl rfl (Nat.le_of_ble_eq_true rfl) (Nat.le_of_ble_eq_true rfl) (Nat.le_of_ble_eq_true rfl) (Nat.le_of_ble_eq_true rfl) ?_
    refine fs_icmp_ge 61 dX6_faultCount_26 (by decide) (fun c_26 : (L_X1_rowsOf_r ht I A J it dyn v2) ≤ v3 => ?_) (fun c_26 : ¬ ((L_X1_rowsOf_r ht I A J it dyn v2) ≤ v3) => ?_)
    · have k9 := hq
      try simp only [if_pos c_26] at k9 ⊢
      exact k9
    · have hS := hS c_26
      refine fs_aload_n dX6_faultCount_29 rfl rfl ?_
      refine fs_getfield (v := .inr (.inr (some 3))) dX6_faultCount_30 sf_X6_26 rfl rfl ?_
      refine fs_iload_n dX6_faultCount_33 rfl rfl ?_
      obtain ⟨ho1, hS⟩ := hS
      refine fs_callV1 dX6_faultCount_34 sv_X6_73 rfl ⟨_, rfl, rfl⟩ (c_X1_isField G l ht I A J it dyn v2 ho1) rfl rfl (Nat.le_of_ble_eq_true rfl) (Nat.le_of_ble_eq_true rfl) (Nat.le_of_ble_eq_true rfl) (Nat.le_of_ble_eq_true rfl) ?_
      refine fs_if_eq 61 dX6_faultCount_37 (by decide) (fun c_37 : (L_X1_isField_r ht I A J it dyn v2) = 0 => ?_) (fun c_37 : ¬ ((L_X1_isField_r ht I A J it dyn v2) = 0) => ?_)
      · have k9 := hq
        try simp only [if_neg c_26, if_pos c_37] at k9 ⊢
        exact k9
      · have hS := hS c_37
        refine fs_aload_n dX6_faultCount_40 rfl rfl ?_
        refine fs_iload_n dX6_faultCount_41 rfl rfl ?_
        refine fs_iload_n dX6_faultCount_42 rfl rfl ?_
        obtain ⟨ho1, hS⟩ := hS
        refine fs_callV1 dX6_faultCount_43 sv_X6_61 rfl ⟨_, rfl, rfl⟩ (c_X6_outcomeOf G l ht I A J it dyn v2 v3 ho1) rfl rfl (Nat.le_of_ble_eq_true rfl) (Nat.le_of_ble_eq_true rfl) (Nat.le_of_ble_eq_true rfl) (Nat.le_of_ble_eq_true rfl) ?_
        refine fs_callSN1 dX6_faultCount_46 sv_X6_65 (c_X7_isFault G l ht I A J it dyn (L_X6_outcomeOf_r ht I A J it dyn v2 v3)) rfl rfl (Nat.le_of_ble_eq_true rfl) (Nat.le_of_ble_eq_true rfl) (Nat.le_of_ble_eq_true rfl) (Nat.le_of_ble_eq_true rfl) ?_
        have key_55 : fsW G l mX6_faultCount 3 0 0 0 0 Q 55 [(0, .inr (.inr (some 5))), (1, .inl (if (L_X7_isFault_r ht I A J it dyn (L_X6_outcomeOf_r ht I A J it dyn v2 v3)) = 0 then v1 else (v1 + 1) : Int32)), (2, .inl v2), (3, .inl v3)] [] (fs_mk ht I A J it dyn) := by
          refine fs_iinc (v := (v3 + 1)) (L' := [(3, .inl (v3 + 1)), (0, .inr (.inr (some 5))), (1, .inl (if (L_X7_isFault_r ht I A J it dyn (L_X6_outcomeOf_r ht I A J it dyn v2 v3)) = 0 then v1 else (v1 + 1) : Int32)), (2, .inl v2)]) dX6_faultCount_55 rfl rfl (by decide) rfl ?_
          refine fs_goto 17 dX6_faultCount_58 (by decide) ?_
          refine fs_reL [1, 2, 3, 0] rfl ?_
          have k9 := hq
          try simp only [if_neg c_26, if_neg c_37] at hS k9 ⊢
          exact ih _ _ _ _ _ _ _ _ _ hS k9
        refine fs_if_eq 55 dX6_faultCount_49 (by decide) (fun c_49 : (L_X7_isFault_r ht I A J it dyn (L_X6_outcomeOf_r ht I A J it dyn v2 v3)) = 0 => ?_) (fun c_49 : ¬ ((L_X7_isFault_r ht I A J it dyn (L_X6_outcomeOf_r ht I A J it dyn v2 v3)) = 0) => ?_)
        · have k9 := key_55
          try simp only [if_neg c_26, if_neg c_37, if_pos c_49] at k9 ⊢
          exact k9
        · refine fs_iinc (v := (v1 + 1)) (L' := [(1, .inl (v1 + 1)), (0, .inr (.inr (some 5))), (2, .inl v2), (3, .inl v3)]) dX6_faultCount_52 rfl rfl (by decide) rfl ?_
          refine fs_reL [1, 0, 2, 3] rfl ?_
          have k9 := key_55
          try simp only [if_neg c_26, if_neg c_37, if_neg c_49] at k9 ⊢
          exact k9
def Lb_X6_faultCount_4_v1 : Nat → Nat → (Nat → Int32) → (Nat → Nat → Int32) → (Nat → Nat → Int64) → (Nat → Option Nat) → fsH → Int32 → Int32 → Int32
  | 0, ht, I, A, J, it, dyn, v1, v2 => v1
  | n + 1, ht, I, A, J, it, dyn, v1, v2 => (if (I 4) ≤ v2 then v1 else (Lb_X6_faultCount_4_v1 n ht I A J it dyn (Lb_X6_faultCount_17_v1 70 ht I A J it dyn v1 v2 0) (v2 + 1)))
def Lb_X6_faultCount_4_v2 : Nat → Nat → (Nat → Int32) → (Nat → Nat → Int32) → (Nat → Nat → Int64) → (Nat → Option Nat) → fsH → Int32 → Int32 → Int32
  | 0, ht, I, A, J, it, dyn, v1, v2 => v2
  | n + 1, ht, I, A, J, it, dyn, v1, v2 => (if (I 4) ≤ v2 then v2 else (Lb_X6_faultCount_4_v2 n ht I A J it dyn (Lb_X6_faultCount_17_v1 70 ht I A J it dyn v1 v2 0) (v2 + 1)))
def S_Lb_X6_faultCount_4 : Nat → Nat → (Nat → Int32) → (Nat → Nat → Int32) → (Nat → Nat → Int64) → (Nat → Option Nat) → fsH → Int32 → Int32 → Prop
  | 0, _, _, _, _, _, _, _, _ => False
  | n + 1, ht, I, A, J, it, dyn, v1, v2 => (¬ ((I 4) ≤ v2) → ((S_Lb_X6_faultCount_17 70 ht I A J it dyn v1 v2 0) ∧ (S_Lb_X6_faultCount_4 n ht I A J it dyn (Lb_X6_faultCount_17_v1 70 ht I A J it dyn v1 v2 0) (v2 + 1))))
set_option maxRecDepth 100000 in
set_option maxHeartbeats 4000000 in
theorem lp_Lb_X6_faultCount_4 (G : fsG) (l : Launch) (Q : Option fsV → fsH → Prop) : ∀ (n : Nat) (ht : Nat) (I : Nat → Int32) (A : Nat → Nat → Int32) (J : Nat → Nat → Int64) (it : Nat → Option Nat) (dyn : fsH) (v1 : Int32) (v2 : Int32), S_Lb_X6_faultCount_4 n ht I A J it dyn v1 v2 → (fsW G l mX6_faultCount 3 0 0 0 0 Q 67 [(0, .inr (.inr (some 5))), (1, .inl (Lb_X6_faultCount_4_v1 n ht I A J it dyn v1 v2)), (2, .inl (Lb_X6_faultCount_4_v2 n ht I A J it dyn v1 v2))] [] (fs_mk ht I A J it dyn)) → fsW G l mX6_faultCount 3 0 0 0 0 Q 4 [(0, .inr (.inr (some 5))), (1, .inl v1), (2, .inl v2)] [] (fs_mk ht I A J it dyn) := by
  intro n
  induction n with
  | zero =>
    intro ht I A J it dyn v1 v2 hS
    exact hS.elim
  | succ n ih =>
    intro ht I A J it dyn v1 v2 hS hq
    have hS : (¬ ((I 4) ≤ v2) → ((S_Lb_X6_faultCount_17 70 ht I A J it dyn v1 v2 0) ∧ (S_Lb_X6_faultCount_4 n ht I A J it dyn (Lb_X6_faultCount_17_v1 70 ht I A J it dyn v1 v2 0) (v2 + 1)))) := hS
    have hq : fsW G l mX6_faultCount 3 0 0 0 0 Q 67 [(0, .inr (.inr (some 5))), (1, .inl (if (I 4) ≤ v2 then v1 else (Lb_X6_faultCount_4_v1 n ht I A J it dyn (Lb_X6_faultCount_17_v1 70 ht I A J it dyn v1 v2 0) (v2 + 1)))), (2, .inl (if (I 4) ≤ v2 then v2 else (Lb_X6_faultCount_4_v2 n ht I A J it dyn (Lb_X6_faultCount_17_v1 70 ht I A J it dyn v1 v2 0) (v2 + 1))))] [] (fs_mk ht I A J it dyn) := hq
    refine fs_iload_n dX6_faultCount_4 rfl rfl ?_
    refine fs_aload_n dX6_faultCount_5 rfl rfl ?_
    refine fs_getfield (v := .inr (.inr (some 3))) dX6_faultCount_6 sf_X6_26 rfl rfl ?_
    refine fs_getfield (v := .inl (I 4)) dX6_faultCount_9 sf_X6_36 rfl rfl ?_
    refine fs_icmp_ge 67 dX6_faultCount_12 (by decide) (fun c_12 : (I 4) ≤ v2 => ?_) (fun c_12 : ¬ ((I 4) ≤ v2) => ?_)
    · have k9 := hq
      try simp only [if_pos c_12] at k9 ⊢
      exact k9
    · have hS := hS c_12
      refine fs_iconst (v := 0) dX6_faultCount_15 rfl ?_
      refine fs_istore_n (L' := [(3, .inl 0), (0, .inr (.inr (some 5))), (1, .inl v1), (2, .inl v2)]) dX6_faultCount_16 rfl (by decide) rfl ?_
      refine fs_reL [1, 2, 3, 0] rfl ?_
      obtain ⟨ho1, hS⟩ := hS
      refine lp_Lb_X6_faultCount_17 G l Q 70 ht I A J it dyn v1 v2 0 ho1 ?_
      refine fs_iinc (v := (v2 + 1)) (L' := [(2, .inl (v2 + 1)), (0, .inr (.inr (some 5))), (1, .inl (Lb_X6_faultCount_17_v1 70 ht I A J it dyn v1 v2 0)), (3, .inl (Lb_X6_faultCount_17_v3 70 ht I A J it dyn v1 v2 0))]) dX6_faultCount_61 rfl rfl (by decide) rfl ?_
      refine fs_goto 4 dX6_faultCount_64 (by decide) ?_
      refine fs_reL [1, 2, 0] rfl ?_
      have k9 := hq
      try simp only [if_neg c_12] at hS k9 ⊢
      exact ih _ _ _ _ _ _ _ _ hS k9
def L_X6_faultCount_r (ht : Nat) (I : Nat → Int32) (A : Nat → Nat → Int32) (J : Nat → Nat → Int64) (it : Nat → Option Nat) (dyn : fsH)  : Int32 := (Lb_X6_faultCount_4_v1 70 ht I A J it dyn 0 0)
def S_X6_faultCount (ht : Nat) (I : Nat → Int32) (A : Nat → Nat → Int32) (J : Nat → Nat → Int64) (it : Nat → Option Nat) (dyn : fsH)  : Prop := (S_Lb_X6_faultCount_4 70 ht I A J it dyn 0 0)
set_option maxRecDepth 100000 in
set_option maxHeartbeats 4000000 in
theorem c_X6_faultCount (G : fsG) (l : Launch) (ht : Nat) (I : Nat → Int32) (A : Nat → Nat → Int32) (J : Nat → Nat → Int64) (it : Nat → Option Nat) (dyn : fsH)  (hS : S_X6_faultCount ht I A J it dyn ) : fsFn G l mX6_faultCount 3 0 0 [.inr (.inr (some 5))] (fs_mk ht I A J it dyn) (some (.inl (L_X6_faultCount_r ht I A J it dyn ))) (fs_mk ht I A J it dyn) := by
  refine fsMet_of (by decide) (Nat.le_of_ble_eq_true rfl) ?_
  generalize hQ : (fun (r1 : Option fsV) (h1 : fsH) => r1 = (some (.inl (L_X6_faultCount_r ht I A J it dyn ))) ∧ h1 = (fs_mk ht I A J it dyn)) = Q
  have hq : Q (some (.inl (L_X6_faultCount_r ht I A J it dyn ))) (fs_mk ht I A J it dyn) := by rw [← hQ]; exact ⟨rfl, rfl⟩
  clear hQ
  have hq : Q (some (.inl (Lb_X6_faultCount_4_v1 70 ht I A J it dyn 0 0))) (fs_mk ht I A J it dyn) := hq
  have hS : (S_Lb_X6_faultCount_4 70 ht I A J it dyn 0 0) := hS
  refine (show fsW G l mX6_faultCount 3 0 0 0 0 Q 0 [(0, .inr (.inr (some 5)))] [] (fs_mk ht I A J it dyn) from ?_)
  refine fs_iconst (v := 0) dX6_faultCount_0 rfl ?_
  refine fs_istore_n (L' := [(1, .inl 0), (0, .inr (.inr (some 5)))]) dX6_faultCount_1 rfl (by decide) rfl ?_
  refine fs_iconst (v := 0) dX6_faultCount_2 rfl ?_
  refine fs_istore_n (L' := [(2, .inl 0), (1, .inl 0), (0, .inr (.inr (some 5)))]) dX6_faultCount_3 rfl (by decide) rfl ?_
  refine fs_reL [2, 1, 0] rfl ?_
  have ho1 := hS
  refine lp_Lb_X6_faultCount_4 G l Q 70 ht I A J it dyn 0 0 ho1 ?_
  refine fs_iload_n dX6_faultCount_67 rfl rfl ?_
  have k9 := hq
  exact fs_iret dX6_faultCount_68 rfl rfl k9
def L_X6_cellNamed_r (ht : Nat) (I : Nat → Int32) (A : Nat → Nat → Int32) (J : Nat → Nat → Int64) (it : Nat → Option Nat) (dyn : fsH) (x1 : Int32) (x2 : Int32) : Int32 := (L_X7_cellOf_r ht I A J it dyn x1 (if (L_X1_repeats_r ht I A J it dyn x1) = 0 then 0 else x2 : Int32))
def S_X6_cellNamed (ht : Nat) (I : Nat → Int32) (A : Nat → Nat → Int32) (J : Nat → Nat → Int64) (it : Nat → Option Nat) (dyn : fsH) (x1 : Int32) (x2 : Int32) : Prop := (S_X1_repeats ht I A J it dyn x1)
set_option maxRecDepth 100000 in
set_option maxHeartbeats 4000000 in
theorem c_X6_cellNamed (G : fsG) (l : Launch) (ht : Nat) (I : Nat → Int32) (A : Nat → Nat → Int32) (J : Nat → Nat → Int64) (it : Nat → Option Nat) (dyn : fsH) (x1 : Int32) (x2 : Int32) (hS : S_X6_cellNamed ht I A J it dyn x1 x2) : fsFn G l mX6_cellNamed 1 0 0 [.inr (.inr (some 5)), .inl x1, .inl x2] (fs_mk ht I A J it dyn) (some (.inl (L_X6_cellNamed_r ht I A J it dyn x1 x2))) (fs_mk ht I A J it dyn) := by
  refine fsMet_of (by decide) (Nat.le_of_ble_eq_true rfl) ?_
  generalize hQ : (fun (r1 : Option fsV) (h1 : fsH) => r1 = (some (.inl (L_X6_cellNamed_r ht I A J it dyn x1 x2))) ∧ h1 = (fs_mk ht I A J it dyn)) = Q
  have hq : Q (some (.inl (L_X6_cellNamed_r ht I A J it dyn x1 x2))) (fs_mk ht I A J it dyn) := by rw [← hQ]; exact ⟨rfl, rfl⟩
  clear hQ
  have hq : Q (some (.inl (L_X7_cellOf_r ht I A J it dyn x1 (if (L_X1_repeats_r ht I A J it dyn x1) = 0 then 0 else x2 : Int32)))) (fs_mk ht I A J it dyn) := hq
  have hS : (S_X1_repeats ht I A J it dyn x1) := hS
  refine (show fsW G l mX6_cellNamed 1 0 0 0 0 Q 0 [(0, .inr (.inr (some 5))), (1, .inl x1), (2, .inl x2)] [] (fs_mk ht I A J it dyn) from ?_)
  refine fs_iload_n dX6_cellNamed_0 rfl rfl ?_
  refine fs_aload_n dX6_cellNamed_1 rfl rfl ?_
  refine fs_getfield (v := .inr (.inr (some 3))) dX6_cellNamed_2 sf_X6_26 rfl rfl ?_
  refine fs_iload_n dX6_cellNamed_5 rfl rfl ?_
  have ho1 := hS
  refine fs_callV1 dX6_cellNamed_6 sv_X6_47 rfl ⟨_, rfl, rfl⟩ (c_X1_repeats G l ht I A J it dyn x1 ho1) rfl rfl (Nat.le_of_ble_eq_true rfl) (Nat.le_of_ble_eq_true rfl) (Nat.le_of_ble_eq_true rfl) (Nat.le_of_ble_eq_true rfl) ?_
  have key_17 : fsW G l mX6_cellNamed 1 0 0 0 0 Q 17 [(0, .inr (.inr (some 5))), (1, .inl x1), (2, .inl x2)] [.inl (if (L_X1_repeats_r ht I A J it dyn x1) = 0 then 0 else x2 : Int32), .inl x1] (fs_mk ht I A J it dyn) := by
    refine fs_callSN1 dX6_cellNamed_17 sv_X6_51 (c_X7_cellOf G l ht I A J it dyn x1 (if (L_X1_repeats_r ht I A J it dyn x1) = 0 then 0 else x2 : Int32)) rfl rfl (Nat.le_of_ble_eq_true rfl) (Nat.le_of_ble_eq_true rfl) (Nat.le_of_ble_eq_true rfl) (Nat.le_of_ble_eq_true rfl) ?_
    have k9 := hq
    exact fs_iret dX6_cellNamed_20 rfl rfl k9
  refine fs_if_eq 16 dX6_cellNamed_9 (by decide) (fun c_9 : (L_X1_repeats_r ht I A J it dyn x1) = 0 => ?_) (fun c_9 : ¬ ((L_X1_repeats_r ht I A J it dyn x1) = 0) => ?_)
  · refine fs_iconst (v := 0) dX6_cellNamed_16 rfl ?_
    have k9 := key_17
    try simp only [if_pos c_9] at k9 ⊢
    exact k9
  · refine fs_iload_n dX6_cellNamed_12 rfl rfl ?_
    refine fs_goto 17 dX6_cellNamed_13 (by decide) ?_
    have k9 := key_17
    try simp only [if_neg c_9] at k9 ⊢
    exact k9
def L_X6_hangsOn_r (ht : Nat) (I : Nat → Int32) (A : Nat → Nat → Int32) (J : Nat → Nat → Int64) (it : Nat → Option Nat) (dyn : fsH) (x1 : Int32) (x2 : Int32) : Int32 := (if (lg_cmp ((J 7 x1.toNatClampNeg) &&& (L_X6_setOf_r ht I A J it dyn x2)) 0) = 0 then 0 else 1 : Int32)
def S_X6_hangsOn (ht : Nat) (I : Nat → Int32) (A : Nat → Nat → Int32) (J : Nat → Nat → Int64) (it : Nat → Option Nat) (dyn : fsH) (x1 : Int32) (x2 : Int32) : Prop := (vp_in x1 64)
set_option maxRecDepth 100000 in
set_option maxHeartbeats 4000000 in
theorem c_X6_hangsOn (G : fsG) (l : Launch) (ht : Nat) (I : Nat → Int32) (A : Nat → Nat → Int32) (J : Nat → Nat → Int64) (it : Nat → Option Nat) (dyn : fsH) (x1 : Int32) (x2 : Int32) (hS : S_X6_hangsOn ht I A J it dyn x1 x2) : fsFn G l mX6_hangsOn 1 0 0 [.inr (.inr (some 5)), .inl x1, .inl x2] (fs_mk ht I A J it dyn) (some (.inl (L_X6_hangsOn_r ht I A J it dyn x1 x2))) (fs_mk ht I A J it dyn) := by
  refine fsMet_of (by decide) (Nat.le_of_ble_eq_true rfl) ?_
  generalize hQ : (fun (r1 : Option fsV) (h1 : fsH) => r1 = (some (.inl (L_X6_hangsOn_r ht I A J it dyn x1 x2))) ∧ h1 = (fs_mk ht I A J it dyn)) = Q
  have hq : Q (some (.inl (L_X6_hangsOn_r ht I A J it dyn x1 x2))) (fs_mk ht I A J it dyn) := by rw [← hQ]; exact ⟨rfl, rfl⟩
  clear hQ
  have hq : Q (some (.inl (if (lg_cmp ((J 7 x1.toNatClampNeg) &&& (L_X6_setOf_r ht I A J it dyn x2)) 0) = 0 then 0 else 1 : Int32))) (fs_mk ht I A J it dyn) := hq
  have hS : (vp_in x1 64) := hS
  refine (show fsW G l mX6_hangsOn 1 0 0 0 0 Q 0 [(0, .inr (.inr (some 5))), (1, .inl x1), (2, .inl x2)] [] (fs_mk ht I A J it dyn) from ?_)
  refine fs_aload_n dX6_hangsOn_0 rfl rfl ?_
  refine fs_getfield (v := .inr (.inr (some 7))) dX6_hangsOn_1 sf_X6_15 rfl rfl ?_
  refine fs_iload_n dX6_hangsOn_4 rfl rfl ?_
  have ho1 := hS
  refine fs_laload dX6_hangsOn_5 rfl ho1 ?_
  refine fs_iload_n dX6_hangsOn_6 rfl rfl ?_
  refine fs_callS1 dX6_hangsOn_7 sv_X6_100 (c_X6_setOf G l ht I A J it dyn x2) rfl rfl (Nat.le_of_ble_eq_true rfl) (Nat.le_of_ble_eq_true rfl) (Nat.le_of_ble_eq_true rfl) (Nat.le_of_ble_eq_true rfl) ?_
  refine fs_land dX6_hangsOn_10 ?_
  refine fs_lconst (v := 0) dX6_hangsOn_11 rfl ?_
  refine fs_lcmp dX6_hangsOn_12 ?_
  have key_21 : fsW G l mX6_hangsOn 1 0 0 0 0 Q 21 [(0, .inr (.inr (some 5))), (1, .inl x1), (2, .inl x2)] [.inl (if (lg_cmp ((J 7 x1.toNatClampNeg) &&& (L_X6_setOf_r ht I A J it dyn x2)) 0) = 0 then 0 else 1 : Int32)] (fs_mk ht I A J it dyn) := by
    have k9 := hq
    exact fs_iret dX6_hangsOn_21 rfl (by (repeat' split) <;> first | rfl) k9
  refine fs_if_eq 20 dX6_hangsOn_13 (by decide) (fun c_13 : (lg_cmp ((J 7 x1.toNatClampNeg) &&& (L_X6_setOf_r ht I A J it dyn x2)) 0) = 0 => ?_) (fun c_13 : ¬ ((lg_cmp ((J 7 x1.toNatClampNeg) &&& (L_X6_setOf_r ht I A J it dyn x2)) 0) = 0) => ?_)
  · refine fs_iconst (v := 0) dX6_hangsOn_20 rfl ?_
    have k9 := key_21
    try simp only [if_pos c_13] at k9 ⊢
    exact k9
  · refine fs_iconst (v := 1) dX6_hangsOn_16 rfl ?_
    refine fs_goto 21 dX6_hangsOn_17 (by decide) ?_
    have k9 := key_21
    try simp only [if_neg c_13] at k9 ⊢
    exact k9
theorem nb_X6_hangsOn (ht : Nat) (I : Nat → Int32) (A : Nat → Nat → Int32) (J : Nat → Nat → Int64) (it : Nat → Option Nat) (dyn : fsH) (x1 : Int32) (x2 : Int32) : narrow .boolean (.int (L_X6_hangsOn_r ht I A J it dyn x1 x2)) = .int (L_X6_hangsOn_r ht I A J it dyn x1 x2) := by
  unfold L_X6_hangsOn_r
  exact (by (repeat' split) <;> first | rfl)
def L_X6_append_I (ht : Nat) (I : Nat → Int32) (A : Nat → Nat → Int32) (J : Nat → Nat → Int64) (it : Nat → Option Nat) (dyn : fsH) (x1 : Int32) : Nat → Int32 := (if 64 ≤ (I 6) then I else (upd I 6 ((I 6) + 1)))
def L_X6_append_A (ht : Nat) (I : Nat → Int32) (A : Nat → Nat → Int32) (J : Nat → Nat → Int64) (it : Nat → Option Nat) (dyn : fsH) (x1 : Int32) : Nat → Nat → Int32 := (if 64 ≤ (I 6) then A else (va_up A 8 (upd (A 8) (I 6).toNatClampNeg x1)))
def S_X6_append (ht : Nat) (I : Nat → Int32) (A : Nat → Nat → Int32) (J : Nat → Nat → Int64) (it : Nat → Option Nat) (dyn : fsH) (x1 : Int32) : Prop := (¬ (64 ≤ (I 6)) → (vp_in (I 6) 64))
set_option maxRecDepth 100000 in
set_option maxHeartbeats 4000000 in
theorem c_X6_append (G : fsG) (l : Launch) (ht : Nat) (I : Nat → Int32) (A : Nat → Nat → Int32) (J : Nat → Nat → Int64) (it : Nat → Option Nat) (dyn : fsH) (x1 : Int32) (hS : S_X6_append ht I A J it dyn x1) : fsFn G l mX6_append 0 0 0 [.inr (.inr (some 5)), .inl x1] (fs_mk ht I A J it dyn) none (fs_mk ht (L_X6_append_I ht I A J it dyn x1) (L_X6_append_A ht I A J it dyn x1) J it dyn) := by
  refine fsMet_of (by decide) (Nat.le_of_ble_eq_true rfl) ?_
  generalize hQ : (fun (r1 : Option fsV) (h1 : fsH) => r1 = none ∧ h1 = (fs_mk ht (L_X6_append_I ht I A J it dyn x1) (L_X6_append_A ht I A J it dyn x1) J it dyn)) = Q
  have hq : Q none (fs_mk ht (L_X6_append_I ht I A J it dyn x1) (L_X6_append_A ht I A J it dyn x1) J it dyn) := by rw [← hQ]; exact ⟨rfl, rfl⟩
  clear hQ
  have hq : Q none (fs_mk ht (if 64 ≤ (I 6) then I else (upd I 6 ((I 6) + 1))) (if 64 ≤ (I 6) then A else (va_up A 8 (upd (A 8) (I 6).toNatClampNeg x1))) J it dyn) := hq
  have hS : (¬ (64 ≤ (I 6)) → (vp_in (I 6) 64)) := hS
  refine (show fsW G l mX6_append 0 0 0 0 0 Q 0 [(0, .inr (.inr (some 5))), (1, .inl x1)] [] (fs_mk ht I A J it dyn) from ?_)
  refine fs_aload_n dX6_append_0 rfl rfl ?_
  refine fs_getfield (v := .inl (I 6)) dX6_append_1 sf_X6_22 rfl rfl ?_
  refine fs_bipush (v := 64) dX6_append_4 rfl ?_
  have hR_6 := hS
  have key_29 : fsW G l mX6_append 0 0 0 0 0 Q 29 [(0, .inr (.inr (some 5))), (1, .inl x1)] [] (fs_mk ht (if 64 ≤ (I 6) then I else (upd I 6 ((I 6) + 1))) (if 64 ≤ (I 6) then A else (va_up A 8 (upd (A 8) (I 6).toNatClampNeg x1))) J it dyn) := by
    have k9 := hq
    exact fs_ret dX6_append_29 rfl k9
  refine fs_icmp_ge 29 dX6_append_6 (by decide) (fun c_6 : 64 ≤ (I 6) => ?_) (fun c_6 : ¬ (64 ≤ (I 6)) => ?_)
  · have k9 := key_29
    try simp only [if_pos c_6] at k9 ⊢
    exact k9
  · have hS := hR_6 c_6
    refine fs_aload_n dX6_append_9 rfl rfl ?_
    refine fs_getfield (v := .inr (.inr (some 8))) dX6_append_10 sf_X6_18 rfl rfl ?_
    refine fs_aload_n dX6_append_13 rfl rfl ?_
    refine fs_getfield (v := .inl (I 6)) dX6_append_14 sf_X6_22 rfl rfl ?_
    refine fs_iload_n dX6_append_17 rfl rfl ?_
    have ho1 := hS
    refine fss_8 dX6_append_18 ho1 ?_
    refine fs_aload_n dX6_append_19 rfl rfl ?_
    refine fs_dup dX6_append_20 rfl ?_
    refine fs_getfield (v := .inl (I 6)) dX6_append_21 sf_X6_22 rfl rfl ?_
    refine fs_iconst (v := 1) dX6_append_24 rfl ?_
    refine fs_iadd dX6_append_25 ?_
    refine fsp_6 dX6_append_26 sp_X6_22 ?_
    have k9 := key_29
    try simp only [if_neg c_6] at k9 ⊢
    exact k9
def Lb_X6_followHangs_10_J : Nat → Nat → (Nat → Int32) → (Nat → Nat → Int32) → (Nat → Nat → Int64) → (Nat → Option Nat) → fsH → Int32 → Int32 → (Nat → Nat → Int64)
  | 0, ht, I, A, J, it, dyn, v1, v2 => J
  | n + 1, ht, I, A, J, it, dyn, v1, v2 => (if 64 ≤ v2 then J else (if (lg_cmp (J 7 v1.toNatClampNeg) 0) = 0 then J else (Lb_X6_followHangs_10_J n ht I A (if (L_X6_hangsOn_r ht I A J it dyn v2 v1) = 0 then J else (va_up J 7 (vp_updL (J 7) v2.toNatClampNeg ((J 7 v2.toNatClampNeg) ||| (J 7 v1.toNatClampNeg))))) it dyn v1 (v2 + 1))))
def Lb_X6_followHangs_10_v2 : Nat → Nat → (Nat → Int32) → (Nat → Nat → Int32) → (Nat → Nat → Int64) → (Nat → Option Nat) → fsH → Int32 → Int32 → Int32
  | 0, ht, I, A, J, it, dyn, v1, v2 => v2
  | n + 1, ht, I, A, J, it, dyn, v1, v2 => (if 64 ≤ v2 then v2 else (if (lg_cmp (J 7 v1.toNatClampNeg) 0) = 0 then v2 else (Lb_X6_followHangs_10_v2 n ht I A (if (L_X6_hangsOn_r ht I A J it dyn v2 v1) = 0 then J else (va_up J 7 (vp_updL (J 7) v2.toNatClampNeg ((J 7 v2.toNatClampNeg) ||| (J 7 v1.toNatClampNeg))))) it dyn v1 (v2 + 1))))
def S_Lb_X6_followHangs_10 : Nat → Nat → (Nat → Int32) → (Nat → Nat → Int32) → (Nat → Nat → Int64) → (Nat → Option Nat) → fsH → Int32 → Int32 → Prop
  | 0, _, _, _, _, _, _, _, _ => False
  | n + 1, ht, I, A, J, it, dyn, v1, v2 => (¬ (64 ≤ v2) → ((vp_in v1 64) ∧ (¬ ((lg_cmp (J 7 v1.toNatClampNeg) 0) = 0) → ((S_X6_hangsOn ht I A J it dyn v2 v1) ∧ ((¬ ((L_X6_hangsOn_r ht I A J it dyn v2 v1) = 0) → ((vp_in v2 64) ∧ ((vp_in v1 64) ∧ (vp_in v2 64)))) ∧ (S_Lb_X6_followHangs_10 n ht I A (if (L_X6_hangsOn_r ht I A J it dyn v2 v1) = 0 then J else (va_up J 7 (vp_updL (J 7) v2.toNatClampNeg ((J 7 v2.toNatClampNeg) ||| (J 7 v1.toNatClampNeg))))) it dyn v1 (v2 + 1)))))))
set_option maxRecDepth 100000 in
set_option maxHeartbeats 4000000 in
theorem lp_Lb_X6_followHangs_10 (G : fsG) (l : Launch) (Q : Option fsV → fsH → Prop) : ∀ (n : Nat) (ht : Nat) (I : Nat → Int32) (A : Nat → Nat → Int32) (J : Nat → Nat → Int64) (it : Nat → Option Nat) (dyn : fsH) (v1 : Int32) (v2 : Int32), S_Lb_X6_followHangs_10 n ht I A J it dyn v1 v2 → (fsW G l mX6_followHangs 2 0 0 0 0 Q 57 [(0, .inr (.inr (some 5))), (1, .inl v1), (2, .inl (Lb_X6_followHangs_10_v2 n ht I A J it dyn v1 v2))] [] (fs_mk ht I A (Lb_X6_followHangs_10_J n ht I A J it dyn v1 v2) it dyn)) → fsW G l mX6_followHangs 2 0 0 0 0 Q 10 [(0, .inr (.inr (some 5))), (1, .inl v1), (2, .inl v2)] [] (fs_mk ht I A J it dyn) := by
  intro n
  induction n with
  | zero =>
    intro ht I A J it dyn v1 v2 hS
    exact hS.elim
  | succ n ih =>
    intro ht I A J it dyn v1 v2 hS hq
    have hS : (¬ (64 ≤ v2) → ((vp_in v1 64) ∧ (¬ ((lg_cmp (J 7 v1.toNatClampNeg) 0) = 0) → ((S_X6_hangsOn ht I A J it dyn v2 v1) ∧ ((¬ ((L_X6_hangsOn_r ht I A J it dyn v2 v1) = 0) → ((vp_in v2 64) ∧ ((vp_in v1 64) ∧ (vp_in v2 64)))) ∧ (S_Lb_X6_followHangs_10 n ht I A (if (L_X6_hangsOn_r ht I A J it dyn v2 v1) = 0 then J else (va_up J 7 (vp_updL (J 7) v2.toNatClampNeg ((J 7 v2.toNatClampNeg) ||| (J 7 v1.toNatClampNeg))))) it dyn v1 (v2 + 1))))))) := hS
    have hq : fsW G l mX6_followHangs 2 0 0 0 0 Q 57 [(0, .inr (.inr (some 5))), (1, .inl v1), (2, .inl (if 64 ≤ v2 then v2 else (if (lg_cmp (J 7 v1.toNatClampNeg) 0) = 0 then v2 else (Lb_X6_followHangs_10_v2 n ht I A (if (L_X6_hangsOn_r ht I A J it dyn v2 v1) = 0 then J else (va_up J 7 (vp_updL (J 7) v2.toNatClampNeg ((J 7 v2.toNatClampNeg) ||| (J 7 v1.toNatClampNeg))))) it dyn v1 (v2 + 1)))))] [] (fs_mk ht I A (if 64 ≤ v2 then J else (if (lg_cmp (J 7 v1.toNatClampNeg) 0) = 0 then J else (Lb_X6_followHangs_10_J n ht I A (if (L_X6_hangsOn_r ht I A J it dyn v2 v1) = 0 then J else (va_up J 7 (vp_updL (J 7) v2.toNatClampNeg ((J 7 v2.toNatClampNeg) ||| (J 7 v1.toNatClampNeg))))) it dyn v1 (v2 + 1)))) it dyn) := hq
    refine fs_iload_n dX6_followHangs_10 rfl rfl ?_
    refine fs_bipush (v := 64) dX6_followHangs_11 rfl ?_
    refine fs_icmp_ge 57 dX6_followHangs_13 (by decide) (fun c_13 : 64 ≤ v2 => ?_) (fun c_13 : ¬ (64 ≤ v2) => ?_)
    · have k9 := hq
      try simp only [if_pos c_13] at k9 ⊢
      exact k9
    · have hS := hS c_13
      refine fs_aload_n dX6_followHangs_16 rfl rfl ?_
      refine fs_getfield (v := .inr (.inr (some 7))) dX6_followHangs_17 sf_X6_15 rfl rfl ?_
      refine fs_iload_n dX6_followHangs_20 rfl rfl ?_
      obtain ⟨ho1, hS⟩ := hS
      refine fs_laload dX6_followHangs_21 rfl ho1 ?_
      refine fs_lconst (v := 0) dX6_followHangs_22 rfl ?_
      refine fs_lcmp dX6_followHangs_23 ?_
      refine fs_if_eq 57 dX6_followHangs_24 (by decide) (fun c_24 : (lg_cmp (J 7 v1.toNatClampNeg) 0) = 0 => ?_) (fun c_24 : ¬ ((lg_cmp (J 7 v1.toNatClampNeg) 0) = 0) => ?_)
      · have k9 := hq
        try simp only [if_neg c_13, if_pos c_24] at k9 ⊢
        exact k9
      · have hS := hS c_24
        refine fs_aload_n dX6_followHangs_27 rfl rfl ?_
        refine fs_iload_n dX6_followHangs_28 rfl rfl ?_
        refine fs_iload_n dX6_followHangs_29 rfl rfl ?_
        obtain ⟨ho1, hS⟩ := hS
        refine fs_callV1 dX6_followHangs_30 sv_X6_76 rfl ⟨_, rfl, rfl⟩ (c_X6_hangsOn G l ht I A J it dyn v2 v1 ho1) rfl rfl (Nat.le_of_ble_eq_true rfl) (Nat.le_of_ble_eq_true rfl) (Nat.le_of_ble_eq_true rfl) (Nat.le_of_ble_eq_true rfl) ?_
        obtain ⟨hR_33, hS⟩ := hS
        have key_51 : fsW G l mX6_followHangs 2 0 0 0 0 Q 51 [(0, .inr (.inr (some 5))), (1, .inl v1), (2, .inl v2)] [] (fs_mk ht I A (if (L_X6_hangsOn_r ht I A J it dyn v2 v1) = 0 then J else (va_up J 7 (vp_updL (J 7) v2.toNatClampNeg ((J 7 v2.toNatClampNeg) ||| (J 7 v1.toNatClampNeg))))) it dyn) := by
          refine fs_iinc (v := (v2 + 1)) (L' := [(2, .inl (v2 + 1)), (0, .inr (.inr (some 5))), (1, .inl v1)]) dX6_followHangs_51 rfl rfl (by decide) rfl ?_
          refine fs_goto 10 dX6_followHangs_54 (by decide) ?_
          refine fs_reL [1, 2, 0] rfl ?_
          have k9 := hq
          try simp only [if_neg c_13, if_neg c_24] at hS k9 ⊢
          exact ih _ _ _ _ _ _ _ _ hS k9
        refine fs_if_eq 51 dX6_followHangs_33 (by decide) (fun c_33 : (L_X6_hangsOn_r ht I A J it dyn v2 v1) = 0 => ?_) (fun c_33 : ¬ ((L_X6_hangsOn_r ht I A J it dyn v2 v1) = 0) => ?_)
        · have k9 := key_51
          try simp only [if_neg c_13, if_neg c_24, if_pos c_33] at k9 ⊢
          exact k9
        · have hS := hR_33 c_33
          refine fs_aload_n dX6_followHangs_36 rfl rfl ?_
          refine fs_getfield (v := .inr (.inr (some 7))) dX6_followHangs_37 sf_X6_15 rfl rfl ?_
          refine fs_iload_n dX6_followHangs_40 rfl rfl ?_
          refine fs_dup2 dX6_followHangs_41 rfl rfl ?_
          obtain ⟨ho1, hS⟩ := hS
          refine fs_laload dX6_followHangs_42 rfl ho1 ?_
          refine fs_aload_n dX6_followHangs_43 rfl rfl ?_
          refine fs_getfield (v := .inr (.inr (some 7))) dX6_followHangs_44 sf_X6_15 rfl rfl ?_
          refine fs_iload_n dX6_followHangs_47 rfl rfl ?_
          obtain ⟨ho1, hS⟩ := hS
          refine fs_laload dX6_followHangs_48 rfl ho1 ?_
          refine fs_lor dX6_followHangs_49 ?_
          have ho1 := hS
          refine fss_7 dX6_followHangs_50 ho1 ?_
          have k9 := key_51
          try simp only [if_neg c_13, if_neg c_24, if_neg c_33] at k9 ⊢
          exact k9
def Lb_X6_followHangs_2_J : Nat → Nat → (Nat → Int32) → (Nat → Nat → Int32) → (Nat → Nat → Int64) → (Nat → Option Nat) → fsH → Int32 → (Nat → Nat → Int64)
  | 0, ht, I, A, J, it, dyn, v1 => J
  | n + 1, ht, I, A, J, it, dyn, v1 => (if 64 ≤ v1 then J else (Lb_X6_followHangs_2_J n ht I A (Lb_X6_followHangs_10_J 70 ht I A J it dyn v1 0) it dyn (v1 + 1)))
def Lb_X6_followHangs_2_v1 : Nat → Nat → (Nat → Int32) → (Nat → Nat → Int32) → (Nat → Nat → Int64) → (Nat → Option Nat) → fsH → Int32 → Int32
  | 0, ht, I, A, J, it, dyn, v1 => v1
  | n + 1, ht, I, A, J, it, dyn, v1 => (if 64 ≤ v1 then v1 else (Lb_X6_followHangs_2_v1 n ht I A (Lb_X6_followHangs_10_J 70 ht I A J it dyn v1 0) it dyn (v1 + 1)))
def S_Lb_X6_followHangs_2 : Nat → Nat → (Nat → Int32) → (Nat → Nat → Int32) → (Nat → Nat → Int64) → (Nat → Option Nat) → fsH → Int32 → Prop
  | 0, _, _, _, _, _, _, _ => False
  | n + 1, ht, I, A, J, it, dyn, v1 => (¬ (64 ≤ v1) → ((S_Lb_X6_followHangs_10 70 ht I A J it dyn v1 0) ∧ (S_Lb_X6_followHangs_2 n ht I A (Lb_X6_followHangs_10_J 70 ht I A J it dyn v1 0) it dyn (v1 + 1))))
set_option maxRecDepth 100000 in
set_option maxHeartbeats 4000000 in
theorem lp_Lb_X6_followHangs_2 (G : fsG) (l : Launch) (Q : Option fsV → fsH → Prop) : ∀ (n : Nat) (ht : Nat) (I : Nat → Int32) (A : Nat → Nat → Int32) (J : Nat → Nat → Int64) (it : Nat → Option Nat) (dyn : fsH) (v1 : Int32), S_Lb_X6_followHangs_2 n ht I A J it dyn v1 → (fsW G l mX6_followHangs 2 0 0 0 0 Q 63 [(0, .inr (.inr (some 5))), (1, .inl (Lb_X6_followHangs_2_v1 n ht I A J it dyn v1))] [] (fs_mk ht I A (Lb_X6_followHangs_2_J n ht I A J it dyn v1) it dyn)) → fsW G l mX6_followHangs 2 0 0 0 0 Q 2 [(0, .inr (.inr (some 5))), (1, .inl v1)] [] (fs_mk ht I A J it dyn) := by
  intro n
  induction n with
  | zero =>
    intro ht I A J it dyn v1 hS
    exact hS.elim
  | succ n ih =>
    intro ht I A J it dyn v1 hS hq
    have hS : (¬ (64 ≤ v1) → ((S_Lb_X6_followHangs_10 70 ht I A J it dyn v1 0) ∧ (S_Lb_X6_followHangs_2 n ht I A (Lb_X6_followHangs_10_J 70 ht I A J it dyn v1 0) it dyn (v1 + 1)))) := hS
    have hq : fsW G l mX6_followHangs 2 0 0 0 0 Q 63 [(0, .inr (.inr (some 5))), (1, .inl (if 64 ≤ v1 then v1 else (Lb_X6_followHangs_2_v1 n ht I A (Lb_X6_followHangs_10_J 70 ht I A J it dyn v1 0) it dyn (v1 + 1))))] [] (fs_mk ht I A (if 64 ≤ v1 then J else (Lb_X6_followHangs_2_J n ht I A (Lb_X6_followHangs_10_J 70 ht I A J it dyn v1 0) it dyn (v1 + 1))) it dyn) := hq
    refine fs_iload_n dX6_followHangs_2 rfl rfl ?_
    refine fs_bipush (v := 64) dX6_followHangs_3 rfl ?_
    refine fs_icmp_ge 63 dX6_followHangs_5 (by decide) (fun c_5 : 64 ≤ v1 => ?_) (fun c_5 : ¬ (64 ≤ v1) => ?_)
    · have k9 := hq
      try simp only [if_pos c_5] at k9 ⊢
      exact k9
    · have hS := hS c_5
      refine fs_iconst (v := 0) dX6_followHangs_8 rfl ?_
      refine fs_istore_n (L' := [(2, .inl 0), (0, .inr (.inr (some 5))), (1, .inl v1)]) dX6_followHangs_9 rfl (by decide) rfl ?_
      refine fs_reL [1, 2, 0] rfl ?_
      obtain ⟨ho1, hS⟩ := hS
      refine lp_Lb_X6_followHangs_10 G l Q 70 ht I A J it dyn v1 0 ho1 ?_
      refine fs_iinc (v := (v1 + 1)) (L' := [(1, .inl (v1 + 1)), (0, .inr (.inr (some 5))), (2, .inl (Lb_X6_followHangs_10_v2 70 ht I A J it dyn v1 0))]) dX6_followHangs_57 rfl rfl (by decide) rfl ?_
      refine fs_goto 2 dX6_followHangs_60 (by decide) ?_
      refine fs_reL [1, 0] rfl ?_
      have k9 := hq
      try simp only [if_neg c_5] at hS k9 ⊢
      exact ih _ _ _ _ _ _ _ hS k9
def L_X6_followHangs_J (ht : Nat) (I : Nat → Int32) (A : Nat → Nat → Int32) (J : Nat → Nat → Int64) (it : Nat → Option Nat) (dyn : fsH)  : Nat → Nat → Int64 := (Lb_X6_followHangs_2_J 70 ht I A J it dyn 0)
def S_X6_followHangs (ht : Nat) (I : Nat → Int32) (A : Nat → Nat → Int32) (J : Nat → Nat → Int64) (it : Nat → Option Nat) (dyn : fsH)  : Prop := (S_Lb_X6_followHangs_2 70 ht I A J it dyn 0)
set_option maxRecDepth 100000 in
set_option maxHeartbeats 4000000 in
theorem c_X6_followHangs (G : fsG) (l : Launch) (ht : Nat) (I : Nat → Int32) (A : Nat → Nat → Int32) (J : Nat → Nat → Int64) (it : Nat → Option Nat) (dyn : fsH)  (hS : S_X6_followHangs ht I A J it dyn ) : fsFn G l mX6_followHangs 2 0 0 [.inr (.inr (some 5))] (fs_mk ht I A J it dyn) none (fs_mk ht I A (L_X6_followHangs_J ht I A J it dyn ) it dyn) := by
  refine fsMet_of (by decide) (Nat.le_of_ble_eq_true rfl) ?_
  generalize hQ : (fun (r1 : Option fsV) (h1 : fsH) => r1 = none ∧ h1 = (fs_mk ht I A (L_X6_followHangs_J ht I A J it dyn ) it dyn)) = Q
  have hq : Q none (fs_mk ht I A (L_X6_followHangs_J ht I A J it dyn ) it dyn) := by rw [← hQ]; exact ⟨rfl, rfl⟩
  clear hQ
  have hq : Q none (fs_mk ht I A (Lb_X6_followHangs_2_J 70 ht I A J it dyn 0) it dyn) := hq
  have hS : (S_Lb_X6_followHangs_2 70 ht I A J it dyn 0) := hS
  refine (show fsW G l mX6_followHangs 2 0 0 0 0 Q 0 [(0, .inr (.inr (some 5)))] [] (fs_mk ht I A J it dyn) from ?_)
  refine fs_iconst (v := 0) dX6_followHangs_0 rfl ?_
  refine fs_istore_n (L' := [(1, .inl 0), (0, .inr (.inr (some 5)))]) dX6_followHangs_1 rfl (by decide) rfl ?_
  refine fs_reL [1, 0] rfl ?_
  have ho1 := hS
  refine lp_Lb_X6_followHangs_2 G l Q 70 ht I A J it dyn 0 ho1 ?_
  have k9 := hq
  exact fs_ret dX6_followHangs_63 rfl k9
def Lb_X6_putInOrder_10_I : Nat → Nat → (Nat → Int32) → (Nat → Nat → Int32) → (Nat → Nat → Int64) → (Nat → Option Nat) → fsH → Int64 → Int64 → Int32 → (Nat → Int32)
  | 0, ht, I, A, J, it, dyn, v1, v3, v5 => I
  | n + 1, ht, I, A, J, it, dyn, v1, v3, v5 => (if 64 ≤ v5 then I else (Lb_X6_putInOrder_10_I n ht (if (L_X6_hangsOn_r ht I A J it dyn v5 v5) = 0 then I else (L_X6_append_I ht I A J it dyn v5)) (if (L_X6_hangsOn_r ht I A J it dyn v5 v5) = 0 then A else (L_X6_append_A ht I A J it dyn v5)) J it dyn v1 (if (L_X6_hangsOn_r ht I A J it dyn v5 v5) = 0 then v3 else (v3 &&& ((L_X6_setOf_r ht (L_X6_append_I ht I A J it dyn v5) (L_X6_append_A ht I A J it dyn v5) J it dyn v5) ^^^ (-1))) : Int64) (v5 + 1)))
def Lb_X6_putInOrder_10_A : Nat → Nat → (Nat → Int32) → (Nat → Nat → Int32) → (Nat → Nat → Int64) → (Nat → Option Nat) → fsH → Int64 → Int64 → Int32 → (Nat → Nat → Int32)
  | 0, ht, I, A, J, it, dyn, v1, v3, v5 => A
  | n + 1, ht, I, A, J, it, dyn, v1, v3, v5 => (if 64 ≤ v5 then A else (Lb_X6_putInOrder_10_A n ht (if (L_X6_hangsOn_r ht I A J it dyn v5 v5) = 0 then I else (L_X6_append_I ht I A J it dyn v5)) (if (L_X6_hangsOn_r ht I A J it dyn v5 v5) = 0 then A else (L_X6_append_A ht I A J it dyn v5)) J it dyn v1 (if (L_X6_hangsOn_r ht I A J it dyn v5 v5) = 0 then v3 else (v3 &&& ((L_X6_setOf_r ht (L_X6_append_I ht I A J it dyn v5) (L_X6_append_A ht I A J it dyn v5) J it dyn v5) ^^^ (-1))) : Int64) (v5 + 1)))
def Lb_X6_putInOrder_10_v3 : Nat → Nat → (Nat → Int32) → (Nat → Nat → Int32) → (Nat → Nat → Int64) → (Nat → Option Nat) → fsH → Int64 → Int64 → Int32 → Int64
  | 0, ht, I, A, J, it, dyn, v1, v3, v5 => v3
  | n + 1, ht, I, A, J, it, dyn, v1, v3, v5 => (if 64 ≤ v5 then v3 else (Lb_X6_putInOrder_10_v3 n ht (if (L_X6_hangsOn_r ht I A J it dyn v5 v5) = 0 then I else (L_X6_append_I ht I A J it dyn v5)) (if (L_X6_hangsOn_r ht I A J it dyn v5 v5) = 0 then A else (L_X6_append_A ht I A J it dyn v5)) J it dyn v1 (if (L_X6_hangsOn_r ht I A J it dyn v5 v5) = 0 then v3 else (v3 &&& ((L_X6_setOf_r ht (L_X6_append_I ht I A J it dyn v5) (L_X6_append_A ht I A J it dyn v5) J it dyn v5) ^^^ (-1))) : Int64) (v5 + 1)))
def Lb_X6_putInOrder_10_v5 : Nat → Nat → (Nat → Int32) → (Nat → Nat → Int32) → (Nat → Nat → Int64) → (Nat → Option Nat) → fsH → Int64 → Int64 → Int32 → Int32
  | 0, ht, I, A, J, it, dyn, v1, v3, v5 => v5
  | n + 1, ht, I, A, J, it, dyn, v1, v3, v5 => (if 64 ≤ v5 then v5 else (Lb_X6_putInOrder_10_v5 n ht (if (L_X6_hangsOn_r ht I A J it dyn v5 v5) = 0 then I else (L_X6_append_I ht I A J it dyn v5)) (if (L_X6_hangsOn_r ht I A J it dyn v5 v5) = 0 then A else (L_X6_append_A ht I A J it dyn v5)) J it dyn v1 (if (L_X6_hangsOn_r ht I A J it dyn v5 v5) = 0 then v3 else (v3 &&& ((L_X6_setOf_r ht (L_X6_append_I ht I A J it dyn v5) (L_X6_append_A ht I A J it dyn v5) J it dyn v5) ^^^ (-1))) : Int64) (v5 + 1)))
def S_Lb_X6_putInOrder_10 : Nat → Nat → (Nat → Int32) → (Nat → Nat → Int32) → (Nat → Nat → Int64) → (Nat → Option Nat) → fsH → Int64 → Int64 → Int32 → Prop
  | 0, _, _, _, _, _, _, _, _, _ => False
  | n + 1, ht, I, A, J, it, dyn, v1, v3, v5 => (¬ (64 ≤ v5) → ((S_X6_hangsOn ht I A J it dyn v5 v5) ∧ ((¬ ((L_X6_hangsOn_r ht I A J it dyn v5 v5) = 0) → (S_X6_append ht I A J it dyn v5)) ∧ (S_Lb_X6_putInOrder_10 n ht (if (L_X6_hangsOn_r ht I A J it dyn v5 v5) = 0 then I else (L_X6_append_I ht I A J it dyn v5)) (if (L_X6_hangsOn_r ht I A J it dyn v5 v5) = 0 then A else (L_X6_append_A ht I A J it dyn v5)) J it dyn v1 (if (L_X6_hangsOn_r ht I A J it dyn v5 v5) = 0 then v3 else (v3 &&& ((L_X6_setOf_r ht (L_X6_append_I ht I A J it dyn v5) (L_X6_append_A ht I A J it dyn v5) J it dyn v5) ^^^ (-1))) : Int64) (v5 + 1)))))
set_option maxRecDepth 100000 in
set_option maxHeartbeats 4000000 in
theorem lp_Lb_X6_putInOrder_10 (G : fsG) (l : Launch) (Q : Option fsV → fsH → Prop) : ∀ (n : Nat) (ht : Nat) (I : Nat → Int32) (A : Nat → Nat → Int32) (J : Nat → Nat → Int64) (it : Nat → Option Nat) (dyn : fsH) (v1 : Int64) (v3 : Int64) (v5 : Int32), S_Lb_X6_putInOrder_10 n ht I A J it dyn v1 v3 v5 → (fsW G l mX6_putInOrder 2 0 0 0 0 Q 52 [(0, .inr (.inr (some 5))), (1, .inr (.inl v1)), (3, .inr (.inl (Lb_X6_putInOrder_10_v3 n ht I A J it dyn v1 v3 v5))), (5, .inl (Lb_X6_putInOrder_10_v5 n ht I A J it dyn v1 v3 v5))] [] (fs_mk ht (Lb_X6_putInOrder_10_I n ht I A J it dyn v1 v3 v5) (Lb_X6_putInOrder_10_A n ht I A J it dyn v1 v3 v5) J it dyn)) → fsW G l mX6_putInOrder 2 0 0 0 0 Q 10 [(0, .inr (.inr (some 5))), (1, .inr (.inl v1)), (3, .inr (.inl v3)), (5, .inl v5)] [] (fs_mk ht I A J it dyn) := by
  intro n
  induction n with
  | zero =>
    intro ht I A J it dyn v1 v3 v5 hS
    exact hS.elim
  | succ n ih =>
    intro ht I A J it dyn v1 v3 v5 hS hq
    have hS : (¬ (64 ≤ v5) → ((S_X6_hangsOn ht I A J it dyn v5 v5) ∧ ((¬ ((L_X6_hangsOn_r ht I A J it dyn v5 v5) = 0) → (S_X6_append ht I A J it dyn v5)) ∧ (S_Lb_X6_putInOrder_10 n ht (if (L_X6_hangsOn_r ht I A J it dyn v5 v5) = 0 then I else (L_X6_append_I ht I A J it dyn v5)) (if (L_X6_hangsOn_r ht I A J it dyn v5 v5) = 0 then A else (L_X6_append_A ht I A J it dyn v5)) J it dyn v1 (if (L_X6_hangsOn_r ht I A J it dyn v5 v5) = 0 then v3 else (v3 &&& ((L_X6_setOf_r ht (L_X6_append_I ht I A J it dyn v5) (L_X6_append_A ht I A J it dyn v5) J it dyn v5) ^^^ (-1))) : Int64) (v5 + 1))))) := hS
    have hq : fsW G l mX6_putInOrder 2 0 0 0 0 Q 52 [(0, .inr (.inr (some 5))), (1, .inr (.inl v1)), (3, .inr (.inl (if 64 ≤ v5 then v3 else (Lb_X6_putInOrder_10_v3 n ht (if (L_X6_hangsOn_r ht I A J it dyn v5 v5) = 0 then I else (L_X6_append_I ht I A J it dyn v5)) (if (L_X6_hangsOn_r ht I A J it dyn v5 v5) = 0 then A else (L_X6_append_A ht I A J it dyn v5)) J it dyn v1 (if (L_X6_hangsOn_r ht I A J it dyn v5 v5) = 0 then v3 else (v3 &&& ((L_X6_setOf_r ht (L_X6_append_I ht I A J it dyn v5) (L_X6_append_A ht I A J it dyn v5) J it dyn v5) ^^^ (-1))) : Int64) (v5 + 1))))), (5, .inl (if 64 ≤ v5 then v5 else (Lb_X6_putInOrder_10_v5 n ht (if (L_X6_hangsOn_r ht I A J it dyn v5 v5) = 0 then I else (L_X6_append_I ht I A J it dyn v5)) (if (L_X6_hangsOn_r ht I A J it dyn v5 v5) = 0 then A else (L_X6_append_A ht I A J it dyn v5)) J it dyn v1 (if (L_X6_hangsOn_r ht I A J it dyn v5 v5) = 0 then v3 else (v3 &&& ((L_X6_setOf_r ht (L_X6_append_I ht I A J it dyn v5) (L_X6_append_A ht I A J it dyn v5) J it dyn v5) ^^^ (-1))) : Int64) (v5 + 1))))] [] (fs_mk ht (if 64 ≤ v5 then I else (Lb_X6_putInOrder_10_I n ht (if (L_X6_hangsOn_r ht I A J it dyn v5 v5) = 0 then I else (L_X6_append_I ht I A J it dyn v5)) (if (L_X6_hangsOn_r ht I A J it dyn v5 v5) = 0 then A else (L_X6_append_A ht I A J it dyn v5)) J it dyn v1 (if (L_X6_hangsOn_r ht I A J it dyn v5 v5) = 0 then v3 else (v3 &&& ((L_X6_setOf_r ht (L_X6_append_I ht I A J it dyn v5) (L_X6_append_A ht I A J it dyn v5) J it dyn v5) ^^^ (-1))) : Int64) (v5 + 1))) (if 64 ≤ v5 then A else (Lb_X6_putInOrder_10_A n ht (if (L_X6_hangsOn_r ht I A J it dyn v5 v5) = 0 then I else (L_X6_append_I ht I A J it dyn v5)) (if (L_X6_hangsOn_r ht I A J it dyn v5 v5) = 0 then A else (L_X6_append_A ht I A J it dyn v5)) J it dyn v1 (if (L_X6_hangsOn_r ht I A J it dyn v5 v5) = 0 then v3 else (v3 &&& ((L_X6_setOf_r ht (L_X6_append_I ht I A J it dyn v5) (L_X6_append_A ht I A J it dyn v5) J it dyn v5) ^^^ (-1))) : Int64) (v5 + 1))) J it dyn) := hq
    refine fs_iload dX6_putInOrder_10 rfl ?_
    refine fs_bipush (v := 64) dX6_putInOrder_12 rfl ?_
    refine fs_icmp_ge 52 dX6_putInOrder_14 (by decide) (fun c_14 : 64 ≤ v5 => ?_) (fun c_14 : ¬ (64 ≤ v5) => ?_)
    · have k9 := hq
      try simp only [if_pos c_14] at k9 ⊢
      exact k9
    · have hS := hS c_14
      refine fs_aload_n dX6_putInOrder_17 rfl rfl ?_
      refine fs_iload dX6_putInOrder_18 rfl ?_
      refine fs_iload dX6_putInOrder_20 rfl ?_
      obtain ⟨ho1, hS⟩ := hS
      refine fs_callV1 dX6_putInOrder_22 sv_X6_76 rfl ⟨_, rfl, rfl⟩ (c_X6_hangsOn G l ht I A J it dyn v5 v5 ho1) rfl rfl (Nat.le_of_ble_eq_true rfl) (Nat.le_of_ble_eq_true rfl) (Nat.le_of_ble_eq_true rfl) (Nat.le_of_ble_eq_true rfl) ?_
      obtain ⟨hR_25, hS⟩ := hS
      have key_46 : fsW G l mX6_putInOrder 2 0 0 0 0 Q 46 [(0, .inr (.inr (some 5))), (1, .inr (.inl v1)), (3, .inr (.inl (if (L_X6_hangsOn_r ht I A J it dyn v5 v5) = 0 then v3 else (v3 &&& ((L_X6_setOf_r ht (L_X6_append_I ht I A J it dyn v5) (L_X6_append_A ht I A J it dyn v5) J it dyn v5) ^^^ (-1))) : Int64))), (5, .inl v5)] [] (fs_mk ht (if (L_X6_hangsOn_r ht I A J it dyn v5 v5) = 0 then I else (L_X6_append_I ht I A J it dyn v5)) (if (L_X6_hangsOn_r ht I A J it dyn v5 v5) = 0 then A else (L_X6_append_A ht I A J it dyn v5)) J it dyn) := by
        refine fs_iinc (v := (v5 + 1)) (L' := [(5, .inl (v5 + 1)), (0, .inr (.inr (some 5))), (1, .inr (.inl v1)), (3, .inr (.inl (if (L_X6_hangsOn_r ht I A J it dyn v5 v5) = 0 then v3 else (v3 &&& ((L_X6_setOf_r ht (L_X6_append_I ht I A J it dyn v5) (L_X6_append_A ht I A J it dyn v5) J it dyn v5) ^^^ (-1))) : Int64)))]) dX6_putInOrder_46 rfl rfl (by decide) rfl ?_
        refine fs_goto 10 dX6_putInOrder_49 (by decide) ?_
        refine fs_reL [1, 2, 3, 0] rfl ?_
        have k9 := hq
        try simp only [if_neg c_14] at hS k9 ⊢
        exact ih _ _ _ _ _ _ _ _ _ hS k9
      refine fs_if_eq 46 dX6_putInOrder_25 (by decide) (fun c_25 : (L_X6_hangsOn_r ht I A J it dyn v5 v5) = 0 => ?_) (fun c_25 : ¬ ((L_X6_hangsOn_r ht I A J it dyn v5 v5) = 0) => ?_)
      · have k9 := key_46
        try simp only [if_neg c_14, if_pos c_25] at k9 ⊢
        exact k9
      · have hS := hR_25 c_25
        refine fs_aload_n dX6_putInOrder_28 rfl rfl ?_
        refine fs_iload dX6_putInOrder_29 rfl ?_
        have ho1 := hS
        refine fs_callV0 dX6_putInOrder_31 sv_X6_132 rfl ⟨_, rfl, rfl⟩ (c_X6_append G l ht I A J it dyn v5 ho1) rfl rfl (Nat.le_of_ble_eq_true rfl) (Nat.le_of_ble_eq_true rfl) (Nat.le_of_ble_eq_true rfl) (Nat.le_of_ble_eq_true rfl) ?_
        refine fs_lload_n dX6_putInOrder_34 rfl rfl ?_
        refine fs_iload dX6_putInOrder_35 rfl ?_
        refine fs_callS1 dX6_putInOrder_37 sv_X6_100 (c_X6_setOf G l ht (L_X6_append_I ht I A J it dyn v5) (L_X6_append_A ht I A J it dyn v5) J it dyn v5) rfl rfl (Nat.le_of_ble_eq_true rfl) (Nat.le_of_ble_eq_true rfl) (Nat.le_of_ble_eq_true rfl) (Nat.le_of_ble_eq_true rfl) ?_
        refine fs_ldc2 (v := (-1)) dX6_putInOrder_40 sk_X6_135 ?_
        refine fs_lxor dX6_putInOrder_43 ?_
        refine fs_land dX6_putInOrder_44 ?_
        refine fs_lstore_n (L' := [(3, .inr (.inl (v3 &&& ((L_X6_setOf_r ht (L_X6_append_I ht I A J it dyn v5) (L_X6_append_A ht I A J it dyn v5) J it dyn v5) ^^^ (-1))))), (0, .inr (.inr (some 5))), (1, .inr (.inl v1)), (5, .inl v5)]) dX6_putInOrder_45 rfl (by decide) rfl ?_
        refine fs_reL [1, 2, 0, 3] rfl ?_
        have k9 := key_46
        try simp only [if_neg c_14, if_neg c_25] at k9 ⊢
        exact k9
def Lb_X6_putInOrder_71_I : Nat → Nat → (Nat → Int32) → (Nat → Nat → Int32) → (Nat → Nat → Int64) → (Nat → Option Nat) → fsH → Int64 → Int64 → Int32 → Int32 → (Nat → Int32)
  | 0, ht, I, A, J, it, dyn, v1, v3, v5, v6 => I
  | n + 1, ht, I, A, J, it, dyn, v1, v3, v5, v6 => (if 64 ≤ v6 then I else (Lb_X6_putInOrder_71_I n ht (if (lg_cmp (v3 &&& (L_X6_setOf_r ht I A J it dyn v6)) 0) = 0 then I else (if (lg_cmp ((J 7 v6.toNatClampNeg) &&& v3) 0) = 0 then (L_X6_append_I ht I A J it dyn v6) else I)) (if (lg_cmp (v3 &&& (L_X6_setOf_r ht I A J it dyn v6)) 0) = 0 then A else (if (lg_cmp ((J 7 v6.toNatClampNeg) &&& v3) 0) = 0 then (L_X6_append_A ht I A J it dyn v6) else A)) J it dyn v1 (if (lg_cmp (v3 &&& (L_X6_setOf_r ht I A J it dyn v6)) 0) = 0 then v3 else (if (lg_cmp ((J 7 v6.toNatClampNeg) &&& v3) 0) = 0 then (v3 &&& ((L_X6_setOf_r ht (L_X6_append_I ht I A J it dyn v6) (L_X6_append_A ht I A J it dyn v6) J it dyn v6) ^^^ (-1))) else v3 : Int64) : Int64) v5 (v6 + 1)))
def Lb_X6_putInOrder_71_A : Nat → Nat → (Nat → Int32) → (Nat → Nat → Int32) → (Nat → Nat → Int64) → (Nat → Option Nat) → fsH → Int64 → Int64 → Int32 → Int32 → (Nat → Nat → Int32)
  | 0, ht, I, A, J, it, dyn, v1, v3, v5, v6 => A
  | n + 1, ht, I, A, J, it, dyn, v1, v3, v5, v6 => (if 64 ≤ v6 then A else (Lb_X6_putInOrder_71_A n ht (if (lg_cmp (v3 &&& (L_X6_setOf_r ht I A J it dyn v6)) 0) = 0 then I else (if (lg_cmp ((J 7 v6.toNatClampNeg) &&& v3) 0) = 0 then (L_X6_append_I ht I A J it dyn v6) else I)) (if (lg_cmp (v3 &&& (L_X6_setOf_r ht I A J it dyn v6)) 0) = 0 then A else (if (lg_cmp ((J 7 v6.toNatClampNeg) &&& v3) 0) = 0 then (L_X6_append_A ht I A J it dyn v6) else A)) J it dyn v1 (if (lg_cmp (v3 &&& (L_X6_setOf_r ht I A J it dyn v6)) 0) = 0 then v3 else (if (lg_cmp ((J 7 v6.toNatClampNeg) &&& v3) 0) = 0 then (v3 &&& ((L_X6_setOf_r ht (L_X6_append_I ht I A J it dyn v6) (L_X6_append_A ht I A J it dyn v6) J it dyn v6) ^^^ (-1))) else v3 : Int64) : Int64) v5 (v6 + 1)))
def Lb_X6_putInOrder_71_v3 : Nat → Nat → (Nat → Int32) → (Nat → Nat → Int32) → (Nat → Nat → Int64) → (Nat → Option Nat) → fsH → Int64 → Int64 → Int32 → Int32 → Int64
  | 0, ht, I, A, J, it, dyn, v1, v3, v5, v6 => v3
  | n + 1, ht, I, A, J, it, dyn, v1, v3, v5, v6 => (if 64 ≤ v6 then v3 else (Lb_X6_putInOrder_71_v3 n ht (if (lg_cmp (v3 &&& (L_X6_setOf_r ht I A J it dyn v6)) 0) = 0 then I else (if (lg_cmp ((J 7 v6.toNatClampNeg) &&& v3) 0) = 0 then (L_X6_append_I ht I A J it dyn v6) else I)) (if (lg_cmp (v3 &&& (L_X6_setOf_r ht I A J it dyn v6)) 0) = 0 then A else (if (lg_cmp ((J 7 v6.toNatClampNeg) &&& v3) 0) = 0 then (L_X6_append_A ht I A J it dyn v6) else A)) J it dyn v1 (if (lg_cmp (v3 &&& (L_X6_setOf_r ht I A J it dyn v6)) 0) = 0 then v3 else (if (lg_cmp ((J 7 v6.toNatClampNeg) &&& v3) 0) = 0 then (v3 &&& ((L_X6_setOf_r ht (L_X6_append_I ht I A J it dyn v6) (L_X6_append_A ht I A J it dyn v6) J it dyn v6) ^^^ (-1))) else v3 : Int64) : Int64) v5 (v6 + 1)))
def Lb_X6_putInOrder_71_v6 : Nat → Nat → (Nat → Int32) → (Nat → Nat → Int32) → (Nat → Nat → Int64) → (Nat → Option Nat) → fsH → Int64 → Int64 → Int32 → Int32 → Int32
  | 0, ht, I, A, J, it, dyn, v1, v3, v5, v6 => v6
  | n + 1, ht, I, A, J, it, dyn, v1, v3, v5, v6 => (if 64 ≤ v6 then v6 else (Lb_X6_putInOrder_71_v6 n ht (if (lg_cmp (v3 &&& (L_X6_setOf_r ht I A J it dyn v6)) 0) = 0 then I else (if (lg_cmp ((J 7 v6.toNatClampNeg) &&& v3) 0) = 0 then (L_X6_append_I ht I A J it dyn v6) else I)) (if (lg_cmp (v3 &&& (L_X6_setOf_r ht I A J it dyn v6)) 0) = 0 then A else (if (lg_cmp ((J 7 v6.toNatClampNeg) &&& v3) 0) = 0 then (L_X6_append_A ht I A J it dyn v6) else A)) J it dyn v1 (if (lg_cmp (v3 &&& (L_X6_setOf_r ht I A J it dyn v6)) 0) = 0 then v3 else (if (lg_cmp ((J 7 v6.toNatClampNeg) &&& v3) 0) = 0 then (v3 &&& ((L_X6_setOf_r ht (L_X6_append_I ht I A J it dyn v6) (L_X6_append_A ht I A J it dyn v6) J it dyn v6) ^^^ (-1))) else v3 : Int64) : Int64) v5 (v6 + 1)))
def S_Lb_X6_putInOrder_71 : Nat → Nat → (Nat → Int32) → (Nat → Nat → Int32) → (Nat → Nat → Int64) → (Nat → Option Nat) → fsH → Int64 → Int64 → Int32 → Int32 → Prop
  | 0, _, _, _, _, _, _, _, _, _, _ => False
  | n + 1, ht, I, A, J, it, dyn, v1, v3, v5, v6 => (¬ (64 ≤ v6) → ((¬ ((lg_cmp (v3 &&& (L_X6_setOf_r ht I A J it dyn v6)) 0) = 0) → ((vp_in v6 64) ∧ (((lg_cmp ((J 7 v6.toNatClampNeg) &&& v3) 0) = 0) → (S_X6_append ht I A J it dyn v6)))) ∧ (S_Lb_X6_putInOrder_71 n ht (if (lg_cmp (v3 &&& (L_X6_setOf_r ht I A J it dyn v6)) 0) = 0 then I else (if (lg_cmp ((J 7 v6.toNatClampNeg) &&& v3) 0) = 0 then (L_X6_append_I ht I A J it dyn v6) else I)) (if (lg_cmp (v3 &&& (L_X6_setOf_r ht I A J it dyn v6)) 0) = 0 then A else (if (lg_cmp ((J 7 v6.toNatClampNeg) &&& v3) 0) = 0 then (L_X6_append_A ht I A J it dyn v6) else A)) J it dyn v1 (if (lg_cmp (v3 &&& (L_X6_setOf_r ht I A J it dyn v6)) 0) = 0 then v3 else (if (lg_cmp ((J 7 v6.toNatClampNeg) &&& v3) 0) = 0 then (v3 &&& ((L_X6_setOf_r ht (L_X6_append_I ht I A J it dyn v6) (L_X6_append_A ht I A J it dyn v6) J it dyn v6) ^^^ (-1))) else v3 : Int64) : Int64) v5 (v6 + 1))))
set_option maxRecDepth 100000 in
set_option maxHeartbeats 4000000 in
theorem lp_Lb_X6_putInOrder_71 (G : fsG) (l : Launch) (Q : Option fsV → fsH → Prop) : ∀ (n : Nat) (ht : Nat) (I : Nat → Int32) (A : Nat → Nat → Int32) (J : Nat → Nat → Int64) (it : Nat → Option Nat) (dyn : fsH) (v1 : Int64) (v3 : Int64) (v5 : Int32) (v6 : Int32), S_Lb_X6_putInOrder_71 n ht I A J it dyn v1 v3 v5 v6 → (fsW G l mX6_putInOrder 2 0 0 0 0 Q 128 [(0, .inr (.inr (some 5))), (1, .inr (.inl v1)), (3, .inr (.inl (Lb_X6_putInOrder_71_v3 n ht I A J it dyn v1 v3 v5 v6))), (5, .inl v5), (6, .inl (Lb_X6_putInOrder_71_v6 n ht I A J it dyn v1 v3 v5 v6))] [] (fs_mk ht (Lb_X6_putInOrder_71_I n ht I A J it dyn v1 v3 v5 v6) (Lb_X6_putInOrder_71_A n ht I A J it dyn v1 v3 v5 v6) J it dyn)) → fsW G l mX6_putInOrder 2 0 0 0 0 Q 71 [(0, .inr (.inr (some 5))), (1, .inr (.inl v1)), (3, .inr (.inl v3)), (5, .inl v5), (6, .inl v6)] [] (fs_mk ht I A J it dyn) := by
  intro n
  induction n with
  | zero =>
    intro ht I A J it dyn v1 v3 v5 v6 hS
    exact hS.elim
  | succ n ih =>
    intro ht I A J it dyn v1 v3 v5 v6 hS hq
    have hS : (¬ (64 ≤ v6) → ((¬ ((lg_cmp (v3 &&& (L_X6_setOf_r ht I A J it dyn v6)) 0) = 0) → ((vp_in v6 64) ∧ (((lg_cmp ((J 7 v6.toNatClampNeg) &&& v3) 0) = 0) → (S_X6_append ht I A J it dyn v6)))) ∧ (S_Lb_X6_putInOrder_71 n ht (if (lg_cmp (v3 &&& (L_X6_setOf_r ht I A J it dyn v6)) 0) = 0 then I else (if (lg_cmp ((J 7 v6.toNatClampNeg) &&& v3) 0) = 0 then (L_X6_append_I ht I A J it dyn v6) else I)) (if (lg_cmp (v3 &&& (L_X6_setOf_r ht I A J it dyn v6)) 0) = 0 then A else (if (lg_cmp ((J 7 v6.toNatClampNeg) &&& v3) 0) = 0 then (L_X6_append_A ht I A J it dyn v6) else A)) J it dyn v1 (if (lg_cmp (v3 &&& (L_X6_setOf_r ht I A J it dyn v6)) 0) = 0 then v3 else (if (lg_cmp ((J 7 v6.toNatClampNeg) &&& v3) 0) = 0 then (v3 &&& ((L_X6_setOf_r ht (L_X6_append_I ht I A J it dyn v6) (L_X6_append_A ht I A J it dyn v6) J it dyn v6) ^^^ (-1))) else v3 : Int64) : Int64) v5 (v6 + 1)))) := hS
    have hq : fsW G l mX6_putInOrder 2 0 0 0 0 Q 128 [(0, .inr (.inr (some 5))), (1, .inr (.inl v1)), (3, .inr (.inl (if 64 ≤ v6 then v3 else (Lb_X6_putInOrder_71_v3 n ht (if (lg_cmp (v3 &&& (L_X6_setOf_r ht I A J it dyn v6)) 0) = 0 then I else (if (lg_cmp ((J 7 v6.toNatClampNeg) &&& v3) 0) = 0 then (L_X6_append_I ht I A J it dyn v6) else I)) (if (lg_cmp (v3 &&& (L_X6_setOf_r ht I A J it dyn v6)) 0) = 0 then A else (if (lg_cmp ((J 7 v6.toNatClampNeg) &&& v3) 0) = 0 then (L_X6_append_A ht I A J it dyn v6) else A)) J it dyn v1 (if (lg_cmp (v3 &&& (L_X6_setOf_r ht I A J it dyn v6)) 0) = 0 then v3 else (if (lg_cmp ((J 7 v6.toNatClampNeg) &&& v3) 0) = 0 then (v3 &&& ((L_X6_setOf_r ht (L_X6_append_I ht I A J it dyn v6) (L_X6_append_A ht I A J it dyn v6) J it dyn v6) ^^^ (-1))) else v3 : Int64) : Int64) v5 (v6 + 1))))), (5, .inl v5), (6, .inl (if 64 ≤ v6 then v6 else (Lb_X6_putInOrder_71_v6 n ht (if (lg_cmp (v3 &&& (L_X6_setOf_r ht I A J it dyn v6)) 0) = 0 then I else (if (lg_cmp ((J 7 v6.toNatClampNeg) &&& v3) 0) = 0 then (L_X6_append_I ht I A J it dyn v6) else I)) (if (lg_cmp (v3 &&& (L_X6_setOf_r ht I A J it dyn v6)) 0) = 0 then A else (if (lg_cmp ((J 7 v6.toNatClampNeg) &&& v3) 0) = 0 then (L_X6_append_A ht I A J it dyn v6) else A)) J it dyn v1 (if (lg_cmp (v3 &&& (L_X6_setOf_r ht I A J it dyn v6)) 0) = 0 then v3 else (if (lg_cmp ((J 7 v6.toNatClampNeg) &&& v3) 0) = 0 then (v3 &&& ((L_X6_setOf_r ht (L_X6_append_I ht I A J it dyn v6) (L_X6_append_A ht I A J it dyn v6) J it dyn v6) ^^^ (-1))) else v3 : Int64) : Int64) v5 (v6 + 1))))] [] (fs_mk ht (if 64 ≤ v6 then I else (Lb_X6_putInOrder_71_I n ht (if (lg_cmp (v3 &&& (L_X6_setOf_r ht I A J it dyn v6)) 0) = 0 then I else (if (lg_cmp ((J 7 v6.toNatClampNeg) &&& v3) 0) = 0 then (L_X6_append_I ht I A J it dyn v6) else I)) (if (lg_cmp (v3 &&& (L_X6_setOf_r ht I A J it dyn v6)) 0) = 0 then A else (if (lg_cmp ((J 7 v6.toNatClampNeg) &&& v3) 0) = 0 then (L_X6_append_A ht I A J it dyn v6) else A)) J it dyn v1 (if (lg_cmp (v3 &&& (L_X6_setOf_r ht I A J it dyn v6)) 0) = 0 then v3 else (if (lg_cmp ((J 7 v6.toNatClampNeg) &&& v3) 0) = 0 then (v3 &&& ((L_X6_setOf_r ht (L_X6_append_I ht I A J it dyn v6) (L_X6_append_A ht I A J it dyn v6) J it dyn v6) ^^^ (-1))) else v3 : Int64) : Int64) v5 (v6 + 1))) (if 64 ≤ v6 then A else (Lb_X6_putInOrder_71_A n ht (if (lg_cmp (v3 &&& (L_X6_setOf_r ht I A J it dyn v6)) 0) = 0 then I else (if (lg_cmp ((J 7 v6.toNatClampNeg) &&& v3) 0) = 0 then (L_X6_append_I ht I A J it dyn v6) else I)) (if (lg_cmp (v3 &&& (L_X6_setOf_r ht I A J it dyn v6)) 0) = 0 then A else (if (lg_cmp ((J 7 v6.toNatClampNeg) &&& v3) 0) = 0 then (L_X6_append_A ht I A J it dyn v6) else A)) J it dyn v1 (if (lg_cmp (v3 &&& (L_X6_setOf_r ht I A J it dyn v6)) 0) = 0 then v3 else (if (lg_cmp ((J 7 v6.toNatClampNeg) &&& v3) 0) = 0 then (v3 &&& ((L_X6_setOf_r ht (L_X6_append_I ht I A J it dyn v6) (L_X6_append_A ht I A J it dyn v6) J it dyn v6) ^^^ (-1))) else v3 : Int64) : Int64) v5 (v6 + 1))) J it dyn) := hq
    refine fs_iload dX6_putInOrder_71 rfl ?_
    refine fs_bipush (v := 64) dX6_putInOrder_73 rfl ?_
    refine fs_icmp_ge 128 dX6_putInOrder_75 (by decide) (fun c_75 : 64 ≤ v6 => ?_) (fun c_75 : ¬ (64 ≤ v6) => ?_)
    · have k9 := hq
      try simp only [if_pos c_75] at k9 ⊢
      exact k9
    · have hS := hS c_75
      refine fs_lload_n dX6_putInOrder_78 rfl rfl ?_
      refine fs_iload dX6_putInOrder_79 rfl ?_
      refine fs_callS1 dX6_putInOrder_81 sv_X6_100 (c_X6_setOf G l ht I A J it dyn v6) rfl rfl (Nat.le_of_ble_eq_true rfl) (Nat.le_of_ble_eq_true rfl) (Nat.le_of_ble_eq_true rfl) (Nat.le_of_ble_eq_true rfl) ?_
      refine fs_land dX6_putInOrder_84 ?_
      refine fs_lconst (v := 0) dX6_putInOrder_85 rfl ?_
      refine fs_lcmp dX6_putInOrder_86 ?_
      obtain ⟨hR_87, hS⟩ := hS
      have key_122 : fsW G l mX6_putInOrder 2 0 0 0 0 Q 122 [(0, .inr (.inr (some 5))), (1, .inr (.inl v1)), (3, .inr (.inl (if (lg_cmp (v3 &&& (L_X6_setOf_r ht I A J it dyn v6)) 0) = 0 then v3 else (if (lg_cmp ((J 7 v6.toNatClampNeg) &&& v3) 0) = 0 then (v3 &&& ((L_X6_setOf_r ht (L_X6_append_I ht I A J it dyn v6) (L_X6_append_A ht I A J it dyn v6) J it dyn v6) ^^^ (-1))) else v3 : Int64) : Int64))), (5, .inl v5), (6, .inl v6)] [] (fs_mk ht (if (lg_cmp (v3 &&& (L_X6_setOf_r ht I A J it dyn v6)) 0) = 0 then I else (if (lg_cmp ((J 7 v6.toNatClampNeg) &&& v3) 0) = 0 then (L_X6_append_I ht I A J it dyn v6) else I)) (if (lg_cmp (v3 &&& (L_X6_setOf_r ht I A J it dyn v6)) 0) = 0 then A else (if (lg_cmp ((J 7 v6.toNatClampNeg) &&& v3) 0) = 0 then (L_X6_append_A ht I A J it dyn v6) else A)) J it dyn) := by
        refine fs_iinc (v := (v6 + 1)) (L' := [(6, .inl (v6 + 1)), (0, .inr (.inr (some 5))), (1, .inr (.inl v1)), (3, .inr (.inl (if (lg_cmp (v3 &&& (L_X6_setOf_r ht I A J it dyn v6)) 0) = 0 then v3 else (if (lg_cmp ((J 7 v6.toNatClampNeg) &&& v3) 0) = 0 then (v3 &&& ((L_X6_setOf_r ht (L_X6_append_I ht I A J it dyn v6) (L_X6_append_A ht I A J it dyn v6) J it dyn v6) ^^^ (-1))) else v3 : Int64) : Int64))), (5, .inl v5)]) dX6_putInOrder_122 rfl rfl (by decide) rfl ?_
        refine fs_goto 71 dX6_putInOrder_125 (by decide) ?_
        refine fs_reL [1, 2, 3, 4, 0] rfl ?_
        have k9 := hq
        try simp only [if_neg c_75] at hS k9 ⊢
        exact ih _ _ _ _ _ _ _ _ _ _ hS k9
      refine fs_if_eq 122 dX6_putInOrder_87 (by decide) (fun c_87 : (lg_cmp (v3 &&& (L_X6_setOf_r ht I A J it dyn v6)) 0) = 0 => ?_) (fun c_87 : ¬ ((lg_cmp (v3 &&& (L_X6_setOf_r ht I A J it dyn v6)) 0) = 0) => ?_)
      · have k9 := key_122
        try simp only [if_neg c_75, if_pos c_87] at k9 ⊢
        exact k9
      · have hS := hR_87 c_87
        refine fs_aload_n dX6_putInOrder_90 rfl rfl ?_
        refine fs_getfield (v := .inr (.inr (some 7))) dX6_putInOrder_91 sf_X6_15 rfl rfl ?_
        refine fs_iload dX6_putInOrder_94 rfl ?_
        obtain ⟨ho1, hS⟩ := hS
        refine fs_laload dX6_putInOrder_96 rfl ho1 ?_
        refine fs_lload_n dX6_putInOrder_97 rfl rfl ?_
        refine fs_land dX6_putInOrder_98 ?_
        refine fs_lconst (v := 0) dX6_putInOrder_99 rfl ?_
        refine fs_lcmp dX6_putInOrder_100 ?_
        refine fs_if_ne 122 dX6_putInOrder_101 (by decide) (fun c_101 : ¬ (lg_cmp ((J 7 v6.toNatClampNeg) &&& v3) 0) = 0 => ?_) (fun c_101 : (lg_cmp ((J 7 v6.toNatClampNeg) &&& v3) 0) = 0 => ?_)
        · have k9 := key_122
          try simp only [if_neg c_75, if_neg c_87, if_neg c_101] at k9 ⊢
          exact k9
        · have hS := hS c_101
          refine fs_aload_n dX6_putInOrder_104 rfl rfl ?_
          refine fs_iload dX6_putInOrder_105 rfl ?_
          have ho1 := hS
          refine fs_callV0 dX6_putInOrder_107 sv_X6_132 rfl ⟨_, rfl, rfl⟩ (c_X6_append G l ht I A J it dyn v6 ho1) rfl rfl (Nat.le_of_ble_eq_true rfl) (Nat.le_of_ble_eq_true rfl) (Nat.le_of_ble_eq_true rfl) (Nat.le_of_ble_eq_true rfl) ?_
          refine fs_lload_n dX6_putInOrder_110 rfl rfl ?_
          refine fs_iload dX6_putInOrder_111 rfl ?_
          refine fs_callS1 dX6_putInOrder_113 sv_X6_100 (c_X6_setOf G l ht (L_X6_append_I ht I A J it dyn v6) (L_X6_append_A ht I A J it dyn v6) J it dyn v6) rfl rfl (Nat.le_of_ble_eq_true rfl) (Nat.le_of_ble_eq_true rfl) (Nat.le_of_ble_eq_true rfl) (Nat.le_of_ble_eq_true rfl) ?_
          refine fs_ldc2 (v := (-1)) dX6_putInOrder_116 sk_X6_135 ?_
          refine fs_lxor dX6_putInOrder_119 ?_
          refine fs_land dX6_putInOrder_120 ?_
          refine fs_lstore_n (L' := [(3, .inr (.inl (v3 &&& ((L_X6_setOf_r ht (L_X6_append_I ht I A J it dyn v6) (L_X6_append_A ht I A J it dyn v6) J it dyn v6) ^^^ (-1))))), (0, .inr (.inr (some 5))), (1, .inr (.inl v1)), (5, .inl v5), (6, .inl v6)]) dX6_putInOrder_121 rfl (by decide) rfl ?_
          refine fs_reL [1, 2, 0, 3, 4] rfl ?_
          have k9 := key_122
          try simp only [if_neg c_75, if_neg c_87, if_pos c_101] at k9 ⊢
          exact k9
def Lb_X6_putInOrder_55_I : Nat → Nat → (Nat → Int32) → (Nat → Nat → Int32) → (Nat → Nat → Int64) → (Nat → Option Nat) → fsH → Int64 → Int64 → Int32 → (Nat → Int32)
  | 0, ht, I, A, J, it, dyn, v1, v3, v5 => I
  | n + 1, ht, I, A, J, it, dyn, v1, v3, v5 => (if 64 ≤ v5 then I else (if (lg_cmp v3 0) = 0 then I else (Lb_X6_putInOrder_55_I n ht (Lb_X6_putInOrder_71_I 70 ht I A J it dyn v1 v3 v5 0) (Lb_X6_putInOrder_71_A 70 ht I A J it dyn v1 v3 v5 0) J it dyn v1 (Lb_X6_putInOrder_71_v3 70 ht I A J it dyn v1 v3 v5 0) (v5 + 1))))
def Lb_X6_putInOrder_55_A : Nat → Nat → (Nat → Int32) → (Nat → Nat → Int32) → (Nat → Nat → Int64) → (Nat → Option Nat) → fsH → Int64 → Int64 → Int32 → (Nat → Nat → Int32)
  | 0, ht, I, A, J, it, dyn, v1, v3, v5 => A
  | n + 1, ht, I, A, J, it, dyn, v1, v3, v5 => (if 64 ≤ v5 then A else (if (lg_cmp v3 0) = 0 then A else (Lb_X6_putInOrder_55_A n ht (Lb_X6_putInOrder_71_I 70 ht I A J it dyn v1 v3 v5 0) (Lb_X6_putInOrder_71_A 70 ht I A J it dyn v1 v3 v5 0) J it dyn v1 (Lb_X6_putInOrder_71_v3 70 ht I A J it dyn v1 v3 v5 0) (v5 + 1))))
def Lb_X6_putInOrder_55_v3 : Nat → Nat → (Nat → Int32) → (Nat → Nat → Int32) → (Nat → Nat → Int64) → (Nat → Option Nat) → fsH → Int64 → Int64 → Int32 → Int64
  | 0, ht, I, A, J, it, dyn, v1, v3, v5 => v3
  | n + 1, ht, I, A, J, it, dyn, v1, v3, v5 => (if 64 ≤ v5 then v3 else (if (lg_cmp v3 0) = 0 then v3 else (Lb_X6_putInOrder_55_v3 n ht (Lb_X6_putInOrder_71_I 70 ht I A J it dyn v1 v3 v5 0) (Lb_X6_putInOrder_71_A 70 ht I A J it dyn v1 v3 v5 0) J it dyn v1 (Lb_X6_putInOrder_71_v3 70 ht I A J it dyn v1 v3 v5 0) (v5 + 1))))
def Lb_X6_putInOrder_55_v5 : Nat → Nat → (Nat → Int32) → (Nat → Nat → Int32) → (Nat → Nat → Int64) → (Nat → Option Nat) → fsH → Int64 → Int64 → Int32 → Int32
  | 0, ht, I, A, J, it, dyn, v1, v3, v5 => v5
  | n + 1, ht, I, A, J, it, dyn, v1, v3, v5 => (if 64 ≤ v5 then v5 else (if (lg_cmp v3 0) = 0 then v5 else (Lb_X6_putInOrder_55_v5 n ht (Lb_X6_putInOrder_71_I 70 ht I A J it dyn v1 v3 v5 0) (Lb_X6_putInOrder_71_A 70 ht I A J it dyn v1 v3 v5 0) J it dyn v1 (Lb_X6_putInOrder_71_v3 70 ht I A J it dyn v1 v3 v5 0) (v5 + 1))))
def S_Lb_X6_putInOrder_55 : Nat → Nat → (Nat → Int32) → (Nat → Nat → Int32) → (Nat → Nat → Int64) → (Nat → Option Nat) → fsH → Int64 → Int64 → Int32 → Prop
  | 0, _, _, _, _, _, _, _, _, _ => False
  | n + 1, ht, I, A, J, it, dyn, v1, v3, v5 => (¬ (64 ≤ v5) → (¬ ((lg_cmp v3 0) = 0) → ((S_Lb_X6_putInOrder_71 70 ht I A J it dyn v1 v3 v5 0) ∧ (S_Lb_X6_putInOrder_55 n ht (Lb_X6_putInOrder_71_I 70 ht I A J it dyn v1 v3 v5 0) (Lb_X6_putInOrder_71_A 70 ht I A J it dyn v1 v3 v5 0) J it dyn v1 (Lb_X6_putInOrder_71_v3 70 ht I A J it dyn v1 v3 v5 0) (v5 + 1)))))
set_option maxRecDepth 100000 in
set_option maxHeartbeats 4000000 in
theorem lp_Lb_X6_putInOrder_55 (G : fsG) (l : Launch) (Q : Option fsV → fsH → Prop) : ∀ (n : Nat) (ht : Nat) (I : Nat → Int32) (A : Nat → Nat → Int32) (J : Nat → Nat → Int64) (it : Nat → Option Nat) (dyn : fsH) (v1 : Int64) (v3 : Int64) (v5 : Int32), S_Lb_X6_putInOrder_55 n ht I A J it dyn v1 v3 v5 → (fsW G l mX6_putInOrder 2 0 0 0 0 Q 134 [(0, .inr (.inr (some 5))), (1, .inr (.inl v1)), (3, .inr (.inl (Lb_X6_putInOrder_55_v3 n ht I A J it dyn v1 v3 v5))), (5, .inl (Lb_X6_putInOrder_55_v5 n ht I A J it dyn v1 v3 v5))] [] (fs_mk ht (Lb_X6_putInOrder_55_I n ht I A J it dyn v1 v3 v5) (Lb_X6_putInOrder_55_A n ht I A J it dyn v1 v3 v5) J it dyn)) → fsW G l mX6_putInOrder 2 0 0 0 0 Q 55 [(0, .inr (.inr (some 5))), (1, .inr (.inl v1)), (3, .inr (.inl v3)), (5, .inl v5)] [] (fs_mk ht I A J it dyn) := by
  intro n
  induction n with
  | zero =>
    intro ht I A J it dyn v1 v3 v5 hS
    exact hS.elim
  | succ n ih =>
    intro ht I A J it dyn v1 v3 v5 hS hq
    have hS : (¬ (64 ≤ v5) → (¬ ((lg_cmp v3 0) = 0) → ((S_Lb_X6_putInOrder_71 70 ht I A J it dyn v1 v3 v5 0) ∧ (S_Lb_X6_putInOrder_55 n ht (Lb_X6_putInOrder_71_I 70 ht I A J it dyn v1 v3 v5 0) (Lb_X6_putInOrder_71_A 70 ht I A J it dyn v1 v3 v5 0) J it dyn v1 (Lb_X6_putInOrder_71_v3 70 ht I A J it dyn v1 v3 v5 0) (v5 + 1))))) := hS
    have hq : fsW G l mX6_putInOrder 2 0 0 0 0 Q 134 [(0, .inr (.inr (some 5))), (1, .inr (.inl v1)), (3, .inr (.inl (if 64 ≤ v5 then v3 else (if (lg_cmp v3 0) = 0 then v3 else (Lb_X6_putInOrder_55_v3 n ht (Lb_X6_putInOrder_71_I 70 ht I A J it dyn v1 v3 v5 0) (Lb_X6_putInOrder_71_A 70 ht I A J it dyn v1 v3 v5 0) J it dyn v1 (Lb_X6_putInOrder_71_v3 70 ht I A J it dyn v1 v3 v5 0) (v5 + 1)))))), (5, .inl (if 64 ≤ v5 then v5 else (if (lg_cmp v3 0) = 0 then v5 else (Lb_X6_putInOrder_55_v5 n ht (Lb_X6_putInOrder_71_I 70 ht I A J it dyn v1 v3 v5 0) (Lb_X6_putInOrder_71_A 70 ht I A J it dyn v1 v3 v5 0) J it dyn v1 (Lb_X6_putInOrder_71_v3 70 ht I A J it dyn v1 v3 v5 0) (v5 + 1)))))] [] (fs_mk ht (if 64 ≤ v5 then I else (if (lg_cmp v3 0) = 0 then I else (Lb_X6_putInOrder_55_I n ht (Lb_X6_putInOrder_71_I 70 ht I A J it dyn v1 v3 v5 0) (Lb_X6_putInOrder_71_A 70 ht I A J it dyn v1 v3 v5 0) J it dyn v1 (Lb_X6_putInOrder_71_v3 70 ht I A J it dyn v1 v3 v5 0) (v5 + 1)))) (if 64 ≤ v5 then A else (if (lg_cmp v3 0) = 0 then A else (Lb_X6_putInOrder_55_A n ht (Lb_X6_putInOrder_71_I 70 ht I A J it dyn v1 v3 v5 0) (Lb_X6_putInOrder_71_A 70 ht I A J it dyn v1 v3 v5 0) J it dyn v1 (Lb_X6_putInOrder_71_v3 70 ht I A J it dyn v1 v3 v5 0) (v5 + 1)))) J it dyn) := hq
    refine fs_iload dX6_putInOrder_55 rfl ?_
    refine fs_bipush (v := 64) dX6_putInOrder_57 rfl ?_
    refine fs_icmp_ge 134 dX6_putInOrder_59 (by decide) (fun c_59 : 64 ≤ v5 => ?_) (fun c_59 : ¬ (64 ≤ v5) => ?_)
    · have k9 := hq
      try simp only [if_pos c_59] at k9 ⊢
      exact k9
    · have hS := hS c_59
      refine fs_lload_n dX6_putInOrder_62 rfl rfl ?_
      refine fs_lconst (v := 0) dX6_putInOrder_63 rfl ?_
      refine fs_lcmp dX6_putInOrder_64 ?_
      refine fs_if_eq 134 dX6_putInOrder_65 (by decide) (fun c_65 : (lg_cmp v3 0) = 0 => ?_) (fun c_65 : ¬ ((lg_cmp v3 0) = 0) => ?_)
      · have k9 := hq
        try simp only [if_neg c_59, if_pos c_65] at k9 ⊢
        exact k9
      · have hS := hS c_65
        refine fs_iconst (v := 0) dX6_putInOrder_68 rfl ?_
        refine fs_istore (L' := [(6, .inl 0), (0, .inr (.inr (some 5))), (1, .inr (.inl v1)), (3, .inr (.inl v3)), (5, .inl v5)]) dX6_putInOrder_69 (by decide) rfl ?_
        refine fs_reL [1, 2, 3, 4, 0] rfl ?_
        obtain ⟨ho1, hS⟩ := hS
        refine lp_Lb_X6_putInOrder_71 G l Q 70 ht I A J it dyn v1 v3 v5 0 ho1 ?_
        refine fs_iinc (v := (v5 + 1)) (L' := [(5, .inl (v5 + 1)), (0, .inr (.inr (some 5))), (1, .inr (.inl v1)), (3, .inr (.inl (Lb_X6_putInOrder_71_v3 70 ht I A J it dyn v1 v3 v5 0))), (6, .inl (Lb_X6_putInOrder_71_v6 70 ht I A J it dyn v1 v3 v5 0))]) dX6_putInOrder_128 rfl rfl (by decide) rfl ?_
        refine fs_goto 55 dX6_putInOrder_131 (by decide) ?_
        refine fs_reL [1, 2, 3, 0] rfl ?_
        have k9 := hq
        try simp only [if_neg c_59, if_neg c_65] at hS k9 ⊢
        exact ih _ _ _ _ _ _ _ _ _ hS k9
def L_X6_putInOrder_I (ht : Nat) (I : Nat → Int32) (A : Nat → Nat → Int32) (J : Nat → Nat → Int64) (it : Nat → Option Nat) (dyn : fsH) (x1 : Int64) : Nat → Int32 := (Lb_X6_putInOrder_55_I 70 ht (Lb_X6_putInOrder_10_I 70 ht (upd I 6 0) A J it dyn x1 x1 0) (Lb_X6_putInOrder_10_A 70 ht (upd I 6 0) A J it dyn x1 x1 0) J it dyn x1 (Lb_X6_putInOrder_10_v3 70 ht (upd I 6 0) A J it dyn x1 x1 0) 0)
def L_X6_putInOrder_A (ht : Nat) (I : Nat → Int32) (A : Nat → Nat → Int32) (J : Nat → Nat → Int64) (it : Nat → Option Nat) (dyn : fsH) (x1 : Int64) : Nat → Nat → Int32 := (Lb_X6_putInOrder_55_A 70 ht (Lb_X6_putInOrder_10_I 70 ht (upd I 6 0) A J it dyn x1 x1 0) (Lb_X6_putInOrder_10_A 70 ht (upd I 6 0) A J it dyn x1 x1 0) J it dyn x1 (Lb_X6_putInOrder_10_v3 70 ht (upd I 6 0) A J it dyn x1 x1 0) 0)
def S_X6_putInOrder (ht : Nat) (I : Nat → Int32) (A : Nat → Nat → Int32) (J : Nat → Nat → Int64) (it : Nat → Option Nat) (dyn : fsH) (x1 : Int64) : Prop := ((S_Lb_X6_putInOrder_10 70 ht (upd I 6 0) A J it dyn x1 x1 0) ∧ (S_Lb_X6_putInOrder_55 70 ht (Lb_X6_putInOrder_10_I 70 ht (upd I 6 0) A J it dyn x1 x1 0) (Lb_X6_putInOrder_10_A 70 ht (upd I 6 0) A J it dyn x1 x1 0) J it dyn x1 (Lb_X6_putInOrder_10_v3 70 ht (upd I 6 0) A J it dyn x1 x1 0) 0))
set_option maxRecDepth 100000 in
set_option maxHeartbeats 4000000 in
theorem c_X6_putInOrder (G : fsG) (l : Launch) (ht : Nat) (I : Nat → Int32) (A : Nat → Nat → Int32) (J : Nat → Nat → Int64) (it : Nat → Option Nat) (dyn : fsH) (x1 : Int64) (hS : S_X6_putInOrder ht I A J it dyn x1) : fsFn G l mX6_putInOrder 2 0 0 [.inr (.inr (some 5)), .inr (.inl x1)] (fs_mk ht I A J it dyn) none (fs_mk ht (L_X6_putInOrder_I ht I A J it dyn x1) (L_X6_putInOrder_A ht I A J it dyn x1) J it dyn) := by
  refine fsMet_of (by decide) (Nat.le_of_ble_eq_true rfl) ?_
  generalize hQ : (fun (r1 : Option fsV) (h1 : fsH) => r1 = none ∧ h1 = (fs_mk ht (L_X6_putInOrder_I ht I A J it dyn x1) (L_X6_putInOrder_A ht I A J it dyn x1) J it dyn)) = Q
  have hq : Q none (fs_mk ht (L_X6_putInOrder_I ht I A J it dyn x1) (L_X6_putInOrder_A ht I A J it dyn x1) J it dyn) := by rw [← hQ]; exact ⟨rfl, rfl⟩
  clear hQ
  have hq : Q none (fs_mk ht (Lb_X6_putInOrder_55_I 70 ht (Lb_X6_putInOrder_10_I 70 ht (upd I 6 0) A J it dyn x1 x1 0) (Lb_X6_putInOrder_10_A 70 ht (upd I 6 0) A J it dyn x1 x1 0) J it dyn x1 (Lb_X6_putInOrder_10_v3 70 ht (upd I 6 0) A J it dyn x1 x1 0) 0) (Lb_X6_putInOrder_55_A 70 ht (Lb_X6_putInOrder_10_I 70 ht (upd I 6 0) A J it dyn x1 x1 0) (Lb_X6_putInOrder_10_A 70 ht (upd I 6 0) A J it dyn x1 x1 0) J it dyn x1 (Lb_X6_putInOrder_10_v3 70 ht (upd I 6 0) A J it dyn x1 x1 0) 0) J it dyn) := hq
  have hS : ((S_Lb_X6_putInOrder_10 70 ht (upd I 6 0) A J it dyn x1 x1 0) ∧ (S_Lb_X6_putInOrder_55 70 ht (Lb_X6_putInOrder_10_I 70 ht (upd I 6 0) A J it dyn x1 x1 0) (Lb_X6_putInOrder_10_A 70 ht (upd I 6 0) A J it dyn x1 x1 0) J it dyn x1 (Lb_X6_putInOrder_10_v3 70 ht (upd I 6 0) A J it dyn x1 x1 0) 0)) := hS
  refine (show fsW G l mX6_putInOrder 2 0 0 0 0 Q 0 [(0, .inr (.inr (some 5))), (1, .inr (.inl x1))] [] (fs_mk ht I A J it dyn) from ?_)
  refine fs_lload_n dX6_putInOrder_0 rfl rfl ?_
  refine fs_lstore_n (L' := [(3, .inr (.inl x1)), (0, .inr (.inr (some 5))), (1, .inr (.inl x1))]) dX6_putInOrder_1 rfl (by decide) rfl ?_
  refine fs_aload_n dX6_putInOrder_2 rfl rfl ?_
  refine fs_iconst (v := 0) dX6_putInOrder_3 rfl ?_
  refine fsp_6 dX6_putInOrder_4 sp_X6_22 ?_
  refine fs_iconst (v := 0) dX6_putInOrder_7 rfl ?_
  refine fs_istore (L' := [(5, .inl 0), (3, .inr (.inl x1)), (0, .inr (.inr (some 5))), (1, .inr (.inl x1))]) dX6_putInOrder_8 (by decide) rfl ?_
  refine fs_reL [2, 3, 1, 0] rfl ?_
  obtain ⟨ho1, hS⟩ := hS
  refine lp_Lb_X6_putInOrder_10 G l Q 70 ht (upd I 6 0) A J it dyn x1 x1 0 ho1 ?_
  refine fs_iconst (v := 0) dX6_putInOrder_52 rfl ?_
  refine fs_istore (L' := [(5, .inl 0), (0, .inr (.inr (some 5))), (1, .inr (.inl x1)), (3, .inr (.inl (Lb_X6_putInOrder_10_v3 70 ht (upd I 6 0) A J it dyn x1 x1 0)))]) dX6_putInOrder_53 (by decide) rfl ?_
  refine fs_reL [1, 2, 3, 0] rfl ?_
  have ho1 := hS
  refine lp_Lb_X6_putInOrder_55 G l Q 70 ht (Lb_X6_putInOrder_10_I 70 ht (upd I 6 0) A J it dyn x1 x1 0) (Lb_X6_putInOrder_10_A 70 ht (upd I 6 0) A J it dyn x1 x1 0) J it dyn x1 (Lb_X6_putInOrder_10_v3 70 ht (upd I 6 0) A J it dyn x1 x1 0) 0 ho1 ?_
  have k9 := hq
  exact fs_ret dX6_putInOrder_134 rfl k9
def La_X6_total_5_r : Nat → Nat → (Nat → Int32) → (Nat → Nat → Int32) → (Nat → Nat → Int64) → (Nat → Option Nat) → fsH → Int32 → Int64 → Int32 → Int64
  | 0, ht, I, A, J, it, dyn, v1, v2, v4 => 0
  | n + 1, ht, I, A, J, it, dyn, v1, v2, v4 => (if (L_X1_rowsOf_r ht I A J it dyn v1) ≤ v4 then (L_X0_limited_r ht I A J it dyn v2) else (if (L_X7_isFault_r ht I A J it dyn (J 6 (L_X7_cellOf_r ht I A J it dyn v1 v4).toNatClampNeg)) = 0 then (La_X6_total_5_r n ht I A J it dyn v1 (v2 + (J 6 (L_X7_cellOf_r ht I A J it dyn v1 v4).toNatClampNeg)) (v4 + 1)) else (J 6 (L_X7_cellOf_r ht I A J it dyn v1 v4).toNatClampNeg)))
def S_La_X6_total_5 : Nat → Nat → (Nat → Int32) → (Nat → Nat → Int32) → (Nat → Nat → Int64) → (Nat → Option Nat) → fsH → Int32 → Int64 → Int32 → Prop
  | 0, _, _, _, _, _, _, _, _, _ => False
  | n + 1, ht, I, A, J, it, dyn, v1, v2, v4 => ((S_X1_rowsOf ht I A J it dyn v1) ∧ (¬ ((L_X1_rowsOf_r ht I A J it dyn v1) ≤ v4) → ((vp_in (L_X7_cellOf_r ht I A J it dyn v1 v4) 64) ∧ (((L_X7_isFault_r ht I A J it dyn (J 6 (L_X7_cellOf_r ht I A J it dyn v1 v4).toNatClampNeg)) = 0) → (S_La_X6_total_5 n ht I A J it dyn v1 (v2 + (J 6 (L_X7_cellOf_r ht I A J it dyn v1 v4).toNatClampNeg)) (v4 + 1))))))
set_option maxRecDepth 100000 in
set_option maxHeartbeats 4000000 in
theorem lp_La_X6_total_5 (G : fsG) (l : Launch) (Q : Option fsV → fsH → Prop) : ∀ (n : Nat) (ht : Nat) (I : Nat → Int32) (A : Nat → Nat → Int32) (J : Nat → Nat → Int64) (it : Nat → Option Nat) (dyn : fsH) (v1 : Int32) (v2 : Int64) (v4 : Int32), S_La_X6_total_5 n ht I A J it dyn v1 v2 v4 → (Q (some (.inr (.inl (La_X6_total_5_r n ht I A J it dyn v1 v2 v4)))) (fs_mk ht I A J it dyn)) → fsW G l mX6_total 1 0 0 0 0 Q 5 [(0, .inr (.inr (some 5))), (1, .inl v1), (2, .inr (.inl v2)), (4, .inl v4)] [] (fs_mk ht I A J it dyn) := by
  intro n
  induction n with
  | zero =>
    intro ht I A J it dyn v1 v2 v4 hS
    exact hS.elim
  | succ n ih =>
    intro ht I A J it dyn v1 v2 v4 hS hq
    have hS : ((S_X1_rowsOf ht I A J it dyn v1) ∧ (¬ ((L_X1_rowsOf_r ht I A J it dyn v1) ≤ v4) → ((vp_in (L_X7_cellOf_r ht I A J it dyn v1 v4) 64) ∧ (((L_X7_isFault_r ht I A J it dyn (J 6 (L_X7_cellOf_r ht I A J it dyn v1 v4).toNatClampNeg)) = 0) → (S_La_X6_total_5 n ht I A J it dyn v1 (v2 + (J 6 (L_X7_cellOf_r ht I A J it dyn v1 v4).toNatClampNeg)) (v4 + 1)))))) := hS
    have hq : Q (some (.inr (.inl (if (L_X1_rowsOf_r ht I A J it dyn v1) ≤ v4 then (L_X0_limited_r ht I A J it dyn v2) else (if (L_X7_isFault_r ht I A J it dyn (J 6 (L_X7_cellOf_r ht I A J it dyn v1 v4).toNatClampNeg)) = 0 then (La_X6_total_5_r n ht I A J it dyn v1 (v2 + (J 6 (L_X7_cellOf_r ht I A J it dyn v1 v4).toNatClampNeg)) (v4 + 1)) else (J 6 (L_X7_cellOf_r ht I A J it dyn v1 v4).toNatClampNeg)))))) (fs_mk ht I A J it dyn) := hq
    refine fs_iload dX6_total_5 rfl ?_
    refine fs_aload_n dX6_total_7 rfl rfl ?_
    refine fs_getfield (v := .inr (.inr (some 3))) dX6_total_8 sf_X6_26 rfl rfl ?_
    refine fs_iload_n dX6_total_11 rfl rfl ?_
    obtain ⟨ho1, hS⟩ := hS
    refine fs_callV1 dX6_total_12 sv_X6_69 rfl ⟨_, rfl, rfl⟩ (c_X1_rowsOf G l ht I A J it dyn v1 ho1) rfl rfl (Nat.le_of_ble_eq_true rfl) (Nat.le_of_ble_eq_true rfl) (Nat.le_of_ble_eq_true rfl) (Nat.le_of_ble_eq_true rfl) ?_
    refine fs_icmp_ge 53 dX6_total_15 (by decide) (fun c_15 : (L_X1_rowsOf_r ht I A J it dyn v1) ≤ v4 => ?_) (fun c_15 : ¬ ((L_X1_rowsOf_r ht I A J it dyn v1) ≤ v4) => ?_)
    · refine fs_lload_n dX6_total_53 rfl rfl ?_
      refine fs_callS1 dX6_total_54 sv_X6_153 (c_X0_limited G l ht I A J it dyn v2) rfl rfl (Nat.le_of_ble_eq_true rfl) (Nat.le_of_ble_eq_true rfl) (Nat.le_of_ble_eq_true rfl) (Nat.le_of_ble_eq_true rfl) ?_
      have k9 := hq
      try simp only [if_pos c_15] at k9 ⊢
      exact fs_lret dX6_total_57 rfl k9
    · have hS := hS c_15
      refine fs_aload_n dX6_total_18 rfl rfl ?_
      refine fs_getfield (v := .inr (.inr (some 6))) dX6_total_19 sf_X6_9 rfl rfl ?_
      refine fs_iload_n dX6_total_22 rfl rfl ?_
      refine fs_iload dX6_total_23 rfl ?_
      refine fs_callSN1 dX6_total_25 sv_X6_51 (c_X7_cellOf G l ht I A J it dyn v1 v4) rfl rfl (Nat.le_of_ble_eq_true rfl) (Nat.le_of_ble_eq_true rfl) (Nat.le_of_ble_eq_true rfl) (Nat.le_of_ble_eq_true rfl) ?_
      obtain ⟨ho1, hS⟩ := hS
      refine fs_laload dX6_total_28 rfl ho1 ?_
      refine fs_lstore (L' := [(5, .inr (.inl (J 6 (L_X7_cellOf_r ht I A J it dyn v1 v4).toNatClampNeg))), (0, .inr (.inr (some 5))), (1, .inl v1), (2, .inr (.inl v2)), (4, .inl v4)]) dX6_total_29 (by decide) rfl ?_
      refine fs_lload dX6_total_31 rfl ?_
      refine fs_callSN1 dX6_total_33 sv_X6_65 (c_X7_isFault G l ht I A J it dyn (J 6 (L_X7_cellOf_r ht I A J it dyn v1 v4).toNatClampNeg)) rfl rfl (Nat.le_of_ble_eq_true rfl) (Nat.le_of_ble_eq_true rfl) (Nat.le_of_ble_eq_true rfl) (Nat.le_of_ble_eq_true rfl) ?_
      refine fs_if_eq 42 dX6_total_36 (by decide) (fun c_36 : (L_X7_isFault_r ht I A J it dyn (J 6 (L_X7_cellOf_r ht I A J it dyn v1 v4).toNatClampNeg)) = 0 => ?_) (fun c_36 : ¬ ((L_X7_isFault_r ht I A J it dyn (J 6 (L_X7_cellOf_r ht I A J it dyn v1 v4).toNatClampNeg)) = 0) => ?_)
      · have hS := hS c_36
        refine fs_lload_n dX6_total_42 rfl rfl ?_
        refine fs_lload dX6_total_43 rfl ?_
        refine fs_ladd dX6_total_45 ?_
        refine fs_lstore_n (L' := [(2, .inr (.inl (v2 + (J 6 (L_X7_cellOf_r ht I A J it dyn v1 v4).toNatClampNeg)))), (5, .inr (.inl (J 6 (L_X7_cellOf_r ht I A J it dyn v1 v4).toNatClampNeg))), (0, .inr (.inr (some 5))), (1, .inl v1), (4, .inl v4)]) dX6_total_46 rfl (by decide) rfl ?_
        refine fs_iinc (v := (v4 + 1)) (L' := [(4, .inl (v4 + 1)), (2, .inr (.inl (v2 + (J 6 (L_X7_cellOf_r ht I A J it dyn v1 v4).toNatClampNeg)))), (5, .inr (.inl (J 6 (L_X7_cellOf_r ht I A J it dyn v1 v4).toNatClampNeg))), (0, .inr (.inr (some 5))), (1, .inl v1)]) dX6_total_47 rfl rfl (by decide) rfl ?_
        refine fs_goto 5 dX6_total_50 (by decide) ?_
        refine fs_reL [3, 4, 1, 0] rfl ?_
        have k9 := hq
        try simp only [if_neg c_15, if_pos c_36] at hS k9 ⊢
        exact ih _ _ _ _ _ _ _ _ _ hS k9
      · refine fs_lload dX6_total_39 rfl ?_
        have k9 := hq
        try simp only [if_neg c_15, if_neg c_36] at k9 ⊢
        exact fs_lret dX6_total_41 rfl k9
def L_X6_total_r (ht : Nat) (I : Nat → Int32) (A : Nat → Nat → Int32) (J : Nat → Nat → Int64) (it : Nat → Option Nat) (dyn : fsH) (x1 : Int32) : Int64 := (La_X6_total_5_r 70 ht I A J it dyn x1 0 0)
def S_X6_total (ht : Nat) (I : Nat → Int32) (A : Nat → Nat → Int32) (J : Nat → Nat → Int64) (it : Nat → Option Nat) (dyn : fsH) (x1 : Int32) : Prop := (S_La_X6_total_5 70 ht I A J it dyn x1 0 0)
set_option maxRecDepth 100000 in
set_option maxHeartbeats 4000000 in
theorem c_X6_total (G : fsG) (l : Launch) (ht : Nat) (I : Nat → Int32) (A : Nat → Nat → Int32) (J : Nat → Nat → Int64) (it : Nat → Option Nat) (dyn : fsH) (x1 : Int32) (hS : S_X6_total ht I A J it dyn x1) : fsFn G l mX6_total 1 0 0 [.inr (.inr (some 5)), .inl x1] (fs_mk ht I A J it dyn) (some (.inr (.inl (L_X6_total_r ht I A J it dyn x1)))) (fs_mk ht I A J it dyn) := by
  refine fsMet_of (by decide) (Nat.le_of_ble_eq_true rfl) ?_
  generalize hQ : (fun (r1 : Option fsV) (h1 : fsH) => r1 = (some (.inr (.inl (L_X6_total_r ht I A J it dyn x1)))) ∧ h1 = (fs_mk ht I A J it dyn)) = Q
  have hq : Q (some (.inr (.inl (L_X6_total_r ht I A J it dyn x1)))) (fs_mk ht I A J it dyn) := by rw [← hQ]; exact ⟨rfl, rfl⟩
  clear hQ
  have hq : Q (some (.inr (.inl (La_X6_total_5_r 70 ht I A J it dyn x1 0 0)))) (fs_mk ht I A J it dyn) := hq
  have hS : (S_La_X6_total_5 70 ht I A J it dyn x1 0 0) := hS
  refine (show fsW G l mX6_total 1 0 0 0 0 Q 0 [(0, .inr (.inr (some 5))), (1, .inl x1)] [] (fs_mk ht I A J it dyn) from ?_)
  refine fs_lconst (v := 0) dX6_total_0 rfl ?_
  refine fs_lstore_n (L' := [(2, .inr (.inl 0)), (0, .inr (.inr (some 5))), (1, .inl x1)]) dX6_total_1 rfl (by decide) rfl ?_
  refine fs_iconst (v := 0) dX6_total_2 rfl ?_
  refine fs_istore (L' := [(4, .inl 0), (2, .inr (.inl 0)), (0, .inr (.inr (some 5))), (1, .inl x1)]) dX6_total_3 (by decide) rfl ?_
  refine fs_reL [2, 3, 1, 0] rfl ?_
  have ho1 := hS
  have k9 := hq
  exact lp_La_X6_total_5 G l Q 70 _ _ _ _ _ _ _ _ _ ho1 k9
def L_X3_pageCount_r (ht : Nat) (I : Nat → Int32) (A : Nat → Nat → Int32) (J : Nat → Nat → Int64) (it : Nat → Option Nat) (dyn : fsH)  : Int32 := (if (A 10 0.toNatClampNeg) = 0 then 0 else ((I 7) + 1) : Int32)
def S_X3_pageCount (ht : Nat) (I : Nat → Int32) (A : Nat → Nat → Int32) (J : Nat → Nat → Int64) (it : Nat → Option Nat) (dyn : fsH)  : Prop := (vp_in 0 64)
set_option maxRecDepth 100000 in
set_option maxHeartbeats 4000000 in
theorem c_X3_pageCount (G : fsG) (l : Launch) (ht : Nat) (I : Nat → Int32) (A : Nat → Nat → Int32) (J : Nat → Nat → Int64) (it : Nat → Option Nat) (dyn : fsH)  (hS : S_X3_pageCount ht I A J it dyn ) : fsFn G l mX3_pageCount 0 0 0 [.inr (.inr (some 9))] (fs_mk ht I A J it dyn) (some (.inl (L_X3_pageCount_r ht I A J it dyn ))) (fs_mk ht I A J it dyn) := by
  refine fsMet_of (by decide) (Nat.le_of_ble_eq_true rfl) ?_
  generalize hQ : (fun (r1 : Option fsV) (h1 : fsH) => r1 = (some (.inl (L_X3_pageCount_r ht I A J it dyn ))) ∧ h1 = (fs_mk ht I A J it dyn)) = Q
  have hq : Q (some (.inl (L_X3_pageCount_r ht I A J it dyn ))) (fs_mk ht I A J it dyn) := by rw [← hQ]; exact ⟨rfl, rfl⟩
  clear hQ
  have hq : Q (some (.inl (if (A 10 0.toNatClampNeg) = 0 then 0 else ((I 7) + 1) : Int32))) (fs_mk ht I A J it dyn) := hq
  have hS : (vp_in 0 64) := hS
  refine (show fsW G l mX3_pageCount 0 0 0 0 0 Q 0 [(0, .inr (.inr (some 9)))] [] (fs_mk ht I A J it dyn) from ?_)
  refine fs_aload_n dX3_pageCount_0 rfl rfl ?_
  refine fs_getfield (v := .inr (.inr (some 10))) dX3_pageCount_1 sf_X3_9 rfl rfl ?_
  refine fs_iconst (v := 0) dX3_pageCount_4 rfl ?_
  have ho1 := hS
  refine fs_iaload dX3_pageCount_5 rfl ho1 ?_
  have key_19 : fsW G l mX3_pageCount 0 0 0 0 0 Q 19 [(0, .inr (.inr (some 9)))] [.inl (if (A 10 0.toNatClampNeg) = 0 then 0 else ((I 7) + 1) : Int32)] (fs_mk ht I A J it dyn) := by
    have k9 := hq
    exact fs_iret dX3_pageCount_19 rfl rfl k9
  refine fs_if_ne 13 dX3_pageCount_6 (by decide) (fun c_6 : ¬ (A 10 0.toNatClampNeg) = 0 => ?_) (fun c_6 : (A 10 0.toNatClampNeg) = 0 => ?_)
  · refine fs_aload_n dX3_pageCount_13 rfl rfl ?_
    refine fs_getfield (v := .inl (I 7)) dX3_pageCount_14 sf_X3_21 rfl rfl ?_
    refine fs_iconst (v := 1) dX3_pageCount_17 rfl ?_
    refine fs_iadd dX3_pageCount_18 ?_
    have k9 := key_19
    try simp only [if_neg c_6] at k9 ⊢
    exact k9
  · refine fs_iconst (v := 0) dX3_pageCount_9 rfl ?_
    refine fs_goto 19 dX3_pageCount_10 (by decide) ?_
    have k9 := key_19
    try simp only [if_pos c_6] at k9 ⊢
    exact k9
def L_X3_placeOf_r (ht : Nat) (I : Nat → Int32) (A : Nat → Nat → Int32) (J : Nat → Nat → Int64) (it : Nat → Option Nat) (dyn : fsH) (x1 : Int32) (x2 : Int32) : Int32 := (if (L_X1_has_r ht I A J it dyn x1 x2) = 0 then (-1) else (A 11 (L_X7_cellOf_r ht I A J it dyn x1 x2).toNatClampNeg) : Int32)
def S_X3_placeOf (ht : Nat) (I : Nat → Int32) (A : Nat → Nat → Int32) (J : Nat → Nat → Int64) (it : Nat → Option Nat) (dyn : fsH) (x1 : Int32) (x2 : Int32) : Prop := ((S_X1_has ht I A J it dyn x1 x2) ∧ (¬ ((L_X1_has_r ht I A J it dyn x1 x2) = 0) → (vp_in (L_X7_cellOf_r ht I A J it dyn x1 x2) 64)))
set_option maxRecDepth 100000 in
set_option maxHeartbeats 4000000 in
theorem c_X3_placeOf (G : fsG) (l : Launch) (ht : Nat) (I : Nat → Int32) (A : Nat → Nat → Int32) (J : Nat → Nat → Int64) (it : Nat → Option Nat) (dyn : fsH) (x1 : Int32) (x2 : Int32) (hS : S_X3_placeOf ht I A J it dyn x1 x2) : fsFn G l mX3_placeOf 2 0 0 [.inr (.inr (some 9)), .inl x1, .inl x2] (fs_mk ht I A J it dyn) (some (.inl (L_X3_placeOf_r ht I A J it dyn x1 x2))) (fs_mk ht I A J it dyn) := by
  refine fsMet_of (by decide) (Nat.le_of_ble_eq_true rfl) ?_
  generalize hQ : (fun (r1 : Option fsV) (h1 : fsH) => r1 = (some (.inl (L_X3_placeOf_r ht I A J it dyn x1 x2))) ∧ h1 = (fs_mk ht I A J it dyn)) = Q
  have hq : Q (some (.inl (L_X3_placeOf_r ht I A J it dyn x1 x2))) (fs_mk ht I A J it dyn) := by rw [← hQ]; exact ⟨rfl, rfl⟩
  clear hQ
  have hq : Q (some (.inl (if (L_X1_has_r ht I A J it dyn x1 x2) = 0 then (-1) else (A 11 (L_X7_cellOf_r ht I A J it dyn x1 x2).toNatClampNeg) : Int32))) (fs_mk ht I A J it dyn) := hq
  have hS : ((S_X1_has ht I A J it dyn x1 x2) ∧ (¬ ((L_X1_has_r ht I A J it dyn x1 x2) = 0) → (vp_in (L_X7_cellOf_r ht I A J it dyn x1 x2) 64))) := hS
  refine (show fsW G l mX3_placeOf 2 0 0 0 0 Q 0 [(0, .inr (.inr (some 9))), (1, .inl x1), (2, .inl x2)] [] (fs_mk ht I A J it dyn) from ?_)
  refine fs_aload_n dX3_placeOf_0 rfl rfl ?_
  refine fs_getfield (v := .inr (.inr (some 3))) dX3_placeOf_1 sf_X3_25 rfl rfl ?_
  refine fs_iload_n dX3_placeOf_4 rfl rfl ?_
  refine fs_iload_n dX3_placeOf_5 rfl rfl ?_
  obtain ⟨ho1, hS⟩ := hS
  refine fs_callV1 dX3_placeOf_6 sv_X3_39 rfl ⟨_, rfl, rfl⟩ (c_X1_has G l ht I A J it dyn x1 x2 ho1) rfl rfl (Nat.le_of_ble_eq_true rfl) (Nat.le_of_ble_eq_true rfl) (Nat.le_of_ble_eq_true rfl) (Nat.le_of_ble_eq_true rfl) ?_
  have hR_9 := hS
  have key_26 : fsW G l mX3_placeOf 2 0 0 0 0 Q 26 [(0, .inr (.inr (some 9))), (1, .inl x1), (2, .inl x2)] [.inl (if (L_X1_has_r ht I A J it dyn x1 x2) = 0 then (-1) else (A 11 (L_X7_cellOf_r ht I A J it dyn x1 x2).toNatClampNeg) : Int32)] (fs_mk ht I A J it dyn) := by
    have k9 := hq
    exact fs_iret dX3_placeOf_26 rfl rfl k9
  refine fs_if_eq 25 dX3_placeOf_9 (by decide) (fun c_9 : (L_X1_has_r ht I A J it dyn x1 x2) = 0 => ?_) (fun c_9 : ¬ ((L_X1_has_r ht I A J it dyn x1 x2) = 0) => ?_)
  · refine fs_iconst (v := (-1)) dX3_placeOf_25 rfl ?_
    have k9 := key_26
    try simp only [if_pos c_9] at k9 ⊢
    exact k9
  · have hS := hR_9 c_9
    refine fs_aload_n dX3_placeOf_12 rfl rfl ?_
    refine fs_getfield (v := .inr (.inr (some 11))) dX3_placeOf_13 sf_X3_15 rfl rfl ?_
    refine fs_iload_n dX3_placeOf_16 rfl rfl ?_
    refine fs_iload_n dX3_placeOf_17 rfl rfl ?_
    refine fs_callSN1 dX3_placeOf_18 sv_X3_45 (c_X7_cellOf G l ht I A J it dyn x1 x2) rfl rfl (Nat.le_of_ble_eq_true rfl) (Nat.le_of_ble_eq_true rfl) (Nat.le_of_ble_eq_true rfl) (Nat.le_of_ble_eq_true rfl) ?_
    have ho1 := hS
    refine fs_iaload dX3_placeOf_21 rfl ho1 ?_
    refine fs_goto 26 dX3_placeOf_22 (by decide) ?_
    have k9 := key_26
    try simp only [if_neg c_9] at k9 ⊢
    exact k9
def L_X3_standsAt_r (ht : Nat) (I : Nat → Int32) (A : Nat → Nat → Int32) (J : Nat → Nat → Int64) (it : Nat → Option Nat) (dyn : fsH) (x1 : Int32) (x2 : Int32) : Int32 := (if x1 < 0 then (-1) else (if (I 7) < x1 then (-1) else (if x2 < 0 then (-1) else (if x2 < (A 10 x1.toNatClampNeg) then (A 13 ((x1 * (nI ht)) + x2).toNatClampNeg) else (-1)))))
def S_X3_standsAt (ht : Nat) (I : Nat → Int32) (A : Nat → Nat → Int32) (J : Nat → Nat → Int64) (it : Nat → Option Nat) (dyn : fsH) (x1 : Int32) (x2 : Int32) : Prop := (¬ (x1 < 0) → (¬ ((I 7) < x1) → (¬ (x2 < 0) → ((vp_in x1 64) ∧ ((x2 < (A 10 x1.toNatClampNeg)) → (vp_in ((x1 * (nI ht)) + x2) (64 * ht)))))))
set_option maxRecDepth 100000 in
set_option maxHeartbeats 4000000 in
theorem c_X3_standsAt (G : fsG) (l : Launch) (ht : Nat) (I : Nat → Int32) (A : Nat → Nat → Int32) (J : Nat → Nat → Int64) (it : Nat → Option Nat) (dyn : fsH) (x1 : Int32) (x2 : Int32) (hS : S_X3_standsAt ht I A J it dyn x1 x2) : fsFn G l mX3_standsAt 0 0 0 [.inr (.inr (some 9)), .inl x1, .inl x2] (fs_mk ht I A J it dyn) (some (.inl (L_X3_standsAt_r ht I A J it dyn x1 x2))) (fs_mk ht I A J it dyn) := by
  refine fsMet_of (by decide) (Nat.le_of_ble_eq_true rfl) ?_
  generalize hQ : (fun (r1 : Option fsV) (h1 : fsH) => r1 = (some (.inl (L_X3_standsAt_r ht I A J it dyn x1 x2))) ∧ h1 = (fs_mk ht I A J it dyn)) = Q
  have hq : Q (some (.inl (L_X3_standsAt_r ht I A J it dyn x1 x2))) (fs_mk ht I A J it dyn) := by rw [← hQ]; exact ⟨rfl, rfl⟩
  clear hQ
  have hq : Q (some (.inl (if x1 < 0 then (-1) else (if (I 7) < x1 then (-1) else (if x2 < 0 then (-1) else (if x2 < (A 10 x1.toNatClampNeg) then (A 13 ((x1 * (nI ht)) + x2).toNatClampNeg) else (-1))))))) (fs_mk ht I A J it dyn) := hq
  have hS : (¬ (x1 < 0) → (¬ ((I 7) < x1) → (¬ (x2 < 0) → ((vp_in x1 64) ∧ ((x2 < (A 10 x1.toNatClampNeg)) → (vp_in ((x1 * (nI ht)) + x2) (64 * ht))))))) := hS
  refine (show fsW G l mX3_standsAt 0 0 0 0 0 Q 0 [(0, .inr (.inr (some 9))), (1, .inl x1), (2, .inl x2)] [] (fs_mk ht I A J it dyn) from ?_)
  refine fs_iload_n dX3_standsAt_0 rfl rfl ?_
  refine fs_if_lt 26 dX3_standsAt_1 (by decide) (fun c_1 : x1 < 0 => ?_) (fun c_1 : ¬ (x1 < 0) => ?_)
  · refine fs_iconst (v := (-1)) dX3_standsAt_26 rfl ?_
    have k9 := hq
    try simp only [if_pos c_1] at k9 ⊢
    exact fs_iret dX3_standsAt_27 rfl rfl k9
  · have hS := hS c_1
    refine fs_iload_n dX3_standsAt_4 rfl rfl ?_
    refine fs_aload_n dX3_standsAt_5 rfl rfl ?_
    refine fs_getfield (v := .inl (I 7)) dX3_standsAt_6 sf_X3_21 rfl rfl ?_
    refine fs_icmp_gt 26 dX3_standsAt_9 (by decide) (fun c_9 : (I 7) < x1 => ?_) (fun c_9 : ¬ ((I 7) < x1) => ?_)
    · refine fs_iconst (v := (-1)) dX3_standsAt_26 rfl ?_
      have k9 := hq
      try simp only [if_neg c_1, if_pos c_9] at k9 ⊢
      exact fs_iret dX3_standsAt_27 rfl rfl k9
    · have hS := hS c_9
      refine fs_iload_n dX3_standsAt_12 rfl rfl ?_
      refine fs_if_lt 26 dX3_standsAt_13 (by decide) (fun c_13 : x2 < 0 => ?_) (fun c_13 : ¬ (x2 < 0) => ?_)
      · refine fs_iconst (v := (-1)) dX3_standsAt_26 rfl ?_
        have k9 := hq
        try simp only [if_neg c_1, if_neg c_9, if_pos c_13] at k9 ⊢
        exact fs_iret dX3_standsAt_27 rfl rfl k9
      · have hS := hS c_13
        refine fs_iload_n dX3_standsAt_16 rfl rfl ?_
        refine fs_aload_n dX3_standsAt_17 rfl rfl ?_
        refine fs_getfield (v := .inr (.inr (some 10))) dX3_standsAt_18 sf_X3_9 rfl rfl ?_
        refine fs_iload_n dX3_standsAt_21 rfl rfl ?_
        obtain ⟨ho1, hS⟩ := hS
        refine fs_iaload dX3_standsAt_22 rfl ho1 ?_
        refine fs_icmp_lt 28 dX3_standsAt_23 (by decide) (fun c_23 : x2 < (A 10 x1.toNatClampNeg) => ?_) (fun c_23 : ¬ (x2 < (A 10 x1.toNatClampNeg)) => ?_)
        · have hS := hS c_23
          refine fs_aload_n dX3_standsAt_28 rfl rfl ?_
          refine fs_getfield (v := .inr (.inr (some 13))) dX3_standsAt_29 sf_X3_36 rfl rfl ?_
          refine fs_iload_n dX3_standsAt_32 rfl rfl ?_
          refine fs_aload_n dX3_standsAt_33 rfl rfl ?_
          refine fs_getfield (v := .inl (nI ht)) dX3_standsAt_34 sf_X3_33 rfl rfl ?_
          refine fs_imul dX3_standsAt_37 ?_
          refine fs_iload_n dX3_standsAt_38 rfl rfl ?_
          refine fs_iadd dX3_standsAt_39 ?_
          have ho1 := hS
          refine fs_iaload dX3_standsAt_40 rfl ho1 ?_
          have k9 := hq
          try simp only [if_neg c_1, if_neg c_9, if_neg c_13, if_pos c_23] at k9 ⊢
          exact fs_iret dX3_standsAt_41 rfl rfl k9
        · refine fs_iconst (v := (-1)) dX3_standsAt_26 rfl ?_
          have k9 := hq
          try simp only [if_neg c_1, if_neg c_9, if_neg c_13, if_neg c_23] at k9 ⊢
          exact fs_iret dX3_standsAt_27 rfl rfl k9
def L_X3_turnPage_r (ht : Nat) (I : Nat → Int32) (A : Nat → Nat → Int32) (J : Nat → Nat → Int64) (it : Nat → Option Nat) (dyn : fsH) (x1 : Int32) : Int32 := (if (A 10 (I 7).toNatClampNeg) = 0 then 0 else (if x1 ≤ ((nI ht) - (A 10 (I 7).toNatClampNeg)) then 0 else (if ((I 7) + 1) < 64 then 1 else 0)))
def L_X3_turnPage_I (ht : Nat) (I : Nat → Int32) (A : Nat → Nat → Int32) (J : Nat → Nat → Int64) (it : Nat → Option Nat) (dyn : fsH) (x1 : Int32) : Nat → Int32 := (if (A 10 (I 7).toNatClampNeg) = 0 then I else (if x1 ≤ ((nI ht) - (A 10 (I 7).toNatClampNeg)) then I else (if ((I 7) + 1) < 64 then (upd I 7 ((I 7) + 1)) else I)))
def S_X3_turnPage (ht : Nat) (I : Nat → Int32) (A : Nat → Nat → Int32) (J : Nat → Nat → Int64) (it : Nat → Option Nat) (dyn : fsH) (x1 : Int32) : Prop := ((vp_in (I 7) 64) ∧ (¬ ((A 10 (I 7).toNatClampNeg) = 0) → (vp_in (I 7) 64)))
set_option maxRecDepth 100000 in
set_option maxHeartbeats 4000000 in
theorem c_X3_turnPage (G : fsG) (l : Launch) (ht : Nat) (I : Nat → Int32) (A : Nat → Nat → Int32) (J : Nat → Nat → Int64) (it : Nat → Option Nat) (dyn : fsH) (x1 : Int32) (hS : S_X3_turnPage ht I A J it dyn x1) : fsFn G l mX3_turnPage 0 0 0 [.inr (.inr (some 9)), .inl x1] (fs_mk ht I A J it dyn) (some (.inl (L_X3_turnPage_r ht I A J it dyn x1))) (fs_mk ht (L_X3_turnPage_I ht I A J it dyn x1) A J it dyn) := by
  refine fsMet_of (by decide) (Nat.le_of_ble_eq_true rfl) ?_
  generalize hQ : (fun (r1 : Option fsV) (h1 : fsH) => r1 = (some (.inl (L_X3_turnPage_r ht I A J it dyn x1))) ∧ h1 = (fs_mk ht (L_X3_turnPage_I ht I A J it dyn x1) A J it dyn)) = Q
  have hq : Q (some (.inl (L_X3_turnPage_r ht I A J it dyn x1))) (fs_mk ht (L_X3_turnPage_I ht I A J it dyn x1) A J it dyn) := by rw [← hQ]; exact ⟨rfl, rfl⟩
  clear hQ
  have hq : Q (some (.inl (if (A 10 (I 7).toNatClampNeg) = 0 then 0 else (if x1 ≤ ((nI ht) - (A 10 (I 7).toNatClampNeg)) then 0 else (if ((I 7) + 1) < 64 then 1 else 0))))) (fs_mk ht (if (A 10 (I 7).toNatClampNeg) = 0 then I else (if x1 ≤ ((nI ht) - (A 10 (I 7).toNatClampNeg)) then I else (if ((I 7) + 1) < 64 then (upd I 7 ((I 7) + 1)) else I))) A J it dyn) := hq
  have hS : ((vp_in (I 7) 64) ∧ (¬ ((A 10 (I 7).toNatClampNeg) = 0) → (vp_in (I 7) 64))) := hS
  refine (show fsW G l mX3_turnPage 0 0 0 0 0 Q 0 [(0, .inr (.inr (some 9))), (1, .inl x1)] [] (fs_mk ht I A J it dyn) from ?_)
  refine fs_aload_n dX3_turnPage_0 rfl rfl ?_
  refine fs_getfield (v := .inr (.inr (some 10))) dX3_turnPage_1 sf_X3_9 rfl rfl ?_
  refine fs_aload_n dX3_turnPage_4 rfl rfl ?_
  refine fs_getfield (v := .inl (I 7)) dX3_turnPage_5 sf_X3_21 rfl rfl ?_
  obtain ⟨ho1, hS⟩ := hS
  refine fs_iaload dX3_turnPage_8 rfl ho1 ?_
  refine fs_if_eq 41 dX3_turnPage_9 (by decide) (fun c_9 : (A 10 (I 7).toNatClampNeg) = 0 => ?_) (fun c_9 : ¬ ((A 10 (I 7).toNatClampNeg) = 0) => ?_)
  · refine fs_iconst (v := 0) dX3_turnPage_41 rfl ?_
    have k9 := hq
    try simp only [if_pos c_9] at k9 ⊢
    exact fs_iret dX3_turnPage_42 rfl rfl k9
  · have hS := hS c_9
    refine fs_iload_n dX3_turnPage_12 rfl rfl ?_
    refine fs_aload_n dX3_turnPage_13 rfl rfl ?_
    refine fs_getfield (v := .inl (nI ht)) dX3_turnPage_14 sf_X3_33 rfl rfl ?_
    refine fs_aload_n dX3_turnPage_17 rfl rfl ?_
    refine fs_getfield (v := .inr (.inr (some 10))) dX3_turnPage_18 sf_X3_9 rfl rfl ?_
    refine fs_aload_n dX3_turnPage_21 rfl rfl ?_
    refine fs_getfield (v := .inl (I 7)) dX3_turnPage_22 sf_X3_21 rfl rfl ?_
    have ho1 := hS
    refine fs_iaload dX3_turnPage_25 rfl ho1 ?_
    refine fs_isub dX3_turnPage_26 ?_
    refine fs_icmp_le 41 dX3_turnPage_27 (by decide) (fun c_27 : x1 ≤ ((nI ht) - (A 10 (I 7).toNatClampNeg)) => ?_) (fun c_27 : ¬ (x1 ≤ ((nI ht) - (A 10 (I 7).toNatClampNeg))) => ?_)
    · refine fs_iconst (v := 0) dX3_turnPage_41 rfl ?_
      have k9 := hq
      try simp only [if_neg c_9, if_pos c_27] at k9 ⊢
      exact fs_iret dX3_turnPage_42 rfl rfl k9
    · refine fs_aload_n dX3_turnPage_30 rfl rfl ?_
      refine fs_getfield (v := .inl (I 7)) dX3_turnPage_31 sf_X3_21 rfl rfl ?_
      refine fs_iconst (v := 1) dX3_turnPage_34 rfl ?_
      refine fs_iadd dX3_turnPage_35 ?_
      refine fs_bipush (v := 64) dX3_turnPage_36 rfl ?_
      refine fs_icmp_lt 43 dX3_turnPage_38 (by decide) (fun c_38 : ((I 7) + 1) < 64 => ?_) (fun c_38 : ¬ (((I 7) + 1) < 64) => ?_)
      · refine fs_aload_n dX3_turnPage_43 rfl rfl ?_
        refine fs_dup dX3_turnPage_44 rfl ?_
        refine fs_getfield (v := .inl (I 7)) dX3_turnPage_45 sf_X3_21 rfl rfl ?_
        refine fs_iconst (v := 1) dX3_turnPage_48 rfl ?_
        refine fs_iadd dX3_turnPage_49 ?_
        refine fsp_7 dX3_turnPage_50 sp_X3_21 ?_
        refine fs_iconst (v := 1) dX3_turnPage_53 rfl ?_
        have k9 := hq
        try simp only [if_neg c_9, if_neg c_27, if_pos c_38] at k9 ⊢
        exact fs_iret dX3_turnPage_54 rfl rfl k9
      · refine fs_iconst (v := 0) dX3_turnPage_41 rfl ?_
        have k9 := hq
        try simp only [if_neg c_9, if_neg c_27, if_neg c_38] at k9 ⊢
        exact fs_iret dX3_turnPage_42 rfl rfl k9
theorem nb_X3_turnPage (ht : Nat) (I : Nat → Int32) (A : Nat → Nat → Int32) (J : Nat → Nat → Int64) (it : Nat → Option Nat) (dyn : fsH) (x1 : Int32) : narrow .boolean (.int (L_X3_turnPage_r ht I A J it dyn x1)) = .int (L_X3_turnPage_r ht I A J it dyn x1) := by
  unfold L_X3_turnPage_r
  exact (by (repeat' split) <;> first | rfl)
def Lb_X3_putLines_72_A : Nat → Nat → (Nat → Int32) → (Nat → Nat → Int32) → (Nat → Nat → Int64) → (Nat → Option Nat) → fsH → Int32 → Int32 → Int32 → Int32 → Int32 → (Nat → Nat → Int32)
  | 0, ht, I, A, J, it, dyn, v1, v2, v3, v4, v5 => A
  | n + 1, ht, I, A, J, it, dyn, v1, v2, v3, v4, v5 => (if v4 ≤ v5 then A else (Lb_X3_putLines_72_A n ht I (va_up (va_up A 13 (upd (A 13) (((I 7) * (nI ht)) + (A 10 (I 7).toNatClampNeg)).toNatClampNeg ((8 * v1) + v2))) 10 (upd ((va_up A 13 (upd (A 13) (((I 7) * (nI ht)) + (A 10 (I 7).toNatClampNeg)).toNatClampNeg ((8 * v1) + v2))) 10) (I 7).toNatClampNeg (((va_up A 13 (upd (A 13) (((I 7) * (nI ht)) + (A 10 (I 7).toNatClampNeg)).toNatClampNeg ((8 * v1) + v2))) 10 (I 7).toNatClampNeg) + 1))) J it dyn v1 v2 v3 v4 (v5 + 1)))
def Lb_X3_putLines_72_v5 : Nat → Nat → (Nat → Int32) → (Nat → Nat → Int32) → (Nat → Nat → Int64) → (Nat → Option Nat) → fsH → Int32 → Int32 → Int32 → Int32 → Int32 → Int32
  | 0, ht, I, A, J, it, dyn, v1, v2, v3, v4, v5 => v5
  | n + 1, ht, I, A, J, it, dyn, v1, v2, v3, v4, v5 => (if v4 ≤ v5 then v5 else (Lb_X3_putLines_72_v5 n ht I (va_up (va_up A 13 (upd (A 13) (((I 7) * (nI ht)) + (A 10 (I 7).toNatClampNeg)).toNatClampNeg ((8 * v1) + v2))) 10 (upd ((va_up A 13 (upd (A 13) (((I 7) * (nI ht)) + (A 10 (I 7).toNatClampNeg)).toNatClampNeg ((8 * v1) + v2))) 10) (I 7).toNatClampNeg (((va_up A 13 (upd (A 13) (((I 7) * (nI ht)) + (A 10 (I 7).toNatClampNeg)).toNatClampNeg ((8 * v1) + v2))) 10 (I 7).toNatClampNeg) + 1))) J it dyn v1 v2 v3 v4 (v5 + 1)))
def S_Lb_X3_putLines_72 : Nat → Nat → (Nat → Int32) → (Nat → Nat → Int32) → (Nat → Nat → Int64) → (Nat → Option Nat) → fsH → Int32 → Int32 → Int32 → Int32 → Int32 → Prop
  | 0, _, _, _, _, _, _, _, _, _, _, _ => False
  | n + 1, ht, I, A, J, it, dyn, v1, v2, v3, v4, v5 => (¬ (v4 ≤ v5) → ((vp_in (I 7) 64) ∧ ((vp_in (((I 7) * (nI ht)) + (A 10 (I 7).toNatClampNeg)) (64 * ht)) ∧ ((vp_in (I 7) 64) ∧ ((vp_in (I 7) 64) ∧ (S_Lb_X3_putLines_72 n ht I (va_up (va_up A 13 (upd (A 13) (((I 7) * (nI ht)) + (A 10 (I 7).toNatClampNeg)).toNatClampNeg ((8 * v1) + v2))) 10 (upd ((va_up A 13 (upd (A 13) (((I 7) * (nI ht)) + (A 10 (I 7).toNatClampNeg)).toNatClampNeg ((8 * v1) + v2))) 10) (I 7).toNatClampNeg (((va_up A 13 (upd (A 13) (((I 7) * (nI ht)) + (A 10 (I 7).toNatClampNeg)).toNatClampNeg ((8 * v1) + v2))) 10 (I 7).toNatClampNeg) + 1))) J it dyn v1 v2 v3 v4 (v5 + 1)))))))
set_option maxRecDepth 100000 in
set_option maxHeartbeats 4000000 in
theorem lp_Lb_X3_putLines_72 (G : fsG) (l : Launch) (Q : Option fsV → fsH → Prop) : ∀ (n : Nat) (ht : Nat) (I : Nat → Int32) (A : Nat → Nat → Int32) (J : Nat → Nat → Int64) (it : Nat → Option Nat) (dyn : fsH) (v1 : Int32) (v2 : Int32) (v3 : Int32) (v4 : Int32) (v5 : Int32), S_Lb_X3_putLines_72 n ht I A J it dyn v1 v2 v3 v4 v5 → (fsW G l mX3_putLines 1 0 0 0 0 Q 128 [(0, .inr (.inr (some 9))), (1, .inl v1), (2, .inl v2), (3, .inl v3), (4, .inl v4), (5, .inl (Lb_X3_putLines_72_v5 n ht I A J it dyn v1 v2 v3 v4 v5))] [] (fs_mk ht I (Lb_X3_putLines_72_A n ht I A J it dyn v1 v2 v3 v4 v5) J it dyn)) → fsW G l mX3_putLines 1 0 0 0 0 Q 72 [(0, .inr (.inr (some 9))), (1, .inl v1), (2, .inl v2), (3, .inl v3), (4, .inl v4), (5, .inl v5)] [] (fs_mk ht I A J it dyn) := by
  intro n
  induction n with
  | zero =>
    intro ht I A J it dyn v1 v2 v3 v4 v5 hS
    exact hS.elim
  | succ n ih =>
    intro ht I A J it dyn v1 v2 v3 v4 v5 hS hq
    have hS : (¬ (v4 ≤ v5) → ((vp_in (I 7) 64) ∧ ((vp_in (((I 7) * (nI ht)) + (A 10 (I 7).toNatClampNeg)) (64 * ht)) ∧ ((vp_in (I 7) 64) ∧ ((vp_in (I 7) 64) ∧ (S_Lb_X3_putLines_72 n ht I (va_up (va_up A 13 (upd (A 13) (((I 7) * (nI ht)) + (A 10 (I 7).toNatClampNeg)).toNatClampNeg ((8 * v1) + v2))) 10 (upd ((va_up A 13 (upd (A 13) (((I 7) * (nI ht)) + (A 10 (I 7).toNatClampNeg)).toNatClampNeg ((8 * v1) + v2))) 10) (I 7).toNatClampNeg (((va_up A 13 (upd (A 13) (((I 7) * (nI ht)) + (A 10 (I 7).toNatClampNeg)).toNatClampNeg ((8 * v1) + v2))) 10 (I 7).toNatClampNeg) + 1))) J it dyn v1 v2 v3 v4 (v5 + 1))))))) := hS
    have hq : fsW G l mX3_putLines 1 0 0 0 0 Q 128 [(0, .inr (.inr (some 9))), (1, .inl v1), (2, .inl v2), (3, .inl v3), (4, .inl v4), (5, .inl (if v4 ≤ v5 then v5 else (Lb_X3_putLines_72_v5 n ht I (va_up (va_up A 13 (upd (A 13) (((I 7) * (nI ht)) + (A 10 (I 7).toNatClampNeg)).toNatClampNeg ((8 * v1) + v2))) 10 (upd ((va_up A 13 (upd (A 13) (((I 7) * (nI ht)) + (A 10 (I 7).toNatClampNeg)).toNatClampNeg ((8 * v1) + v2))) 10) (I 7).toNatClampNeg (((va_up A 13 (upd (A 13) (((I 7) * (nI ht)) + (A 10 (I 7).toNatClampNeg)).toNatClampNeg ((8 * v1) + v2))) 10 (I 7).toNatClampNeg) + 1))) J it dyn v1 v2 v3 v4 (v5 + 1))))] [] (fs_mk ht I (if v4 ≤ v5 then A else (Lb_X3_putLines_72_A n ht I (va_up (va_up A 13 (upd (A 13) (((I 7) * (nI ht)) + (A 10 (I 7).toNatClampNeg)).toNatClampNeg ((8 * v1) + v2))) 10 (upd ((va_up A 13 (upd (A 13) (((I 7) * (nI ht)) + (A 10 (I 7).toNatClampNeg)).toNatClampNeg ((8 * v1) + v2))) 10) (I 7).toNatClampNeg (((va_up A 13 (upd (A 13) (((I 7) * (nI ht)) + (A 10 (I 7).toNatClampNeg)).toNatClampNeg ((8 * v1) + v2))) 10 (I 7).toNatClampNeg) + 1))) J it dyn v1 v2 v3 v4 (v5 + 1))) J it dyn) := hq
    refine fs_iload dX3_putLines_72 rfl ?_
    refine fs_iload dX3_putLines_74 rfl ?_
    refine fs_icmp_ge 128 dX3_putLines_76 (by decide) (fun c_76 : v4 ≤ v5 => ?_) (fun c_76 : ¬ (v4 ≤ v5) => ?_)
    · have k9 := hq
      try simp only [if_pos c_76] at k9 ⊢
      exact k9
    · have hS := hS c_76
      refine fs_aload_n dX3_putLines_79 rfl rfl ?_
      refine fs_getfield (v := .inr (.inr (some 13))) dX3_putLines_80 sf_X3_36 rfl rfl ?_
      refine fs_aload_n dX3_putLines_83 rfl rfl ?_
      refine fs_getfield (v := .inl (I 7)) dX3_putLines_84 sf_X3_21 rfl rfl ?_
      refine fs_aload_n dX3_putLines_87 rfl rfl ?_
      refine fs_getfield (v := .inl (nI ht)) dX3_putLines_88 sf_X3_33 rfl rfl ?_
      refine fs_imul dX3_putLines_91 ?_
      refine fs_aload_n dX3_putLines_92 rfl rfl ?_
      refine fs_getfield (v := .inr (.inr (some 10))) dX3_putLines_93 sf_X3_9 rfl rfl ?_
      refine fs_aload_n dX3_putLines_96 rfl rfl ?_
      refine fs_getfield (v := .inl (I 7)) dX3_putLines_97 sf_X3_21 rfl rfl ?_
      obtain ⟨ho1, hS⟩ := hS
      refine fs_iaload dX3_putLines_100 rfl ho1 ?_
      refine fs_iadd dX3_putLines_101 ?_
      refine fs_bipush (v := 8) dX3_putLines_102 rfl ?_
      refine fs_iload_n dX3_putLines_104 rfl rfl ?_
      refine fs_imul dX3_putLines_105 ?_
      refine fs_iload_n dX3_putLines_106 rfl rfl ?_
      refine fs_iadd dX3_putLines_107 ?_
      obtain ⟨ho1, hS⟩ := hS
      refine fss_13 dX3_putLines_108 ho1 ?_
      refine fs_aload_n dX3_putLines_109 rfl rfl ?_
      refine fs_getfield (v := .inr (.inr (some 10))) dX3_putLines_110 sf_X3_9 rfl rfl ?_
      refine fs_aload_n dX3_putLines_113 rfl rfl ?_
      refine fs_getfield (v := .inl (I 7)) dX3_putLines_114 sf_X3_21 rfl rfl ?_
      refine fs_dup2 dX3_putLines_117 rfl rfl ?_
      obtain ⟨ho1, hS⟩ := hS
      refine fs_iaload dX3_putLines_118 rfl ho1 ?_
      refine fs_iconst (v := 1) dX3_putLines_119 rfl ?_
      refine fs_iadd dX3_putLines_120 ?_
      obtain ⟨ho1, hS⟩ := hS
      refine fss_10 dX3_putLines_121 ho1 ?_
      refine fs_iinc (v := (v5 + 1)) (L' := [(5, .inl (v5 + 1)), (0, .inr (.inr (some 9))), (1, .inl v1), (2, .inl v2), (3, .inl v3), (4, .inl v4)]) dX3_putLines_122 rfl rfl (by decide) rfl ?_
      refine fs_goto 72 dX3_putLines_125 (by decide) ?_
      refine fs_reL [1, 2, 3, 4, 5, 0] rfl ?_
      have k9 := hq
      try simp only [if_neg c_76] at hS k9 ⊢
      exact ih _ _ _ _ _ _ _ _ _ _ _ hS k9
def L_X3_putLines_A (ht : Nat) (I : Nat → Int32) (A : Nat → Nat → Int32) (J : Nat → Nat → Int64) (it : Nat → Option Nat) (dyn : fsH) (x1 : Int32) (x2 : Int32) : Nat → Nat → Int32 := (Lb_X3_putLines_72_A 70 ht I (if (if ((nI ht) - (A 10 (I 7).toNatClampNeg)) < (A 12 (L_X7_cellOf_r ht I A J it dyn x1 x2).toNatClampNeg) then ((nI ht) - (A 10 (I 7).toNatClampNeg)) else (A 12 (L_X7_cellOf_r ht I A J it dyn x1 x2).toNatClampNeg)) ≤ 0 then A else (if (A 11 (L_X7_cellOf_r ht I A J it dyn x1 x2).toNatClampNeg) = (-1) then (va_up A 11 (upd (A 11) (L_X7_cellOf_r ht I A J it dyn x1 x2).toNatClampNeg ((32 * (I 7)) + (A 10 (I 7).toNatClampNeg)))) else A)) J it dyn x1 x2 (L_X7_cellOf_r ht I A J it dyn x1 x2) (if ((nI ht) - (A 10 (I 7).toNatClampNeg)) < (A 12 (L_X7_cellOf_r ht I A J it dyn x1 x2).toNatClampNeg) then ((nI ht) - (A 10 (I 7).toNatClampNeg)) else (A 12 (L_X7_cellOf_r ht I A J it dyn x1 x2).toNatClampNeg)) 0)
def S_X3_putLines (ht : Nat) (I : Nat → Int32) (A : Nat → Nat → Int32) (J : Nat → Nat → Int64) (it : Nat → Option Nat) (dyn : fsH) (x1 : Int32) (x2 : Int32) : Prop := ((vp_in (L_X7_cellOf_r ht I A J it dyn x1 x2) 64) ∧ ((vp_in (I 7) 64) ∧ ((¬ ((if ((nI ht) - (A 10 (I 7).toNatClampNeg)) < (A 12 (L_X7_cellOf_r ht I A J it dyn x1 x2).toNatClampNeg) then ((nI ht) - (A 10 (I 7).toNatClampNeg)) else (A 12 (L_X7_cellOf_r ht I A J it dyn x1 x2).toNatClampNeg)) ≤ 0) → ((vp_in (L_X7_cellOf_r ht I A J it dyn x1 x2) 64) ∧ (((A 11 (L_X7_cellOf_r ht I A J it dyn x1 x2).toNatClampNeg) = (-1)) → ((vp_in (I 7) 64) ∧ (vp_in (L_X7_cellOf_r ht I A J it dyn x1 x2) 64))))) ∧ (S_Lb_X3_putLines_72 70 ht I (if (if ((nI ht) - (A 10 (I 7).toNatClampNeg)) < (A 12 (L_X7_cellOf_r ht I A J it dyn x1 x2).toNatClampNeg) then ((nI ht) - (A 10 (I 7).toNatClampNeg)) else (A 12 (L_X7_cellOf_r ht I A J it dyn x1 x2).toNatClampNeg)) ≤ 0 then A else (if (A 11 (L_X7_cellOf_r ht I A J it dyn x1 x2).toNatClampNeg) = (-1) then (va_up A 11 (upd (A 11) (L_X7_cellOf_r ht I A J it dyn x1 x2).toNatClampNeg ((32 * (I 7)) + (A 10 (I 7).toNatClampNeg)))) else A)) J it dyn x1 x2 (L_X7_cellOf_r ht I A J it dyn x1 x2) (if ((nI ht) - (A 10 (I 7).toNatClampNeg)) < (A 12 (L_X7_cellOf_r ht I A J it dyn x1 x2).toNatClampNeg) then ((nI ht) - (A 10 (I 7).toNatClampNeg)) else (A 12 (L_X7_cellOf_r ht I A J it dyn x1 x2).toNatClampNeg)) 0))))
set_option maxRecDepth 100000 in
set_option maxHeartbeats 4000000 in
theorem c_X3_putLines (G : fsG) (l : Launch) (ht : Nat) (I : Nat → Int32) (A : Nat → Nat → Int32) (J : Nat → Nat → Int64) (it : Nat → Option Nat) (dyn : fsH) (x1 : Int32) (x2 : Int32) (hS : S_X3_putLines ht I A J it dyn x1 x2) : fsFn G l mX3_putLines 1 0 0 [.inr (.inr (some 9)), .inl x1, .inl x2] (fs_mk ht I A J it dyn) none (fs_mk ht I (L_X3_putLines_A ht I A J it dyn x1 x2) J it dyn) := by
  refine fsMet_of (by decide) (Nat.le_of_ble_eq_true rfl) ?_
  generalize hQ : (fun (r1 : Option fsV) (h1 : fsH) => r1 = none ∧ h1 = (fs_mk ht I (L_X3_putLines_A ht I A J it dyn x1 x2) J it dyn)) = Q
  have hq : Q none (fs_mk ht I (L_X3_putLines_A ht I A J it dyn x1 x2) J it dyn) := by rw [← hQ]; exact ⟨rfl, rfl⟩
  clear hQ
  have hq : Q none (fs_mk ht I (Lb_X3_putLines_72_A 70 ht I (if (if ((nI ht) - (A 10 (I 7).toNatClampNeg)) < (A 12 (L_X7_cellOf_r ht I A J it dyn x1 x2).toNatClampNeg) then ((nI ht) - (A 10 (I 7).toNatClampNeg)) else (A 12 (L_X7_cellOf_r ht I A J it dyn x1 x2).toNatClampNeg)) ≤ 0 then A else (if (A 11 (L_X7_cellOf_r ht I A J it dyn x1 x2).toNatClampNeg) = (-1) then (va_up A 11 (upd (A 11) (L_X7_cellOf_r ht I A J it dyn x1 x2).toNatClampNeg ((32 * (I 7)) + (A 10 (I 7).toNatClampNeg)))) else A)) J it dyn x1 x2 (L_X7_cellOf_r ht I A J it dyn x1 x2) (if ((nI ht) - (A 10 (I 7).toNatClampNeg)) < (A 12 (L_X7_cellOf_r ht I A J it dyn x1 x2).toNatClampNeg) then ((nI ht) - (A 10 (I 7).toNatClampNeg)) else (A 12 (L_X7_cellOf_r ht I A J it dyn x1 x2).toNatClampNeg)) 0) J it dyn) := hq
  have hS : ((vp_in (L_X7_cellOf_r ht I A J it dyn x1 x2) 64) ∧ ((vp_in (I 7) 64) ∧ ((¬ ((if ((nI ht) - (A 10 (I 7).toNatClampNeg)) < (A 12 (L_X7_cellOf_r ht I A J it dyn x1 x2).toNatClampNeg) then ((nI ht) - (A 10 (I 7).toNatClampNeg)) else (A 12 (L_X7_cellOf_r ht I A J it dyn x1 x2).toNatClampNeg)) ≤ 0) → ((vp_in (L_X7_cellOf_r ht I A J it dyn x1 x2) 64) ∧ (((A 11 (L_X7_cellOf_r ht I A J it dyn x1 x2).toNatClampNeg) = (-1)) → ((vp_in (I 7) 64) ∧ (vp_in (L_X7_cellOf_r ht I A J it dyn x1 x2) 64))))) ∧ (S_Lb_X3_putLines_72 70 ht I (if (if ((nI ht) - (A 10 (I 7).toNatClampNeg)) < (A 12 (L_X7_cellOf_r ht I A J it dyn x1 x2).toNatClampNeg) then ((nI ht) - (A 10 (I 7).toNatClampNeg)) else (A 12 (L_X7_cellOf_r ht I A J it dyn x1 x2).toNatClampNeg)) ≤ 0 then A else (if (A 11 (L_X7_cellOf_r ht I A J it dyn x1 x2).toNatClampNeg) = (-1) then (va_up A 11 (upd (A 11) (L_X7_cellOf_r ht I A J it dyn x1 x2).toNatClampNeg ((32 * (I 7)) + (A 10 (I 7).toNatClampNeg)))) else A)) J it dyn x1 x2 (L_X7_cellOf_r ht I A J it dyn x1 x2) (if ((nI ht) - (A 10 (I 7).toNatClampNeg)) < (A 12 (L_X7_cellOf_r ht I A J it dyn x1 x2).toNatClampNeg) then ((nI ht) - (A 10 (I 7).toNatClampNeg)) else (A 12 (L_X7_cellOf_r ht I A J it dyn x1 x2).toNatClampNeg)) 0)))) := hS
  refine (show fsW G l mX3_putLines 1 0 0 0 0 Q 0 [(0, .inr (.inr (some 9))), (1, .inl x1), (2, .inl x2)] [] (fs_mk ht I A J it dyn) from ?_)
  refine fs_iload_n dX3_putLines_0 rfl rfl ?_
  refine fs_iload_n dX3_putLines_1 rfl rfl ?_
  refine fs_callSN1 dX3_putLines_2 sv_X3_45 (c_X7_cellOf G l ht I A J it dyn x1 x2) rfl rfl (Nat.le_of_ble_eq_true rfl) (Nat.le_of_ble_eq_true rfl) (Nat.le_of_ble_eq_true rfl) (Nat.le_of_ble_eq_true rfl) ?_
  refine fs_istore_n (L' := [(3, .inl (L_X7_cellOf_r ht I A J it dyn x1 x2)), (0, .inr (.inr (some 9))), (1, .inl x1), (2, .inl x2)]) dX3_putLines_5 rfl (by decide) rfl ?_
  refine fs_aload_n dX3_putLines_6 rfl rfl ?_
  refine fs_getfield (v := .inr (.inr (some 12))) dX3_putLines_7 sf_X3_18 rfl rfl ?_
  refine fs_iload_n dX3_putLines_10 rfl rfl ?_
  obtain ⟨ho1, hS⟩ := hS
  refine fs_iaload dX3_putLines_11 rfl ho1 ?_
  refine fs_aload_n dX3_putLines_12 rfl rfl ?_
  refine fs_getfield (v := .inl (nI ht)) dX3_putLines_13 sf_X3_33 rfl rfl ?_
  refine fs_aload_n dX3_putLines_16 rfl rfl ?_
  refine fs_getfield (v := .inr (.inr (some 10))) dX3_putLines_17 sf_X3_9 rfl rfl ?_
  refine fs_aload_n dX3_putLines_20 rfl rfl ?_
  refine fs_getfield (v := .inl (I 7)) dX3_putLines_21 sf_X3_21 rfl rfl ?_
  obtain ⟨ho1, hS⟩ := hS
  refine fs_iaload dX3_putLines_24 rfl ho1 ?_
  refine fs_isub dX3_putLines_25 ?_
  refine fs_min dX3_putLines_26 sl_X3_116 w_ms_min w_mi w_mc_min (Nat.le_of_ble_eq_true rfl) (Nat.le_of_ble_eq_true rfl) (Nat.le_of_ble_eq_true rfl) (Nat.le_of_ble_eq_true rfl) ?_
  refine fs_istore (L' := [(4, .inl (if ((nI ht) - (A 10 (I 7).toNatClampNeg)) < (A 12 (L_X7_cellOf_r ht I A J it dyn x1 x2).toNatClampNeg) then ((nI ht) - (A 10 (I 7).toNatClampNeg)) else (A 12 (L_X7_cellOf_r ht I A J it dyn x1 x2).toNatClampNeg))), (3, .inl (L_X7_cellOf_r ht I A J it dyn x1 x2)), (0, .inr (.inr (some 9))), (1, .inl x1), (2, .inl x2)]) dX3_putLines_29 (by decide) rfl ?_
  refine fs_iload dX3_putLines_31 rfl ?_
  obtain ⟨hR_33, hS⟩ := hS
  have key_69 : fsW G l mX3_putLines 1 0 0 0 0 Q 69 [(0, .inr (.inr (some 9))), (1, .inl x1), (2, .inl x2), (3, .inl (L_X7_cellOf_r ht I A J it dyn x1 x2)), (4, .inl (if ((nI ht) - (A 10 (I 7).toNatClampNeg)) < (A 12 (L_X7_cellOf_r ht I A J it dyn x1 x2).toNatClampNeg) then ((nI ht) - (A 10 (I 7).toNatClampNeg)) else (A 12 (L_X7_cellOf_r ht I A J it dyn x1 x2).toNatClampNeg)))] [] (fs_mk ht I (if (if ((nI ht) - (A 10 (I 7).toNatClampNeg)) < (A 12 (L_X7_cellOf_r ht I A J it dyn x1 x2).toNatClampNeg) then ((nI ht) - (A 10 (I 7).toNatClampNeg)) else (A 12 (L_X7_cellOf_r ht I A J it dyn x1 x2).toNatClampNeg)) ≤ 0 then A else (if (A 11 (L_X7_cellOf_r ht I A J it dyn x1 x2).toNatClampNeg) = (-1) then (va_up A 11 (upd (A 11) (L_X7_cellOf_r ht I A J it dyn x1 x2).toNatClampNeg ((32 * (I 7)) + (A 10 (I 7).toNatClampNeg)))) else A)) J it dyn) := by
    refine fs_iconst (v := 0) dX3_putLines_69 rfl ?_
    refine fs_istore (L' := [(5, .inl 0), (0, .inr (.inr (some 9))), (1, .inl x1), (2, .inl x2), (3, .inl (L_X7_cellOf_r ht I A J it dyn x1 x2)), (4, .inl (if ((nI ht) - (A 10 (I 7).toNatClampNeg)) < (A 12 (L_X7_cellOf_r ht I A J it dyn x1 x2).toNatClampNeg) then ((nI ht) - (A 10 (I 7).toNatClampNeg)) else (A 12 (L_X7_cellOf_r ht I A J it dyn x1 x2).toNatClampNeg)))]) dX3_putLines_70 (by decide) rfl ?_
    refine fs_reL [1, 2, 3, 4, 5, 0] rfl ?_
    have ho1 := hS
    refine lp_Lb_X3_putLines_72 G l Q 70 ht I (if (if ((nI ht) - (A 10 (I 7).toNatClampNeg)) < (A 12 (L_X7_cellOf_r ht I A J it dyn x1 x2).toNatClampNeg) then ((nI ht) - (A 10 (I 7).toNatClampNeg)) else (A 12 (L_X7_cellOf_r ht I A J it dyn x1 x2).toNatClampNeg)) ≤ 0 then A else (if (A 11 (L_X7_cellOf_r ht I A J it dyn x1 x2).toNatClampNeg) = (-1) then (va_up A 11 (upd (A 11) (L_X7_cellOf_r ht I A J it dyn x1 x2).toNatClampNeg ((32 * (I 7)) + (A 10 (I 7).toNatClampNeg)))) else A)) J it dyn x1 x2 (L_X7_cellOf_r ht I A J it dyn x1 x2) (if ((nI ht) - (A 10 (I 7).toNatClampNeg)) < (A 12 (L_X7_cellOf_r ht I A J it dyn x1 x2).toNatClampNeg) then ((nI ht) - (A 10 (I 7).toNatClampNeg)) else (A 12 (L_X7_cellOf_r ht I A J it dyn x1 x2).toNatClampNeg)) 0 ho1 ?_
    have k9 := hq
    exact fs_ret dX3_putLines_128 rfl k9
  refine fs_if_le 69 dX3_putLines_33 (by decide) (fun c_33 : (if ((nI ht) - (A 10 (I 7).toNatClampNeg)) < (A 12 (L_X7_cellOf_r ht I A J it dyn x1 x2).toNatClampNeg) then ((nI ht) - (A 10 (I 7).toNatClampNeg)) else (A 12 (L_X7_cellOf_r ht I A J it dyn x1 x2).toNatClampNeg)) ≤ 0 => ?_) (fun c_33 : ¬ ((if ((nI ht) - (A 10 (I 7).toNatClampNeg)) < (A 12 (L_X7_cellOf_r ht I A J it dyn x1 x2).toNatClampNeg) then ((nI ht) - (A 10 (I 7).toNatClampNeg)) else (A 12 (L_X7_cellOf_r ht I A J it dyn x1 x2).toNatClampNeg)) ≤ 0) => ?_)
  · refine fs_reL [2, 3, 4, 1, 0] rfl ?_
    have k9 := key_69
    try simp only [if_pos c_33] at k9 ⊢
    exact k9
  · have hS := hR_33 c_33
    refine fs_aload_n dX3_putLines_36 rfl rfl ?_
    refine fs_getfield (v := .inr (.inr (some 11))) dX3_putLines_37 sf_X3_15 rfl rfl ?_
    refine fs_iload_n dX3_putLines_40 rfl rfl ?_
    obtain ⟨ho1, hS⟩ := hS
    refine fs_iaload dX3_putLines_41 rfl ho1 ?_
    refine fs_iconst (v := (-1)) dX3_putLines_42 rfl ?_
    refine fs_icmp_ne 69 dX3_putLines_43 (by decide) (fun c_43 : ¬ (A 11 (L_X7_cellOf_r ht I A J it dyn x1 x2).toNatClampNeg) = (-1) => ?_) (fun c_43 : (A 11 (L_X7_cellOf_r ht I A J it dyn x1 x2).toNatClampNeg) = (-1) => ?_)
    · refine fs_reL [2, 3, 4, 1, 0] rfl ?_
      have k9 := key_69
      try simp only [if_neg c_33, if_neg c_43] at k9 ⊢
      exact k9
    · have hS := hS c_43
      refine fs_aload_n dX3_putLines_46 rfl rfl ?_
      refine fs_getfield (v := .inr (.inr (some 11))) dX3_putLines_47 sf_X3_15 rfl rfl ?_
      refine fs_iload_n dX3_putLines_50 rfl rfl ?_
      refine fs_bipush (v := 32) dX3_putLines_51 rfl ?_
      refine fs_aload_n dX3_putLines_53 rfl rfl ?_
      refine fs_getfield (v := .inl (I 7)) dX3_putLines_54 sf_X3_21 rfl rfl ?_
      refine fs_imul dX3_putLines_57 ?_
      refine fs_aload_n dX3_putLines_58 rfl rfl ?_
      refine fs_getfield (v := .inr (.inr (some 10))) dX3_putLines_59 sf_X3_9 rfl rfl ?_
      refine fs_aload_n dX3_putLines_62 rfl rfl ?_
      refine fs_getfield (v := .inl (I 7)) dX3_putLines_63 sf_X3_21 rfl rfl ?_
      obtain ⟨ho1, hS⟩ := hS
      refine fs_iaload dX3_putLines_66 rfl ho1 ?_
      refine fs_iadd dX3_putLines_67 ?_
      have ho1 := hS
      refine fss_11 dX3_putLines_68 ho1 ?_
      refine fs_reL [2, 3, 4, 1, 0] rfl ?_
      have k9 := key_69
      try simp only [if_neg c_33, if_pos c_43] at k9 ⊢
      exact k9
def L_X3_putAlone_I (ht : Nat) (I : Nat → Int32) (A : Nat → Nat → Int32) (J : Nat → Nat → Int64) (it : Nat → Option Nat) (dyn : fsH) (x1 : Int32) (x2 : Int32) : Nat → Int32 := (L_X3_turnPage_I ht I A J it dyn (A 12 (L_X7_cellOf_r ht I A J it dyn x1 x2).toNatClampNeg))
def L_X3_putAlone_A (ht : Nat) (I : Nat → Int32) (A : Nat → Nat → Int32) (J : Nat → Nat → Int64) (it : Nat → Option Nat) (dyn : fsH) (x1 : Int32) (x2 : Int32) : Nat → Nat → Int32 := (L_X3_putLines_A ht (L_X3_turnPage_I ht I A J it dyn (A 12 (L_X7_cellOf_r ht I A J it dyn x1 x2).toNatClampNeg)) A J it dyn x1 x2)
def S_X3_putAlone (ht : Nat) (I : Nat → Int32) (A : Nat → Nat → Int32) (J : Nat → Nat → Int64) (it : Nat → Option Nat) (dyn : fsH) (x1 : Int32) (x2 : Int32) : Prop := ((vp_in (L_X7_cellOf_r ht I A J it dyn x1 x2) 64) ∧ ((S_X3_turnPage ht I A J it dyn (A 12 (L_X7_cellOf_r ht I A J it dyn x1 x2).toNatClampNeg)) ∧ (S_X3_putLines ht (L_X3_turnPage_I ht I A J it dyn (A 12 (L_X7_cellOf_r ht I A J it dyn x1 x2).toNatClampNeg)) A J it dyn x1 x2)))
set_option maxRecDepth 100000 in
set_option maxHeartbeats 4000000 in
theorem c_X3_putAlone (G : fsG) (l : Launch) (ht : Nat) (I : Nat → Int32) (A : Nat → Nat → Int32) (J : Nat → Nat → Int64) (it : Nat → Option Nat) (dyn : fsH) (x1 : Int32) (x2 : Int32) (hS : S_X3_putAlone ht I A J it dyn x1 x2) : fsFn G l mX3_putAlone 2 0 0 [.inr (.inr (some 9)), .inl x1, .inl x2] (fs_mk ht I A J it dyn) none (fs_mk ht (L_X3_putAlone_I ht I A J it dyn x1 x2) (L_X3_putAlone_A ht I A J it dyn x1 x2) J it dyn) := by
  refine fsMet_of (by decide) (Nat.le_of_ble_eq_true rfl) ?_
  generalize hQ : (fun (r1 : Option fsV) (h1 : fsH) => r1 = none ∧ h1 = (fs_mk ht (L_X3_putAlone_I ht I A J it dyn x1 x2) (L_X3_putAlone_A ht I A J it dyn x1 x2) J it dyn)) = Q
  have hq : Q none (fs_mk ht (L_X3_putAlone_I ht I A J it dyn x1 x2) (L_X3_putAlone_A ht I A J it dyn x1 x2) J it dyn) := by rw [← hQ]; exact ⟨rfl, rfl⟩
  clear hQ
  have hq : Q none (fs_mk ht (L_X3_turnPage_I ht I A J it dyn (A 12 (L_X7_cellOf_r ht I A J it dyn x1 x2).toNatClampNeg)) (L_X3_putLines_A ht (L_X3_turnPage_I ht I A J it dyn (A 12 (L_X7_cellOf_r ht I A J it dyn x1 x2).toNatClampNeg)) A J it dyn x1 x2) J it dyn) := hq
  have hS : ((vp_in (L_X7_cellOf_r ht I A J it dyn x1 x2) 64) ∧ ((S_X3_turnPage ht I A J it dyn (A 12 (L_X7_cellOf_r ht I A J it dyn x1 x2).toNatClampNeg)) ∧ (S_X3_putLines ht (L_X3_turnPage_I ht I A J it dyn (A 12 (L_X7_cellOf_r ht I A J it dyn x1 x2).toNatClampNeg)) A J it dyn x1 x2))) := hS
  refine (show fsW G l mX3_putAlone 2 0 0 0 0 Q 0 [(0, .inr (.inr (some 9))), (1, .inl x1), (2, .inl x2)] [] (fs_mk ht I A J it dyn) from ?_)
  refine fs_aload_n dX3_putAlone_0 rfl rfl ?_
  refine fs_aload_n dX3_putAlone_1 rfl rfl ?_
  refine fs_getfield (v := .inr (.inr (some 12))) dX3_putAlone_2 sf_X3_18 rfl rfl ?_
  refine fs_iload_n dX3_putAlone_5 rfl rfl ?_
  refine fs_iload_n dX3_putAlone_6 rfl rfl ?_
  refine fs_callSN1 dX3_putAlone_7 sv_X3_45 (c_X7_cellOf G l ht I A J it dyn x1 x2) rfl rfl (Nat.le_of_ble_eq_true rfl) (Nat.le_of_ble_eq_true rfl) (Nat.le_of_ble_eq_true rfl) (Nat.le_of_ble_eq_true rfl) ?_
  obtain ⟨ho1, hS⟩ := hS
  refine fs_iaload dX3_putAlone_10 rfl ho1 ?_
  obtain ⟨ho1, hS⟩ := hS
  refine fs_callV1 dX3_putAlone_11 sv_X3_107 rfl ⟨_, rfl, rfl⟩ (c_X3_turnPage G l ht I A J it dyn (A 12 (L_X7_cellOf_r ht I A J it dyn x1 x2).toNatClampNeg) ho1) rfl rfl (Nat.le_of_ble_eq_true rfl) (Nat.le_of_ble_eq_true rfl) (Nat.le_of_ble_eq_true rfl) (Nat.le_of_ble_eq_true rfl) ?_
  refine fs_pop dX3_putAlone_14 rfl ?_
  refine fs_aload_n dX3_putAlone_15 rfl rfl ?_
  refine fs_iload_n dX3_putAlone_16 rfl rfl ?_
  refine fs_iload_n dX3_putAlone_17 rfl rfl ?_
  have ho1 := hS
  refine fs_callV0 dX3_putAlone_18 sv_X3_113 rfl ⟨_, rfl, rfl⟩ (c_X3_putLines G l ht (L_X3_turnPage_I ht I A J it dyn (A 12 (L_X7_cellOf_r ht I A J it dyn x1 x2).toNatClampNeg)) A J it dyn x1 x2 ho1) rfl rfl (Nat.le_of_ble_eq_true rfl) (Nat.le_of_ble_eq_true rfl) (Nat.le_of_ble_eq_true rfl) (Nat.le_of_ble_eq_true rfl) ?_
  have k9 := hq
  exact fs_ret dX3_putAlone_21 rfl k9
def L_X3_putHeader_A (ht : Nat) (I : Nat → Int32) (A : Nat → Nat → Int32) (J : Nat → Nat → Int64) (it : Nat → Option Nat) (dyn : fsH) (x1 : Int32) (x2 : Int32) : Nat → Nat → Int32 := (if (L_X1_isCaption_r ht I A J it dyn x1) = 0 then A else (if (nI ht) < ((A 12 (L_X7_cellOf_r ht I A J it dyn x1 0).toNatClampNeg) + x2) then A else (L_X3_putLines_A ht I A J it dyn x1 0)))
def S_X3_putHeader (ht : Nat) (I : Nat → Int32) (A : Nat → Nat → Int32) (J : Nat → Nat → Int64) (it : Nat → Option Nat) (dyn : fsH) (x1 : Int32) (x2 : Int32) : Prop := ((S_X1_isCaption ht I A J it dyn x1) ∧ (¬ ((L_X1_isCaption_r ht I A J it dyn x1) = 0) → ((vp_in (L_X7_cellOf_r ht I A J it dyn x1 0) 64) ∧ (¬ ((nI ht) < ((A 12 (L_X7_cellOf_r ht I A J it dyn x1 0).toNatClampNeg) + x2)) → (S_X3_putLines ht I A J it dyn x1 0)))))
set_option maxRecDepth 100000 in
set_option maxHeartbeats 4000000 in
theorem c_X3_putHeader (G : fsG) (l : Launch) (ht : Nat) (I : Nat → Int32) (A : Nat → Nat → Int32) (J : Nat → Nat → Int64) (it : Nat → Option Nat) (dyn : fsH) (x1 : Int32) (x2 : Int32) (hS : S_X3_putHeader ht I A J it dyn x1 x2) : fsFn G l mX3_putHeader 2 0 0 [.inr (.inr (some 9)), .inl x1, .inl x2] (fs_mk ht I A J it dyn) none (fs_mk ht I (L_X3_putHeader_A ht I A J it dyn x1 x2) J it dyn) := by
  refine fsMet_of (by decide) (Nat.le_of_ble_eq_true rfl) ?_
  generalize hQ : (fun (r1 : Option fsV) (h1 : fsH) => r1 = none ∧ h1 = (fs_mk ht I (L_X3_putHeader_A ht I A J it dyn x1 x2) J it dyn)) = Q
  have hq : Q none (fs_mk ht I (L_X3_putHeader_A ht I A J it dyn x1 x2) J it dyn) := by rw [← hQ]; exact ⟨rfl, rfl⟩
  clear hQ
  have hq : Q none (fs_mk ht I (if (L_X1_isCaption_r ht I A J it dyn x1) = 0 then A else (if (nI ht) < ((A 12 (L_X7_cellOf_r ht I A J it dyn x1 0).toNatClampNeg) + x2) then A else (L_X3_putLines_A ht I A J it dyn x1 0))) J it dyn) := hq
  have hS : ((S_X1_isCaption ht I A J it dyn x1) ∧ (¬ ((L_X1_isCaption_r ht I A J it dyn x1) = 0) → ((vp_in (L_X7_cellOf_r ht I A J it dyn x1 0) 64) ∧ (¬ ((nI ht) < ((A 12 (L_X7_cellOf_r ht I A J it dyn x1 0).toNatClampNeg) + x2)) → (S_X3_putLines ht I A J it dyn x1 0))))) := hS
  refine (show fsW G l mX3_putHeader 2 0 0 0 0 Q 0 [(0, .inr (.inr (some 9))), (1, .inl x1), (2, .inl x2)] [] (fs_mk ht I A J it dyn) from ?_)
  refine fs_aload_n dX3_putHeader_0 rfl rfl ?_
  refine fs_getfield (v := .inr (.inr (some 3))) dX3_putHeader_1 sf_X3_25 rfl rfl ?_
  refine fs_iload_n dX3_putHeader_4 rfl rfl ?_
  obtain ⟨ho1, hS⟩ := hS
  refine fs_callV1 dX3_putHeader_5 sv_X3_80 rfl ⟨_, rfl, rfl⟩ (c_X1_isCaption G l ht I A J it dyn x1 ho1) rfl rfl (Nat.le_of_ble_eq_true rfl) (Nat.le_of_ble_eq_true rfl) (Nat.le_of_ble_eq_true rfl) (Nat.le_of_ble_eq_true rfl) ?_
  have hR_8 := hS
  have key_36 : fsW G l mX3_putHeader 2 0 0 0 0 Q 36 [(0, .inr (.inr (some 9))), (1, .inl x1), (2, .inl x2)] [] (fs_mk ht I (if (L_X1_isCaption_r ht I A J it dyn x1) = 0 then A else (if (nI ht) < ((A 12 (L_X7_cellOf_r ht I A J it dyn x1 0).toNatClampNeg) + x2) then A else (L_X3_putLines_A ht I A J it dyn x1 0))) J it dyn) := by
    have k9 := hq
    exact fs_ret dX3_putHeader_36 rfl k9
  refine fs_if_eq 36 dX3_putHeader_8 (by decide) (fun c_8 : (L_X1_isCaption_r ht I A J it dyn x1) = 0 => ?_) (fun c_8 : ¬ ((L_X1_isCaption_r ht I A J it dyn x1) = 0) => ?_)
  · have k9 := key_36
    try simp only [if_pos c_8] at k9 ⊢
    exact k9
  · have hS := hR_8 c_8
    refine fs_aload_n dX3_putHeader_11 rfl rfl ?_
    refine fs_getfield (v := .inr (.inr (some 12))) dX3_putHeader_12 sf_X3_18 rfl rfl ?_
    refine fs_iload_n dX3_putHeader_15 rfl rfl ?_
    refine fs_iconst (v := 0) dX3_putHeader_16 rfl ?_
    refine fs_callSN1 dX3_putHeader_17 sv_X3_45 (c_X7_cellOf G l ht I A J it dyn x1 0) rfl rfl (Nat.le_of_ble_eq_true rfl) (Nat.le_of_ble_eq_true rfl) (Nat.le_of_ble_eq_true rfl) (Nat.le_of_ble_eq_true rfl) ?_
    obtain ⟨ho1, hS⟩ := hS
    refine fs_iaload dX3_putHeader_20 rfl ho1 ?_
    refine fs_iload_n dX3_putHeader_21 rfl rfl ?_
    refine fs_iadd dX3_putHeader_22 ?_
    refine fs_aload_n dX3_putHeader_23 rfl rfl ?_
    refine fs_getfield (v := .inl (nI ht)) dX3_putHeader_24 sf_X3_33 rfl rfl ?_
    refine fs_icmp_gt 36 dX3_putHeader_27 (by decide) (fun c_27 : (nI ht) < ((A 12 (L_X7_cellOf_r ht I A J it dyn x1 0).toNatClampNeg) + x2) => ?_) (fun c_27 : ¬ ((nI ht) < ((A 12 (L_X7_cellOf_r ht I A J it dyn x1 0).toNatClampNeg) + x2)) => ?_)
    · have k9 := key_36
      try simp only [if_neg c_8, if_pos c_27] at k9 ⊢
      exact k9
    · have hS := hS c_27
      refine fs_aload_n dX3_putHeader_30 rfl rfl ?_
      refine fs_iload_n dX3_putHeader_31 rfl rfl ?_
      refine fs_iconst (v := 0) dX3_putHeader_32 rfl ?_
      have ho1 := hS
      refine fs_callV0 dX3_putHeader_33 sv_X3_113 rfl ⟨_, rfl, rfl⟩ (c_X3_putLines G l ht I A J it dyn x1 0 ho1) rfl rfl (Nat.le_of_ble_eq_true rfl) (Nat.le_of_ble_eq_true rfl) (Nat.le_of_ble_eq_true rfl) (Nat.le_of_ble_eq_true rfl) ?_
      have k9 := key_36
      try simp only [if_neg c_8, if_neg c_27] at k9 ⊢
      exact k9
def L_X3_linesOf_r (ht : Nat) (I : Nat → Int32) (A : Nat → Nat → Int32) (J : Nat → Nat → Int64) (it : Nat → Option Nat) (dyn : fsH) (x1 : Int32) (x2 : Int32) : Int32 := (if (L_X1_isCaption_r ht I A J it dyn x1) = 0 then (if (L_X1_isField_r ht I A J it dyn x1) = 0 then (if (L_X6_fails_r ht I A J it dyn x1 x2) = 0 then 0 else 1 : Int32) else 1 : Int32) else (fs_dI dyn (it x1.toNatClampNeg) 4))
def S_X3_linesOf (ht : Nat) (I : Nat → Int32) (A : Nat → Nat → Int32) (J : Nat → Nat → Int64) (it : Nat → Option Nat) (dyn : fsH) (x1 : Int32) (x2 : Int32) : Prop := ((S_X1_isCaption ht I A J it dyn x1) ∧ ((((L_X1_isCaption_r ht I A J it dyn x1) = 0) → ((S_X1_isField ht I A J it dyn x1) ∧ (((L_X1_isField_r ht I A J it dyn x1) = 0) → (S_X6_fails ht I A J it dyn x1 x2)))) ∧ (¬ ((L_X1_isCaption_r ht I A J it dyn x1) = 0) → ((vp_in x1 16) ∧ (fs_okI dyn (it x1.toNatClampNeg))))))
set_option maxRecDepth 100000 in
set_option maxHeartbeats 4000000 in
theorem c_X3_linesOf (G : fsG) (l : Launch) (ht : Nat) (I : Nat → Int32) (A : Nat → Nat → Int32) (J : Nat → Nat → Int64) (it : Nat → Option Nat) (dyn : fsH) (x1 : Int32) (x2 : Int32) (hS : S_X3_linesOf ht I A J it dyn x1 x2) : fsFn G l mX3_linesOf 4 0 0 [.inr (.inr (some 9)), .inl x1, .inl x2] (fs_mk ht I A J it dyn) (some (.inl (L_X3_linesOf_r ht I A J it dyn x1 x2))) (fs_mk ht I A J it dyn) := by
  refine fsMet_of (by decide) (Nat.le_of_ble_eq_true rfl) ?_
  generalize hQ : (fun (r1 : Option fsV) (h1 : fsH) => r1 = (some (.inl (L_X3_linesOf_r ht I A J it dyn x1 x2))) ∧ h1 = (fs_mk ht I A J it dyn)) = Q
  have hq : Q (some (.inl (L_X3_linesOf_r ht I A J it dyn x1 x2))) (fs_mk ht I A J it dyn) := by rw [← hQ]; exact ⟨rfl, rfl⟩
  clear hQ
  have hq : Q (some (.inl (if (L_X1_isCaption_r ht I A J it dyn x1) = 0 then (if (L_X1_isField_r ht I A J it dyn x1) = 0 then (if (L_X6_fails_r ht I A J it dyn x1 x2) = 0 then 0 else 1 : Int32) else 1 : Int32) else (fs_dI dyn (it x1.toNatClampNeg) 4)))) (fs_mk ht I A J it dyn) := hq
  have hS : ((S_X1_isCaption ht I A J it dyn x1) ∧ ((((L_X1_isCaption_r ht I A J it dyn x1) = 0) → ((S_X1_isField ht I A J it dyn x1) ∧ (((L_X1_isField_r ht I A J it dyn x1) = 0) → (S_X6_fails ht I A J it dyn x1 x2)))) ∧ (¬ ((L_X1_isCaption_r ht I A J it dyn x1) = 0) → ((vp_in x1 16) ∧ (fs_okI dyn (it x1.toNatClampNeg)))))) := hS
  refine (show fsW G l mX3_linesOf 4 0 0 0 0 Q 0 [(0, .inr (.inr (some 9))), (1, .inl x1), (2, .inl x2)] [] (fs_mk ht I A J it dyn) from ?_)
  refine fs_aload_n dX3_linesOf_0 rfl rfl ?_
  refine fs_getfield (v := .inr (.inr (some 3))) dX3_linesOf_1 sf_X3_25 rfl rfl ?_
  refine fs_iload_n dX3_linesOf_4 rfl rfl ?_
  obtain ⟨ho1, hS⟩ := hS
  refine fs_callV1 dX3_linesOf_5 sv_X3_80 rfl ⟨_, rfl, rfl⟩ (c_X1_isCaption G l ht I A J it dyn x1 ho1) rfl rfl (Nat.le_of_ble_eq_true rfl) (Nat.le_of_ble_eq_true rfl) (Nat.le_of_ble_eq_true rfl) (Nat.le_of_ble_eq_true rfl) ?_
  refine fs_if_eq 24 dX3_linesOf_8 (by decide) (fun c_8 : (L_X1_isCaption_r ht I A J it dyn x1) = 0 => ?_) (fun c_8 : ¬ ((L_X1_isCaption_r ht I A J it dyn x1) = 0) => ?_)
  · have hS := hS.1 c_8
    refine fs_aload_n dX3_linesOf_24 rfl rfl ?_
    refine fs_getfield (v := .inr (.inr (some 3))) dX3_linesOf_25 sf_X3_25 rfl rfl ?_
    refine fs_iload_n dX3_linesOf_28 rfl rfl ?_
    obtain ⟨ho1, hS⟩ := hS
    refine fs_callV1 dX3_linesOf_29 sv_X3_92 rfl ⟨_, rfl, rfl⟩ (c_X1_isField G l ht I A J it dyn x1 ho1) rfl rfl (Nat.le_of_ble_eq_true rfl) (Nat.le_of_ble_eq_true rfl) (Nat.le_of_ble_eq_true rfl) (Nat.le_of_ble_eq_true rfl) ?_
    have hR_32 := hS
    have key_52 : fsW G l mX3_linesOf 4 0 0 0 0 Q 52 [(0, .inr (.inr (some 9))), (1, .inl x1), (2, .inl x2)] [.inl (if (L_X1_isField_r ht I A J it dyn x1) = 0 then (if (L_X6_fails_r ht I A J it dyn x1 x2) = 0 then 0 else 1 : Int32) else 1 : Int32)] (fs_mk ht I A J it dyn) := by
      have k9 := hq
      try simp only [if_pos c_8] at k9 ⊢
      exact fs_iret dX3_linesOf_52 rfl rfl k9
    refine fs_if_ne 47 dX3_linesOf_32 (by decide) (fun c_32 : ¬ (L_X1_isField_r ht I A J it dyn x1) = 0 => ?_) (fun c_32 : (L_X1_isField_r ht I A J it dyn x1) = 0 => ?_)
    · refine fs_iconst (v := 1) dX3_linesOf_47 rfl ?_
      refine fs_goto 52 dX3_linesOf_48 (by decide) ?_
      have k9 := key_52
      try simp only [if_pos c_8, if_neg c_32] at k9 ⊢
      exact k9
    · have hS := hR_32 c_32
      refine fs_aload_n dX3_linesOf_35 rfl rfl ?_
      refine fs_getfield (v := .inr (.inr (some 5))) dX3_linesOf_36 sf_X3_29 rfl rfl ?_
      refine fs_iload_n dX3_linesOf_39 rfl rfl ?_
      refine fs_iload_n dX3_linesOf_40 rfl rfl ?_
      have ho1 := hS
      refine fs_callV1 dX3_linesOf_41 sv_X3_95 rfl ⟨_, rfl, rfl⟩ (c_X6_fails G l ht I A J it dyn x1 x2 ho1) rfl rfl (Nat.le_of_ble_eq_true rfl) (Nat.le_of_ble_eq_true rfl) (Nat.le_of_ble_eq_true rfl) (Nat.le_of_ble_eq_true rfl) ?_
      refine fs_if_eq 51 dX3_linesOf_44 (by decide) (fun c_44 : (L_X6_fails_r ht I A J it dyn x1 x2) = 0 => ?_) (fun c_44 : ¬ ((L_X6_fails_r ht I A J it dyn x1 x2) = 0) => ?_)
      · refine fs_iconst (v := 0) dX3_linesOf_51 rfl ?_
        have k9 := key_52
        try simp only [if_pos c_8, if_pos c_32, if_pos c_44] at k9 ⊢
        exact k9
      · refine fs_iconst (v := 1) dX3_linesOf_47 rfl ?_
        refine fs_goto 52 dX3_linesOf_48 (by decide) ?_
        have k9 := key_52
        try simp only [if_pos c_8, if_pos c_32, if_neg c_44] at k9 ⊢
        exact k9
  · have hS := hS.2 c_8
    refine fs_aload_n dX3_linesOf_11 rfl rfl ?_
    refine fs_getfield (v := .inr (.inr (some 3))) dX3_linesOf_12 sf_X3_25 rfl rfl ?_
    refine fs_getfield (v := .inr (.inr (some 4))) dX3_linesOf_15 sf_X3_83 rfl rfl ?_
    refine fs_iload_n dX3_linesOf_18 rfl rfl ?_
    obtain ⟨ho1, hS⟩ := hS
    refine fs_aaload dX3_linesOf_19 rfl ho1 ?_
    have ho1 := hS
    refine fsg_I4 dX3_linesOf_20 sf_X3_87 ho1 ?_
    have k9 := hq
    try simp only [if_neg c_8] at k9 ⊢
    exact fs_iret dX3_linesOf_23 rfl rfl k9
def Lb_X3_measure_15_A : Nat → Nat → (Nat → Int32) → (Nat → Nat → Int32) → (Nat → Nat → Int64) → (Nat → Option Nat) → fsH → Int32 → Int32 → (Nat → Nat → Int32)
  | 0, ht, I, A, J, it, dyn, v1, v2 => A
  | n + 1, ht, I, A, J, it, dyn, v1, v2 => (if (L_X1_rowsOf_r ht I A J it dyn v1) ≤ v2 then A else (Lb_X3_measure_15_A n ht I (va_up A 12 (upd (A 12) (L_X7_cellOf_r ht I A J it dyn v1 v2).toNatClampNeg (L_X3_linesOf_r ht I A J it dyn v1 v2))) J it dyn v1 (v2 + 1)))
def Lb_X3_measure_15_v2 : Nat → Nat → (Nat → Int32) → (Nat → Nat → Int32) → (Nat → Nat → Int64) → (Nat → Option Nat) → fsH → Int32 → Int32 → Int32
  | 0, ht, I, A, J, it, dyn, v1, v2 => v2
  | n + 1, ht, I, A, J, it, dyn, v1, v2 => (if (L_X1_rowsOf_r ht I A J it dyn v1) ≤ v2 then v2 else (Lb_X3_measure_15_v2 n ht I (va_up A 12 (upd (A 12) (L_X7_cellOf_r ht I A J it dyn v1 v2).toNatClampNeg (L_X3_linesOf_r ht I A J it dyn v1 v2))) J it dyn v1 (v2 + 1)))
def S_Lb_X3_measure_15 : Nat → Nat → (Nat → Int32) → (Nat → Nat → Int32) → (Nat → Nat → Int64) → (Nat → Option Nat) → fsH → Int32 → Int32 → Prop
  | 0, _, _, _, _, _, _, _, _ => False
  | n + 1, ht, I, A, J, it, dyn, v1, v2 => ((S_X1_rowsOf ht I A J it dyn v1) ∧ (¬ ((L_X1_rowsOf_r ht I A J it dyn v1) ≤ v2) → ((S_X3_linesOf ht I A J it dyn v1 v2) ∧ ((vp_in (L_X7_cellOf_r ht I A J it dyn v1 v2) 64) ∧ (S_Lb_X3_measure_15 n ht I (va_up A 12 (upd (A 12) (L_X7_cellOf_r ht I A J it dyn v1 v2).toNatClampNeg (L_X3_linesOf_r ht I A J it dyn v1 v2))) J it dyn v1 (v2 + 1))))))
set_option maxRecDepth 100000 in
set_option maxHeartbeats 4000000 in
theorem lp_Lb_X3_measure_15 (G : fsG) (l : Launch) (Q : Option fsV → fsH → Prop) : ∀ (n : Nat) (ht : Nat) (I : Nat → Int32) (A : Nat → Nat → Int32) (J : Nat → Nat → Int64) (it : Nat → Option Nat) (dyn : fsH) (v1 : Int32) (v2 : Int32), S_Lb_X3_measure_15 n ht I A J it dyn v1 v2 → (fsW G l mX3_measure 5 0 0 0 0 Q 49 [(0, .inr (.inr (some 9))), (1, .inl v1), (2, .inl (Lb_X3_measure_15_v2 n ht I A J it dyn v1 v2))] [] (fs_mk ht I (Lb_X3_measure_15_A n ht I A J it dyn v1 v2) J it dyn)) → fsW G l mX3_measure 5 0 0 0 0 Q 15 [(0, .inr (.inr (some 9))), (1, .inl v1), (2, .inl v2)] [] (fs_mk ht I A J it dyn) := by
  intro n
  induction n with
  | zero =>
    intro ht I A J it dyn v1 v2 hS
    exact hS.elim
  | succ n ih =>
    intro ht I A J it dyn v1 v2 hS hq
    have hS : ((S_X1_rowsOf ht I A J it dyn v1) ∧ (¬ ((L_X1_rowsOf_r ht I A J it dyn v1) ≤ v2) → ((S_X3_linesOf ht I A J it dyn v1 v2) ∧ ((vp_in (L_X7_cellOf_r ht I A J it dyn v1 v2) 64) ∧ (S_Lb_X3_measure_15 n ht I (va_up A 12 (upd (A 12) (L_X7_cellOf_r ht I A J it dyn v1 v2).toNatClampNeg (L_X3_linesOf_r ht I A J it dyn v1 v2))) J it dyn v1 (v2 + 1)))))) := hS
    have hq : fsW G l mX3_measure 5 0 0 0 0 Q 49 [(0, .inr (.inr (some 9))), (1, .inl v1), (2, .inl (if (L_X1_rowsOf_r ht I A J it dyn v1) ≤ v2 then v2 else (Lb_X3_measure_15_v2 n ht I (va_up A 12 (upd (A 12) (L_X7_cellOf_r ht I A J it dyn v1 v2).toNatClampNeg (L_X3_linesOf_r ht I A J it dyn v1 v2))) J it dyn v1 (v2 + 1))))] [] (fs_mk ht I (if (L_X1_rowsOf_r ht I A J it dyn v1) ≤ v2 then A else (Lb_X3_measure_15_A n ht I (va_up A 12 (upd (A 12) (L_X7_cellOf_r ht I A J it dyn v1 v2).toNatClampNeg (L_X3_linesOf_r ht I A J it dyn v1 v2))) J it dyn v1 (v2 + 1))) J it dyn) := hq
    refine fs_iload_n dX3_measure_15 rfl rfl ?_
    refine fs_aload_n dX3_measure_16 rfl rfl ?_
    refine fs_getfield (v := .inr (.inr (some 3))) dX3_measure_17 sf_X3_25 rfl rfl ?_
    refine fs_iload_n dX3_measure_20 rfl rfl ?_
    obtain ⟨ho1, hS⟩ := hS
    refine fs_callV1 dX3_measure_21 sv_X3_73 rfl ⟨_, rfl, rfl⟩ (c_X1_rowsOf G l ht I A J it dyn v1 ho1) rfl rfl (Nat.le_of_ble_eq_true rfl) (Nat.le_of_ble_eq_true rfl) (Nat.le_of_ble_eq_true rfl) (Nat.le_of_ble_eq_true rfl) ?_
    refine fs_icmp_ge 49 dX3_measure_24 (by decide) (fun c_24 : (L_X1_rowsOf_r ht I A J it dyn v1) ≤ v2 => ?_) (fun c_24 : ¬ ((L_X1_rowsOf_r ht I A J it dyn v1) ≤ v2) => ?_)
    · have k9 := hq
      try simp only [if_pos c_24] at k9 ⊢
      exact k9
    · have hS := hS c_24
      refine fs_aload_n dX3_measure_27 rfl rfl ?_
      refine fs_getfield (v := .inr (.inr (some 12))) dX3_measure_28 sf_X3_18 rfl rfl ?_
      refine fs_iload_n dX3_measure_31 rfl rfl ?_
      refine fs_iload_n dX3_measure_32 rfl rfl ?_
      refine fs_callSN1 dX3_measure_33 sv_X3_45 (c_X7_cellOf G l ht I A J it dyn v1 v2) rfl rfl (Nat.le_of_ble_eq_true rfl) (Nat.le_of_ble_eq_true rfl) (Nat.le_of_ble_eq_true rfl) (Nat.le_of_ble_eq_true rfl) ?_
      refine fs_aload_n dX3_measure_36 rfl rfl ?_
      refine fs_iload_n dX3_measure_37 rfl rfl ?_
      refine fs_iload_n dX3_measure_38 rfl rfl ?_
      obtain ⟨ho1, hS⟩ := hS
      refine fs_callV1 dX3_measure_39 sv_X3_77 rfl ⟨_, rfl, rfl⟩ (c_X3_linesOf G l ht I A J it dyn v1 v2 ho1) rfl rfl (Nat.le_of_ble_eq_true rfl) (Nat.le_of_ble_eq_true rfl) (Nat.le_of_ble_eq_true rfl) (Nat.le_of_ble_eq_true rfl) ?_
      obtain ⟨ho1, hS⟩ := hS
      refine fss_12 dX3_measure_42 ho1 ?_
      refine fs_iinc (v := (v2 + 1)) (L' := [(2, .inl (v2 + 1)), (0, .inr (.inr (some 9))), (1, .inl v1)]) dX3_measure_43 rfl rfl (by decide) rfl ?_
      refine fs_goto 15 dX3_measure_46 (by decide) ?_
      refine fs_reL [1, 2, 0] rfl ?_
      have k9 := hq
      try simp only [if_neg c_24] at hS k9 ⊢
      exact ih _ _ _ _ _ _ _ _ hS k9
def Lb_X3_measure_2_A : Nat → Nat → (Nat → Int32) → (Nat → Nat → Int32) → (Nat → Nat → Int64) → (Nat → Option Nat) → fsH → Int32 → (Nat → Nat → Int32)
  | 0, ht, I, A, J, it, dyn, v1 => A
  | n + 1, ht, I, A, J, it, dyn, v1 => (if (I 4) ≤ v1 then A else (Lb_X3_measure_2_A n ht I (Lb_X3_measure_15_A 70 ht I A J it dyn v1 0) J it dyn (v1 + 1)))
def Lb_X3_measure_2_v1 : Nat → Nat → (Nat → Int32) → (Nat → Nat → Int32) → (Nat → Nat → Int64) → (Nat → Option Nat) → fsH → Int32 → Int32
  | 0, ht, I, A, J, it, dyn, v1 => v1
  | n + 1, ht, I, A, J, it, dyn, v1 => (if (I 4) ≤ v1 then v1 else (Lb_X3_measure_2_v1 n ht I (Lb_X3_measure_15_A 70 ht I A J it dyn v1 0) J it dyn (v1 + 1)))
def S_Lb_X3_measure_2 : Nat → Nat → (Nat → Int32) → (Nat → Nat → Int32) → (Nat → Nat → Int64) → (Nat → Option Nat) → fsH → Int32 → Prop
  | 0, _, _, _, _, _, _, _ => False
  | n + 1, ht, I, A, J, it, dyn, v1 => (¬ ((I 4) ≤ v1) → ((S_Lb_X3_measure_15 70 ht I A J it dyn v1 0) ∧ (S_Lb_X3_measure_2 n ht I (Lb_X3_measure_15_A 70 ht I A J it dyn v1 0) J it dyn (v1 + 1))))
set_option maxRecDepth 100000 in
set_option maxHeartbeats 4000000 in
theorem lp_Lb_X3_measure_2 (G : fsG) (l : Launch) (Q : Option fsV → fsH → Prop) : ∀ (n : Nat) (ht : Nat) (I : Nat → Int32) (A : Nat → Nat → Int32) (J : Nat → Nat → Int64) (it : Nat → Option Nat) (dyn : fsH) (v1 : Int32), S_Lb_X3_measure_2 n ht I A J it dyn v1 → (fsW G l mX3_measure 5 0 0 0 0 Q 55 [(0, .inr (.inr (some 9))), (1, .inl (Lb_X3_measure_2_v1 n ht I A J it dyn v1))] [] (fs_mk ht I (Lb_X3_measure_2_A n ht I A J it dyn v1) J it dyn)) → fsW G l mX3_measure 5 0 0 0 0 Q 2 [(0, .inr (.inr (some 9))), (1, .inl v1)] [] (fs_mk ht I A J it dyn) := by
  intro n
  induction n with
  | zero =>
    intro ht I A J it dyn v1 hS
    exact hS.elim
  | succ n ih =>
    intro ht I A J it dyn v1 hS hq
    have hS : (¬ ((I 4) ≤ v1) → ((S_Lb_X3_measure_15 70 ht I A J it dyn v1 0) ∧ (S_Lb_X3_measure_2 n ht I (Lb_X3_measure_15_A 70 ht I A J it dyn v1 0) J it dyn (v1 + 1)))) := hS
    have hq : fsW G l mX3_measure 5 0 0 0 0 Q 55 [(0, .inr (.inr (some 9))), (1, .inl (if (I 4) ≤ v1 then v1 else (Lb_X3_measure_2_v1 n ht I (Lb_X3_measure_15_A 70 ht I A J it dyn v1 0) J it dyn (v1 + 1))))] [] (fs_mk ht I (if (I 4) ≤ v1 then A else (Lb_X3_measure_2_A n ht I (Lb_X3_measure_15_A 70 ht I A J it dyn v1 0) J it dyn (v1 + 1))) J it dyn) := hq
    refine fs_iload_n dX3_measure_2 rfl rfl ?_
    refine fs_aload_n dX3_measure_3 rfl rfl ?_
    refine fs_getfield (v := .inr (.inr (some 3))) dX3_measure_4 sf_X3_25 rfl rfl ?_
    refine fs_getfield (v := .inl (I 4)) dX3_measure_7 sf_X3_58 rfl rfl ?_
    refine fs_icmp_ge 55 dX3_measure_10 (by decide) (fun c_10 : (I 4) ≤ v1 => ?_) (fun c_10 : ¬ ((I 4) ≤ v1) => ?_)
    · have k9 := hq
      try simp only [if_pos c_10] at k9 ⊢
      exact k9
    · have hS := hS c_10
      refine fs_iconst (v := 0) dX3_measure_13 rfl ?_
      refine fs_istore_n (L' := [(2, .inl 0), (0, .inr (.inr (some 9))), (1, .inl v1)]) dX3_measure_14 rfl (by decide) rfl ?_
      refine fs_reL [1, 2, 0] rfl ?_
      obtain ⟨ho1, hS⟩ := hS
      refine lp_Lb_X3_measure_15 G l Q 70 ht I A J it dyn v1 0 ho1 ?_
      refine fs_iinc (v := (v1 + 1)) (L' := [(1, .inl (v1 + 1)), (0, .inr (.inr (some 9))), (2, .inl (Lb_X3_measure_15_v2 70 ht I A J it dyn v1 0))]) dX3_measure_49 rfl rfl (by decide) rfl ?_
      refine fs_goto 2 dX3_measure_52 (by decide) ?_
      refine fs_reL [1, 0] rfl ?_
      have k9 := hq
      try simp only [if_neg c_10] at hS k9 ⊢
      exact ih _ _ _ _ _ _ _ hS k9
def L_X3_measure_A (ht : Nat) (I : Nat → Int32) (A : Nat → Nat → Int32) (J : Nat → Nat → Int64) (it : Nat → Option Nat) (dyn : fsH)  : Nat → Nat → Int32 := (Lb_X3_measure_2_A 70 ht I A J it dyn 0)
def S_X3_measure (ht : Nat) (I : Nat → Int32) (A : Nat → Nat → Int32) (J : Nat → Nat → Int64) (it : Nat → Option Nat) (dyn : fsH)  : Prop := (S_Lb_X3_measure_2 70 ht I A J it dyn 0)
set_option maxRecDepth 100000 in
set_option maxHeartbeats 4000000 in
theorem c_X3_measure (G : fsG) (l : Launch) (ht : Nat) (I : Nat → Int32) (A : Nat → Nat → Int32) (J : Nat → Nat → Int64) (it : Nat → Option Nat) (dyn : fsH)  (hS : S_X3_measure ht I A J it dyn ) : fsFn G l mX3_measure 5 0 0 [.inr (.inr (some 9))] (fs_mk ht I A J it dyn) none (fs_mk ht I (L_X3_measure_A ht I A J it dyn ) J it dyn) := by
  refine fsMet_of (by decide) (Nat.le_of_ble_eq_true rfl) ?_
  generalize hQ : (fun (r1 : Option fsV) (h1 : fsH) => r1 = none ∧ h1 = (fs_mk ht I (L_X3_measure_A ht I A J it dyn ) J it dyn)) = Q
  have hq : Q none (fs_mk ht I (L_X3_measure_A ht I A J it dyn ) J it dyn) := by rw [← hQ]; exact ⟨rfl, rfl⟩
  clear hQ
  have hq : Q none (fs_mk ht I (Lb_X3_measure_2_A 70 ht I A J it dyn 0) J it dyn) := hq
  have hS : (S_Lb_X3_measure_2 70 ht I A J it dyn 0) := hS
  refine (show fsW G l mX3_measure 5 0 0 0 0 Q 0 [(0, .inr (.inr (some 9)))] [] (fs_mk ht I A J it dyn) from ?_)
  refine fs_iconst (v := 0) dX3_measure_0 rfl ?_
  refine fs_istore_n (L' := [(1, .inl 0), (0, .inr (.inr (some 9)))]) dX3_measure_1 rfl (by decide) rfl ?_
  refine fs_reL [1, 0] rfl ?_
  have ho1 := hS
  refine lp_Lb_X3_measure_2 G l Q 70 ht I A J it dyn 0 ho1 ?_
  have k9 := hq
  exact fs_ret dX3_measure_55 rfl k9
def Lb_X3_putBlock_6_v4 : Nat → Nat → (Nat → Int32) → (Nat → Nat → Int32) → (Nat → Nat → Int64) → (Nat → Option Nat) → fsH → Int32 → Int32 → Int32 → Int32 → Int32 → Int32
  | 0, ht, I, A, J, it, dyn, v1, v2, v3, v4, v5 => v4
  | n + 1, ht, I, A, J, it, dyn, v1, v2, v3, v4, v5 => (if v2 ≤ v5 then v4 else (Lb_X3_putBlock_6_v4 n ht I A J it dyn v1 v2 v3 (v4 + (A 12 (L_X7_cellOf_r ht I A J it dyn v5 v3).toNatClampNeg)) (v5 + 1)))
def Lb_X3_putBlock_6_v5 : Nat → Nat → (Nat → Int32) → (Nat → Nat → Int32) → (Nat → Nat → Int64) → (Nat → Option Nat) → fsH → Int32 → Int32 → Int32 → Int32 → Int32 → Int32
  | 0, ht, I, A, J, it, dyn, v1, v2, v3, v4, v5 => v5
  | n + 1, ht, I, A, J, it, dyn, v1, v2, v3, v4, v5 => (if v2 ≤ v5 then v5 else (Lb_X3_putBlock_6_v5 n ht I A J it dyn v1 v2 v3 (v4 + (A 12 (L_X7_cellOf_r ht I A J it dyn v5 v3).toNatClampNeg)) (v5 + 1)))
def S_Lb_X3_putBlock_6 : Nat → Nat → (Nat → Int32) → (Nat → Nat → Int32) → (Nat → Nat → Int64) → (Nat → Option Nat) → fsH → Int32 → Int32 → Int32 → Int32 → Int32 → Prop
  | 0, _, _, _, _, _, _, _, _, _, _, _ => False
  | n + 1, ht, I, A, J, it, dyn, v1, v2, v3, v4, v5 => (¬ (v2 ≤ v5) → ((vp_in (L_X7_cellOf_r ht I A J it dyn v5 v3) 64) ∧ (S_Lb_X3_putBlock_6 n ht I A J it dyn v1 v2 v3 (v4 + (A 12 (L_X7_cellOf_r ht I A J it dyn v5 v3).toNatClampNeg)) (v5 + 1))))
set_option maxRecDepth 100000 in
set_option maxHeartbeats 4000000 in
theorem lp_Lb_X3_putBlock_6 (G : fsG) (l : Launch) (Q : Option fsV → fsH → Prop) : ∀ (n : Nat) (ht : Nat) (I : Nat → Int32) (A : Nat → Nat → Int32) (J : Nat → Nat → Int64) (it : Nat → Option Nat) (dyn : fsH) (v1 : Int32) (v2 : Int32) (v3 : Int32) (v4 : Int32) (v5 : Int32), S_Lb_X3_putBlock_6 n ht I A J it dyn v1 v2 v3 v4 v5 → (fsW G l mX3_putBlock 3 0 0 0 0 Q 34 [(0, .inr (.inr (some 9))), (1, .inl v1), (2, .inl v2), (3, .inl v3), (4, .inl (Lb_X3_putBlock_6_v4 n ht I A J it dyn v1 v2 v3 v4 v5)), (5, .inl (Lb_X3_putBlock_6_v5 n ht I A J it dyn v1 v2 v3 v4 v5))] [] (fs_mk ht I A J it dyn)) → fsW G l mX3_putBlock 3 0 0 0 0 Q 6 [(0, .inr (.inr (some 9))), (1, .inl v1), (2, .inl v2), (3, .inl v3), (4, .inl v4), (5, .inl v5)] [] (fs_mk ht I A J it dyn) := by
  intro n
  induction n with
  | zero =>
    intro ht I A J it dyn v1 v2 v3 v4 v5 hS
    exact hS.elim
  | succ n ih =>
    intro ht I A J it dyn v1 v2 v3 v4 v5 hS hq
    have hS : (¬ (v2 ≤ v5) → ((vp_in (L_X7_cellOf_r ht I A J it dyn v5 v3) 64) ∧ (S_Lb_X3_putBlock_6 n ht I A J it dyn v1 v2 v3 (v4 + (A 12 (L_X7_cellOf_r ht I A J it dyn v5 v3).toNatClampNeg)) (v5 + 1)))) := hS
    have hq : fsW G l mX3_putBlock 3 0 0 0 0 Q 34 [(0, .inr (.inr (some 9))), (1, .inl v1), (2, .inl v2), (3, .inl v3), (4, .inl (if v2 ≤ v5 then v4 else (Lb_X3_putBlock_6_v4 n ht I A J it dyn v1 v2 v3 (v4 + (A 12 (L_X7_cellOf_r ht I A J it dyn v5 v3).toNatClampNeg)) (v5 + 1)))), (5, .inl (if v2 ≤ v5 then v5 else (Lb_X3_putBlock_6_v5 n ht I A J it dyn v1 v2 v3 (v4 + (A 12 (L_X7_cellOf_r ht I A J it dyn v5 v3).toNatClampNeg)) (v5 + 1))))] [] (fs_mk ht I A J it dyn) := hq
    refine fs_iload dX3_putBlock_6 rfl ?_
    refine fs_iload_n dX3_putBlock_8 rfl rfl ?_
    refine fs_icmp_ge 34 dX3_putBlock_9 (by decide) (fun c_9 : v2 ≤ v5 => ?_) (fun c_9 : ¬ (v2 ≤ v5) => ?_)
    · have k9 := hq
      try simp only [if_pos c_9] at k9 ⊢
      exact k9
    · have hS := hS c_9
      refine fs_iload dX3_putBlock_12 rfl ?_
      refine fs_aload_n dX3_putBlock_14 rfl rfl ?_
      refine fs_getfield (v := .inr (.inr (some 12))) dX3_putBlock_15 sf_X3_18 rfl rfl ?_
      refine fs_iload dX3_putBlock_18 rfl ?_
      refine fs_iload_n dX3_putBlock_20 rfl rfl ?_
      refine fs_callSN1 dX3_putBlock_21 sv_X3_45 (c_X7_cellOf G l ht I A J it dyn v5 v3) rfl rfl (Nat.le_of_ble_eq_true rfl) (Nat.le_of_ble_eq_true rfl) (Nat.le_of_ble_eq_true rfl) (Nat.le_of_ble_eq_true rfl) ?_
      obtain ⟨ho1, hS⟩ := hS
      refine fs_iaload dX3_putBlock_24 rfl ho1 ?_
      refine fs_iadd dX3_putBlock_25 ?_
      refine fs_istore (L' := [(4, .inl (v4 + (A 12 (L_X7_cellOf_r ht I A J it dyn v5 v3).toNatClampNeg))), (0, .inr (.inr (some 9))), (1, .inl v1), (2, .inl v2), (3, .inl v3), (5, .inl v5)]) dX3_putBlock_26 (by decide) rfl ?_
      refine fs_iinc (v := (v5 + 1)) (L' := [(5, .inl (v5 + 1)), (4, .inl (v4 + (A 12 (L_X7_cellOf_r ht I A J it dyn v5 v3).toNatClampNeg))), (0, .inr (.inr (some 9))), (1, .inl v1), (2, .inl v2), (3, .inl v3)]) dX3_putBlock_28 rfl rfl (by decide) rfl ?_
      refine fs_goto 6 dX3_putBlock_31 (by decide) ?_
      refine fs_reL [2, 3, 4, 5, 1, 0] rfl ?_
      have k9 := hq
      try simp only [if_neg c_9] at hS k9 ⊢
      exact ih _ _ _ _ _ _ _ _ _ _ _ hS k9
def Lb_X3_putBlock_80_I : Nat → Nat → (Nat → Int32) → (Nat → Nat → Int32) → (Nat → Nat → Int64) → (Nat → Option Nat) → fsH → Int32 → Int32 → Int32 → Int32 → Int32 → Int32 → (Nat → Int32)
  | 0, ht, I, A, J, it, dyn, v1, v2, v3, v4, v5, v6 => I
  | n + 1, ht, I, A, J, it, dyn, v1, v2, v3, v4, v5, v6 => (if v2 ≤ v6 then I else (Lb_X3_putBlock_80_I n ht (if v5 = 0 then (L_X3_putAlone_I ht I A J it dyn v6 v3) else I) (if v5 = 0 then (L_X3_putAlone_A ht I A J it dyn v6 v3) else (L_X3_putLines_A ht I A J it dyn v6 v3)) J it dyn v1 v2 v3 v4 v5 (v6 + 1)))
def Lb_X3_putBlock_80_A : Nat → Nat → (Nat → Int32) → (Nat → Nat → Int32) → (Nat → Nat → Int64) → (Nat → Option Nat) → fsH → Int32 → Int32 → Int32 → Int32 → Int32 → Int32 → (Nat → Nat → Int32)
  | 0, ht, I, A, J, it, dyn, v1, v2, v3, v4, v5, v6 => A
  | n + 1, ht, I, A, J, it, dyn, v1, v2, v3, v4, v5, v6 => (if v2 ≤ v6 then A else (Lb_X3_putBlock_80_A n ht (if v5 = 0 then (L_X3_putAlone_I ht I A J it dyn v6 v3) else I) (if v5 = 0 then (L_X3_putAlone_A ht I A J it dyn v6 v3) else (L_X3_putLines_A ht I A J it dyn v6 v3)) J it dyn v1 v2 v3 v4 v5 (v6 + 1)))
def Lb_X3_putBlock_80_v6 : Nat → Nat → (Nat → Int32) → (Nat → Nat → Int32) → (Nat → Nat → Int64) → (Nat → Option Nat) → fsH → Int32 → Int32 → Int32 → Int32 → Int32 → Int32 → Int32
  | 0, ht, I, A, J, it, dyn, v1, v2, v3, v4, v5, v6 => v6
  | n + 1, ht, I, A, J, it, dyn, v1, v2, v3, v4, v5, v6 => (if v2 ≤ v6 then v6 else (Lb_X3_putBlock_80_v6 n ht (if v5 = 0 then (L_X3_putAlone_I ht I A J it dyn v6 v3) else I) (if v5 = 0 then (L_X3_putAlone_A ht I A J it dyn v6 v3) else (L_X3_putLines_A ht I A J it dyn v6 v3)) J it dyn v1 v2 v3 v4 v5 (v6 + 1)))
def S_Lb_X3_putBlock_80 : Nat → Nat → (Nat → Int32) → (Nat → Nat → Int32) → (Nat → Nat → Int64) → (Nat → Option Nat) → fsH → Int32 → Int32 → Int32 → Int32 → Int32 → Int32 → Prop
  | 0, _, _, _, _, _, _, _, _, _, _, _, _ => False
  | n + 1, ht, I, A, J, it, dyn, v1, v2, v3, v4, v5, v6 => (¬ (v2 ≤ v6) → ((((v5 = 0) → (S_X3_putAlone ht I A J it dyn v6 v3)) ∧ (¬ (v5 = 0) → (S_X3_putLines ht I A J it dyn v6 v3))) ∧ (S_Lb_X3_putBlock_80 n ht (if v5 = 0 then (L_X3_putAlone_I ht I A J it dyn v6 v3) else I) (if v5 = 0 then (L_X3_putAlone_A ht I A J it dyn v6 v3) else (L_X3_putLines_A ht I A J it dyn v6 v3)) J it dyn v1 v2 v3 v4 v5 (v6 + 1))))
set_option maxRecDepth 100000 in
set_option maxHeartbeats 4000000 in
theorem lp_Lb_X3_putBlock_80 (G : fsG) (l : Launch) (Q : Option fsV → fsH → Prop) : ∀ (n : Nat) (ht : Nat) (I : Nat → Int32) (A : Nat → Nat → Int32) (J : Nat → Nat → Int64) (it : Nat → Option Nat) (dyn : fsH) (v1 : Int32) (v2 : Int32) (v3 : Int32) (v4 : Int32) (v5 : Int32) (v6 : Int32), S_Lb_X3_putBlock_80 n ht I A J it dyn v1 v2 v3 v4 v5 v6 → (fsW G l mX3_putBlock 3 0 0 0 0 Q 114 [(0, .inr (.inr (some 9))), (1, .inl v1), (2, .inl v2), (3, .inl v3), (4, .inl v4), (5, .inl v5), (6, .inl (Lb_X3_putBlock_80_v6 n ht I A J it dyn v1 v2 v3 v4 v5 v6))] [] (fs_mk ht (Lb_X3_putBlock_80_I n ht I A J it dyn v1 v2 v3 v4 v5 v6) (Lb_X3_putBlock_80_A n ht I A J it dyn v1 v2 v3 v4 v5 v6) J it dyn)) → fsW G l mX3_putBlock 3 0 0 0 0 Q 80 [(0, .inr (.inr (some 9))), (1, .inl v1), (2, .inl v2), (3, .inl v3), (4, .inl v4), (5, .inl v5), (6, .inl v6)] [] (fs_mk ht I A J it dyn) := by
  intro n
  induction n with
  | zero =>
    intro ht I A J it dyn v1 v2 v3 v4 v5 v6 hS
    exact hS.elim
  | succ n ih =>
    intro ht I A J it dyn v1 v2 v3 v4 v5 v6 hS hq
    have hS : (¬ (v2 ≤ v6) → ((((v5 = 0) → (S_X3_putAlone ht I A J it dyn v6 v3)) ∧ (¬ (v5 = 0) → (S_X3_putLines ht I A J it dyn v6 v3))) ∧ (S_Lb_X3_putBlock_80 n ht (if v5 = 0 then (L_X3_putAlone_I ht I A J it dyn v6 v3) else I) (if v5 = 0 then (L_X3_putAlone_A ht I A J it dyn v6 v3) else (L_X3_putLines_A ht I A J it dyn v6 v3)) J it dyn v1 v2 v3 v4 v5 (v6 + 1)))) := hS
    have hq : fsW G l mX3_putBlock 3 0 0 0 0 Q 114 [(0, .inr (.inr (some 9))), (1, .inl v1), (2, .inl v2), (3, .inl v3), (4, .inl v4), (5, .inl v5), (6, .inl (if v2 ≤ v6 then v6 else (Lb_X3_putBlock_80_v6 n ht (if v5 = 0 then (L_X3_putAlone_I ht I A J it dyn v6 v3) else I) (if v5 = 0 then (L_X3_putAlone_A ht I A J it dyn v6 v3) else (L_X3_putLines_A ht I A J it dyn v6 v3)) J it dyn v1 v2 v3 v4 v5 (v6 + 1))))] [] (fs_mk ht (if v2 ≤ v6 then I else (Lb_X3_putBlock_80_I n ht (if v5 = 0 then (L_X3_putAlone_I ht I A J it dyn v6 v3) else I) (if v5 = 0 then (L_X3_putAlone_A ht I A J it dyn v6 v3) else (L_X3_putLines_A ht I A J it dyn v6 v3)) J it dyn v1 v2 v3 v4 v5 (v6 + 1))) (if v2 ≤ v6 then A else (Lb_X3_putBlock_80_A n ht (if v5 = 0 then (L_X3_putAlone_I ht I A J it dyn v6 v3) else I) (if v5 = 0 then (L_X3_putAlone_A ht I A J it dyn v6 v3) else (L_X3_putLines_A ht I A J it dyn v6 v3)) J it dyn v1 v2 v3 v4 v5 (v6 + 1))) J it dyn) := hq
    refine fs_iload dX3_putBlock_80 rfl ?_
    refine fs_iload_n dX3_putBlock_82 rfl rfl ?_
    refine fs_icmp_ge 114 dX3_putBlock_83 (by decide) (fun c_83 : v2 ≤ v6 => ?_) (fun c_83 : ¬ (v2 ≤ v6) => ?_)
    · have k9 := hq
      try simp only [if_pos c_83] at k9 ⊢
      exact k9
    · have hS := hS c_83
      refine fs_iload dX3_putBlock_86 rfl ?_
      obtain ⟨hR_88, hS⟩ := hS
      have key_108 : fsW G l mX3_putBlock 3 0 0 0 0 Q 108 [(0, .inr (.inr (some 9))), (1, .inl v1), (2, .inl v2), (3, .inl v3), (4, .inl v4), (5, .inl v5), (6, .inl v6)] [] (fs_mk ht (if v5 = 0 then (L_X3_putAlone_I ht I A J it dyn v6 v3) else I) (if v5 = 0 then (L_X3_putAlone_A ht I A J it dyn v6 v3) else (L_X3_putLines_A ht I A J it dyn v6 v3)) J it dyn) := by
        refine fs_iinc (v := (v6 + 1)) (L' := [(6, .inl (v6 + 1)), (0, .inr (.inr (some 9))), (1, .inl v1), (2, .inl v2), (3, .inl v3), (4, .inl v4), (5, .inl v5)]) dX3_putBlock_108 rfl rfl (by decide) rfl ?_
        refine fs_goto 80 dX3_putBlock_111 (by decide) ?_
        refine fs_reL [1, 2, 3, 4, 5, 6, 0] rfl ?_
        have k9 := hq
        try simp only [if_neg c_83] at hS k9 ⊢
        exact ih _ _ _ _ _ _ _ _ _ _ _ _ hS k9
      refine fs_if_eq 101 dX3_putBlock_88 (by decide) (fun c_88 : v5 = 0 => ?_) (fun c_88 : ¬ (v5 = 0) => ?_)
      · have hS := hR_88.1 c_88
        refine fs_aload_n dX3_putBlock_101 rfl rfl ?_
        refine fs_iload dX3_putBlock_102 rfl ?_
        refine fs_iload_n dX3_putBlock_104 rfl rfl ?_
        have ho1 := hS
        refine fs_callV0 dX3_putBlock_105 sv_X3_65 rfl ⟨_, rfl, rfl⟩ (c_X3_putAlone G l ht I A J it dyn v6 v3 ho1) rfl rfl (Nat.le_of_ble_eq_true rfl) (Nat.le_of_ble_eq_true rfl) (Nat.le_of_ble_eq_true rfl) (Nat.le_of_ble_eq_true rfl) ?_
        have k9 := key_108
        try simp only [if_neg c_83, if_pos c_88] at k9 ⊢
        exact k9
      · have hS := hR_88.2 c_88
        refine fs_aload_n dX3_putBlock_91 rfl rfl ?_
        refine fs_iload dX3_putBlock_92 rfl ?_
        refine fs_iload_n dX3_putBlock_94 rfl rfl ?_
        have ho1 := hS
        refine fs_callV0 dX3_putBlock_95 sv_X3_113 rfl ⟨_, rfl, rfl⟩ (c_X3_putLines G l ht I A J it dyn v6 v3 ho1) rfl rfl (Nat.le_of_ble_eq_true rfl) (Nat.le_of_ble_eq_true rfl) (Nat.le_of_ble_eq_true rfl) (Nat.le_of_ble_eq_true rfl) ?_
        refine fs_goto 108 dX3_putBlock_98 (by decide) ?_
        have k9 := key_108
        try simp only [if_neg c_83, if_neg c_88] at k9 ⊢
        exact k9
def L_X3_putBlock_I (ht : Nat) (I : Nat → Int32) (A : Nat → Nat → Int32) (J : Nat → Nat → Int64) (it : Nat → Option Nat) (dyn : fsH) (x1 : Int32) (x2 : Int32) (x3 : Int32) : Nat → Int32 := (Lb_X3_putBlock_80_I 70 ht (if (if (nI ht) < (Lb_X3_putBlock_6_v4 70 ht I A J it dyn x1 x2 x3 0 x1) then 0 else 1 : Int32) = 0 then I else (L_X3_turnPage_I ht I A J it dyn (Lb_X3_putBlock_6_v4 70 ht I A J it dyn x1 x2 x3 0 x1))) (if (if (nI ht) < (Lb_X3_putBlock_6_v4 70 ht I A J it dyn x1 x2 x3 0 x1) then 0 else 1 : Int32) = 0 then A else (if (L_X3_turnPage_r ht I A J it dyn (Lb_X3_putBlock_6_v4 70 ht I A J it dyn x1 x2 x3 0 x1)) = 0 then A else (if x3 ≤ 0 then A else (L_X3_putHeader_A ht (L_X3_turnPage_I ht I A J it dyn (Lb_X3_putBlock_6_v4 70 ht I A J it dyn x1 x2 x3 0 x1)) A J it dyn (x1 - 1) (Lb_X3_putBlock_6_v4 70 ht I A J it dyn x1 x2 x3 0 x1))))) J it dyn x1 x2 x3 (Lb_X3_putBlock_6_v4 70 ht I A J it dyn x1 x2 x3 0 x1) (if (nI ht) < (Lb_X3_putBlock_6_v4 70 ht I A J it dyn x1 x2 x3 0 x1) then 0 else 1 : Int32) x1)
def L_X3_putBlock_A (ht : Nat) (I : Nat → Int32) (A : Nat → Nat → Int32) (J : Nat → Nat → Int64) (it : Nat → Option Nat) (dyn : fsH) (x1 : Int32) (x2 : Int32) (x3 : Int32) : Nat → Nat → Int32 := (Lb_X3_putBlock_80_A 70 ht (if (if (nI ht) < (Lb_X3_putBlock_6_v4 70 ht I A J it dyn x1 x2 x3 0 x1) then 0 else 1 : Int32) = 0 then I else (L_X3_turnPage_I ht I A J it dyn (Lb_X3_putBlock_6_v4 70 ht I A J it dyn x1 x2 x3 0 x1))) (if (if (nI ht) < (Lb_X3_putBlock_6_v4 70 ht I A J it dyn x1 x2 x3 0 x1) then 0 else 1 : Int32) = 0 then A else (if (L_X3_turnPage_r ht I A J it dyn (Lb_X3_putBlock_6_v4 70 ht I A J it dyn x1 x2 x3 0 x1)) = 0 then A else (if x3 ≤ 0 then A else (L_X3_putHeader_A ht (L_X3_turnPage_I ht I A J it dyn (Lb_X3_putBlock_6_v4 70 ht I A J it dyn x1 x2 x3 0 x1)) A J it dyn (x1 - 1) (Lb_X3_putBlock_6_v4 70 ht I A J it dyn x1 x2 x3 0 x1))))) J it dyn x1 x2 x3 (Lb_X3_putBlock_6_v4 70 ht I A J it dyn x1 x2 x3 0 x1) (if (nI ht) < (Lb_X3_putBlock_6_v4 70 ht I A J it dyn x1 x2 x3 0 x1) then 0 else 1 : Int32) x1)
def S_X3_putBlock (ht : Nat) (I : Nat → Int32) (A : Nat → Nat → Int32) (J : Nat → Nat → Int64) (it : Nat → Option Nat) (dyn : fsH) (x1 : Int32) (x2 : Int32) (x3 : Int32) : Prop := ((S_Lb_X3_putBlock_6 70 ht I A J it dyn x1 x2 x3 0 x1) ∧ ((¬ ((if (nI ht) < (Lb_X3_putBlock_6_v4 70 ht I A J it dyn x1 x2 x3 0 x1) then 0 else 1 : Int32) = 0) → ((S_X3_turnPage ht I A J it dyn (Lb_X3_putBlock_6_v4 70 ht I A J it dyn x1 x2 x3 0 x1)) ∧ (¬ ((L_X3_turnPage_r ht I A J it dyn (Lb_X3_putBlock_6_v4 70 ht I A J it dyn x1 x2 x3 0 x1)) = 0) → (¬ (x3 ≤ 0) → (S_X3_putHeader ht (L_X3_turnPage_I ht I A J it dyn (Lb_X3_putBlock_6_v4 70 ht I A J it dyn x1 x2 x3 0 x1)) A J it dyn (x1 - 1) (Lb_X3_putBlock_6_v4 70 ht I A J it dyn x1 x2 x3 0 x1)))))) ∧ (S_Lb_X3_putBlock_80 70 ht (if (if (nI ht) < (Lb_X3_putBlock_6_v4 70 ht I A J it dyn x1 x2 x3 0 x1) then 0 else 1 : Int32) = 0 then I else (L_X3_turnPage_I ht I A J it dyn (Lb_X3_putBlock_6_v4 70 ht I A J it dyn x1 x2 x3 0 x1))) (if (if (nI ht) < (Lb_X3_putBlock_6_v4 70 ht I A J it dyn x1 x2 x3 0 x1) then 0 else 1 : Int32) = 0 then A else (if (L_X3_turnPage_r ht I A J it dyn (Lb_X3_putBlock_6_v4 70 ht I A J it dyn x1 x2 x3 0 x1)) = 0 then A else (if x3 ≤ 0 then A else (L_X3_putHeader_A ht (L_X3_turnPage_I ht I A J it dyn (Lb_X3_putBlock_6_v4 70 ht I A J it dyn x1 x2 x3 0 x1)) A J it dyn (x1 - 1) (Lb_X3_putBlock_6_v4 70 ht I A J it dyn x1 x2 x3 0 x1))))) J it dyn x1 x2 x3 (Lb_X3_putBlock_6_v4 70 ht I A J it dyn x1 x2 x3 0 x1) (if (nI ht) < (Lb_X3_putBlock_6_v4 70 ht I A J it dyn x1 x2 x3 0 x1) then 0 else 1 : Int32) x1)))
set_option maxRecDepth 100000 in
set_option maxHeartbeats 4000000 in
theorem c_X3_putBlock (G : fsG) (l : Launch) (ht : Nat) (I : Nat → Int32) (A : Nat → Nat → Int32) (J : Nat → Nat → Int64) (it : Nat → Option Nat) (dyn : fsH) (x1 : Int32) (x2 : Int32) (x3 : Int32) (hS : S_X3_putBlock ht I A J it dyn x1 x2 x3) : fsFn G l mX3_putBlock 3 0 0 [.inr (.inr (some 9)), .inl x1, .inl x2, .inl x3] (fs_mk ht I A J it dyn) none (fs_mk ht (L_X3_putBlock_I ht I A J it dyn x1 x2 x3) (L_X3_putBlock_A ht I A J it dyn x1 x2 x3) J it dyn) := by
  refine fsMet_of (by decide) (Nat.le_of_ble_eq_true rfl) ?_
  generalize hQ : (fun (r1 : Option fsV) (h1 : fsH) => r1 = none ∧ h1 = (fs_mk ht (L_X3_putBlock_I ht I A J it dyn x1 x2 x3) (L_X3_putBlock_A ht I A J it dyn x1 x2 x3) J it dyn)) = Q
  have hq : Q none (fs_mk ht (L_X3_putBlock_I ht I A J it dyn x1 x2 x3) (L_X3_putBlock_A ht I A J it dyn x1 x2 x3) J it dyn) := by rw [← hQ]; exact ⟨rfl, rfl⟩
  clear hQ
  have hq : Q none (fs_mk ht (Lb_X3_putBlock_80_I 70 ht (if (if (nI ht) < (Lb_X3_putBlock_6_v4 70 ht I A J it dyn x1 x2 x3 0 x1) then 0 else 1 : Int32) = 0 then I else (L_X3_turnPage_I ht I A J it dyn (Lb_X3_putBlock_6_v4 70 ht I A J it dyn x1 x2 x3 0 x1))) (if (if (nI ht) < (Lb_X3_putBlock_6_v4 70 ht I A J it dyn x1 x2 x3 0 x1) then 0 else 1 : Int32) = 0 then A else (if (L_X3_turnPage_r ht I A J it dyn (Lb_X3_putBlock_6_v4 70 ht I A J it dyn x1 x2 x3 0 x1)) = 0 then A else (if x3 ≤ 0 then A else (L_X3_putHeader_A ht (L_X3_turnPage_I ht I A J it dyn (Lb_X3_putBlock_6_v4 70 ht I A J it dyn x1 x2 x3 0 x1)) A J it dyn (x1 - 1) (Lb_X3_putBlock_6_v4 70 ht I A J it dyn x1 x2 x3 0 x1))))) J it dyn x1 x2 x3 (Lb_X3_putBlock_6_v4 70 ht I A J it dyn x1 x2 x3 0 x1) (if (nI ht) < (Lb_X3_putBlock_6_v4 70 ht I A J it dyn x1 x2 x3 0 x1) then 0 else 1 : Int32) x1) (Lb_X3_putBlock_80_A 70 ht (if (if (nI ht) < (Lb_X3_putBlock_6_v4 70 ht I A J it dyn x1 x2 x3 0 x1) then 0 else 1 : Int32) = 0 then I else (L_X3_turnPage_I ht I A J it dyn (Lb_X3_putBlock_6_v4 70 ht I A J it dyn x1 x2 x3 0 x1))) (if (if (nI ht) < (Lb_X3_putBlock_6_v4 70 ht I A J it dyn x1 x2 x3 0 x1) then 0 else 1 : Int32) = 0 then A else (if (L_X3_turnPage_r ht I A J it dyn (Lb_X3_putBlock_6_v4 70 ht I A J it dyn x1 x2 x3 0 x1)) = 0 then A else (if x3 ≤ 0 then A else (L_X3_putHeader_A ht (L_X3_turnPage_I ht I A J it dyn (Lb_X3_putBlock_6_v4 70 ht I A J it dyn x1 x2 x3 0 x1)) A J it dyn (x1 - 1) (Lb_X3_putBlock_6_v4 70 ht I A J it dyn x1 x2 x3 0 x1))))) J it dyn x1 x2 x3 (Lb_X3_putBlock_6_v4 70 ht I A J it dyn x1 x2 x3 0 x1) (if (nI ht) < (Lb_X3_putBlock_6_v4 70 ht I A J it dyn x1 x2 x3 0 x1) then 0 else 1 : Int32) x1) J it dyn) := hq
  have hS : ((S_Lb_X3_putBlock_6 70 ht I A J it dyn x1 x2 x3 0 x1) ∧ ((¬ ((if (nI ht) < (Lb_X3_putBlock_6_v4 70 ht I A J it dyn x1 x2 x3 0 x1) then 0 else 1 : Int32) = 0) → ((S_X3_turnPage ht I A J it dyn (Lb_X3_putBlock_6_v4 70 ht I A J it dyn x1 x2 x3 0 x1)) ∧ (¬ ((L_X3_turnPage_r ht I A J it dyn (Lb_X3_putBlock_6_v4 70 ht I A J it dyn x1 x2 x3 0 x1)) = 0) → (¬ (x3 ≤ 0) → (S_X3_putHeader ht (L_X3_turnPage_I ht I A J it dyn (Lb_X3_putBlock_6_v4 70 ht I A J it dyn x1 x2 x3 0 x1)) A J it dyn (x1 - 1) (Lb_X3_putBlock_6_v4 70 ht I A J it dyn x1 x2 x3 0 x1)))))) ∧ (S_Lb_X3_putBlock_80 70 ht (if (if (nI ht) < (Lb_X3_putBlock_6_v4 70 ht I A J it dyn x1 x2 x3 0 x1) then 0 else 1 : Int32) = 0 then I else (L_X3_turnPage_I ht I A J it dyn (Lb_X3_putBlock_6_v4 70 ht I A J it dyn x1 x2 x3 0 x1))) (if (if (nI ht) < (Lb_X3_putBlock_6_v4 70 ht I A J it dyn x1 x2 x3 0 x1) then 0 else 1 : Int32) = 0 then A else (if (L_X3_turnPage_r ht I A J it dyn (Lb_X3_putBlock_6_v4 70 ht I A J it dyn x1 x2 x3 0 x1)) = 0 then A else (if x3 ≤ 0 then A else (L_X3_putHeader_A ht (L_X3_turnPage_I ht I A J it dyn (Lb_X3_putBlock_6_v4 70 ht I A J it dyn x1 x2 x3 0 x1)) A J it dyn (x1 - 1) (Lb_X3_putBlock_6_v4 70 ht I A J it dyn x1 x2 x3 0 x1))))) J it dyn x1 x2 x3 (Lb_X3_putBlock_6_v4 70 ht I A J it dyn x1 x2 x3 0 x1) (if (nI ht) < (Lb_X3_putBlock_6_v4 70 ht I A J it dyn x1 x2 x3 0 x1) then 0 else 1 : Int32) x1))) := hS
  refine (show fsW G l mX3_putBlock 3 0 0 0 0 Q 0 [(0, .inr (.inr (some 9))), (1, .inl x1), (2, .inl x2), (3, .inl x3)] [] (fs_mk ht I A J it dyn) from ?_)
  refine fs_iconst (v := 0) dX3_putBlock_0 rfl ?_
  refine fs_istore (L' := [(4, .inl 0), (0, .inr (.inr (some 9))), (1, .inl x1), (2, .inl x2), (3, .inl x3)]) dX3_putBlock_1 (by decide) rfl ?_
  refine fs_iload_n dX3_putBlock_3 rfl rfl ?_
  refine fs_istore (L' := [(5, .inl x1), (4, .inl 0), (0, .inr (.inr (some 9))), (1, .inl x1), (2, .inl x2), (3, .inl x3)]) dX3_putBlock_4 (by decide) rfl ?_
  refine fs_reL [2, 3, 4, 5, 1, 0] rfl ?_
  obtain ⟨ho1, hS⟩ := hS
  refine lp_Lb_X3_putBlock_6 G l Q 70 ht I A J it dyn x1 x2 x3 0 x1 ho1 ?_
  refine fs_iload dX3_putBlock_34 rfl ?_
  refine fs_aload_n dX3_putBlock_36 rfl rfl ?_
  refine fs_getfield (v := .inl (nI ht)) dX3_putBlock_37 sf_X3_33 rfl rfl ?_
  have key_48 : fsW G l mX3_putBlock 3 0 0 0 0 Q 48 [(0, .inr (.inr (some 9))), (1, .inl x1), (2, .inl x2), (3, .inl x3), (4, .inl (Lb_X3_putBlock_6_v4 70 ht I A J it dyn x1 x2 x3 0 x1)), (5, .inl (Lb_X3_putBlock_6_v5 70 ht I A J it dyn x1 x2 x3 0 x1))] [.inl (if (nI ht) < (Lb_X3_putBlock_6_v4 70 ht I A J it dyn x1 x2 x3 0 x1) then 0 else 1 : Int32)] (fs_mk ht I A J it dyn) := by
    refine fs_istore (L' := [(5, .inl (if (nI ht) < (Lb_X3_putBlock_6_v4 70 ht I A J it dyn x1 x2 x3 0 x1) then 0 else 1 : Int32)), (0, .inr (.inr (some 9))), (1, .inl x1), (2, .inl x2), (3, .inl x3), (4, .inl (Lb_X3_putBlock_6_v4 70 ht I A J it dyn x1 x2 x3 0 x1))]) dX3_putBlock_48 (by decide) rfl ?_
    refine fs_iload dX3_putBlock_50 rfl ?_
    obtain ⟨hR_52, hS⟩ := hS
    have key_77 : fsW G l mX3_putBlock 3 0 0 0 0 Q 77 [(0, .inr (.inr (some 9))), (1, .inl x1), (2, .inl x2), (3, .inl x3), (4, .inl (Lb_X3_putBlock_6_v4 70 ht I A J it dyn x1 x2 x3 0 x1)), (5, .inl (if (nI ht) < (Lb_X3_putBlock_6_v4 70 ht I A J it dyn x1 x2 x3 0 x1) then 0 else 1 : Int32))] [] (fs_mk ht (if (if (nI ht) < (Lb_X3_putBlock_6_v4 70 ht I A J it dyn x1 x2 x3 0 x1) then 0 else 1 : Int32) = 0 then I else (L_X3_turnPage_I ht I A J it dyn (Lb_X3_putBlock_6_v4 70 ht I A J it dyn x1 x2 x3 0 x1))) (if (if (nI ht) < (Lb_X3_putBlock_6_v4 70 ht I A J it dyn x1 x2 x3 0 x1) then 0 else 1 : Int32) = 0 then A else (if (L_X3_turnPage_r ht I A J it dyn (Lb_X3_putBlock_6_v4 70 ht I A J it dyn x1 x2 x3 0 x1)) = 0 then A else (if x3 ≤ 0 then A else (L_X3_putHeader_A ht (L_X3_turnPage_I ht I A J it dyn (Lb_X3_putBlock_6_v4 70 ht I A J it dyn x1 x2 x3 0 x1)) A J it dyn (x1 - 1) (Lb_X3_putBlock_6_v4 70 ht I A J it dyn x1 x2 x3 0 x1))))) J it dyn) := by
      refine fs_iload_n dX3_putBlock_77 rfl rfl ?_
      refine fs_istore (L' := [(6, .inl x1), (0, .inr (.inr (some 9))), (1, .inl x1), (2, .inl x2), (3, .inl x3), (4, .inl (Lb_X3_putBlock_6_v4 70 ht I A J it dyn x1 x2 x3 0 x1)), (5, .inl (if (nI ht) < (Lb_X3_putBlock_6_v4 70 ht I A J it dyn x1 x2 x3 0 x1) then 0 else 1 : Int32))]) dX3_putBlock_78 (by decide) rfl ?_
      refine fs_reL [1, 2, 3, 4, 5, 6, 0] rfl ?_
      have ho1 := hS
      refine lp_Lb_X3_putBlock_80 G l Q 70 ht (if (if (nI ht) < (Lb_X3_putBlock_6_v4 70 ht I A J it dyn x1 x2 x3 0 x1) then 0 else 1 : Int32) = 0 then I else (L_X3_turnPage_I ht I A J it dyn (Lb_X3_putBlock_6_v4 70 ht I A J it dyn x1 x2 x3 0 x1))) (if (if (nI ht) < (Lb_X3_putBlock_6_v4 70 ht I A J it dyn x1 x2 x3 0 x1) then 0 else 1 : Int32) = 0 then A else (if (L_X3_turnPage_r ht I A J it dyn (Lb_X3_putBlock_6_v4 70 ht I A J it dyn x1 x2 x3 0 x1)) = 0 then A else (if x3 ≤ 0 then A else (L_X3_putHeader_A ht (L_X3_turnPage_I ht I A J it dyn (Lb_X3_putBlock_6_v4 70 ht I A J it dyn x1 x2 x3 0 x1)) A J it dyn (x1 - 1) (Lb_X3_putBlock_6_v4 70 ht I A J it dyn x1 x2 x3 0 x1))))) J it dyn x1 x2 x3 (Lb_X3_putBlock_6_v4 70 ht I A J it dyn x1 x2 x3 0 x1) (if (nI ht) < (Lb_X3_putBlock_6_v4 70 ht I A J it dyn x1 x2 x3 0 x1) then 0 else 1 : Int32) x1 ho1 ?_
      have k9 := hq
      exact fs_ret dX3_putBlock_114 rfl k9
    refine fs_if_eq 77 dX3_putBlock_52 (by decide) (fun c_52 : (if (nI ht) < (Lb_X3_putBlock_6_v4 70 ht I A J it dyn x1 x2 x3 0 x1) then 0 else 1 : Int32) = 0 => ?_) (fun c_52 : ¬ ((if (nI ht) < (Lb_X3_putBlock_6_v4 70 ht I A J it dyn x1 x2 x3 0 x1) then 0 else 1 : Int32) = 0) => ?_)
    · refine fs_reL [1, 2, 3, 4, 5, 0] rfl ?_
      have k9 := key_77
      try simp only [if_pos c_52] at k9 ⊢
      exact k9
    · have hS := hR_52 c_52
      refine fs_aload_n dX3_putBlock_55 rfl rfl ?_
      refine fs_iload dX3_putBlock_56 rfl ?_
      obtain ⟨ho1, hS⟩ := hS
      refine fs_callV1 dX3_putBlock_58 sv_X3_107 rfl ⟨_, rfl, rfl⟩ (c_X3_turnPage G l ht I A J it dyn (Lb_X3_putBlock_6_v4 70 ht I A J it dyn x1 x2 x3 0 x1) ho1) rfl rfl (Nat.le_of_ble_eq_true rfl) (Nat.le_of_ble_eq_true rfl) (Nat.le_of_ble_eq_true rfl) (Nat.le_of_ble_eq_true rfl) ?_
      refine fs_if_eq 77 dX3_putBlock_61 (by decide) (fun c_61 : (L_X3_turnPage_r ht I A J it dyn (Lb_X3_putBlock_6_v4 70 ht I A J it dyn x1 x2 x3 0 x1)) = 0 => ?_) (fun c_61 : ¬ ((L_X3_turnPage_r ht I A J it dyn (Lb_X3_putBlock_6_v4 70 ht I A J it dyn x1 x2 x3 0 x1)) = 0) => ?_)
      · refine fs_reL [1, 2, 3, 4, 5, 0] rfl ?_
        have k9 := key_77
        try simp only [if_neg c_52, if_pos c_61] at k9 ⊢
        exact k9
      · have hS := hS c_61
        refine fs_iload_n dX3_putBlock_64 rfl rfl ?_
        refine fs_if_le 77 dX3_putBlock_65 (by decide) (fun c_65 : x3 ≤ 0 => ?_) (fun c_65 : ¬ (x3 ≤ 0) => ?_)
        · refine fs_reL [1, 2, 3, 4, 5, 0] rfl ?_
          have k9 := key_77
          try simp only [if_neg c_52, if_neg c_61, if_pos c_65] at k9 ⊢
          exact k9
        · have hS := hS c_65
          refine fs_aload_n dX3_putBlock_68 rfl rfl ?_
          refine fs_iload_n dX3_putBlock_69 rfl rfl ?_
          refine fs_iconst (v := 1) dX3_putBlock_70 rfl ?_
          refine fs_isub dX3_putBlock_71 ?_
          refine fs_iload dX3_putBlock_72 rfl ?_
          have ho1 := hS
          refine fs_callV0 dX3_putBlock_74 sv_X3_110 rfl ⟨_, rfl, rfl⟩ (c_X3_putHeader G l ht (L_X3_turnPage_I ht I A J it dyn (Lb_X3_putBlock_6_v4 70 ht I A J it dyn x1 x2 x3 0 x1)) A J it dyn (x1 - 1) (Lb_X3_putBlock_6_v4 70 ht I A J it dyn x1 x2 x3 0 x1) ho1) rfl rfl (Nat.le_of_ble_eq_true rfl) (Nat.le_of_ble_eq_true rfl) (Nat.le_of_ble_eq_true rfl) (Nat.le_of_ble_eq_true rfl) ?_
          refine fs_reL [1, 2, 3, 4, 5, 0] rfl ?_
          have k9 := key_77
          try simp only [if_neg c_52, if_neg c_61, if_neg c_65] at k9 ⊢
          exact k9
  refine fs_icmp_gt 47 dX3_putBlock_40 (by decide) (fun c_40 : (nI ht) < (Lb_X3_putBlock_6_v4 70 ht I A J it dyn x1 x2 x3 0 x1) => ?_) (fun c_40 : ¬ ((nI ht) < (Lb_X3_putBlock_6_v4 70 ht I A J it dyn x1 x2 x3 0 x1)) => ?_)
  · refine fs_iconst (v := 0) dX3_putBlock_47 rfl ?_
    have k9 := key_48
    try simp only [if_pos c_40] at k9 ⊢
    exact k9
  · refine fs_iconst (v := 1) dX3_putBlock_43 rfl ?_
    refine fs_goto 48 dX3_putBlock_44 (by decide) ?_
    have k9 := key_48
    try simp only [if_neg c_40] at k9 ⊢
    exact k9
def Lb_X3_putSection_2_v2 : Nat → Nat → (Nat → Int32) → (Nat → Nat → Int32) → (Nat → Nat → Int64) → (Nat → Option Nat) → fsH → Int32 → Int32 → Int32
  | 0, ht, I, A, J, it, dyn, v1, v2 => v2
  | n + 1, ht, I, A, J, it, dyn, v1, v2 => (if (I 4) ≤ v2 then v2 else (if (L_X1_repeats_r ht I A J it dyn v2) = 0 then v2 else (Lb_X3_putSection_2_v2 n ht I A J it dyn v1 (v2 + 1))))
def S_Lb_X3_putSection_2 : Nat → Nat → (Nat → Int32) → (Nat → Nat → Int32) → (Nat → Nat → Int64) → (Nat → Option Nat) → fsH → Int32 → Int32 → Prop
  | 0, _, _, _, _, _, _, _, _ => False
  | n + 1, ht, I, A, J, it, dyn, v1, v2 => (¬ ((I 4) ≤ v2) → ((S_X1_repeats ht I A J it dyn v2) ∧ (¬ ((L_X1_repeats_r ht I A J it dyn v2) = 0) → (S_Lb_X3_putSection_2 n ht I A J it dyn v1 (v2 + 1)))))
set_option maxRecDepth 100000 in
set_option maxHeartbeats 4000000 in
theorem lp_Lb_X3_putSection_2 (G : fsG) (l : Launch) (Q : Option fsV → fsH → Prop) : ∀ (n : Nat) (ht : Nat) (I : Nat → Int32) (A : Nat → Nat → Int32) (J : Nat → Nat → Int64) (it : Nat → Option Nat) (dyn : fsH) (v1 : Int32) (v2 : Int32), S_Lb_X3_putSection_2 n ht I A J it dyn v1 v2 → (fsW G l mX3_putSection 4 0 0 0 0 Q 30 [(0, .inr (.inr (some 9))), (1, .inl v1), (2, .inl (Lb_X3_putSection_2_v2 n ht I A J it dyn v1 v2))] [] (fs_mk ht I A J it dyn)) → fsW G l mX3_putSection 4 0 0 0 0 Q 2 [(0, .inr (.inr (some 9))), (1, .inl v1), (2, .inl v2)] [] (fs_mk ht I A J it dyn) := by
  intro n
  induction n with
  | zero =>
    intro ht I A J it dyn v1 v2 hS
    exact hS.elim
  | succ n ih =>
    intro ht I A J it dyn v1 v2 hS hq
    have hS : (¬ ((I 4) ≤ v2) → ((S_X1_repeats ht I A J it dyn v2) ∧ (¬ ((L_X1_repeats_r ht I A J it dyn v2) = 0) → (S_Lb_X3_putSection_2 n ht I A J it dyn v1 (v2 + 1))))) := hS
    have hq : fsW G l mX3_putSection 4 0 0 0 0 Q 30 [(0, .inr (.inr (some 9))), (1, .inl v1), (2, .inl (if (I 4) ≤ v2 then v2 else (if (L_X1_repeats_r ht I A J it dyn v2) = 0 then v2 else (Lb_X3_putSection_2_v2 n ht I A J it dyn v1 (v2 + 1)))))] [] (fs_mk ht I A J it dyn) := hq
    refine fs_iload_n dX3_putSection_2 rfl rfl ?_
    refine fs_aload_n dX3_putSection_3 rfl rfl ?_
    refine fs_getfield (v := .inr (.inr (some 3))) dX3_putSection_4 sf_X3_25 rfl rfl ?_
    refine fs_getfield (v := .inl (I 4)) dX3_putSection_7 sf_X3_58 rfl rfl ?_
    refine fs_icmp_ge 30 dX3_putSection_10 (by decide) (fun c_10 : (I 4) ≤ v2 => ?_) (fun c_10 : ¬ ((I 4) ≤ v2) => ?_)
    · have k9 := hq
      try simp only [if_pos c_10] at k9 ⊢
      exact k9
    · have hS := hS c_10
      refine fs_aload_n dX3_putSection_13 rfl rfl ?_
      refine fs_getfield (v := .inr (.inr (some 3))) dX3_putSection_14 sf_X3_25 rfl rfl ?_
      refine fs_iload_n dX3_putSection_17 rfl rfl ?_
      obtain ⟨ho1, hS⟩ := hS
      refine fs_callV1 dX3_putSection_18 sv_X3_61 rfl ⟨_, rfl, rfl⟩ (c_X1_repeats G l ht I A J it dyn v2 ho1) rfl rfl (Nat.le_of_ble_eq_true rfl) (Nat.le_of_ble_eq_true rfl) (Nat.le_of_ble_eq_true rfl) (Nat.le_of_ble_eq_true rfl) ?_
      refine fs_if_eq 30 dX3_putSection_21 (by decide) (fun c_21 : (L_X1_repeats_r ht I A J it dyn v2) = 0 => ?_) (fun c_21 : ¬ ((L_X1_repeats_r ht I A J it dyn v2) = 0) => ?_)
      · have k9 := hq
        try simp only [if_neg c_10, if_pos c_21] at k9 ⊢
        exact k9
      · have hS := hS c_21
        refine fs_iinc (v := (v2 + 1)) (L' := [(2, .inl (v2 + 1)), (0, .inr (.inr (some 9))), (1, .inl v1)]) dX3_putSection_24 rfl rfl (by decide) rfl ?_
        refine fs_goto 2 dX3_putSection_27 (by decide) ?_
        refine fs_reL [1, 2, 0] rfl ?_
        have k9 := hq
        try simp only [if_neg c_10, if_neg c_21] at hS k9 ⊢
        exact ih _ _ _ _ _ _ _ _ hS k9
def Lb_X3_putSection_32_I : Nat → Nat → (Nat → Int32) → (Nat → Nat → Int32) → (Nat → Nat → Int64) → (Nat → Option Nat) → fsH → Int32 → Int32 → Int32 → (Nat → Int32)
  | 0, ht, I, A, J, it, dyn, v1, v2, v3 => I
  | n + 1, ht, I, A, J, it, dyn, v1, v2, v3 => (if (I 5) ≤ v3 then I else (Lb_X3_putSection_32_I n ht (L_X3_putBlock_I ht I A J it dyn v1 v2 v3) (L_X3_putBlock_A ht I A J it dyn v1 v2 v3) J it dyn v1 v2 (v3 + 1)))
def Lb_X3_putSection_32_A : Nat → Nat → (Nat → Int32) → (Nat → Nat → Int32) → (Nat → Nat → Int64) → (Nat → Option Nat) → fsH → Int32 → Int32 → Int32 → (Nat → Nat → Int32)
  | 0, ht, I, A, J, it, dyn, v1, v2, v3 => A
  | n + 1, ht, I, A, J, it, dyn, v1, v2, v3 => (if (I 5) ≤ v3 then A else (Lb_X3_putSection_32_A n ht (L_X3_putBlock_I ht I A J it dyn v1 v2 v3) (L_X3_putBlock_A ht I A J it dyn v1 v2 v3) J it dyn v1 v2 (v3 + 1)))
def Lb_X3_putSection_32_v3 : Nat → Nat → (Nat → Int32) → (Nat → Nat → Int32) → (Nat → Nat → Int64) → (Nat → Option Nat) → fsH → Int32 → Int32 → Int32 → Int32
  | 0, ht, I, A, J, it, dyn, v1, v2, v3 => v3
  | n + 1, ht, I, A, J, it, dyn, v1, v2, v3 => (if (I 5) ≤ v3 then v3 else (Lb_X3_putSection_32_v3 n ht (L_X3_putBlock_I ht I A J it dyn v1 v2 v3) (L_X3_putBlock_A ht I A J it dyn v1 v2 v3) J it dyn v1 v2 (v3 + 1)))
def S_Lb_X3_putSection_32 : Nat → Nat → (Nat → Int32) → (Nat → Nat → Int32) → (Nat → Nat → Int64) → (Nat → Option Nat) → fsH → Int32 → Int32 → Int32 → Prop
  | 0, _, _, _, _, _, _, _, _, _ => False
  | n + 1, ht, I, A, J, it, dyn, v1, v2, v3 => (¬ ((I 5) ≤ v3) → ((S_X3_putBlock ht I A J it dyn v1 v2 v3) ∧ (S_Lb_X3_putSection_32 n ht (L_X3_putBlock_I ht I A J it dyn v1 v2 v3) (L_X3_putBlock_A ht I A J it dyn v1 v2 v3) J it dyn v1 v2 (v3 + 1))))
set_option maxRecDepth 100000 in
set_option maxHeartbeats 4000000 in
theorem lp_Lb_X3_putSection_32 (G : fsG) (l : Launch) (Q : Option fsV → fsH → Prop) : ∀ (n : Nat) (ht : Nat) (I : Nat → Int32) (A : Nat → Nat → Int32) (J : Nat → Nat → Int64) (it : Nat → Option Nat) (dyn : fsH) (v1 : Int32) (v2 : Int32) (v3 : Int32), S_Lb_X3_putSection_32 n ht I A J it dyn v1 v2 v3 → (fsW G l mX3_putSection 4 0 0 0 0 Q 56 [(0, .inr (.inr (some 9))), (1, .inl v1), (2, .inl v2), (3, .inl (Lb_X3_putSection_32_v3 n ht I A J it dyn v1 v2 v3))] [] (fs_mk ht (Lb_X3_putSection_32_I n ht I A J it dyn v1 v2 v3) (Lb_X3_putSection_32_A n ht I A J it dyn v1 v2 v3) J it dyn)) → fsW G l mX3_putSection 4 0 0 0 0 Q 32 [(0, .inr (.inr (some 9))), (1, .inl v1), (2, .inl v2), (3, .inl v3)] [] (fs_mk ht I A J it dyn) := by
  intro n
  induction n with
  | zero =>
    intro ht I A J it dyn v1 v2 v3 hS
    exact hS.elim
  | succ n ih =>
    intro ht I A J it dyn v1 v2 v3 hS hq
    have hS : (¬ ((I 5) ≤ v3) → ((S_X3_putBlock ht I A J it dyn v1 v2 v3) ∧ (S_Lb_X3_putSection_32 n ht (L_X3_putBlock_I ht I A J it dyn v1 v2 v3) (L_X3_putBlock_A ht I A J it dyn v1 v2 v3) J it dyn v1 v2 (v3 + 1)))) := hS
    have hq : fsW G l mX3_putSection 4 0 0 0 0 Q 56 [(0, .inr (.inr (some 9))), (1, .inl v1), (2, .inl v2), (3, .inl (if (I 5) ≤ v3 then v3 else (Lb_X3_putSection_32_v3 n ht (L_X3_putBlock_I ht I A J it dyn v1 v2 v3) (L_X3_putBlock_A ht I A J it dyn v1 v2 v3) J it dyn v1 v2 (v3 + 1))))] [] (fs_mk ht (if (I 5) ≤ v3 then I else (Lb_X3_putSection_32_I n ht (L_X3_putBlock_I ht I A J it dyn v1 v2 v3) (L_X3_putBlock_A ht I A J it dyn v1 v2 v3) J it dyn v1 v2 (v3 + 1))) (if (I 5) ≤ v3 then A else (Lb_X3_putSection_32_A n ht (L_X3_putBlock_I ht I A J it dyn v1 v2 v3) (L_X3_putBlock_A ht I A J it dyn v1 v2 v3) J it dyn v1 v2 (v3 + 1))) J it dyn) := hq
    refine fs_iload_n dX3_putSection_32 rfl rfl ?_
    refine fs_aload_n dX3_putSection_33 rfl rfl ?_
    refine fs_getfield (v := .inr (.inr (some 3))) dX3_putSection_34 sf_X3_25 rfl rfl ?_
    refine fs_getfield (v := .inl (I 5)) dX3_putSection_37 sf_X3_100 rfl rfl ?_
    refine fs_icmp_ge 56 dX3_putSection_40 (by decide) (fun c_40 : (I 5) ≤ v3 => ?_) (fun c_40 : ¬ ((I 5) ≤ v3) => ?_)
    · have k9 := hq
      try simp only [if_pos c_40] at k9 ⊢
      exact k9
    · have hS := hS c_40
      refine fs_aload_n dX3_putSection_43 rfl rfl ?_
      refine fs_iload_n dX3_putSection_44 rfl rfl ?_
      refine fs_iload_n dX3_putSection_45 rfl rfl ?_
      refine fs_iload_n dX3_putSection_46 rfl rfl ?_
      obtain ⟨ho1, hS⟩ := hS
      refine fs_callV0 dX3_putSection_47 sv_X3_103 rfl ⟨_, rfl, rfl⟩ (c_X3_putBlock G l ht I A J it dyn v1 v2 v3 ho1) rfl rfl (Nat.le_of_ble_eq_true rfl) (Nat.le_of_ble_eq_true rfl) (Nat.le_of_ble_eq_true rfl) (Nat.le_of_ble_eq_true rfl) ?_
      refine fs_iinc (v := (v3 + 1)) (L' := [(3, .inl (v3 + 1)), (0, .inr (.inr (some 9))), (1, .inl v1), (2, .inl v2)]) dX3_putSection_50 rfl rfl (by decide) rfl ?_
      refine fs_goto 32 dX3_putSection_53 (by decide) ?_
      refine fs_reL [1, 2, 3, 0] rfl ?_
      have k9 := hq
      try simp only [if_neg c_40] at hS k9 ⊢
      exact ih _ _ _ _ _ _ _ _ _ hS k9
def L_X3_putSection_I (ht : Nat) (I : Nat → Int32) (A : Nat → Nat → Int32) (J : Nat → Nat → Int64) (it : Nat → Option Nat) (dyn : fsH) (x1 : Int32) : Nat → Int32 := (Lb_X3_putSection_32_I 70 ht I A J it dyn x1 (Lb_X3_putSection_2_v2 70 ht I A J it dyn x1 x1) 0)
def L_X3_putSection_A (ht : Nat) (I : Nat → Int32) (A : Nat → Nat → Int32) (J : Nat → Nat → Int64) (it : Nat → Option Nat) (dyn : fsH) (x1 : Int32) : Nat → Nat → Int32 := (Lb_X3_putSection_32_A 70 ht I A J it dyn x1 (Lb_X3_putSection_2_v2 70 ht I A J it dyn x1 x1) 0)
def S_X3_putSection (ht : Nat) (I : Nat → Int32) (A : Nat → Nat → Int32) (J : Nat → Nat → Int64) (it : Nat → Option Nat) (dyn : fsH) (x1 : Int32) : Prop := ((S_Lb_X3_putSection_2 70 ht I A J it dyn x1 x1) ∧ (S_Lb_X3_putSection_32 70 ht I A J it dyn x1 (Lb_X3_putSection_2_v2 70 ht I A J it dyn x1 x1) 0))
set_option maxRecDepth 100000 in
set_option maxHeartbeats 4000000 in
theorem c_X3_putSection (G : fsG) (l : Launch) (ht : Nat) (I : Nat → Int32) (A : Nat → Nat → Int32) (J : Nat → Nat → Int64) (it : Nat → Option Nat) (dyn : fsH) (x1 : Int32) (hS : S_X3_putSection ht I A J it dyn x1) : fsFn G l mX3_putSection 4 0 0 [.inr (.inr (some 9)), .inl x1] (fs_mk ht I A J it dyn) none (fs_mk ht (L_X3_putSection_I ht I A J it dyn x1) (L_X3_putSection_A ht I A J it dyn x1) J it dyn) := by
  refine fsMet_of (by decide) (Nat.le_of_ble_eq_true rfl) ?_
  generalize hQ : (fun (r1 : Option fsV) (h1 : fsH) => r1 = none ∧ h1 = (fs_mk ht (L_X3_putSection_I ht I A J it dyn x1) (L_X3_putSection_A ht I A J it dyn x1) J it dyn)) = Q
  have hq : Q none (fs_mk ht (L_X3_putSection_I ht I A J it dyn x1) (L_X3_putSection_A ht I A J it dyn x1) J it dyn) := by rw [← hQ]; exact ⟨rfl, rfl⟩
  clear hQ
  have hq : Q none (fs_mk ht (Lb_X3_putSection_32_I 70 ht I A J it dyn x1 (Lb_X3_putSection_2_v2 70 ht I A J it dyn x1 x1) 0) (Lb_X3_putSection_32_A 70 ht I A J it dyn x1 (Lb_X3_putSection_2_v2 70 ht I A J it dyn x1 x1) 0) J it dyn) := hq
  have hS : ((S_Lb_X3_putSection_2 70 ht I A J it dyn x1 x1) ∧ (S_Lb_X3_putSection_32 70 ht I A J it dyn x1 (Lb_X3_putSection_2_v2 70 ht I A J it dyn x1 x1) 0)) := hS
  refine (show fsW G l mX3_putSection 4 0 0 0 0 Q 0 [(0, .inr (.inr (some 9))), (1, .inl x1)] [] (fs_mk ht I A J it dyn) from ?_)
  refine fs_iload_n dX3_putSection_0 rfl rfl ?_
  refine fs_istore_n (L' := [(2, .inl x1), (0, .inr (.inr (some 9))), (1, .inl x1)]) dX3_putSection_1 rfl (by decide) rfl ?_
  refine fs_reL [1, 2, 0] rfl ?_
  obtain ⟨ho1, hS⟩ := hS
  refine lp_Lb_X3_putSection_2 G l Q 70 ht I A J it dyn x1 x1 ho1 ?_
  refine fs_iconst (v := 0) dX3_putSection_30 rfl ?_
  refine fs_istore_n (L' := [(3, .inl 0), (0, .inr (.inr (some 9))), (1, .inl x1), (2, .inl (Lb_X3_putSection_2_v2 70 ht I A J it dyn x1 x1))]) dX3_putSection_31 rfl (by decide) rfl ?_
  refine fs_reL [1, 2, 3, 0] rfl ?_
  have ho1 := hS
  refine lp_Lb_X3_putSection_32 G l Q 70 ht I A J it dyn x1 (Lb_X3_putSection_2_v2 70 ht I A J it dyn x1 x1) 0 ho1 ?_
  have k9 := hq
  exact fs_ret dX3_putSection_56 rfl k9
def L_X7_isThere_r (ht : Nat) (I : Nat → Int32) (A : Nat → Nat → Int32) (J : Nat → Nat → Int64) (it : Nat → Option Nat) (dyn : fsH) (x1 : Int32) (x2 : Int32) : Int32 := (if (I 1) = 0 then 0 else (if (L_X1_has_r ht I A J it dyn x1 x2) = 0 then 0 else 1 : Int32) : Int32)
def S_X7_isThere (ht : Nat) (I : Nat → Int32) (A : Nat → Nat → Int32) (J : Nat → Nat → Int64) (it : Nat → Option Nat) (dyn : fsH) (x1 : Int32) (x2 : Int32) : Prop := (¬ ((I 1) = 0) → (S_X1_has ht I A J it dyn x1 x2))
set_option maxRecDepth 100000 in
set_option maxHeartbeats 4000000 in
theorem c_X7_isThere (G : fsG) (l : Launch) (ht : Nat) (I : Nat → Int32) (A : Nat → Nat → Int32) (J : Nat → Nat → Int64) (it : Nat → Option Nat) (dyn : fsH) (x1 : Int32) (x2 : Int32) (hS : S_X7_isThere ht I A J it dyn x1 x2) : fsFn G l mX7_isThere 2 0 0 [.inr (.inr (some 0)), .inl x1, .inl x2] (fs_mk ht I A J it dyn) (some (.inl (L_X7_isThere_r ht I A J it dyn x1 x2))) (fs_mk ht I A J it dyn) := by
  refine fsMet_of (by decide) (Nat.le_of_ble_eq_true rfl) ?_
  generalize hQ : (fun (r1 : Option fsV) (h1 : fsH) => r1 = (some (.inl (L_X7_isThere_r ht I A J it dyn x1 x2))) ∧ h1 = (fs_mk ht I A J it dyn)) = Q
  have hq : Q (some (.inl (L_X7_isThere_r ht I A J it dyn x1 x2))) (fs_mk ht I A J it dyn) := by rw [← hQ]; exact ⟨rfl, rfl⟩
  clear hQ
  have hq : Q (some (.inl (if (I 1) = 0 then 0 else (if (L_X1_has_r ht I A J it dyn x1 x2) = 0 then 0 else 1 : Int32) : Int32))) (fs_mk ht I A J it dyn) := hq
  have hS : (¬ ((I 1) = 0) → (S_X1_has ht I A J it dyn x1 x2)) := hS
  refine (show fsW G l mX7_isThere 2 0 0 0 0 Q 0 [(0, .inr (.inr (some 0))), (1, .inl x1), (2, .inl x2)] [] (fs_mk ht I A J it dyn) from ?_)
  refine fs_aload_n dX7_isThere_0 rfl rfl ?_
  refine fs_getfield (v := .inl (I 1)) dX7_isThere_1 sf_X7_13 rfl rfl ?_
  have hR_4 := hS
  have key_24 : fsW G l mX7_isThere 2 0 0 0 0 Q 24 [(0, .inr (.inr (some 0))), (1, .inl x1), (2, .inl x2)] [.inl (if (I 1) = 0 then 0 else (if (L_X1_has_r ht I A J it dyn x1 x2) = 0 then 0 else 1 : Int32) : Int32)] (fs_mk ht I A J it dyn) := by
    have k9 := hq
    exact fs_iret dX7_isThere_24 rfl (by (repeat' split) <;> first | rfl) k9
  refine fs_if_eq 23 dX7_isThere_4 (by decide) (fun c_4 : (I 1) = 0 => ?_) (fun c_4 : ¬ ((I 1) = 0) => ?_)
  · refine fs_iconst (v := 0) dX7_isThere_23 rfl ?_
    have k9 := key_24
    try simp only [if_pos c_4] at k9 ⊢
    exact k9
  · have hS := hR_4 c_4
    refine fs_aload_n dX7_isThere_7 rfl rfl ?_
    refine fs_getfield (v := .inr (.inr (some 3))) dX7_isThere_8 sf_X7_27 rfl rfl ?_
    refine fs_iload_n dX7_isThere_11 rfl rfl ?_
    refine fs_iload_n dX7_isThere_12 rfl rfl ?_
    have ho1 := hS
    refine fs_callV1 dX7_isThere_13 sv_X7_182 rfl ⟨_, rfl, rfl⟩ (c_X1_has G l ht I A J it dyn x1 x2 ho1) rfl rfl (Nat.le_of_ble_eq_true rfl) (Nat.le_of_ble_eq_true rfl) (Nat.le_of_ble_eq_true rfl) (Nat.le_of_ble_eq_true rfl) ?_
    refine fs_if_eq 23 dX7_isThere_16 (by decide) (fun c_16 : (L_X1_has_r ht I A J it dyn x1 x2) = 0 => ?_) (fun c_16 : ¬ ((L_X1_has_r ht I A J it dyn x1 x2) = 0) => ?_)
    · refine fs_iconst (v := 0) dX7_isThere_23 rfl ?_
      have k9 := key_24
      try simp only [if_neg c_4, if_pos c_16] at k9 ⊢
      exact k9
    · refine fs_iconst (v := 1) dX7_isThere_19 rfl ?_
      refine fs_goto 24 dX7_isThere_20 (by decide) ?_
      have k9 := key_24
      try simp only [if_neg c_4, if_neg c_16] at k9 ⊢
      exact k9
theorem nb_X7_isThere (ht : Nat) (I : Nat → Int32) (A : Nat → Nat → Int32) (J : Nat → Nat → Int64) (it : Nat → Option Nat) (dyn : fsH) (x1 : Int32) (x2 : Int32) : narrow .boolean (.int (L_X7_isThere_r ht I A J it dyn x1 x2)) = .int (L_X7_isThere_r ht I A J it dyn x1 x2) := by
  unfold L_X7_isThere_r
  exact (by (repeat' split) <;> first | rfl)
def L_X7_get_r (ht : Nat) (I : Nat → Int32) (A : Nat → Nat → Int32) (J : Nat → Nat → Int64) (it : Nat → Option Nat) (dyn : fsH) (x1 : Int32) (x2 : Int32) : Int64 := (if (L_X7_isThere_r ht I A J it dyn x1 x2) = 0 then 0 else (if (L_X1_isField_r ht I A J it dyn x1) = 0 then 0 else (if (L_X7_isFault_r ht I A J it dyn (L_X6_outcomeOf_r ht I A J it dyn x1 x2)) = 0 then (L_X6_outcomeOf_r ht I A J it dyn x1 x2) else 0 : Int64)))
def S_X7_get (ht : Nat) (I : Nat → Int32) (A : Nat → Nat → Int32) (J : Nat → Nat → Int64) (it : Nat → Option Nat) (dyn : fsH) (x1 : Int32) (x2 : Int32) : Prop := ((S_X7_isThere ht I A J it dyn x1 x2) ∧ (¬ ((L_X7_isThere_r ht I A J it dyn x1 x2) = 0) → ((S_X1_isField ht I A J it dyn x1) ∧ (¬ ((L_X1_isField_r ht I A J it dyn x1) = 0) → (S_X6_outcomeOf ht I A J it dyn x1 x2)))))
set_option maxRecDepth 100000 in
set_option maxHeartbeats 4000000 in
theorem c_X7_get (G : fsG) (l : Launch) (ht : Nat) (I : Nat → Int32) (A : Nat → Nat → Int32) (J : Nat → Nat → Int64) (it : Nat → Option Nat) (dyn : fsH) (x1 : Int32) (x2 : Int32) (hS : S_X7_get ht I A J it dyn x1 x2) : fsFn G l mX7_get 3 0 0 [.inr (.inr (some 0)), .inl x1, .inl x2] (fs_mk ht I A J it dyn) (some (.inr (.inl (L_X7_get_r ht I A J it dyn x1 x2)))) (fs_mk ht I A J it dyn) := by
  refine fsMet_of (by decide) (Nat.le_of_ble_eq_true rfl) ?_
  generalize hQ : (fun (r1 : Option fsV) (h1 : fsH) => r1 = (some (.inr (.inl (L_X7_get_r ht I A J it dyn x1 x2)))) ∧ h1 = (fs_mk ht I A J it dyn)) = Q
  have hq : Q (some (.inr (.inl (L_X7_get_r ht I A J it dyn x1 x2)))) (fs_mk ht I A J it dyn) := by rw [← hQ]; exact ⟨rfl, rfl⟩
  clear hQ
  have hq : Q (some (.inr (.inl (if (L_X7_isThere_r ht I A J it dyn x1 x2) = 0 then 0 else (if (L_X1_isField_r ht I A J it dyn x1) = 0 then 0 else (if (L_X7_isFault_r ht I A J it dyn (L_X6_outcomeOf_r ht I A J it dyn x1 x2)) = 0 then (L_X6_outcomeOf_r ht I A J it dyn x1 x2) else 0 : Int64)))))) (fs_mk ht I A J it dyn) := hq
  have hS : ((S_X7_isThere ht I A J it dyn x1 x2) ∧ (¬ ((L_X7_isThere_r ht I A J it dyn x1 x2) = 0) → ((S_X1_isField ht I A J it dyn x1) ∧ (¬ ((L_X1_isField_r ht I A J it dyn x1) = 0) → (S_X6_outcomeOf ht I A J it dyn x1 x2))))) := hS
  refine (show fsW G l mX7_get 3 0 0 0 0 Q 0 [(0, .inr (.inr (some 0))), (1, .inl x1), (2, .inl x2)] [] (fs_mk ht I A J it dyn) from ?_)
  refine fs_aload_n dX7_get_0 rfl rfl ?_
  refine fs_iload_n dX7_get_1 rfl rfl ?_
  refine fs_iload_n dX7_get_2 rfl rfl ?_
  obtain ⟨ho1, hS⟩ := hS
  refine fs_callV1 dX7_get_3 sv_X7_120 rfl ⟨_, rfl, rfl⟩ (c_X7_isThere G l ht I A J it dyn x1 x2 ho1) rfl rfl (Nat.le_of_ble_eq_true rfl) (Nat.le_of_ble_eq_true rfl) (Nat.le_of_ble_eq_true rfl) (Nat.le_of_ble_eq_true rfl) ?_
  refine fs_if_eq 20 dX7_get_6 (by decide) (fun c_6 : (L_X7_isThere_r ht I A J it dyn x1 x2) = 0 => ?_) (fun c_6 : ¬ ((L_X7_isThere_r ht I A J it dyn x1 x2) = 0) => ?_)
  · refine fs_lconst (v := 0) dX7_get_20 rfl ?_
    have k9 := hq
    try simp only [if_pos c_6] at k9 ⊢
    exact fs_lret dX7_get_21 rfl k9
  · have hS := hS c_6
    refine fs_aload_n dX7_get_9 rfl rfl ?_
    refine fs_getfield (v := .inr (.inr (some 3))) dX7_get_10 sf_X7_27 rfl rfl ?_
    refine fs_iload_n dX7_get_13 rfl rfl ?_
    obtain ⟨ho1, hS⟩ := hS
    refine fs_callV1 dX7_get_14 sv_X7_139 rfl ⟨_, rfl, rfl⟩ (c_X1_isField G l ht I A J it dyn x1 ho1) rfl rfl (Nat.le_of_ble_eq_true rfl) (Nat.le_of_ble_eq_true rfl) (Nat.le_of_ble_eq_true rfl) (Nat.le_of_ble_eq_true rfl) ?_
    refine fs_if_ne 22 dX7_get_17 (by decide) (fun c_17 : ¬ (L_X1_isField_r ht I A J it dyn x1) = 0 => ?_) (fun c_17 : (L_X1_isField_r ht I A J it dyn x1) = 0 => ?_)
    · have hS := hS c_17
      refine fs_aload_n dX7_get_22 rfl rfl ?_
      refine fs_getfield (v := .inr (.inr (some 5))) dX7_get_23 sf_X7_36 rfl rfl ?_
      refine fs_iload_n dX7_get_26 rfl rfl ?_
      refine fs_iload_n dX7_get_27 rfl rfl ?_
      have ho1 := hS
      refine fs_callV1 dX7_get_28 sv_X7_142 rfl ⟨_, rfl, rfl⟩ (c_X6_outcomeOf G l ht I A J it dyn x1 x2 ho1) rfl rfl (Nat.le_of_ble_eq_true rfl) (Nat.le_of_ble_eq_true rfl) (Nat.le_of_ble_eq_true rfl) (Nat.le_of_ble_eq_true rfl) ?_
      refine fs_lstore_n (L' := [(3, .inr (.inl (L_X6_outcomeOf_r ht I A J it dyn x1 x2))), (0, .inr (.inr (some 0))), (1, .inl x1), (2, .inl x2)]) dX7_get_31 rfl (by decide) rfl ?_
      refine fs_lload_n dX7_get_32 rfl rfl ?_
      refine fs_callS1 dX7_get_33 sv_X7_146 (c_X7_isFault G l ht I A J it dyn (L_X6_outcomeOf_r ht I A J it dyn x1 x2)) rfl rfl (Nat.le_of_ble_eq_true rfl) (Nat.le_of_ble_eq_true rfl) (Nat.le_of_ble_eq_true rfl) (Nat.le_of_ble_eq_true rfl) ?_
      have key_44 : fsW G l mX7_get 3 0 0 0 0 Q 44 [(0, .inr (.inr (some 0))), (1, .inl x1), (2, .inl x2), (3, .inr (.inl (L_X6_outcomeOf_r ht I A J it dyn x1 x2)))] [.inr (.inl (if (L_X7_isFault_r ht I A J it dyn (L_X6_outcomeOf_r ht I A J it dyn x1 x2)) = 0 then (L_X6_outcomeOf_r ht I A J it dyn x1 x2) else 0 : Int64))] (fs_mk ht I A J it dyn) := by
        have k9 := hq
        try simp only [if_neg c_6, if_neg c_17] at k9 ⊢
        exact fs_lret dX7_get_44 rfl k9
      refine fs_if_eq 43 dX7_get_36 (by decide) (fun c_36 : (L_X7_isFault_r ht I A J it dyn (L_X6_outcomeOf_r ht I A J it dyn x1 x2)) = 0 => ?_) (fun c_36 : ¬ ((L_X7_isFault_r ht I A J it dyn (L_X6_outcomeOf_r ht I A J it dyn x1 x2)) = 0) => ?_)
      · refine fs_lload_n dX7_get_43 rfl rfl ?_
        refine fs_reL [1, 2, 3, 0] rfl ?_
        have k9 := key_44
        try simp only [if_neg c_6, if_neg c_17, if_pos c_36] at k9 ⊢
        exact k9
      · refine fs_lconst (v := 0) dX7_get_39 rfl ?_
        refine fs_goto 44 dX7_get_40 (by decide) ?_
        refine fs_reL [1, 2, 3, 0] rfl ?_
        have k9 := key_44
        try simp only [if_neg c_6, if_neg c_17, if_neg c_36] at k9 ⊢
        exact k9
    · refine fs_lconst (v := 0) dX7_get_20 rfl ?_
      have k9 := hq
      try simp only [if_neg c_6, if_pos c_17] at k9 ⊢
      exact fs_lret dX7_get_21 rfl k9
def L_X7_fault_r (ht : Nat) (I : Nat → Int32) (A : Nat → Nat → Int32) (J : Nat → Nat → Int64) (it : Nat → Option Nat) (dyn : fsH) (x1 : Int32) (x2 : Int32) : Int32 := (if (L_X7_isThere_r ht I A J it dyn x1 x2) = 0 then (-1) else (if (L_X1_isCaption_r ht I A J it dyn x1) = 0 then (if (L_X1_isCheck_r ht I A J it dyn x1) = 0 then (if (L_X7_isFault_r ht I A J it dyn (L_X6_outcomeOf_r ht I A J it dyn x1 x2)) = 0 then 0 else ((L_X6_outcomeOf_r ht I A J it dyn x1 x2) - (10000000000000000)).toInt32 : Int32) else (if (L_X6_fails_r ht I A J it dyn x1 x2) = 0 then 0 else 1 : Int32)) else (-1)))
def S_X7_fault (ht : Nat) (I : Nat → Int32) (A : Nat → Nat → Int32) (J : Nat → Nat → Int64) (it : Nat → Option Nat) (dyn : fsH) (x1 : Int32) (x2 : Int32) : Prop := ((S_X7_isThere ht I A J it dyn x1 x2) ∧ (¬ ((L_X7_isThere_r ht I A J it dyn x1 x2) = 0) → ((S_X1_isCaption ht I A J it dyn x1) ∧ (((L_X1_isCaption_r ht I A J it dyn x1) = 0) → ((S_X1_isCheck ht I A J it dyn x1) ∧ ((((L_X1_isCheck_r ht I A J it dyn x1) = 0) → (S_X6_outcomeOf ht I A J it dyn x1 x2)) ∧ (¬ ((L_X1_isCheck_r ht I A J it dyn x1) = 0) → (S_X6_fails ht I A J it dyn x1 x2))))))))
set_option maxRecDepth 100000 in
set_option maxHeartbeats 4000000 in
theorem c_X7_fault (G : fsG) (l : Launch) (ht : Nat) (I : Nat → Int32) (A : Nat → Nat → Int32) (J : Nat → Nat → Int64) (it : Nat → Option Nat) (dyn : fsH) (x1 : Int32) (x2 : Int32) (hS : S_X7_fault ht I A J it dyn x1 x2) : fsFn G l mX7_fault 4 0 0 [.inr (.inr (some 0)), .inl x1, .inl x2] (fs_mk ht I A J it dyn) (some (.inl (L_X7_fault_r ht I A J it dyn x1 x2))) (fs_mk ht I A J it dyn) := by
  refine fsMet_of (by decide) (Nat.le_of_ble_eq_true rfl) ?_
  generalize hQ : (fun (r1 : Option fsV) (h1 : fsH) => r1 = (some (.inl (L_X7_fault_r ht I A J it dyn x1 x2))) ∧ h1 = (fs_mk ht I A J it dyn)) = Q
  have hq : Q (some (.inl (L_X7_fault_r ht I A J it dyn x1 x2))) (fs_mk ht I A J it dyn) := by rw [← hQ]; exact ⟨rfl, rfl⟩
  clear hQ
  have hq : Q (some (.inl (if (L_X7_isThere_r ht I A J it dyn x1 x2) = 0 then (-1) else (if (L_X1_isCaption_r ht I A J it dyn x1) = 0 then (if (L_X1_isCheck_r ht I A J it dyn x1) = 0 then (if (L_X7_isFault_r ht I A J it dyn (L_X6_outcomeOf_r ht I A J it dyn x1 x2)) = 0 then 0 else ((L_X6_outcomeOf_r ht I A J it dyn x1 x2) - (10000000000000000)).toInt32 : Int32) else (if (L_X6_fails_r ht I A J it dyn x1 x2) = 0 then 0 else 1 : Int32)) else (-1))))) (fs_mk ht I A J it dyn) := hq
  have hS : ((S_X7_isThere ht I A J it dyn x1 x2) ∧ (¬ ((L_X7_isThere_r ht I A J it dyn x1 x2) = 0) → ((S_X1_isCaption ht I A J it dyn x1) ∧ (((L_X1_isCaption_r ht I A J it dyn x1) = 0) → ((S_X1_isCheck ht I A J it dyn x1) ∧ ((((L_X1_isCheck_r ht I A J it dyn x1) = 0) → (S_X6_outcomeOf ht I A J it dyn x1 x2)) ∧ (¬ ((L_X1_isCheck_r ht I A J it dyn x1) = 0) → (S_X6_fails ht I A J it dyn x1 x2)))))))) := hS
  refine (show fsW G l mX7_fault 4 0 0 0 0 Q 0 [(0, .inr (.inr (some 0))), (1, .inl x1), (2, .inl x2)] [] (fs_mk ht I A J it dyn) from ?_)
  refine fs_aload_n dX7_fault_0 rfl rfl ?_
  refine fs_iload_n dX7_fault_1 rfl rfl ?_
  refine fs_iload_n dX7_fault_2 rfl rfl ?_
  obtain ⟨ho1, hS⟩ := hS
  refine fs_callV1 dX7_fault_3 sv_X7_120 rfl ⟨_, rfl, rfl⟩ (c_X7_isThere G l ht I A J it dyn x1 x2 ho1) rfl rfl (Nat.le_of_ble_eq_true rfl) (Nat.le_of_ble_eq_true rfl) (Nat.le_of_ble_eq_true rfl) (Nat.le_of_ble_eq_true rfl) ?_
  refine fs_if_eq 20 dX7_fault_6 (by decide) (fun c_6 : (L_X7_isThere_r ht I A J it dyn x1 x2) = 0 => ?_) (fun c_6 : ¬ ((L_X7_isThere_r ht I A J it dyn x1 x2) = 0) => ?_)
  · refine fs_iconst (v := (-1)) dX7_fault_20 rfl ?_
    have k9 := hq
    try simp only [if_pos c_6] at k9 ⊢
    exact fs_iret dX7_fault_21 rfl rfl k9
  · have hS := hS c_6
    refine fs_aload_n dX7_fault_9 rfl rfl ?_
    refine fs_getfield (v := .inr (.inr (some 3))) dX7_fault_10 sf_X7_27 rfl rfl ?_
    refine fs_iload_n dX7_fault_13 rfl rfl ?_
    obtain ⟨ho1, hS⟩ := hS
    refine fs_callV1 dX7_fault_14 sv_X7_149 rfl ⟨_, rfl, rfl⟩ (c_X1_isCaption G l ht I A J it dyn x1 ho1) rfl rfl (Nat.le_of_ble_eq_true rfl) (Nat.le_of_ble_eq_true rfl) (Nat.le_of_ble_eq_true rfl) (Nat.le_of_ble_eq_true rfl) ?_
    refine fs_if_eq 22 dX7_fault_17 (by decide) (fun c_17 : (L_X1_isCaption_r ht I A J it dyn x1) = 0 => ?_) (fun c_17 : ¬ ((L_X1_isCaption_r ht I A J it dyn x1) = 0) => ?_)
    · have hS := hS c_17
      refine fs_aload_n dX7_fault_22 rfl rfl ?_
      refine fs_getfield (v := .inr (.inr (some 3))) dX7_fault_23 sf_X7_27 rfl rfl ?_
      refine fs_iload_n dX7_fault_26 rfl rfl ?_
      obtain ⟨ho1, hS⟩ := hS
      refine fs_callV1 dX7_fault_27 sv_X7_152 rfl ⟨_, rfl, rfl⟩ (c_X1_isCheck G l ht I A J it dyn x1 ho1) rfl rfl (Nat.le_of_ble_eq_true rfl) (Nat.le_of_ble_eq_true rfl) (Nat.le_of_ble_eq_true rfl) (Nat.le_of_ble_eq_true rfl) ?_
      refine fs_if_eq 51 dX7_fault_30 (by decide) (fun c_30 : (L_X1_isCheck_r ht I A J it dyn x1) = 0 => ?_) (fun c_30 : ¬ ((L_X1_isCheck_r ht I A J it dyn x1) = 0) => ?_)
      · have hS := hS.1 c_30
        refine fs_aload_n dX7_fault_51 rfl rfl ?_
        refine fs_getfield (v := .inr (.inr (some 5))) dX7_fault_52 sf_X7_36 rfl rfl ?_
        refine fs_iload_n dX7_fault_55 rfl rfl ?_
        refine fs_iload_n dX7_fault_56 rfl rfl ?_
        have ho1 := hS
        refine fs_callV1 dX7_fault_57 sv_X7_142 rfl ⟨_, rfl, rfl⟩ (c_X6_outcomeOf G l ht I A J it dyn x1 x2 ho1) rfl rfl (Nat.le_of_ble_eq_true rfl) (Nat.le_of_ble_eq_true rfl) (Nat.le_of_ble_eq_true rfl) (Nat.le_of_ble_eq_true rfl) ?_
        refine fs_lstore_n (L' := [(3, .inr (.inl (L_X6_outcomeOf_r ht I A J it dyn x1 x2))), (0, .inr (.inr (some 0))), (1, .inl x1), (2, .inl x2)]) dX7_fault_60 rfl (by decide) rfl ?_
        refine fs_lload_n dX7_fault_61 rfl rfl ?_
        refine fs_callS1 dX7_fault_62 sv_X7_146 (c_X7_isFault G l ht I A J it dyn (L_X6_outcomeOf_r ht I A J it dyn x1 x2)) rfl rfl (Nat.le_of_ble_eq_true rfl) (Nat.le_of_ble_eq_true rfl) (Nat.le_of_ble_eq_true rfl) (Nat.le_of_ble_eq_true rfl) ?_
        have key_78 : fsW G l mX7_fault 4 0 0 0 0 Q 78 [(0, .inr (.inr (some 0))), (1, .inl x1), (2, .inl x2), (3, .inr (.inl (L_X6_outcomeOf_r ht I A J it dyn x1 x2)))] [.inl (if (L_X7_isFault_r ht I A J it dyn (L_X6_outcomeOf_r ht I A J it dyn x1 x2)) = 0 then 0 else ((L_X6_outcomeOf_r ht I A J it dyn x1 x2) - (10000000000000000)).toInt32 : Int32)] (fs_mk ht I A J it dyn) := by
          have k9 := hq
          try simp only [if_neg c_6, if_pos c_17, if_pos c_30] at k9 ⊢
          exact fs_iret dX7_fault_78 rfl rfl k9
        refine fs_if_eq 77 dX7_fault_65 (by decide) (fun c_65 : (L_X7_isFault_r ht I A J it dyn (L_X6_outcomeOf_r ht I A J it dyn x1 x2)) = 0 => ?_) (fun c_65 : ¬ ((L_X7_isFault_r ht I A J it dyn (L_X6_outcomeOf_r ht I A J it dyn x1 x2)) = 0) => ?_)
        · refine fs_iconst (v := 0) dX7_fault_77 rfl ?_
          refine fs_reL [1, 2, 3, 0] rfl ?_
          have k9 := key_78
          try simp only [if_neg c_6, if_pos c_17, if_pos c_30, if_pos c_65] at k9 ⊢
          exact k9
        · refine fs_lload_n dX7_fault_68 rfl rfl ?_
          refine fs_ldc2 (v := (10000000000000000)) dX7_fault_69 sk_X7_158 ?_
          refine fs_lsub dX7_fault_72 ?_
          refine fs_l2i dX7_fault_73 ?_
          refine fs_goto 78 dX7_fault_74 (by decide) ?_
          refine fs_reL [1, 2, 3, 0] rfl ?_
          have k9 := key_78
          try simp only [if_neg c_6, if_pos c_17, if_pos c_30, if_neg c_65] at k9 ⊢
          exact k9
      · have hS := hS.2 c_30
        refine fs_aload_n dX7_fault_33 rfl rfl ?_
        refine fs_getfield (v := .inr (.inr (some 5))) dX7_fault_34 sf_X7_36 rfl rfl ?_
        refine fs_iload_n dX7_fault_37 rfl rfl ?_
        refine fs_iload_n dX7_fault_38 rfl rfl ?_
        have ho1 := hS
        refine fs_callV1 dX7_fault_39 sv_X7_155 rfl ⟨_, rfl, rfl⟩ (c_X6_fails G l ht I A J it dyn x1 x2 ho1) rfl rfl (Nat.le_of_ble_eq_true rfl) (Nat.le_of_ble_eq_true rfl) (Nat.le_of_ble_eq_true rfl) (Nat.le_of_ble_eq_true rfl) ?_
        have key_50 : fsW G l mX7_fault 4 0 0 0 0 Q 50 [(0, .inr (.inr (some 0))), (1, .inl x1), (2, .inl x2)] [.inl (if (L_X6_fails_r ht I A J it dyn x1 x2) = 0 then 0 else 1 : Int32)] (fs_mk ht I A J it dyn) := by
          have k9 := hq
          try simp only [if_neg c_6, if_pos c_17, if_neg c_30] at k9 ⊢
          exact fs_iret dX7_fault_50 rfl rfl k9
        refine fs_if_eq 49 dX7_fault_42 (by decide) (fun c_42 : (L_X6_fails_r ht I A J it dyn x1 x2) = 0 => ?_) (fun c_42 : ¬ ((L_X6_fails_r ht I A J it dyn x1 x2) = 0) => ?_)
        · refine fs_iconst (v := 0) dX7_fault_49 rfl ?_
          have k9 := key_50
          try simp only [if_neg c_6, if_pos c_17, if_neg c_30, if_pos c_42] at k9 ⊢
          exact k9
        · refine fs_iconst (v := 1) dX7_fault_45 rfl ?_
          refine fs_goto 50 dX7_fault_46 (by decide) ?_
          have k9 := key_50
          try simp only [if_neg c_6, if_pos c_17, if_neg c_30, if_neg c_42] at k9 ⊢
          exact k9
    · refine fs_iconst (v := (-1)) dX7_fault_20 rfl ?_
      have k9 := hq
      try simp only [if_neg c_6, if_neg c_17] at k9 ⊢
      exact fs_iret dX7_fault_21 rfl rfl k9
def L_X7_place_r (ht : Nat) (I : Nat → Int32) (A : Nat → Nat → Int32) (J : Nat → Nat → Int64) (it : Nat → Option Nat) (dyn : fsH) (x1 : Int32) (x2 : Int32) : Int32 := (if (L_X7_isThere_r ht I A J it dyn x1 x2) = 0 then (-1) else (L_X3_placeOf_r ht I A J it dyn x1 x2) : Int32)
def S_X7_place (ht : Nat) (I : Nat → Int32) (A : Nat → Nat → Int32) (J : Nat → Nat → Int64) (it : Nat → Option Nat) (dyn : fsH) (x1 : Int32) (x2 : Int32) : Prop := ((S_X7_isThere ht I A J it dyn x1 x2) ∧ (¬ ((L_X7_isThere_r ht I A J it dyn x1 x2) = 0) → (S_X3_placeOf ht I A J it dyn x1 x2)))
set_option maxRecDepth 100000 in
set_option maxHeartbeats 4000000 in
theorem c_X7_place (G : fsG) (l : Launch) (ht : Nat) (I : Nat → Int32) (A : Nat → Nat → Int32) (J : Nat → Nat → Int64) (it : Nat → Option Nat) (dyn : fsH) (x1 : Int32) (x2 : Int32) (hS : S_X7_place ht I A J it dyn x1 x2) : fsFn G l mX7_place 3 0 0 [.inr (.inr (some 0)), .inl x1, .inl x2] (fs_mk ht I A J it dyn) (some (.inl (L_X7_place_r ht I A J it dyn x1 x2))) (fs_mk ht I A J it dyn) := by
  refine fsMet_of (by decide) (Nat.le_of_ble_eq_true rfl) ?_
  generalize hQ : (fun (r1 : Option fsV) (h1 : fsH) => r1 = (some (.inl (L_X7_place_r ht I A J it dyn x1 x2))) ∧ h1 = (fs_mk ht I A J it dyn)) = Q
  have hq : Q (some (.inl (L_X7_place_r ht I A J it dyn x1 x2))) (fs_mk ht I A J it dyn) := by rw [← hQ]; exact ⟨rfl, rfl⟩
  clear hQ
  have hq : Q (some (.inl (if (L_X7_isThere_r ht I A J it dyn x1 x2) = 0 then (-1) else (L_X3_placeOf_r ht I A J it dyn x1 x2) : Int32))) (fs_mk ht I A J it dyn) := hq
  have hS : ((S_X7_isThere ht I A J it dyn x1 x2) ∧ (¬ ((L_X7_isThere_r ht I A J it dyn x1 x2) = 0) → (S_X3_placeOf ht I A J it dyn x1 x2))) := hS
  refine (show fsW G l mX7_place 3 0 0 0 0 Q 0 [(0, .inr (.inr (some 0))), (1, .inl x1), (2, .inl x2)] [] (fs_mk ht I A J it dyn) from ?_)
  refine fs_aload_n dX7_place_0 rfl rfl ?_
  refine fs_iload_n dX7_place_1 rfl rfl ?_
  refine fs_iload_n dX7_place_2 rfl rfl ?_
  obtain ⟨ho1, hS⟩ := hS
  refine fs_callV1 dX7_place_3 sv_X7_120 rfl ⟨_, rfl, rfl⟩ (c_X7_isThere G l ht I A J it dyn x1 x2 ho1) rfl rfl (Nat.le_of_ble_eq_true rfl) (Nat.le_of_ble_eq_true rfl) (Nat.le_of_ble_eq_true rfl) (Nat.le_of_ble_eq_true rfl) ?_
  have hR_6 := hS
  have key_22 : fsW G l mX7_place 3 0 0 0 0 Q 22 [(0, .inr (.inr (some 0))), (1, .inl x1), (2, .inl x2)] [.inl (if (L_X7_isThere_r ht I A J it dyn x1 x2) = 0 then (-1) else (L_X3_placeOf_r ht I A J it dyn x1 x2) : Int32)] (fs_mk ht I A J it dyn) := by
    have k9 := hq
    exact fs_iret dX7_place_22 rfl rfl k9
  refine fs_if_eq 21 dX7_place_6 (by decide) (fun c_6 : (L_X7_isThere_r ht I A J it dyn x1 x2) = 0 => ?_) (fun c_6 : ¬ ((L_X7_isThere_r ht I A J it dyn x1 x2) = 0) => ?_)
  · refine fs_iconst (v := (-1)) dX7_place_21 rfl ?_
    have k9 := key_22
    try simp only [if_pos c_6] at k9 ⊢
    exact k9
  · have hS := hR_6 c_6
    refine fs_aload_n dX7_place_9 rfl rfl ?_
    refine fs_getfield (v := .inr (.inr (some 9))) dX7_place_10 sf_X7_54 rfl rfl ?_
    refine fs_iload_n dX7_place_13 rfl rfl ?_
    refine fs_iload_n dX7_place_14 rfl rfl ?_
    have ho1 := hS
    refine fs_callV1 dX7_place_15 sv_X7_167 rfl ⟨_, rfl, rfl⟩ (c_X3_placeOf G l ht I A J it dyn x1 x2 ho1) rfl rfl (Nat.le_of_ble_eq_true rfl) (Nat.le_of_ble_eq_true rfl) (Nat.le_of_ble_eq_true rfl) (Nat.le_of_ble_eq_true rfl) ?_
    refine fs_goto 22 dX7_place_18 (by decide) ?_
    have k9 := key_22
    try simp only [if_neg c_6] at k9 ⊢
    exact k9
def L_X7_pages_r (ht : Nat) (I : Nat → Int32) (A : Nat → Nat → Int32) (J : Nat → Nat → Int64) (it : Nat → Option Nat) (dyn : fsH)  : Int32 := (if (I 1) = 0 then 0 else (L_X3_pageCount_r ht I A J it dyn) : Int32)
def S_X7_pages (ht : Nat) (I : Nat → Int32) (A : Nat → Nat → Int32) (J : Nat → Nat → Int64) (it : Nat → Option Nat) (dyn : fsH)  : Prop := (¬ ((I 1) = 0) → (S_X3_pageCount ht I A J it dyn))
set_option maxRecDepth 100000 in
set_option maxHeartbeats 4000000 in
theorem c_X7_pages (G : fsG) (l : Launch) (ht : Nat) (I : Nat → Int32) (A : Nat → Nat → Int32) (J : Nat → Nat → Int64) (it : Nat → Option Nat) (dyn : fsH)  (hS : S_X7_pages ht I A J it dyn ) : fsFn G l mX7_pages 1 0 0 [.inr (.inr (some 0))] (fs_mk ht I A J it dyn) (some (.inl (L_X7_pages_r ht I A J it dyn ))) (fs_mk ht I A J it dyn) := by
  refine fsMet_of (by decide) (Nat.le_of_ble_eq_true rfl) ?_
  generalize hQ : (fun (r1 : Option fsV) (h1 : fsH) => r1 = (some (.inl (L_X7_pages_r ht I A J it dyn ))) ∧ h1 = (fs_mk ht I A J it dyn)) = Q
  have hq : Q (some (.inl (L_X7_pages_r ht I A J it dyn ))) (fs_mk ht I A J it dyn) := by rw [← hQ]; exact ⟨rfl, rfl⟩
  clear hQ
  have hq : Q (some (.inl (if (I 1) = 0 then 0 else (L_X3_pageCount_r ht I A J it dyn) : Int32))) (fs_mk ht I A J it dyn) := hq
  have hS : (¬ ((I 1) = 0) → (S_X3_pageCount ht I A J it dyn)) := hS
  refine (show fsW G l mX7_pages 1 0 0 0 0 Q 0 [(0, .inr (.inr (some 0)))] [] (fs_mk ht I A J it dyn) from ?_)
  refine fs_aload_n dX7_pages_0 rfl rfl ?_
  refine fs_getfield (v := .inl (I 1)) dX7_pages_1 sf_X7_13 rfl rfl ?_
  have hR_4 := hS
  have key_18 : fsW G l mX7_pages 1 0 0 0 0 Q 18 [(0, .inr (.inr (some 0)))] [.inl (if (I 1) = 0 then 0 else (L_X3_pageCount_r ht I A J it dyn) : Int32)] (fs_mk ht I A J it dyn) := by
    have k9 := hq
    exact fs_iret dX7_pages_18 rfl rfl k9
  refine fs_if_eq 17 dX7_pages_4 (by decide) (fun c_4 : (I 1) = 0 => ?_) (fun c_4 : ¬ ((I 1) = 0) => ?_)
  · refine fs_iconst (v := 0) dX7_pages_17 rfl ?_
    have k9 := key_18
    try simp only [if_pos c_4] at k9 ⊢
    exact k9
  · have hS := hR_4 c_4
    refine fs_aload_n dX7_pages_7 rfl rfl ?_
    refine fs_getfield (v := .inr (.inr (some 9))) dX7_pages_8 sf_X7_54 rfl rfl ?_
    have ho1 := hS
    refine fs_callV1 dX7_pages_11 sv_X7_170 rfl ⟨_, rfl, rfl⟩ (c_X3_pageCount G l ht I A J it dyn ho1) rfl rfl (Nat.le_of_ble_eq_true rfl) (Nat.le_of_ble_eq_true rfl) (Nat.le_of_ble_eq_true rfl) (Nat.le_of_ble_eq_true rfl) ?_
    refine fs_goto 18 dX7_pages_14 (by decide) ?_
    have k9 := key_18
    try simp only [if_neg c_4] at k9 ⊢
    exact k9
def L_X7_line_r (ht : Nat) (I : Nat → Int32) (A : Nat → Nat → Int32) (J : Nat → Nat → Int64) (it : Nat → Option Nat) (dyn : fsH) (x1 : Int32) (x2 : Int32) : Int32 := (if (I 1) = 0 then (-1) else (L_X3_standsAt_r ht I A J it dyn x1 x2) : Int32)
def S_X7_line (ht : Nat) (I : Nat → Int32) (A : Nat → Nat → Int32) (J : Nat → Nat → Int64) (it : Nat → Option Nat) (dyn : fsH) (x1 : Int32) (x2 : Int32) : Prop := (¬ ((I 1) = 0) → (S_X3_standsAt ht I A J it dyn x1 x2))
set_option maxRecDepth 100000 in
set_option maxHeartbeats 4000000 in
theorem c_X7_line (G : fsG) (l : Launch) (ht : Nat) (I : Nat → Int32) (A : Nat → Nat → Int32) (J : Nat → Nat → Int64) (it : Nat → Option Nat) (dyn : fsH) (x1 : Int32) (x2 : Int32) (hS : S_X7_line ht I A J it dyn x1 x2) : fsFn G l mX7_line 1 0 0 [.inr (.inr (some 0)), .inl x1, .inl x2] (fs_mk ht I A J it dyn) (some (.inl (L_X7_line_r ht I A J it dyn x1 x2))) (fs_mk ht I A J it dyn) := by
  refine fsMet_of (by decide) (Nat.le_of_ble_eq_true rfl) ?_
  generalize hQ : (fun (r1 : Option fsV) (h1 : fsH) => r1 = (some (.inl (L_X7_line_r ht I A J it dyn x1 x2))) ∧ h1 = (fs_mk ht I A J it dyn)) = Q
  have hq : Q (some (.inl (L_X7_line_r ht I A J it dyn x1 x2))) (fs_mk ht I A J it dyn) := by rw [← hQ]; exact ⟨rfl, rfl⟩
  clear hQ
  have hq : Q (some (.inl (if (I 1) = 0 then (-1) else (L_X3_standsAt_r ht I A J it dyn x1 x2) : Int32))) (fs_mk ht I A J it dyn) := hq
  have hS : (¬ ((I 1) = 0) → (S_X3_standsAt ht I A J it dyn x1 x2)) := hS
  refine (show fsW G l mX7_line 1 0 0 0 0 Q 0 [(0, .inr (.inr (some 0))), (1, .inl x1), (2, .inl x2)] [] (fs_mk ht I A J it dyn) from ?_)
  refine fs_aload_n dX7_line_0 rfl rfl ?_
  refine fs_getfield (v := .inl (I 1)) dX7_line_1 sf_X7_13 rfl rfl ?_
  have hR_4 := hS
  have key_20 : fsW G l mX7_line 1 0 0 0 0 Q 20 [(0, .inr (.inr (some 0))), (1, .inl x1), (2, .inl x2)] [.inl (if (I 1) = 0 then (-1) else (L_X3_standsAt_r ht I A J it dyn x1 x2) : Int32)] (fs_mk ht I A J it dyn) := by
    have k9 := hq
    exact fs_iret dX7_line_20 rfl rfl k9
  refine fs_if_eq 19 dX7_line_4 (by decide) (fun c_4 : (I 1) = 0 => ?_) (fun c_4 : ¬ ((I 1) = 0) => ?_)
  · refine fs_iconst (v := (-1)) dX7_line_19 rfl ?_
    have k9 := key_20
    try simp only [if_pos c_4] at k9 ⊢
    exact k9
  · have hS := hR_4 c_4
    refine fs_aload_n dX7_line_7 rfl rfl ?_
    refine fs_getfield (v := .inr (.inr (some 9))) dX7_line_8 sf_X7_54 rfl rfl ?_
    refine fs_iload_n dX7_line_11 rfl rfl ?_
    refine fs_iload_n dX7_line_12 rfl rfl ?_
    have ho1 := hS
    refine fs_callV1 dX7_line_13 sv_X7_173 rfl ⟨_, rfl, rfl⟩ (c_X3_standsAt G l ht I A J it dyn x1 x2 ho1) rfl rfl (Nat.le_of_ble_eq_true rfl) (Nat.le_of_ble_eq_true rfl) (Nat.le_of_ble_eq_true rfl) (Nat.le_of_ble_eq_true rfl) ?_
    refine fs_goto 20 dX7_line_16 (by decide) ?_
    have k9 := key_20
    try simp only [if_neg c_4] at k9 ⊢
    exact k9
def L_X7_clear_I (ht : Nat) (I : Nat → Int32) (A : Nat → Nat → Int32) (J : Nat → Nat → Int64) (it : Nat → Option Nat) (dyn : fsH)  : Nat → Int32 := (L_X1_empty_I ht (upd I 1 0) A J it dyn)
set_option maxRecDepth 100000 in
set_option maxHeartbeats 4000000 in
theorem c_X7_clear (G : fsG) (l : Launch) (ht : Nat) (I : Nat → Int32) (A : Nat → Nat → Int32) (J : Nat → Nat → Int64) (it : Nat → Option Nat) (dyn : fsH)  : fsFn G l mX7_clear 1 0 0 [.inr (.inr (some 0))] (fs_mk ht I A J it dyn) none (fs_mk ht (L_X7_clear_I ht I A J it dyn ) A J it dyn) := by
  refine fsMet_of (by decide) (Nat.le_of_ble_eq_true rfl) ?_
  generalize hQ : (fun (r1 : Option fsV) (h1 : fsH) => r1 = none ∧ h1 = (fs_mk ht (L_X7_clear_I ht I A J it dyn ) A J it dyn)) = Q
  have hq : Q none (fs_mk ht (L_X7_clear_I ht I A J it dyn ) A J it dyn) := by rw [← hQ]; exact ⟨rfl, rfl⟩
  clear hQ
  have hq : Q none (fs_mk ht (L_X1_empty_I ht (upd I 1 0) A J it dyn) A J it dyn) := hq
  refine (show fsW G l mX7_clear 1 0 0 0 0 Q 0 [(0, .inr (.inr (some 0)))] [] (fs_mk ht I A J it dyn) from ?_)
  refine fs_aload_n dX7_clear_0 rfl rfl ?_
  refine fs_iconst (v := 0) dX7_clear_1 rfl ?_
  refine fsp_1 dX7_clear_2 sp_X7_13 (by decide) ?_
  refine fs_aload_n dX7_clear_5 rfl rfl ?_
  refine fs_getfield (v := .inr (.inr (some 3))) dX7_clear_6 sf_X7_27 rfl rfl ?_
  refine fs_callV0 dX7_clear_9 sv_X7_110 rfl ⟨_, rfl, rfl⟩ (c_X1_empty G l ht (upd I 1 0) A J it dyn) rfl rfl (Nat.le_of_ble_eq_true rfl) (Nat.le_of_ble_eq_true rfl) (Nat.le_of_ble_eq_true rfl) (Nat.le_of_ble_eq_true rfl) ?_
  have k9 := hq
  exact fs_ret dX7_clear_12 rfl k9
def L_X7_write_r (ht : Nat) (I : Nat → Int32) (A : Nat → Nat → Int32) (J : Nat → Nat → Int64) (it : Nat → Option Nat) (dyn : fsH) (x1 : Int64) : Int32 := (L_X5_append_r ht I A J it dyn x1)
def L_X7_write_I (ht : Nat) (I : Nat → Int32) (A : Nat → Nat → Int32) (J : Nat → Nat → Int64) (it : Nat → Option Nat) (dyn : fsH) (x1 : Int64) : Nat → Int32 := (L_X5_append_I ht I A J it dyn x1)
def L_X7_write_A (ht : Nat) (I : Nat → Int32) (A : Nat → Nat → Int32) (J : Nat → Nat → Int64) (it : Nat → Option Nat) (dyn : fsH) (x1 : Int64) : Nat → Nat → Int32 := (L_X5_append_A ht I A J it dyn x1)
def S_X7_write (ht : Nat) (I : Nat → Int32) (A : Nat → Nat → Int32) (J : Nat → Nat → Int64) (it : Nat → Option Nat) (dyn : fsH) (x1 : Int64) : Prop := (S_X5_append ht I A J it dyn x1)
set_option maxRecDepth 100000 in
set_option maxHeartbeats 4000000 in
theorem c_X7_write (G : fsG) (l : Launch) (ht : Nat) (I : Nat → Int32) (A : Nat → Nat → Int32) (J : Nat → Nat → Int64) (it : Nat → Option Nat) (dyn : fsH) (x1 : Int64) (hS : S_X7_write ht I A J it dyn x1) : fsFn G l mX7_write 2 0 0 [.inr (.inr (some 0)), .inr (.inl x1)] (fs_mk ht I A J it dyn) (some (.inl (L_X7_write_r ht I A J it dyn x1))) (fs_mk ht (L_X7_write_I ht I A J it dyn x1) (L_X7_write_A ht I A J it dyn x1) J it dyn) := by
  refine fsMet_of (by decide) (Nat.le_of_ble_eq_true rfl) ?_
  generalize hQ : (fun (r1 : Option fsV) (h1 : fsH) => r1 = (some (.inl (L_X7_write_r ht I A J it dyn x1))) ∧ h1 = (fs_mk ht (L_X7_write_I ht I A J it dyn x1) (L_X7_write_A ht I A J it dyn x1) J it dyn)) = Q
  have hq : Q (some (.inl (L_X7_write_r ht I A J it dyn x1))) (fs_mk ht (L_X7_write_I ht I A J it dyn x1) (L_X7_write_A ht I A J it dyn x1) J it dyn) := by rw [← hQ]; exact ⟨rfl, rfl⟩
  clear hQ
  have hq : Q (some (.inl (L_X5_append_r ht I A J it dyn x1))) (fs_mk ht (L_X5_append_I ht I A J it dyn x1) (L_X5_append_A ht I A J it dyn x1) J it dyn) := hq
  have hS : (S_X5_append ht I A J it dyn x1) := hS
  refine (show fsW G l mX7_write 2 0 0 0 0 Q 0 [(0, .inr (.inr (some 0))), (1, .inr (.inl x1))] [] (fs_mk ht I A J it dyn) from ?_)
  refine fs_aload_n dX7_write_0 rfl rfl ?_
  refine fs_getfield (v := .inr (.inr (some 1))) dX7_write_1 sf_X7_20 rfl rfl ?_
  refine fs_lload_n dX7_write_4 rfl rfl ?_
  have ho1 := hS
  refine fs_callV1 dX7_write_5 sv_X7_58 rfl ⟨_, rfl, rfl⟩ (c_X5_append G l ht I A J it dyn x1 ho1) rfl rfl (Nat.le_of_ble_eq_true rfl) (Nat.le_of_ble_eq_true rfl) (Nat.le_of_ble_eq_true rfl) (Nat.le_of_ble_eq_true rfl) ?_
  have k9 := hq
  exact fs_iret dX7_write_8 rfl (by (repeat' split) <;> first | rfl | exact nb_X5_append _ _ _ _ _ _ _) k9
theorem nb_X7_write (ht : Nat) (I : Nat → Int32) (A : Nat → Nat → Int32) (J : Nat → Nat → Int64) (it : Nat → Option Nat) (dyn : fsH) (x1 : Int64) : narrow .boolean (.int (L_X7_write_r ht I A J it dyn x1)) = .int (L_X7_write_r ht I A J it dyn x1) := by
  unfold L_X7_write_r
  exact (by (repeat' split) <;> first | rfl | exact nb_X5_append _ _ _ _ _ _ _)
def L_X7_position_r (ht : Nat) (I : Nat → Int32) (A : Nat → Nat → Int32) (J : Nat → Nat → Int64) (it : Nat → Option Nat) (dyn : fsH)  : Int32 := (I 0)
set_option maxRecDepth 100000 in
set_option maxHeartbeats 4000000 in
theorem c_X7_position (G : fsG) (l : Launch) (ht : Nat) (I : Nat → Int32) (A : Nat → Nat → Int32) (J : Nat → Nat → Int64) (it : Nat → Option Nat) (dyn : fsH)  : fsFn G l mX7_position 0 0 0 [.inr (.inr (some 0))] (fs_mk ht I A J it dyn) (some (.inl (L_X7_position_r ht I A J it dyn ))) (fs_mk ht I A J it dyn) := by
  refine fsMet_of (by decide) (Nat.le_of_ble_eq_true rfl) ?_
  generalize hQ : (fun (r1 : Option fsV) (h1 : fsH) => r1 = (some (.inl (L_X7_position_r ht I A J it dyn ))) ∧ h1 = (fs_mk ht I A J it dyn)) = Q
  have hq : Q (some (.inl (L_X7_position_r ht I A J it dyn ))) (fs_mk ht I A J it dyn) := by rw [← hQ]; exact ⟨rfl, rfl⟩
  clear hQ
  have hq : Q (some (.inl (I 0))) (fs_mk ht I A J it dyn) := hq
  refine (show fsW G l mX7_position 0 0 0 0 0 Q 0 [(0, .inr (.inr (some 0)))] [] (fs_mk ht I A J it dyn) from ?_)
  refine fs_aload_n dX7_position_0 rfl rfl ?_
  refine fs_getfield (v := .inl (I 0)) dX7_position_1 sf_X7_9 rfl rfl ?_
  have k9 := hq
  exact fs_iret dX7_position_4 rfl rfl k9
def L_X8_thrown_r (ht : Nat) (I : Nat → Int32) (A : Nat → Nat → Int32) (J : Nat → Nat → Int64) (it : Nat → Option Nat) (dyn : fsH)  : Int32 := (I 8)
set_option maxRecDepth 100000 in
set_option maxHeartbeats 4000000 in
theorem c_X8_thrown (G : fsG) (l : Launch) (ht : Nat) (I : Nat → Int32) (A : Nat → Nat → Int32) (J : Nat → Nat → Int64) (it : Nat → Option Nat) (dyn : fsH)  : fsFn G l mX8_thrown 0 0 0 [.inr (.inr (some 14))] (fs_mk ht I A J it dyn) (some (.inl (L_X8_thrown_r ht I A J it dyn ))) (fs_mk ht I A J it dyn) := by
  refine fsMet_of (by decide) (Nat.le_of_ble_eq_true rfl) ?_
  generalize hQ : (fun (r1 : Option fsV) (h1 : fsH) => r1 = (some (.inl (L_X8_thrown_r ht I A J it dyn ))) ∧ h1 = (fs_mk ht I A J it dyn)) = Q
  have hq : Q (some (.inl (L_X8_thrown_r ht I A J it dyn ))) (fs_mk ht I A J it dyn) := by rw [← hQ]; exact ⟨rfl, rfl⟩
  clear hQ
  have hq : Q (some (.inl (I 8))) (fs_mk ht I A J it dyn) := hq
  refine (show fsW G l mX8_thrown 0 0 0 0 0 Q 0 [(0, .inr (.inr (some 14)))] [] (fs_mk ht I A J it dyn) from ?_)
  refine fs_aload_n dX8_thrown_0 rfl rfl ?_
  refine fs_getfield (v := .inl (I 8)) dX8_thrown_1 sf_X8_98 rfl rfl ?_
  have k9 := hq
  exact fs_iret dX8_thrown_4 rfl rfl k9
def L_X8_here_r (ht : Nat) (I : Nat → Int32) (A : Nat → Nat → Int32) (J : Nat → Nat → Int64) (it : Nat → Option Nat) (dyn : fsH)  : Int32 := (if (I 9) ≤ (I 14) then 0 else (A 15 (I 14).toNatClampNeg) : Int32)
def S_X8_here (ht : Nat) (I : Nat → Int32) (A : Nat → Nat → Int32) (J : Nat → Nat → Int64) (it : Nat → Option Nat) (dyn : fsH)  : Prop := ((¬ ((I 9) ≤ (I 14)) → (vp_in (I 14) 60)) ∧ (narrow .char (.int (if (I 9) ≤ (I 14) then 0 else (A 15 (I 14).toNatClampNeg) : Int32)) = .int (if (I 9) ≤ (I 14) then 0 else (A 15 (I 14).toNatClampNeg) : Int32)))
set_option maxRecDepth 100000 in
set_option maxHeartbeats 4000000 in
theorem c_X8_here (G : fsG) (l : Launch) (ht : Nat) (I : Nat → Int32) (A : Nat → Nat → Int32) (J : Nat → Nat → Int64) (it : Nat → Option Nat) (dyn : fsH)  (hS : S_X8_here ht I A J it dyn ) : fsFn G l mX8_here 0 0 0 [.inr (.inr (some 14))] (fs_mk ht I A J it dyn) (some (.inl (L_X8_here_r ht I A J it dyn ))) (fs_mk ht I A J it dyn) := by
  refine fsMet_of (by decide) (Nat.le_of_ble_eq_true rfl) ?_
  generalize hQ : (fun (r1 : Option fsV) (h1 : fsH) => r1 = (some (.inl (L_X8_here_r ht I A J it dyn ))) ∧ h1 = (fs_mk ht I A J it dyn)) = Q
  have hq : Q (some (.inl (L_X8_here_r ht I A J it dyn ))) (fs_mk ht I A J it dyn) := by rw [← hQ]; exact ⟨rfl, rfl⟩
  clear hQ
  have hq : Q (some (.inl (if (I 9) ≤ (I 14) then 0 else (A 15 (I 14).toNatClampNeg) : Int32))) (fs_mk ht I A J it dyn) := hq
  have hS : ((¬ ((I 9) ≤ (I 14)) → (vp_in (I 14) 60)) ∧ (narrow .char (.int (if (I 9) ≤ (I 14) then 0 else (A 15 (I 14).toNatClampNeg) : Int32)) = .int (if (I 9) ≤ (I 14) then 0 else (A 15 (I 14).toNatClampNeg) : Int32))) := hS
  refine (show fsW G l mX8_here 0 0 0 0 0 Q 0 [(0, .inr (.inr (some 14)))] [] (fs_mk ht I A J it dyn) from ?_)
  refine fs_aload_n dX8_here_0 rfl rfl ?_
  refine fs_getfield (v := .inl (I 14)) dX8_here_1 sf_X8_104 rfl rfl ?_
  refine fs_aload_n dX8_here_4 rfl rfl ?_
  refine fs_getfield (v := .inl (I 9)) dX8_here_5 sf_X8_101 rfl rfl ?_
  obtain ⟨hR_8, hS⟩ := hS
  have key_24 : fsW G l mX8_here 0 0 0 0 0 Q 24 [(0, .inr (.inr (some 14)))] [.inl (if (I 9) ≤ (I 14) then 0 else (A 15 (I 14).toNatClampNeg) : Int32)] (fs_mk ht I A J it dyn) := by
    have ho1 := hS
    have k9 := hq
    exact fs_iret dX8_here_24 rfl ho1 k9
  refine fs_icmp_ge 23 dX8_here_8 (by decide) (fun c_8 : (I 9) ≤ (I 14) => ?_) (fun c_8 : ¬ ((I 9) ≤ (I 14)) => ?_)
  · refine fs_iconst (v := 0) dX8_here_23 rfl ?_
    have k9 := key_24
    try simp only [if_pos c_8] at k9 ⊢
    exact k9
  · have hS := hR_8 c_8
    refine fs_aload_n dX8_here_11 rfl rfl ?_
    refine fs_getfield (v := .inr (.inr (some 15))) dX8_here_12 sf_X8_7 rfl rfl ?_
    refine fs_aload_n dX8_here_15 rfl rfl ?_
    refine fs_getfield (v := .inl (I 14)) dX8_here_16 sf_X8_104 rfl rfl ?_
    have ho1 := hS
    refine fs_caload dX8_here_19 rfl ho1 ?_
    refine fs_goto 24 dX8_here_20 (by decide) ?_
    have k9 := key_24
    try simp only [if_neg c_8] at k9 ⊢
    exact k9
def L_X8_letter_r (ht : Nat) (I : Nat → Int32) (A : Nat → Nat → Int32) (J : Nat → Nat → Int64) (it : Nat → Option Nat) (dyn : fsH) (x1 : Int32) : Int32 := (if x1 < 97 then 0 else (if 122 < x1 then 0 else 1 : Int32) : Int32)
set_option maxRecDepth 100000 in
set_option maxHeartbeats 4000000 in
theorem c_X8_letter (G : fsG) (l : Launch) (ht : Nat) (I : Nat → Int32) (A : Nat → Nat → Int32) (J : Nat → Nat → Int64) (it : Nat → Option Nat) (dyn : fsH) (x1 : Int32) : fsFn G l mX8_letter 0 0 0 [.inl x1] (fs_mk ht I A J it dyn) (some (.inl (L_X8_letter_r ht I A J it dyn x1))) (fs_mk ht I A J it dyn) := by
  refine fsMet_of (by decide) (Nat.le_of_ble_eq_true rfl) ?_
  generalize hQ : (fun (r1 : Option fsV) (h1 : fsH) => r1 = (some (.inl (L_X8_letter_r ht I A J it dyn x1))) ∧ h1 = (fs_mk ht I A J it dyn)) = Q
  have hq : Q (some (.inl (L_X8_letter_r ht I A J it dyn x1))) (fs_mk ht I A J it dyn) := by rw [← hQ]; exact ⟨rfl, rfl⟩
  clear hQ
  have hq : Q (some (.inl (if x1 < 97 then 0 else (if 122 < x1 then 0 else 1 : Int32) : Int32))) (fs_mk ht I A J it dyn) := hq
  refine (show fsW G l mX8_letter 0 0 0 0 0 Q 0 [(0, .inl x1)] [] (fs_mk ht I A J it dyn) from ?_)
  refine fs_iload_n dX8_letter_0 rfl rfl ?_
  refine fs_bipush (v := 97) dX8_letter_1 rfl ?_
  have key_17 : fsW G l mX8_letter 0 0 0 0 0 Q 17 [(0, .inl x1)] [.inl (if x1 < 97 then 0 else (if 122 < x1 then 0 else 1 : Int32) : Int32)] (fs_mk ht I A J it dyn) := by
    have k9 := hq
    exact fs_iret dX8_letter_17 rfl (by (repeat' split) <;> first | rfl) k9
  refine fs_icmp_lt 16 dX8_letter_3 (by decide) (fun c_3 : x1 < 97 => ?_) (fun c_3 : ¬ (x1 < 97) => ?_)
  · refine fs_iconst (v := 0) dX8_letter_16 rfl ?_
    have k9 := key_17
    try simp only [if_pos c_3] at k9 ⊢
    exact k9
  · refine fs_iload_n dX8_letter_6 rfl rfl ?_
    refine fs_bipush (v := 122) dX8_letter_7 rfl ?_
    refine fs_icmp_gt 16 dX8_letter_9 (by decide) (fun c_9 : 122 < x1 => ?_) (fun c_9 : ¬ (122 < x1) => ?_)
    · refine fs_iconst (v := 0) dX8_letter_16 rfl ?_
      have k9 := key_17
      try simp only [if_neg c_3, if_pos c_9] at k9 ⊢
      exact k9
    · refine fs_iconst (v := 1) dX8_letter_12 rfl ?_
      refine fs_goto 17 dX8_letter_13 (by decide) ?_
      have k9 := key_17
      try simp only [if_neg c_3, if_neg c_9] at k9 ⊢
      exact k9
theorem nb_X8_letter (ht : Nat) (I : Nat → Int32) (A : Nat → Nat → Int32) (J : Nat → Nat → Int64) (it : Nat → Option Nat) (dyn : fsH) (x1 : Int32) : narrow .boolean (.int (L_X8_letter_r ht I A J it dyn x1)) = .int (L_X8_letter_r ht I A J it dyn x1) := by
  unfold L_X8_letter_r
  exact (by (repeat' split) <;> first | rfl)
def L_X8_digit_r (ht : Nat) (I : Nat → Int32) (A : Nat → Nat → Int32) (J : Nat → Nat → Int64) (it : Nat → Option Nat) (dyn : fsH) (x1 : Int32) : Int32 := (if x1 < 48 then 0 else (if 57 < x1 then 0 else 1 : Int32) : Int32)
set_option maxRecDepth 100000 in
set_option maxHeartbeats 4000000 in
theorem c_X8_digit (G : fsG) (l : Launch) (ht : Nat) (I : Nat → Int32) (A : Nat → Nat → Int32) (J : Nat → Nat → Int64) (it : Nat → Option Nat) (dyn : fsH) (x1 : Int32) : fsFn G l mX8_digit 0 0 0 [.inl x1] (fs_mk ht I A J it dyn) (some (.inl (L_X8_digit_r ht I A J it dyn x1))) (fs_mk ht I A J it dyn) := by
  refine fsMet_of (by decide) (Nat.le_of_ble_eq_true rfl) ?_
  generalize hQ : (fun (r1 : Option fsV) (h1 : fsH) => r1 = (some (.inl (L_X8_digit_r ht I A J it dyn x1))) ∧ h1 = (fs_mk ht I A J it dyn)) = Q
  have hq : Q (some (.inl (L_X8_digit_r ht I A J it dyn x1))) (fs_mk ht I A J it dyn) := by rw [← hQ]; exact ⟨rfl, rfl⟩
  clear hQ
  have hq : Q (some (.inl (if x1 < 48 then 0 else (if 57 < x1 then 0 else 1 : Int32) : Int32))) (fs_mk ht I A J it dyn) := hq
  refine (show fsW G l mX8_digit 0 0 0 0 0 Q 0 [(0, .inl x1)] [] (fs_mk ht I A J it dyn) from ?_)
  refine fs_iload_n dX8_digit_0 rfl rfl ?_
  refine fs_bipush (v := 48) dX8_digit_1 rfl ?_
  have key_17 : fsW G l mX8_digit 0 0 0 0 0 Q 17 [(0, .inl x1)] [.inl (if x1 < 48 then 0 else (if 57 < x1 then 0 else 1 : Int32) : Int32)] (fs_mk ht I A J it dyn) := by
    have k9 := hq
    exact fs_iret dX8_digit_17 rfl (by (repeat' split) <;> first | rfl) k9
  refine fs_icmp_lt 16 dX8_digit_3 (by decide) (fun c_3 : x1 < 48 => ?_) (fun c_3 : ¬ (x1 < 48) => ?_)
  · refine fs_iconst (v := 0) dX8_digit_16 rfl ?_
    have k9 := key_17
    try simp only [if_pos c_3] at k9 ⊢
    exact k9
  · refine fs_iload_n dX8_digit_6 rfl rfl ?_
    refine fs_bipush (v := 57) dX8_digit_7 rfl ?_
    refine fs_icmp_gt 16 dX8_digit_9 (by decide) (fun c_9 : 57 < x1 => ?_) (fun c_9 : ¬ (57 < x1) => ?_)
    · refine fs_iconst (v := 0) dX8_digit_16 rfl ?_
      have k9 := key_17
      try simp only [if_neg c_3, if_pos c_9] at k9 ⊢
      exact k9
    · refine fs_iconst (v := 1) dX8_digit_12 rfl ?_
      refine fs_goto 17 dX8_digit_13 (by decide) ?_
      have k9 := key_17
      try simp only [if_neg c_3, if_neg c_9] at k9 ⊢
      exact k9
theorem nb_X8_digit (ht : Nat) (I : Nat → Int32) (A : Nat → Nat → Int32) (J : Nat → Nat → Int64) (it : Nat → Option Nat) (dyn : fsH) (x1 : Int32) : narrow .boolean (.int (L_X8_digit_r ht I A J it dyn x1)) = .int (L_X8_digit_r ht I A J it dyn x1) := by
  unfold L_X8_digit_r
  exact (by (repeat' split) <;> first | rfl)
def Lb_X8_write_87_I : Nat → Nat → (Nat → Int32) → (Nat → Nat → Int32) → (Nat → Nat → Int64) → (Nat → Option Nat) → fsH → Int64 → Int32 → Int32 → (Nat → Int32)
  | 0, ht, I, A, J, it, dyn, v1, v3, v4 => I
  | n + 1, ht, I, A, J, it, dyn, v1, v3, v4 => (if v4 < 0 then I else (Lb_X8_write_87_I n ht (if (((v1.toUInt64 >>> ((8 * v4).toInt64.toUInt64 &&& Int64.toUInt64 63)).toInt64).toInt32 &&& 255) = 0 then I else (upd I 9 ((I 9) + 1))) (if (((v1.toUInt64 >>> ((8 * v4).toInt64.toUInt64 &&& Int64.toUInt64 63)).toInt64).toInt32 &&& 255) = 0 then A else (va_up A 15 (upd (A 15) (I 9).toNatClampNeg (vp_nar .char (((((v1.toUInt64 >>> ((8 * v4).toInt64.toUInt64 &&& Int64.toUInt64 63)).toInt64).toInt32 &&& 255).toUInt32 % 65536).toInt32))))) J it dyn v1 v3 (v4 + (-1))))
def Lb_X8_write_87_A : Nat → Nat → (Nat → Int32) → (Nat → Nat → Int32) → (Nat → Nat → Int64) → (Nat → Option Nat) → fsH → Int64 → Int32 → Int32 → (Nat → Nat → Int32)
  | 0, ht, I, A, J, it, dyn, v1, v3, v4 => A
  | n + 1, ht, I, A, J, it, dyn, v1, v3, v4 => (if v4 < 0 then A else (Lb_X8_write_87_A n ht (if (((v1.toUInt64 >>> ((8 * v4).toInt64.toUInt64 &&& Int64.toUInt64 63)).toInt64).toInt32 &&& 255) = 0 then I else (upd I 9 ((I 9) + 1))) (if (((v1.toUInt64 >>> ((8 * v4).toInt64.toUInt64 &&& Int64.toUInt64 63)).toInt64).toInt32 &&& 255) = 0 then A else (va_up A 15 (upd (A 15) (I 9).toNatClampNeg (vp_nar .char (((((v1.toUInt64 >>> ((8 * v4).toInt64.toUInt64 &&& Int64.toUInt64 63)).toInt64).toInt32 &&& 255).toUInt32 % 65536).toInt32))))) J it dyn v1 v3 (v4 + (-1))))
def Lb_X8_write_87_v4 : Nat → Nat → (Nat → Int32) → (Nat → Nat → Int32) → (Nat → Nat → Int64) → (Nat → Option Nat) → fsH → Int64 → Int32 → Int32 → Int32
  | 0, ht, I, A, J, it, dyn, v1, v3, v4 => v4
  | n + 1, ht, I, A, J, it, dyn, v1, v3, v4 => (if v4 < 0 then v4 else (Lb_X8_write_87_v4 n ht (if (((v1.toUInt64 >>> ((8 * v4).toInt64.toUInt64 &&& Int64.toUInt64 63)).toInt64).toInt32 &&& 255) = 0 then I else (upd I 9 ((I 9) + 1))) (if (((v1.toUInt64 >>> ((8 * v4).toInt64.toUInt64 &&& Int64.toUInt64 63)).toInt64).toInt32 &&& 255) = 0 then A else (va_up A 15 (upd (A 15) (I 9).toNatClampNeg (vp_nar .char (((((v1.toUInt64 >>> ((8 * v4).toInt64.toUInt64 &&& Int64.toUInt64 63)).toInt64).toInt32 &&& 255).toUInt32 % 65536).toInt32))))) J it dyn v1 v3 (v4 + (-1))))
def S_Lb_X8_write_87 : Nat → Nat → (Nat → Int32) → (Nat → Nat → Int32) → (Nat → Nat → Int64) → (Nat → Option Nat) → fsH → Int64 → Int32 → Int32 → Prop
  | 0, _, _, _, _, _, _, _, _, _ => False
  | n + 1, ht, I, A, J, it, dyn, v1, v3, v4 => (¬ (v4 < 0) → ((¬ ((((v1.toUInt64 >>> ((8 * v4).toInt64.toUInt64 &&& Int64.toUInt64 63)).toInt64).toInt32 &&& 255) = 0) → (vp_in (I 9) 60)) ∧ (S_Lb_X8_write_87 n ht (if (((v1.toUInt64 >>> ((8 * v4).toInt64.toUInt64 &&& Int64.toUInt64 63)).toInt64).toInt32 &&& 255) = 0 then I else (upd I 9 ((I 9) + 1))) (if (((v1.toUInt64 >>> ((8 * v4).toInt64.toUInt64 &&& Int64.toUInt64 63)).toInt64).toInt32 &&& 255) = 0 then A else (va_up A 15 (upd (A 15) (I 9).toNatClampNeg (vp_nar .char (((((v1.toUInt64 >>> ((8 * v4).toInt64.toUInt64 &&& Int64.toUInt64 63)).toInt64).toInt32 &&& 255).toUInt32 % 65536).toInt32))))) J it dyn v1 v3 (v4 + (-1)))))
set_option maxRecDepth 100000 in
set_option maxHeartbeats 4000000 in
theorem lp_Lb_X8_write_87 (G : fsG) (l : Launch) (Q : Option fsV → fsH → Prop) : ∀ (n : Nat) (ht : Nat) (I : Nat → Int32) (A : Nat → Nat → Int32) (J : Nat → Nat → Int64) (it : Nat → Option Nat) (dyn : fsH) (v1 : Int64) (v3 : Int32) (v4 : Int32), S_Lb_X8_write_87 n ht I A J it dyn v1 v3 v4 → (fsW G l mX8_write 0 0 0 0 0 Q 139 [(0, .inr (.inr (some 14))), (1, .inr (.inl v1)), (3, .inl v3), (4, .inl (Lb_X8_write_87_v4 n ht I A J it dyn v1 v3 v4))] [] (fs_mk ht (Lb_X8_write_87_I n ht I A J it dyn v1 v3 v4) (Lb_X8_write_87_A n ht I A J it dyn v1 v3 v4) J it dyn)) → fsW G l mX8_write 0 0 0 0 0 Q 87 [(0, .inr (.inr (some 14))), (1, .inr (.inl v1)), (3, .inl v3), (4, .inl v4)] [] (fs_mk ht I A J it dyn) := by
  intro n
  induction n with
  | zero =>
    intro ht I A J it dyn v1 v3 v4 hS
    exact hS.elim
  | succ n ih =>
    intro ht I A J it dyn v1 v3 v4 hS hq
    have hS : (¬ (v4 < 0) → ((¬ ((((v1.toUInt64 >>> ((8 * v4).toInt64.toUInt64 &&& Int64.toUInt64 63)).toInt64).toInt32 &&& 255) = 0) → (vp_in (I 9) 60)) ∧ (S_Lb_X8_write_87 n ht (if (((v1.toUInt64 >>> ((8 * v4).toInt64.toUInt64 &&& Int64.toUInt64 63)).toInt64).toInt32 &&& 255) = 0 then I else (upd I 9 ((I 9) + 1))) (if (((v1.toUInt64 >>> ((8 * v4).toInt64.toUInt64 &&& Int64.toUInt64 63)).toInt64).toInt32 &&& 255) = 0 then A else (va_up A 15 (upd (A 15) (I 9).toNatClampNeg (vp_nar .char (((((v1.toUInt64 >>> ((8 * v4).toInt64.toUInt64 &&& Int64.toUInt64 63)).toInt64).toInt32 &&& 255).toUInt32 % 65536).toInt32))))) J it dyn v1 v3 (v4 + (-1))))) := hS
    have hq : fsW G l mX8_write 0 0 0 0 0 Q 139 [(0, .inr (.inr (some 14))), (1, .inr (.inl v1)), (3, .inl v3), (4, .inl (if v4 < 0 then v4 else (Lb_X8_write_87_v4 n ht (if (((v1.toUInt64 >>> ((8 * v4).toInt64.toUInt64 &&& Int64.toUInt64 63)).toInt64).toInt32 &&& 255) = 0 then I else (upd I 9 ((I 9) + 1))) (if (((v1.toUInt64 >>> ((8 * v4).toInt64.toUInt64 &&& Int64.toUInt64 63)).toInt64).toInt32 &&& 255) = 0 then A else (va_up A 15 (upd (A 15) (I 9).toNatClampNeg (vp_nar .char (((((v1.toUInt64 >>> ((8 * v4).toInt64.toUInt64 &&& Int64.toUInt64 63)).toInt64).toInt32 &&& 255).toUInt32 % 65536).toInt32))))) J it dyn v1 v3 (v4 + (-1)))))] [] (fs_mk ht (if v4 < 0 then I else (Lb_X8_write_87_I n ht (if (((v1.toUInt64 >>> ((8 * v4).toInt64.toUInt64 &&& Int64.toUInt64 63)).toInt64).toInt32 &&& 255) = 0 then I else (upd I 9 ((I 9) + 1))) (if (((v1.toUInt64 >>> ((8 * v4).toInt64.toUInt64 &&& Int64.toUInt64 63)).toInt64).toInt32 &&& 255) = 0 then A else (va_up A 15 (upd (A 15) (I 9).toNatClampNeg (vp_nar .char (((((v1.toUInt64 >>> ((8 * v4).toInt64.toUInt64 &&& Int64.toUInt64 63)).toInt64).toInt32 &&& 255).toUInt32 % 65536).toInt32))))) J it dyn v1 v3 (v4 + (-1)))) (if v4 < 0 then A else (Lb_X8_write_87_A n ht (if (((v1.toUInt64 >>> ((8 * v4).toInt64.toUInt64 &&& Int64.toUInt64 63)).toInt64).toInt32 &&& 255) = 0 then I else (upd I 9 ((I 9) + 1))) (if (((v1.toUInt64 >>> ((8 * v4).toInt64.toUInt64 &&& Int64.toUInt64 63)).toInt64).toInt32 &&& 255) = 0 then A else (va_up A 15 (upd (A 15) (I 9).toNatClampNeg (vp_nar .char (((((v1.toUInt64 >>> ((8 * v4).toInt64.toUInt64 &&& Int64.toUInt64 63)).toInt64).toInt32 &&& 255).toUInt32 % 65536).toInt32))))) J it dyn v1 v3 (v4 + (-1)))) J it dyn) := hq
    refine fs_iload dX8_write_87 rfl ?_
    refine fs_if_lt 139 dX8_write_89 (by decide) (fun c_89 : v4 < 0 => ?_) (fun c_89 : ¬ (v4 < 0) => ?_)
    · have k9 := hq
      try simp only [if_pos c_89] at k9 ⊢
      exact k9
    · have hS := hS c_89
      refine fs_lload_n dX8_write_92 rfl rfl ?_
      refine fs_bipush (v := 8) dX8_write_93 rfl ?_
      refine fs_iload dX8_write_95 rfl ?_
      refine fs_imul dX8_write_97 ?_
      refine fs_lushr dX8_write_98 ?_
      refine fs_l2i dX8_write_99 ?_
      refine fs_sipush (v := 255) dX8_write_100 rfl ?_
      refine fs_iand dX8_write_103 ?_
      refine fs_istore (L' := [(5, .inl (((v1.toUInt64 >>> ((8 * v4).toInt64.toUInt64 &&& Int64.toUInt64 63)).toInt64).toInt32 &&& 255)), (0, .inr (.inr (some 14))), (1, .inr (.inl v1)), (3, .inl v3), (4, .inl v4)]) dX8_write_104 (by decide) rfl ?_
      refine fs_iload dX8_write_106 rfl ?_
      obtain ⟨hR_108, hS⟩ := hS
      have key_133 : fsW G l mX8_write 0 0 0 0 0 Q 133 [(0, .inr (.inr (some 14))), (1, .inr (.inl v1)), (3, .inl v3), (4, .inl v4), (5, .inl (((v1.toUInt64 >>> ((8 * v4).toInt64.toUInt64 &&& Int64.toUInt64 63)).toInt64).toInt32 &&& 255))] [] (fs_mk ht (if (((v1.toUInt64 >>> ((8 * v4).toInt64.toUInt64 &&& Int64.toUInt64 63)).toInt64).toInt32 &&& 255) = 0 then I else (upd I 9 ((I 9) + 1))) (if (((v1.toUInt64 >>> ((8 * v4).toInt64.toUInt64 &&& Int64.toUInt64 63)).toInt64).toInt32 &&& 255) = 0 then A else (va_up A 15 (upd (A 15) (I 9).toNatClampNeg (vp_nar .char (((((v1.toUInt64 >>> ((8 * v4).toInt64.toUInt64 &&& Int64.toUInt64 63)).toInt64).toInt32 &&& 255).toUInt32 % 65536).toInt32))))) J it dyn) := by
        refine fs_iinc (v := (v4 + (-1))) (L' := [(4, .inl (v4 + (-1))), (0, .inr (.inr (some 14))), (1, .inr (.inl v1)), (3, .inl v3), (5, .inl (((v1.toUInt64 >>> ((8 * v4).toInt64.toUInt64 &&& Int64.toUInt64 63)).toInt64).toInt32 &&& 255))]) dX8_write_133 rfl rfl (by decide) rfl ?_
        refine fs_goto 87 dX8_write_136 (by decide) ?_
        refine fs_reL [1, 2, 3, 0] rfl ?_
        have k9 := hq
        try simp only [if_neg c_89] at hS k9 ⊢
        exact ih _ _ _ _ _ _ _ _ _ hS k9
      refine fs_if_eq 133 dX8_write_108 (by decide) (fun c_108 : (((v1.toUInt64 >>> ((8 * v4).toInt64.toUInt64 &&& Int64.toUInt64 63)).toInt64).toInt32 &&& 255) = 0 => ?_) (fun c_108 : ¬ ((((v1.toUInt64 >>> ((8 * v4).toInt64.toUInt64 &&& Int64.toUInt64 63)).toInt64).toInt32 &&& 255) = 0) => ?_)
      · refine fs_reL [1, 2, 3, 4, 0] rfl ?_
        have k9 := key_133
        try simp only [if_neg c_89, if_pos c_108] at k9 ⊢
        exact k9
      · have hS := hR_108 c_108
        refine fs_aload_n dX8_write_111 rfl rfl ?_
        refine fs_getfield (v := .inr (.inr (some 15))) dX8_write_112 sf_X8_7 rfl rfl ?_
        refine fs_aload_n dX8_write_115 rfl rfl ?_
        refine fs_getfield (v := .inl (I 9)) dX8_write_116 sf_X8_101 rfl rfl ?_
        refine fs_iload dX8_write_119 rfl ?_
        refine fs_i2c dX8_write_121 ?_
        have ho1 := hS
        refine fss_15 dX8_write_122 ho1 ?_
        refine fs_aload_n dX8_write_123 rfl rfl ?_
        refine fs_dup dX8_write_124 rfl ?_
        refine fs_getfield (v := .inl (I 9)) dX8_write_125 sf_X8_101 rfl rfl ?_
        refine fs_iconst (v := 1) dX8_write_128 rfl ?_
        refine fs_iadd dX8_write_129 ?_
        refine fsp_9 dX8_write_130 sp_X8_101 ?_
        refine fs_reL [1, 2, 3, 4, 0] rfl ?_
        have k9 := key_133
        try simp only [if_neg c_89, if_neg c_108] at k9 ⊢
        exact k9
def La_X8_write_11_r : Nat → Nat → (Nat → Int32) → (Nat → Nat → Int32) → (Nat → Nat → Int64) → (Nat → Option Nat) → fsH → Int64 → Int32 → Int32 → Int32
  | 0, ht, I, A, J, it, dyn, v1, v3, v4 => 0
  | n + 1, ht, I, A, J, it, dyn, v1, v3, v4 => (if v4 < 0 then (if ((I 9) + v3) ≤ 60 then 1 else 0) else (if (((v1.toUInt64 >>> ((8 * v4).toInt64.toUInt64 &&& Int64.toUInt64 63)).toInt64).toInt32 &&& 255) = 0 then (La_X8_write_11_r n ht I A J it dyn v1 v3 (v4 + (-1))) else (if (((v1.toUInt64 >>> ((8 * v4).toInt64.toUInt64 &&& Int64.toUInt64 63)).toInt64).toInt32 &&& 255) < 32 then 0 else (if (((v1.toUInt64 >>> ((8 * v4).toInt64.toUInt64 &&& Int64.toUInt64 63)).toInt64).toInt32 &&& 255) ≤ 126 then (La_X8_write_11_r n ht I A J it dyn v1 (v3 + 1) (v4 + (-1))) else 0))))
def La_X8_write_11_I : Nat → Nat → (Nat → Int32) → (Nat → Nat → Int32) → (Nat → Nat → Int64) → (Nat → Option Nat) → fsH → Int64 → Int32 → Int32 → (Nat → Int32)
  | 0, ht, I, A, J, it, dyn, v1, v3, v4 => I
  | n + 1, ht, I, A, J, it, dyn, v1, v3, v4 => (if v4 < 0 then (if ((I 9) + v3) ≤ 60 then (Lb_X8_write_87_I 70 ht I A J it dyn v1 v3 7) else I) else (if (((v1.toUInt64 >>> ((8 * v4).toInt64.toUInt64 &&& Int64.toUInt64 63)).toInt64).toInt32 &&& 255) = 0 then (La_X8_write_11_I n ht I A J it dyn v1 v3 (v4 + (-1))) else (if (((v1.toUInt64 >>> ((8 * v4).toInt64.toUInt64 &&& Int64.toUInt64 63)).toInt64).toInt32 &&& 255) < 32 then I else (if (((v1.toUInt64 >>> ((8 * v4).toInt64.toUInt64 &&& Int64.toUInt64 63)).toInt64).toInt32 &&& 255) ≤ 126 then (La_X8_write_11_I n ht I A J it dyn v1 (v3 + 1) (v4 + (-1))) else I))))
def La_X8_write_11_A : Nat → Nat → (Nat → Int32) → (Nat → Nat → Int32) → (Nat → Nat → Int64) → (Nat → Option Nat) → fsH → Int64 → Int32 → Int32 → (Nat → Nat → Int32)
  | 0, ht, I, A, J, it, dyn, v1, v3, v4 => A
  | n + 1, ht, I, A, J, it, dyn, v1, v3, v4 => (if v4 < 0 then (if ((I 9) + v3) ≤ 60 then (Lb_X8_write_87_A 70 ht I A J it dyn v1 v3 7) else A) else (if (((v1.toUInt64 >>> ((8 * v4).toInt64.toUInt64 &&& Int64.toUInt64 63)).toInt64).toInt32 &&& 255) = 0 then (La_X8_write_11_A n ht I A J it dyn v1 v3 (v4 + (-1))) else (if (((v1.toUInt64 >>> ((8 * v4).toInt64.toUInt64 &&& Int64.toUInt64 63)).toInt64).toInt32 &&& 255) < 32 then A else (if (((v1.toUInt64 >>> ((8 * v4).toInt64.toUInt64 &&& Int64.toUInt64 63)).toInt64).toInt32 &&& 255) ≤ 126 then (La_X8_write_11_A n ht I A J it dyn v1 (v3 + 1) (v4 + (-1))) else A))))
def S_La_X8_write_11 : Nat → Nat → (Nat → Int32) → (Nat → Nat → Int32) → (Nat → Nat → Int64) → (Nat → Option Nat) → fsH → Int64 → Int32 → Int32 → Prop
  | 0, _, _, _, _, _, _, _, _, _ => False
  | n + 1, ht, I, A, J, it, dyn, v1, v3, v4 => (((v4 < 0) → ((((I 9) + v3) ≤ 60) → (S_Lb_X8_write_87 70 ht I A J it dyn v1 v3 7))) ∧ (¬ (v4 < 0) → ((((((v1.toUInt64 >>> ((8 * v4).toInt64.toUInt64 &&& Int64.toUInt64 63)).toInt64).toInt32 &&& 255) = 0) → (S_La_X8_write_11 n ht I A J it dyn v1 v3 (v4 + (-1)))) ∧ (¬ ((((v1.toUInt64 >>> ((8 * v4).toInt64.toUInt64 &&& Int64.toUInt64 63)).toInt64).toInt32 &&& 255) = 0) → (¬ ((((v1.toUInt64 >>> ((8 * v4).toInt64.toUInt64 &&& Int64.toUInt64 63)).toInt64).toInt32 &&& 255) < 32) → (((((v1.toUInt64 >>> ((8 * v4).toInt64.toUInt64 &&& Int64.toUInt64 63)).toInt64).toInt32 &&& 255) ≤ 126) → (S_La_X8_write_11 n ht I A J it dyn v1 (v3 + 1) (v4 + (-1)))))))))
set_option maxRecDepth 100000 in
set_option maxHeartbeats 4000000 in
theorem lp_La_X8_write_11 (G : fsG) (l : Launch) (Q : Option fsV → fsH → Prop) : ∀ (n : Nat) (ht : Nat) (I : Nat → Int32) (A : Nat → Nat → Int32) (J : Nat → Nat → Int64) (it : Nat → Option Nat) (dyn : fsH) (v1 : Int64) (v3 : Int32) (v4 : Int32), S_La_X8_write_11 n ht I A J it dyn v1 v3 v4 → (Q (some (.inl (La_X8_write_11_r n ht I A J it dyn v1 v3 v4))) (fs_mk ht (La_X8_write_11_I n ht I A J it dyn v1 v3 v4) (La_X8_write_11_A n ht I A J it dyn v1 v3 v4) J it dyn)) → fsW G l mX8_write 0 0 0 0 0 Q 11 [(0, .inr (.inr (some 14))), (1, .inr (.inl v1)), (3, .inl v3), (4, .inl v4)] [] (fs_mk ht I A J it dyn) := by
  intro n
  induction n with
  | zero =>
    intro ht I A J it dyn v1 v3 v4 hS
    exact hS.elim
  | succ n ih =>
    intro ht I A J it dyn v1 v3 v4 hS hq
    have hS : (((v4 < 0) → ((((I 9) + v3) ≤ 60) → (S_Lb_X8_write_87 70 ht I A J it dyn v1 v3 7))) ∧ (¬ (v4 < 0) → ((((((v1.toUInt64 >>> ((8 * v4).toInt64.toUInt64 &&& Int64.toUInt64 63)).toInt64).toInt32 &&& 255) = 0) → (S_La_X8_write_11 n ht I A J it dyn v1 v3 (v4 + (-1)))) ∧ (¬ ((((v1.toUInt64 >>> ((8 * v4).toInt64.toUInt64 &&& Int64.toUInt64 63)).toInt64).toInt32 &&& 255) = 0) → (¬ ((((v1.toUInt64 >>> ((8 * v4).toInt64.toUInt64 &&& Int64.toUInt64 63)).toInt64).toInt32 &&& 255) < 32) → (((((v1.toUInt64 >>> ((8 * v4).toInt64.toUInt64 &&& Int64.toUInt64 63)).toInt64).toInt32 &&& 255) ≤ 126) → (S_La_X8_write_11 n ht I A J it dyn v1 (v3 + 1) (v4 + (-1))))))))) := hS
    have hq : Q (some (.inl (if v4 < 0 then (if ((I 9) + v3) ≤ 60 then 1 else 0) else (if (((v1.toUInt64 >>> ((8 * v4).toInt64.toUInt64 &&& Int64.toUInt64 63)).toInt64).toInt32 &&& 255) = 0 then (La_X8_write_11_r n ht I A J it dyn v1 v3 (v4 + (-1))) else (if (((v1.toUInt64 >>> ((8 * v4).toInt64.toUInt64 &&& Int64.toUInt64 63)).toInt64).toInt32 &&& 255) < 32 then 0 else (if (((v1.toUInt64 >>> ((8 * v4).toInt64.toUInt64 &&& Int64.toUInt64 63)).toInt64).toInt32 &&& 255) ≤ 126 then (La_X8_write_11_r n ht I A J it dyn v1 (v3 + 1) (v4 + (-1))) else 0)))))) (fs_mk ht (if v4 < 0 then (if ((I 9) + v3) ≤ 60 then (Lb_X8_write_87_I 70 ht I A J it dyn v1 v3 7) else I) else (if (((v1.toUInt64 >>> ((8 * v4).toInt64.toUInt64 &&& Int64.toUInt64 63)).toInt64).toInt32 &&& 255) = 0 then (La_X8_write_11_I n ht I A J it dyn v1 v3 (v4 + (-1))) else (if (((v1.toUInt64 >>> ((8 * v4).toInt64.toUInt64 &&& Int64.toUInt64 63)).toInt64).toInt32 &&& 255) < 32 then I else (if (((v1.toUInt64 >>> ((8 * v4).toInt64.toUInt64 &&& Int64.toUInt64 63)).toInt64).toInt32 &&& 255) ≤ 126 then (La_X8_write_11_I n ht I A J it dyn v1 (v3 + 1) (v4 + (-1))) else I)))) (if v4 < 0 then (if ((I 9) + v3) ≤ 60 then (Lb_X8_write_87_A 70 ht I A J it dyn v1 v3 7) else A) else (if (((v1.toUInt64 >>> ((8 * v4).toInt64.toUInt64 &&& Int64.toUInt64 63)).toInt64).toInt32 &&& 255) = 0 then (La_X8_write_11_A n ht I A J it dyn v1 v3 (v4 + (-1))) else (if (((v1.toUInt64 >>> ((8 * v4).toInt64.toUInt64 &&& Int64.toUInt64 63)).toInt64).toInt32 &&& 255) < 32 then A else (if (((v1.toUInt64 >>> ((8 * v4).toInt64.toUInt64 &&& Int64.toUInt64 63)).toInt64).toInt32 &&& 255) ≤ 126 then (La_X8_write_11_A n ht I A J it dyn v1 (v3 + 1) (v4 + (-1))) else A)))) J it dyn) := hq
    refine fs_iload dX8_write_11 rfl ?_
    refine fs_if_lt 70 dX8_write_13 (by decide) (fun c_13 : v4 < 0 => ?_) (fun c_13 : ¬ (v4 < 0) => ?_)
    · have hS := hS.1 c_13
      refine fs_aload_n dX8_write_70 rfl rfl ?_
      refine fs_getfield (v := .inl (I 9)) dX8_write_71 sf_X8_101 rfl rfl ?_
      refine fs_iload_n dX8_write_74 rfl rfl ?_
      refine fs_iadd dX8_write_75 ?_
      refine fs_bipush (v := 60) dX8_write_76 rfl ?_
      refine fs_icmp_le 83 dX8_write_78 (by decide) (fun c_78 : ((I 9) + v3) ≤ 60 => ?_) (fun c_78 : ¬ (((I 9) + v3) ≤ 60) => ?_)
      · have hS := hS c_78
        refine fs_bipush (v := 7) dX8_write_83 rfl ?_
        refine fs_istore (L' := [(4, .inl 7), (0, .inr (.inr (some 14))), (1, .inr (.inl v1)), (3, .inl v3)]) dX8_write_85 (by decide) rfl ?_
        refine fs_reL [1, 2, 3, 0] rfl ?_
        have ho1 := hS
        refine lp_Lb_X8_write_87 G l Q 70 ht I A J it dyn v1 v3 7 ho1 ?_
        refine fs_iconst (v := 1) dX8_write_139 rfl ?_
        have k9 := hq
        try simp only [if_pos c_13, if_pos c_78] at k9 ⊢
        exact fs_iret dX8_write_140 rfl rfl k9
      · refine fs_iconst (v := 0) dX8_write_81 rfl ?_
        have k9 := hq
        try simp only [if_pos c_13, if_neg c_78] at k9 ⊢
        exact fs_iret dX8_write_82 rfl rfl k9
    · have hS := hS.2 c_13
      refine fs_lload_n dX8_write_16 rfl rfl ?_
      refine fs_bipush (v := 8) dX8_write_17 rfl ?_
      refine fs_iload dX8_write_19 rfl ?_
      refine fs_imul dX8_write_21 ?_
      refine fs_lushr dX8_write_22 ?_
      refine fs_l2i dX8_write_23 ?_
      refine fs_sipush (v := 255) dX8_write_24 rfl ?_
      refine fs_iand dX8_write_27 ?_
      refine fs_istore (L' := [(5, .inl (((v1.toUInt64 >>> ((8 * v4).toInt64.toUInt64 &&& Int64.toUInt64 63)).toInt64).toInt32 &&& 255)), (0, .inr (.inr (some 14))), (1, .inr (.inl v1)), (3, .inl v3), (4, .inl v4)]) dX8_write_28 (by decide) rfl ?_
      refine fs_iload dX8_write_30 rfl ?_
      refine fs_if_eq 51 dX8_write_32 (by decide) (fun c_32 : (((v1.toUInt64 >>> ((8 * v4).toInt64.toUInt64 &&& Int64.toUInt64 63)).toInt64).toInt32 &&& 255) = 0 => ?_) (fun c_32 : ¬ ((((v1.toUInt64 >>> ((8 * v4).toInt64.toUInt64 &&& Int64.toUInt64 63)).toInt64).toInt32 &&& 255) = 0) => ?_)
      · have hS := hS.1 c_32
        refine fs_iload dX8_write_51 rfl ?_
        refine fs_if_eq 62 dX8_write_53 (by decide) (fun c_53 : (((v1.toUInt64 >>> ((8 * v4).toInt64.toUInt64 &&& Int64.toUInt64 63)).toInt64).toInt32 &&& 255) = 0 => ?_) (fun c_53 : ¬ ((((v1.toUInt64 >>> ((8 * v4).toInt64.toUInt64 &&& Int64.toUInt64 63)).toInt64).toInt32 &&& 255) = 0) => ?_)
        · refine fs_iload_n dX8_write_62 rfl rfl ?_
          refine fs_istore_n (L' := [(3, .inl v3), (5, .inl (((v1.toUInt64 >>> ((8 * v4).toInt64.toUInt64 &&& Int64.toUInt64 63)).toInt64).toInt32 &&& 255)), (0, .inr (.inr (some 14))), (1, .inr (.inl v1)), (4, .inl v4)]) dX8_write_63 rfl (by decide) rfl ?_
          refine fs_iinc (v := (v4 + (-1))) (L' := [(4, .inl (v4 + (-1))), (3, .inl v3), (5, .inl (((v1.toUInt64 >>> ((8 * v4).toInt64.toUInt64 &&& Int64.toUInt64 63)).toInt64).toInt32 &&& 255)), (0, .inr (.inr (some 14))), (1, .inr (.inl v1))]) dX8_write_64 rfl rfl (by decide) rfl ?_
          refine fs_goto 11 dX8_write_67 (by decide) ?_
          refine fs_reL [3, 4, 1, 0] rfl ?_
          have k9 := hq
          try simp only [if_neg c_13, if_pos c_32] at hS k9 ⊢
          exact ih _ _ _ _ _ _ _ _ _ hS k9
        · exact absurd c_32 c_53
      · have hS := hS.2 c_32
        refine fs_iload dX8_write_35 rfl ?_
        refine fs_bipush (v := 32) dX8_write_37 rfl ?_
        refine fs_icmp_lt 49 dX8_write_39 (by decide) (fun c_39 : (((v1.toUInt64 >>> ((8 * v4).toInt64.toUInt64 &&& Int64.toUInt64 63)).toInt64).toInt32 &&& 255) < 32 => ?_) (fun c_39 : ¬ ((((v1.toUInt64 >>> ((8 * v4).toInt64.toUInt64 &&& Int64.toUInt64 63)).toInt64).toInt32 &&& 255) < 32) => ?_)
        · refine fs_iconst (v := 0) dX8_write_49 rfl ?_
          have k9 := hq
          try simp only [if_neg c_13, if_neg c_32, if_pos c_39] at k9 ⊢
          exact fs_iret dX8_write_50 rfl rfl k9
        · have hS := hS c_39
          refine fs_iload dX8_write_42 rfl ?_
          refine fs_bipush (v := 126) dX8_write_44 rfl ?_
          refine fs_icmp_le 51 dX8_write_46 (by decide) (fun c_46 : (((v1.toUInt64 >>> ((8 * v4).toInt64.toUInt64 &&& Int64.toUInt64 63)).toInt64).toInt32 &&& 255) ≤ 126 => ?_) (fun c_46 : ¬ ((((v1.toUInt64 >>> ((8 * v4).toInt64.toUInt64 &&& Int64.toUInt64 63)).toInt64).toInt32 &&& 255) ≤ 126) => ?_)
          · have hS := hS c_46
            refine fs_iload dX8_write_51 rfl ?_
            refine fs_if_eq 62 dX8_write_53 (by decide) (fun c_53 : (((v1.toUInt64 >>> ((8 * v4).toInt64.toUInt64 &&& Int64.toUInt64 63)).toInt64).toInt32 &&& 255) = 0 => ?_) (fun c_53 : ¬ ((((v1.toUInt64 >>> ((8 * v4).toInt64.toUInt64 &&& Int64.toUInt64 63)).toInt64).toInt32 &&& 255) = 0) => ?_)
            · exact absurd c_53 c_32
            · refine fs_iload_n dX8_write_56 rfl rfl ?_
              refine fs_iconst (v := 1) dX8_write_57 rfl ?_
              refine fs_iadd dX8_write_58 ?_
              refine fs_goto 63 dX8_write_59 (by decide) ?_
              refine fs_istore_n (L' := [(3, .inl (v3 + 1)), (5, .inl (((v1.toUInt64 >>> ((8 * v4).toInt64.toUInt64 &&& Int64.toUInt64 63)).toInt64).toInt32 &&& 255)), (0, .inr (.inr (some 14))), (1, .inr (.inl v1)), (4, .inl v4)]) dX8_write_63 rfl (by decide) rfl ?_
              refine fs_iinc (v := (v4 + (-1))) (L' := [(4, .inl (v4 + (-1))), (3, .inl (v3 + 1)), (5, .inl (((v1.toUInt64 >>> ((8 * v4).toInt64.toUInt64 &&& Int64.toUInt64 63)).toInt64).toInt32 &&& 255)), (0, .inr (.inr (some 14))), (1, .inr (.inl v1))]) dX8_write_64 rfl rfl (by decide) rfl ?_
              refine fs_goto 11 dX8_write_67 (by decide) ?_
              refine fs_reL [3, 4, 1, 0] rfl ?_
              have k9 := hq
              try simp only [if_neg c_13, if_neg c_32, if_neg c_39, if_pos c_46] at hS k9 ⊢
              exact ih _ _ _ _ _ _ _ _ _ hS k9
          · refine fs_iconst (v := 0) dX8_write_49 rfl ?_
            have k9 := hq
            try simp only [if_neg c_13, if_neg c_32, if_neg c_39, if_neg c_46] at k9 ⊢
            exact fs_iret dX8_write_50 rfl rfl k9
theorem nb_La_X8_write_11 : ∀ (n : Nat) (ht : Nat) (I : Nat → Int32) (A : Nat → Nat → Int32) (J : Nat → Nat → Int64) (it : Nat → Option Nat) (dyn : fsH) (v1 : Int64) (v3 : Int32) (v4 : Int32), narrow .boolean (.int (La_X8_write_11_r n ht I A J it dyn v1 v3 v4)) = .int (La_X8_write_11_r n ht I A J it dyn v1 v3 v4) := by
  intro n
  induction n with
  | zero =>
    intro ht I A J it dyn v1 v3 v4
    exact (rfl : narrow .boolean (.int 0) = .int 0)
  | succ n ih =>
    intro ht I A J it dyn v1 v3 v4
    unfold La_X8_write_11_r
    (repeat' split) <;> first | rfl | exact ih _ _ _ _ _ _ _ _ _
def L_X8_write_r (ht : Nat) (I : Nat → Int32) (A : Nat → Nat → Int32) (J : Nat → Nat → Int64) (it : Nat → Option Nat) (dyn : fsH) (x1 : Int64) : Int32 := (La_X8_write_11_r 70 ht (upd I 8 0) A J it dyn x1 0 7)
def L_X8_write_I (ht : Nat) (I : Nat → Int32) (A : Nat → Nat → Int32) (J : Nat → Nat → Int64) (it : Nat → Option Nat) (dyn : fsH) (x1 : Int64) : Nat → Int32 := (La_X8_write_11_I 70 ht (upd I 8 0) A J it dyn x1 0 7)
def L_X8_write_A (ht : Nat) (I : Nat → Int32) (A : Nat → Nat → Int32) (J : Nat → Nat → Int64) (it : Nat → Option Nat) (dyn : fsH) (x1 : Int64) : Nat → Nat → Int32 := (La_X8_write_11_A 70 ht (upd I 8 0) A J it dyn x1 0 7)
def S_X8_write (ht : Nat) (I : Nat → Int32) (A : Nat → Nat → Int32) (J : Nat → Nat → Int64) (it : Nat → Option Nat) (dyn : fsH) (x1 : Int64) : Prop := (S_La_X8_write_11 70 ht (upd I 8 0) A J it dyn x1 0 7)
set_option maxRecDepth 100000 in
set_option maxHeartbeats 4000000 in
theorem c_X8_write (G : fsG) (l : Launch) (ht : Nat) (I : Nat → Int32) (A : Nat → Nat → Int32) (J : Nat → Nat → Int64) (it : Nat → Option Nat) (dyn : fsH) (x1 : Int64) (hS : S_X8_write ht I A J it dyn x1) : fsFn G l mX8_write 0 0 0 [.inr (.inr (some 14)), .inr (.inl x1)] (fs_mk ht I A J it dyn) (some (.inl (L_X8_write_r ht I A J it dyn x1))) (fs_mk ht (L_X8_write_I ht I A J it dyn x1) (L_X8_write_A ht I A J it dyn x1) J it dyn) := by
  refine fsMet_of (by decide) (Nat.le_of_ble_eq_true rfl) ?_
  generalize hQ : (fun (r1 : Option fsV) (h1 : fsH) => r1 = (some (.inl (L_X8_write_r ht I A J it dyn x1))) ∧ h1 = (fs_mk ht (L_X8_write_I ht I A J it dyn x1) (L_X8_write_A ht I A J it dyn x1) J it dyn)) = Q
  have hq : Q (some (.inl (L_X8_write_r ht I A J it dyn x1))) (fs_mk ht (L_X8_write_I ht I A J it dyn x1) (L_X8_write_A ht I A J it dyn x1) J it dyn) := by rw [← hQ]; exact ⟨rfl, rfl⟩
  clear hQ
  have hq : Q (some (.inl (La_X8_write_11_r 70 ht (upd I 8 0) A J it dyn x1 0 7))) (fs_mk ht (La_X8_write_11_I 70 ht (upd I 8 0) A J it dyn x1 0 7) (La_X8_write_11_A 70 ht (upd I 8 0) A J it dyn x1 0 7) J it dyn) := hq
  have hS : (S_La_X8_write_11 70 ht (upd I 8 0) A J it dyn x1 0 7) := hS
  refine (show fsW G l mX8_write 0 0 0 0 0 Q 0 [(0, .inr (.inr (some 14))), (1, .inr (.inl x1))] [] (fs_mk ht I A J it dyn) from ?_)
  refine fs_aload_n dX8_write_0 rfl rfl ?_
  refine fs_iconst (v := 0) dX8_write_1 rfl ?_
  refine fsp_8 dX8_write_2 sp_X8_98 ?_
  refine fs_iconst (v := 0) dX8_write_5 rfl ?_
  refine fs_istore_n (L' := [(3, .inl 0), (0, .inr (.inr (some 14))), (1, .inr (.inl x1))]) dX8_write_6 rfl (by decide) rfl ?_
  refine fs_bipush (v := 7) dX8_write_7 rfl ?_
  refine fs_istore (L' := [(4, .inl 7), (3, .inl 0), (0, .inr (.inr (some 14))), (1, .inr (.inl x1))]) dX8_write_9 (by decide) rfl ?_
  refine fs_reL [2, 3, 1, 0] rfl ?_
  have ho1 := hS
  have k9 := hq
  exact lp_La_X8_write_11 G l Q 70 _ _ _ _ _ _ _ _ _ ho1 k9
theorem nb_X8_write (ht : Nat) (I : Nat → Int32) (A : Nat → Nat → Int32) (J : Nat → Nat → Int64) (it : Nat → Option Nat) (dyn : fsH) (x1 : Int64) : narrow .boolean (.int (L_X8_write_r ht I A J it dyn x1)) = .int (L_X8_write_r ht I A J it dyn x1) := by
  unfold L_X8_write_r
  exact (by (repeat' split) <;> first | rfl | exact nb_La_X8_write_11 _ _ _ _ _ _ _ _ _ _)
def L_X8_readName_r (ht : Nat) (I : Nat → Int32) (A : Nat → Nat → Int32) (J : Nat → Nat → Int64) (it : Nat → Option Nat) (dyn : fsH)  : Int32 := (if (L_X8_letter_r ht I A J it dyn (L_X8_here_r ht I A J it dyn)) = 0 then (-1) else (if (L_X8_letter_r ht (upd I 14 ((I 14) + 1)) A J it dyn (L_X8_here_r ht (upd I 14 ((I 14) + 1)) A J it dyn)) = 0 then (27 * (((L_X8_here_r ht I A J it dyn) - 97) + 1)) else ((27 * (((L_X8_here_r ht I A J it dyn) - 97) + 1)) + (((L_X8_here_r ht (upd I 14 ((I 14) + 1)) A J it dyn) - 97) + 1)) : Int32))
def L_X8_readName_I (ht : Nat) (I : Nat → Int32) (A : Nat → Nat → Int32) (J : Nat → Nat → Int64) (it : Nat → Option Nat) (dyn : fsH)  : Nat → Int32 := (if (L_X8_letter_r ht I A J it dyn (L_X8_here_r ht I A J it dyn)) = 0 then I else (if (L_X8_letter_r ht (upd I 14 ((I 14) + 1)) A J it dyn (L_X8_here_r ht (upd I 14 ((I 14) + 1)) A J it dyn)) = 0 then (upd I 14 ((I 14) + 1)) else (upd (upd I 14 ((I 14) + 1)) 14 (((I 14) + 1) + 1))))
def S_X8_readName (ht : Nat) (I : Nat → Int32) (A : Nat → Nat → Int32) (J : Nat → Nat → Int64) (it : Nat → Option Nat) (dyn : fsH)  : Prop := ((S_X8_here ht I A J it dyn) ∧ (¬ ((L_X8_letter_r ht I A J it dyn (L_X8_here_r ht I A J it dyn)) = 0) → ((S_X8_here ht I A J it dyn) ∧ ((S_X8_here ht (upd I 14 ((I 14) + 1)) A J it dyn) ∧ (¬ ((L_X8_letter_r ht (upd I 14 ((I 14) + 1)) A J it dyn (L_X8_here_r ht (upd I 14 ((I 14) + 1)) A J it dyn)) = 0) → (S_X8_here ht (upd I 14 ((I 14) + 1)) A J it dyn))))))
set_option maxRecDepth 100000 in
set_option maxHeartbeats 4000000 in
theorem c_X8_readName (G : fsG) (l : Launch) (ht : Nat) (I : Nat → Int32) (A : Nat → Nat → Int32) (J : Nat → Nat → Int64) (it : Nat → Option Nat) (dyn : fsH)  (hS : S_X8_readName ht I A J it dyn ) : fsFn G l mX8_readName 1 0 0 [.inr (.inr (some 14))] (fs_mk ht I A J it dyn) (some (.inl (L_X8_readName_r ht I A J it dyn ))) (fs_mk ht (L_X8_readName_I ht I A J it dyn ) A J it dyn) := by
  refine fsMet_of (by decide) (Nat.le_of_ble_eq_true rfl) ?_
  generalize hQ : (fun (r1 : Option fsV) (h1 : fsH) => r1 = (some (.inl (L_X8_readName_r ht I A J it dyn ))) ∧ h1 = (fs_mk ht (L_X8_readName_I ht I A J it dyn ) A J it dyn)) = Q
  have hq : Q (some (.inl (L_X8_readName_r ht I A J it dyn ))) (fs_mk ht (L_X8_readName_I ht I A J it dyn ) A J it dyn) := by rw [← hQ]; exact ⟨rfl, rfl⟩
  clear hQ
  have hq : Q (some (.inl (if (L_X8_letter_r ht I A J it dyn (L_X8_here_r ht I A J it dyn)) = 0 then (-1) else (if (L_X8_letter_r ht (upd I 14 ((I 14) + 1)) A J it dyn (L_X8_here_r ht (upd I 14 ((I 14) + 1)) A J it dyn)) = 0 then (27 * (((L_X8_here_r ht I A J it dyn) - 97) + 1)) else ((27 * (((L_X8_here_r ht I A J it dyn) - 97) + 1)) + (((L_X8_here_r ht (upd I 14 ((I 14) + 1)) A J it dyn) - 97) + 1)) : Int32)))) (fs_mk ht (if (L_X8_letter_r ht I A J it dyn (L_X8_here_r ht I A J it dyn)) = 0 then I else (if (L_X8_letter_r ht (upd I 14 ((I 14) + 1)) A J it dyn (L_X8_here_r ht (upd I 14 ((I 14) + 1)) A J it dyn)) = 0 then (upd I 14 ((I 14) + 1)) else (upd (upd I 14 ((I 14) + 1)) 14 (((I 14) + 1) + 1)))) A J it dyn) := hq
  have hS : ((S_X8_here ht I A J it dyn) ∧ (¬ ((L_X8_letter_r ht I A J it dyn (L_X8_here_r ht I A J it dyn)) = 0) → ((S_X8_here ht I A J it dyn) ∧ ((S_X8_here ht (upd I 14 ((I 14) + 1)) A J it dyn) ∧ (¬ ((L_X8_letter_r ht (upd I 14 ((I 14) + 1)) A J it dyn (L_X8_here_r ht (upd I 14 ((I 14) + 1)) A J it dyn)) = 0) → (S_X8_here ht (upd I 14 ((I 14) + 1)) A J it dyn)))))) := hS
  refine (show fsW G l mX8_readName 1 0 0 0 0 Q 0 [(0, .inr (.inr (some 14)))] [] (fs_mk ht I A J it dyn) from ?_)
  refine fs_aload_n dX8_readName_0 rfl rfl ?_
  obtain ⟨ho1, hS⟩ := hS
  refine fs_callV1 dX8_readName_1 sv_X8_107 rfl ⟨_, rfl, rfl⟩ (c_X8_here G l ht I A J it dyn ho1) rfl rfl (Nat.le_of_ble_eq_true rfl) (Nat.le_of_ble_eq_true rfl) (Nat.le_of_ble_eq_true rfl) (Nat.le_of_ble_eq_true rfl) ?_
  refine fs_callS1 dX8_readName_4 sv_X8_111 (c_X8_letter G l ht I A J it dyn (L_X8_here_r ht I A J it dyn)) rfl rfl (Nat.le_of_ble_eq_true rfl) (Nat.le_of_ble_eq_true rfl) (Nat.le_of_ble_eq_true rfl) (Nat.le_of_ble_eq_true rfl) ?_
  refine fs_if_ne 12 dX8_readName_7 (by decide) (fun c_7 : ¬ (L_X8_letter_r ht I A J it dyn (L_X8_here_r ht I A J it dyn)) = 0 => ?_) (fun c_7 : (L_X8_letter_r ht I A J it dyn (L_X8_here_r ht I A J it dyn)) = 0 => ?_)
  · have hS := hS c_7
    refine fs_bipush (v := 27) dX8_readName_12 rfl ?_
    refine fs_aload_n dX8_readName_14 rfl rfl ?_
    obtain ⟨ho1, hS⟩ := hS
    refine fs_callV1 dX8_readName_15 sv_X8_107 rfl ⟨_, rfl, rfl⟩ (c_X8_here G l ht I A J it dyn ho1) rfl rfl (Nat.le_of_ble_eq_true rfl) (Nat.le_of_ble_eq_true rfl) (Nat.le_of_ble_eq_true rfl) (Nat.le_of_ble_eq_true rfl) ?_
    refine fs_bipush (v := 97) dX8_readName_18 rfl ?_
    refine fs_isub dX8_readName_20 ?_
    refine fs_iconst (v := 1) dX8_readName_21 rfl ?_
    refine fs_iadd dX8_readName_22 ?_
    refine fs_imul dX8_readName_23 ?_
    refine fs_istore_n (L' := [(1, .inl (27 * (((L_X8_here_r ht I A J it dyn) - 97) + 1))), (0, .inr (.inr (some 14)))]) dX8_readName_24 rfl (by decide) rfl ?_
    refine fs_aload_n dX8_readName_25 rfl rfl ?_
    refine fs_dup dX8_readName_26 rfl ?_
    refine fs_getfield (v := .inl (I 14)) dX8_readName_27 sf_X8_104 rfl rfl ?_
    refine fs_iconst (v := 1) dX8_readName_30 rfl ?_
    refine fs_iadd dX8_readName_31 ?_
    refine fsp_14 dX8_readName_32 sp_X8_104 ?_
    refine fs_aload_n dX8_readName_35 rfl rfl ?_
    obtain ⟨ho1, hS⟩ := hS
    refine fs_callV1 dX8_readName_36 sv_X8_107 rfl ⟨_, rfl, rfl⟩ (c_X8_here G l ht (upd I 14 ((I 14) + 1)) A J it dyn ho1) rfl rfl (Nat.le_of_ble_eq_true rfl) (Nat.le_of_ble_eq_true rfl) (Nat.le_of_ble_eq_true rfl) (Nat.le_of_ble_eq_true rfl) ?_
    refine fs_callS1 dX8_readName_39 sv_X8_111 (c_X8_letter G l ht (upd I 14 ((I 14) + 1)) A J it dyn (L_X8_here_r ht (upd I 14 ((I 14) + 1)) A J it dyn)) rfl rfl (Nat.le_of_ble_eq_true rfl) (Nat.le_of_ble_eq_true rfl) (Nat.le_of_ble_eq_true rfl) (Nat.le_of_ble_eq_true rfl) ?_
    have hR_42 := hS
    have key_67 : fsW G l mX8_readName 1 0 0 0 0 Q 67 [(0, .inr (.inr (some 14))), (1, .inl (if (L_X8_letter_r ht (upd I 14 ((I 14) + 1)) A J it dyn (L_X8_here_r ht (upd I 14 ((I 14) + 1)) A J it dyn)) = 0 then (27 * (((L_X8_here_r ht I A J it dyn) - 97) + 1)) else ((27 * (((L_X8_here_r ht I A J it dyn) - 97) + 1)) + (((L_X8_here_r ht (upd I 14 ((I 14) + 1)) A J it dyn) - 97) + 1)) : Int32))] [] (fs_mk ht (if (L_X8_letter_r ht (upd I 14 ((I 14) + 1)) A J it dyn (L_X8_here_r ht (upd I 14 ((I 14) + 1)) A J it dyn)) = 0 then (upd I 14 ((I 14) + 1)) else (upd (upd I 14 ((I 14) + 1)) 14 (((I 14) + 1) + 1))) A J it dyn) := by
      refine fs_iload_n dX8_readName_67 rfl rfl ?_
      have k9 := hq
      try simp only [if_neg c_7] at k9 ⊢
      exact fs_iret dX8_readName_68 rfl rfl k9
    refine fs_if_eq 67 dX8_readName_42 (by decide) (fun c_42 : (L_X8_letter_r ht (upd I 14 ((I 14) + 1)) A J it dyn (L_X8_here_r ht (upd I 14 ((I 14) + 1)) A J it dyn)) = 0 => ?_) (fun c_42 : ¬ ((L_X8_letter_r ht (upd I 14 ((I 14) + 1)) A J it dyn (L_X8_here_r ht (upd I 14 ((I 14) + 1)) A J it dyn)) = 0) => ?_)
    · refine fs_reL [1, 0] rfl ?_
      have k9 := key_67
      try simp only [if_neg c_7, if_pos c_42] at k9 ⊢
      exact k9
    · have hS := hR_42 c_42
      refine fs_iload_n dX8_readName_45 rfl rfl ?_
      refine fs_aload_n dX8_readName_46 rfl rfl ?_
      have ho1 := hS
      refine fs_callV1 dX8_readName_47 sv_X8_107 rfl ⟨_, rfl, rfl⟩ (c_X8_here G l ht (upd I 14 ((I 14) + 1)) A J it dyn ho1) rfl rfl (Nat.le_of_ble_eq_true rfl) (Nat.le_of_ble_eq_true rfl) (Nat.le_of_ble_eq_true rfl) (Nat.le_of_ble_eq_true rfl) ?_
      refine fs_bipush (v := 97) dX8_readName_50 rfl ?_
      refine fs_isub dX8_readName_52 ?_
      refine fs_iconst (v := 1) dX8_readName_53 rfl ?_
      refine fs_iadd dX8_readName_54 ?_
      refine fs_iadd dX8_readName_55 ?_
      refine fs_istore_n (L' := [(1, .inl ((27 * (((L_X8_here_r ht I A J it dyn) - 97) + 1)) + (((L_X8_here_r ht (upd I 14 ((I 14) + 1)) A J it dyn) - 97) + 1))), (0, .inr (.inr (some 14)))]) dX8_readName_56 rfl (by decide) rfl ?_
      refine fs_aload_n dX8_readName_57 rfl rfl ?_
      refine fs_dup dX8_readName_58 rfl ?_
      refine fs_getfield (v := .inl ((I 14) + 1)) dX8_readName_59 sf_X8_104 rfl rfl ?_
      refine fs_iconst (v := 1) dX8_readName_62 rfl ?_
      refine fs_iadd dX8_readName_63 ?_
      refine fsp_14 dX8_readName_64 sp_X8_104 ?_
      refine fs_reL [1, 0] rfl ?_
      have k9 := key_67
      try simp only [if_neg c_7, if_neg c_42] at k9 ⊢
      exact k9
  · refine fs_iconst (v := (-1)) dX8_readName_10 rfl ?_
    have k9 := hq
    try simp only [if_pos c_7] at k9 ⊢
    exact fs_iret dX8_readName_11 rfl rfl k9
def L_X8_part_r (ht : Nat) (I : Nat → Int32) (A : Nat → Nat → Int32) (J : Nat → Nat → Int64) (it : Nat → Option Nat) (dyn : fsH) (x1 : Int32) (x2 : Int32) (x3 : Int32) (x4 : Int32) (x5 : Int64) : Int32 := (((va_up (va_up (va_up (va_up (va_up A 21 (upd (A 21) ((32 * (I 13)) + (A 20 (I 13).toNatClampNeg)).toNatClampNeg x1)) 22 (upd ((va_up A 21 (upd (A 21) ((32 * (I 13)) + (A 20 (I 13).toNatClampNeg)).toNatClampNeg x1)) 22) ((32 * (I 13)) + (A 20 (I 13).toNatClampNeg)).toNatClampNeg x2)) 23 (upd ((va_up (va_up A 21 (upd (A 21) ((32 * (I 13)) + (A 20 (I 13).toNatClampNeg)).toNatClampNeg x1)) 22 (upd ((va_up A 21 (upd (A 21) ((32 * (I 13)) + (A 20 (I 13).toNatClampNeg)).toNatClampNeg x1)) 22) ((32 * (I 13)) + (A 20 (I 13).toNatClampNeg)).toNatClampNeg x2)) 23) ((32 * (I 13)) + (A 20 (I 13).toNatClampNeg)).toNatClampNeg x3)) 24 (upd ((va_up (va_up (va_up A 21 (upd (A 21) ((32 * (I 13)) + (A 20 (I 13).toNatClampNeg)).toNatClampNeg x1)) 22 (upd ((va_up A 21 (upd (A 21) ((32 * (I 13)) + (A 20 (I 13).toNatClampNeg)).toNatClampNeg x1)) 22) ((32 * (I 13)) + (A 20 (I 13).toNatClampNeg)).toNatClampNeg x2)) 23 (upd ((va_up (va_up A 21 (upd (A 21) ((32 * (I 13)) + (A 20 (I 13).toNatClampNeg)).toNatClampNeg x1)) 22 (upd ((va_up A 21 (upd (A 21) ((32 * (I 13)) + (A 20 (I 13).toNatClampNeg)).toNatClampNeg x1)) 22) ((32 * (I 13)) + (A 20 (I 13).toNatClampNeg)).toNatClampNeg x2)) 23) ((32 * (I 13)) + (A 20 (I 13).toNatClampNeg)).toNatClampNeg x3)) 24) ((32 * (I 13)) + (A 20 (I 13).toNatClampNeg)).toNatClampNeg x4)) 20 (upd ((va_up (va_up (va_up (va_up A 21 (upd (A 21) ((32 * (I 13)) + (A 20 (I 13).toNatClampNeg)).toNatClampNeg x1)) 22 (upd ((va_up A 21 (upd (A 21) ((32 * (I 13)) + (A 20 (I 13).toNatClampNeg)).toNatClampNeg x1)) 22) ((32 * (I 13)) + (A 20 (I 13).toNatClampNeg)).toNatClampNeg x2)) 23 (upd ((va_up (va_up A 21 (upd (A 21) ((32 * (I 13)) + (A 20 (I 13).toNatClampNeg)).toNatClampNeg x1)) 22 (upd ((va_up A 21 (upd (A 21) ((32 * (I 13)) + (A 20 (I 13).toNatClampNeg)).toNatClampNeg x1)) 22) ((32 * (I 13)) + (A 20 (I 13).toNatClampNeg)).toNatClampNeg x2)) 23) ((32 * (I 13)) + (A 20 (I 13).toNatClampNeg)).toNatClampNeg x3)) 24 (upd ((va_up (va_up (va_up A 21 (upd (A 21) ((32 * (I 13)) + (A 20 (I 13).toNatClampNeg)).toNatClampNeg x1)) 22 (upd ((va_up A 21 (upd (A 21) ((32 * (I 13)) + (A 20 (I 13).toNatClampNeg)).toNatClampNeg x1)) 22) ((32 * (I 13)) + (A 20 (I 13).toNatClampNeg)).toNatClampNeg x2)) 23 (upd ((va_up (va_up A 21 (upd (A 21) ((32 * (I 13)) + (A 20 (I 13).toNatClampNeg)).toNatClampNeg x1)) 22 (upd ((va_up A 21 (upd (A 21) ((32 * (I 13)) + (A 20 (I 13).toNatClampNeg)).toNatClampNeg x1)) 22) ((32 * (I 13)) + (A 20 (I 13).toNatClampNeg)).toNatClampNeg x2)) 23) ((32 * (I 13)) + (A 20 (I 13).toNatClampNeg)).toNatClampNeg x3)) 24) ((32 * (I 13)) + (A 20 (I 13).toNatClampNeg)).toNatClampNeg x4)) 20) (I 13).toNatClampNeg (((va_up (va_up (va_up (va_up A 21 (upd (A 21) ((32 * (I 13)) + (A 20 (I 13).toNatClampNeg)).toNatClampNeg x1)) 22 (upd ((va_up A 21 (upd (A 21) ((32 * (I 13)) + (A 20 (I 13).toNatClampNeg)).toNatClampNeg x1)) 22) ((32 * (I 13)) + (A 20 (I 13).toNatClampNeg)).toNatClampNeg x2)) 23 (upd ((va_up (va_up A 21 (upd (A 21) ((32 * (I 13)) + (A 20 (I 13).toNatClampNeg)).toNatClampNeg x1)) 22 (upd ((va_up A 21 (upd (A 21) ((32 * (I 13)) + (A 20 (I 13).toNatClampNeg)).toNatClampNeg x1)) 22) ((32 * (I 13)) + (A 20 (I 13).toNatClampNeg)).toNatClampNeg x2)) 23) ((32 * (I 13)) + (A 20 (I 13).toNatClampNeg)).toNatClampNeg x3)) 24 (upd ((va_up (va_up (va_up A 21 (upd (A 21) ((32 * (I 13)) + (A 20 (I 13).toNatClampNeg)).toNatClampNeg x1)) 22 (upd ((va_up A 21 (upd (A 21) ((32 * (I 13)) + (A 20 (I 13).toNatClampNeg)).toNatClampNeg x1)) 22) ((32 * (I 13)) + (A 20 (I 13).toNatClampNeg)).toNatClampNeg x2)) 23 (upd ((va_up (va_up A 21 (upd (A 21) ((32 * (I 13)) + (A 20 (I 13).toNatClampNeg)).toNatClampNeg x1)) 22 (upd ((va_up A 21 (upd (A 21) ((32 * (I 13)) + (A 20 (I 13).toNatClampNeg)).toNatClampNeg x1)) 22) ((32 * (I 13)) + (A 20 (I 13).toNatClampNeg)).toNatClampNeg x2)) 23) ((32 * (I 13)) + (A 20 (I 13).toNatClampNeg)).toNatClampNeg x3)) 24) ((32 * (I 13)) + (A 20 (I 13).toNatClampNeg)).toNatClampNeg x4)) 20 (I 13).toNatClampNeg) + 1))) 20 (I 13).toNatClampNeg) - 1)
def L_X8_part_A (ht : Nat) (I : Nat → Int32) (A : Nat → Nat → Int32) (J : Nat → Nat → Int64) (it : Nat → Option Nat) (dyn : fsH) (x1 : Int32) (x2 : Int32) (x3 : Int32) (x4 : Int32) (x5 : Int64) : Nat → Nat → Int32 := (va_up (va_up (va_up (va_up (va_up A 21 (upd (A 21) ((32 * (I 13)) + (A 20 (I 13).toNatClampNeg)).toNatClampNeg x1)) 22 (upd ((va_up A 21 (upd (A 21) ((32 * (I 13)) + (A 20 (I 13).toNatClampNeg)).toNatClampNeg x1)) 22) ((32 * (I 13)) + (A 20 (I 13).toNatClampNeg)).toNatClampNeg x2)) 23 (upd ((va_up (va_up A 21 (upd (A 21) ((32 * (I 13)) + (A 20 (I 13).toNatClampNeg)).toNatClampNeg x1)) 22 (upd ((va_up A 21 (upd (A 21) ((32 * (I 13)) + (A 20 (I 13).toNatClampNeg)).toNatClampNeg x1)) 22) ((32 * (I 13)) + (A 20 (I 13).toNatClampNeg)).toNatClampNeg x2)) 23) ((32 * (I 13)) + (A 20 (I 13).toNatClampNeg)).toNatClampNeg x3)) 24 (upd ((va_up (va_up (va_up A 21 (upd (A 21) ((32 * (I 13)) + (A 20 (I 13).toNatClampNeg)).toNatClampNeg x1)) 22 (upd ((va_up A 21 (upd (A 21) ((32 * (I 13)) + (A 20 (I 13).toNatClampNeg)).toNatClampNeg x1)) 22) ((32 * (I 13)) + (A 20 (I 13).toNatClampNeg)).toNatClampNeg x2)) 23 (upd ((va_up (va_up A 21 (upd (A 21) ((32 * (I 13)) + (A 20 (I 13).toNatClampNeg)).toNatClampNeg x1)) 22 (upd ((va_up A 21 (upd (A 21) ((32 * (I 13)) + (A 20 (I 13).toNatClampNeg)).toNatClampNeg x1)) 22) ((32 * (I 13)) + (A 20 (I 13).toNatClampNeg)).toNatClampNeg x2)) 23) ((32 * (I 13)) + (A 20 (I 13).toNatClampNeg)).toNatClampNeg x3)) 24) ((32 * (I 13)) + (A 20 (I 13).toNatClampNeg)).toNatClampNeg x4)) 20 (upd ((va_up (va_up (va_up (va_up A 21 (upd (A 21) ((32 * (I 13)) + (A 20 (I 13).toNatClampNeg)).toNatClampNeg x1)) 22 (upd ((va_up A 21 (upd (A 21) ((32 * (I 13)) + (A 20 (I 13).toNatClampNeg)).toNatClampNeg x1)) 22) ((32 * (I 13)) + (A 20 (I 13).toNatClampNeg)).toNatClampNeg x2)) 23 (upd ((va_up (va_up A 21 (upd (A 21) ((32 * (I 13)) + (A 20 (I 13).toNatClampNeg)).toNatClampNeg x1)) 22 (upd ((va_up A 21 (upd (A 21) ((32 * (I 13)) + (A 20 (I 13).toNatClampNeg)).toNatClampNeg x1)) 22) ((32 * (I 13)) + (A 20 (I 13).toNatClampNeg)).toNatClampNeg x2)) 23) ((32 * (I 13)) + (A 20 (I 13).toNatClampNeg)).toNatClampNeg x3)) 24 (upd ((va_up (va_up (va_up A 21 (upd (A 21) ((32 * (I 13)) + (A 20 (I 13).toNatClampNeg)).toNatClampNeg x1)) 22 (upd ((va_up A 21 (upd (A 21) ((32 * (I 13)) + (A 20 (I 13).toNatClampNeg)).toNatClampNeg x1)) 22) ((32 * (I 13)) + (A 20 (I 13).toNatClampNeg)).toNatClampNeg x2)) 23 (upd ((va_up (va_up A 21 (upd (A 21) ((32 * (I 13)) + (A 20 (I 13).toNatClampNeg)).toNatClampNeg x1)) 22 (upd ((va_up A 21 (upd (A 21) ((32 * (I 13)) + (A 20 (I 13).toNatClampNeg)).toNatClampNeg x1)) 22) ((32 * (I 13)) + (A 20 (I 13).toNatClampNeg)).toNatClampNeg x2)) 23) ((32 * (I 13)) + (A 20 (I 13).toNatClampNeg)).toNatClampNeg x3)) 24) ((32 * (I 13)) + (A 20 (I 13).toNatClampNeg)).toNatClampNeg x4)) 20) (I 13).toNatClampNeg (((va_up (va_up (va_up (va_up A 21 (upd (A 21) ((32 * (I 13)) + (A 20 (I 13).toNatClampNeg)).toNatClampNeg x1)) 22 (upd ((va_up A 21 (upd (A 21) ((32 * (I 13)) + (A 20 (I 13).toNatClampNeg)).toNatClampNeg x1)) 22) ((32 * (I 13)) + (A 20 (I 13).toNatClampNeg)).toNatClampNeg x2)) 23 (upd ((va_up (va_up A 21 (upd (A 21) ((32 * (I 13)) + (A 20 (I 13).toNatClampNeg)).toNatClampNeg x1)) 22 (upd ((va_up A 21 (upd (A 21) ((32 * (I 13)) + (A 20 (I 13).toNatClampNeg)).toNatClampNeg x1)) 22) ((32 * (I 13)) + (A 20 (I 13).toNatClampNeg)).toNatClampNeg x2)) 23) ((32 * (I 13)) + (A 20 (I 13).toNatClampNeg)).toNatClampNeg x3)) 24 (upd ((va_up (va_up (va_up A 21 (upd (A 21) ((32 * (I 13)) + (A 20 (I 13).toNatClampNeg)).toNatClampNeg x1)) 22 (upd ((va_up A 21 (upd (A 21) ((32 * (I 13)) + (A 20 (I 13).toNatClampNeg)).toNatClampNeg x1)) 22) ((32 * (I 13)) + (A 20 (I 13).toNatClampNeg)).toNatClampNeg x2)) 23 (upd ((va_up (va_up A 21 (upd (A 21) ((32 * (I 13)) + (A 20 (I 13).toNatClampNeg)).toNatClampNeg x1)) 22 (upd ((va_up A 21 (upd (A 21) ((32 * (I 13)) + (A 20 (I 13).toNatClampNeg)).toNatClampNeg x1)) 22) ((32 * (I 13)) + (A 20 (I 13).toNatClampNeg)).toNatClampNeg x2)) 23) ((32 * (I 13)) + (A 20 (I 13).toNatClampNeg)).toNatClampNeg x3)) 24) ((32 * (I 13)) + (A 20 (I 13).toNatClampNeg)).toNatClampNeg x4)) 20 (I 13).toNatClampNeg) + 1)))
def L_X8_part_J (ht : Nat) (I : Nat → Int32) (A : Nat → Nat → Int32) (J : Nat → Nat → Int64) (it : Nat → Option Nat) (dyn : fsH) (x1 : Int32) (x2 : Int32) (x3 : Int32) (x4 : Int32) (x5 : Int64) : Nat → Nat → Int64 := (va_up J 25 (vp_updL (J 25) ((32 * (I 13)) + (A 20 (I 13).toNatClampNeg)).toNatClampNeg x5))
def S_X8_part (ht : Nat) (I : Nat → Int32) (A : Nat → Nat → Int32) (J : Nat → Nat → Int64) (it : Nat → Option Nat) (dyn : fsH) (x1 : Int32) (x2 : Int32) (x3 : Int32) (x4 : Int32) (x5 : Int64) : Prop := ((vp_in (I 13) 17) ∧ ((vp_in ((32 * (I 13)) + (A 20 (I 13).toNatClampNeg)) 544) ∧ ((vp_in ((32 * (I 13)) + (A 20 (I 13).toNatClampNeg)) 544) ∧ ((vp_in ((32 * (I 13)) + (A 20 (I 13).toNatClampNeg)) 544) ∧ ((vp_in ((32 * (I 13)) + (A 20 (I 13).toNatClampNeg)) 544) ∧ ((vp_in ((32 * (I 13)) + (A 20 (I 13).toNatClampNeg)) 544) ∧ ((vp_in (I 13) 17) ∧ ((vp_in (I 13) 17) ∧ (vp_in (I 13) 17)))))))))
set_option maxRecDepth 100000 in
set_option maxHeartbeats 4000000 in
theorem c_X8_part (G : fsG) (l : Launch) (ht : Nat) (I : Nat → Int32) (A : Nat → Nat → Int32) (J : Nat → Nat → Int64) (it : Nat → Option Nat) (dyn : fsH) (x1 : Int32) (x2 : Int32) (x3 : Int32) (x4 : Int32) (x5 : Int64) (hS : S_X8_part ht I A J it dyn x1 x2 x3 x4 x5) : fsFn G l mX8_part 0 0 0 [.inr (.inr (some 14)), .inl x1, .inl x2, .inl x3, .inl x4, .inr (.inl x5)] (fs_mk ht I A J it dyn) (some (.inl (L_X8_part_r ht I A J it dyn x1 x2 x3 x4 x5))) (fs_mk ht I (L_X8_part_A ht I A J it dyn x1 x2 x3 x4 x5) (L_X8_part_J ht I A J it dyn x1 x2 x3 x4 x5) it dyn) := by
  refine fsMet_of (by decide) (Nat.le_of_ble_eq_true rfl) ?_
  generalize hQ : (fun (r1 : Option fsV) (h1 : fsH) => r1 = (some (.inl (L_X8_part_r ht I A J it dyn x1 x2 x3 x4 x5))) ∧ h1 = (fs_mk ht I (L_X8_part_A ht I A J it dyn x1 x2 x3 x4 x5) (L_X8_part_J ht I A J it dyn x1 x2 x3 x4 x5) it dyn)) = Q
  have hq : Q (some (.inl (L_X8_part_r ht I A J it dyn x1 x2 x3 x4 x5))) (fs_mk ht I (L_X8_part_A ht I A J it dyn x1 x2 x3 x4 x5) (L_X8_part_J ht I A J it dyn x1 x2 x3 x4 x5) it dyn) := by rw [← hQ]; exact ⟨rfl, rfl⟩
  clear hQ
  have hq : Q (some (.inl (((va_up (va_up (va_up (va_up (va_up A 21 (upd (A 21) ((32 * (I 13)) + (A 20 (I 13).toNatClampNeg)).toNatClampNeg x1)) 22 (upd ((va_up A 21 (upd (A 21) ((32 * (I 13)) + (A 20 (I 13).toNatClampNeg)).toNatClampNeg x1)) 22) ((32 * (I 13)) + (A 20 (I 13).toNatClampNeg)).toNatClampNeg x2)) 23 (upd ((va_up (va_up A 21 (upd (A 21) ((32 * (I 13)) + (A 20 (I 13).toNatClampNeg)).toNatClampNeg x1)) 22 (upd ((va_up A 21 (upd (A 21) ((32 * (I 13)) + (A 20 (I 13).toNatClampNeg)).toNatClampNeg x1)) 22) ((32 * (I 13)) + (A 20 (I 13).toNatClampNeg)).toNatClampNeg x2)) 23) ((32 * (I 13)) + (A 20 (I 13).toNatClampNeg)).toNatClampNeg x3)) 24 (upd ((va_up (va_up (va_up A 21 (upd (A 21) ((32 * (I 13)) + (A 20 (I 13).toNatClampNeg)).toNatClampNeg x1)) 22 (upd ((va_up A 21 (upd (A 21) ((32 * (I 13)) + (A 20 (I 13).toNatClampNeg)).toNatClampNeg x1)) 22) ((32 * (I 13)) + (A 20 (I 13).toNatClampNeg)).toNatClampNeg x2)) 23 (upd ((va_up (va_up A 21 (upd (A 21) ((32 * (I 13)) + (A 20 (I 13).toNatClampNeg)).toNatClampNeg x1)) 22 (upd ((va_up A 21 (upd (A 21) ((32 * (I 13)) + (A 20 (I 13).toNatClampNeg)).toNatClampNeg x1)) 22) ((32 * (I 13)) + (A 20 (I 13).toNatClampNeg)).toNatClampNeg x2)) 23) ((32 * (I 13)) + (A 20 (I 13).toNatClampNeg)).toNatClampNeg x3)) 24) ((32 * (I 13)) + (A 20 (I 13).toNatClampNeg)).toNatClampNeg x4)) 20 (upd ((va_up (va_up (va_up (va_up A 21 (upd (A 21) ((32 * (I 13)) + (A 20 (I 13).toNatClampNeg)).toNatClampNeg x1)) 22 (upd ((va_up A 21 (upd (A 21) ((32 * (I 13)) + (A 20 (I 13).toNatClampNeg)).toNatClampNeg x1)) 22) ((32 * (I 13)) + (A 20 (I 13).toNatClampNeg)).toNatClampNeg x2)) 23 (upd ((va_up (va_up A 21 (upd (A 21) ((32 * (I 13)) + (A 20 (I 13).toNatClampNeg)).toNatClampNeg x1)) 22 (upd ((va_up A 21 (upd (A 21) ((32 * (I 13)) + (A 20 (I 13).toNatClampNeg)).toNatClampNeg x1)) 22) ((32 * (I 13)) + (A 20 (I 13).toNatClampNeg)).toNatClampNeg x2)) 23) ((32 * (I 13)) + (A 20 (I 13).toNatClampNeg)).toNatClampNeg x3)) 24 (upd ((va_up (va_up (va_up A 21 (upd (A 21) ((32 * (I 13)) + (A 20 (I 13).toNatClampNeg)).toNatClampNeg x1)) 22 (upd ((va_up A 21 (upd (A 21) ((32 * (I 13)) + (A 20 (I 13).toNatClampNeg)).toNatClampNeg x1)) 22) ((32 * (I 13)) + (A 20 (I 13).toNatClampNeg)).toNatClampNeg x2)) 23 (upd ((va_up (va_up A 21 (upd (A 21) ((32 * (I 13)) + (A 20 (I 13).toNatClampNeg)).toNatClampNeg x1)) 22 (upd ((va_up A 21 (upd (A 21) ((32 * (I 13)) + (A 20 (I 13).toNatClampNeg)).toNatClampNeg x1)) 22) ((32 * (I 13)) + (A 20 (I 13).toNatClampNeg)).toNatClampNeg x2)) 23) ((32 * (I 13)) + (A 20 (I 13).toNatClampNeg)).toNatClampNeg x3)) 24) ((32 * (I 13)) + (A 20 (I 13).toNatClampNeg)).toNatClampNeg x4)) 20) (I 13).toNatClampNeg (((va_up (va_up (va_up (va_up A 21 (upd (A 21) ((32 * (I 13)) + (A 20 (I 13).toNatClampNeg)).toNatClampNeg x1)) 22 (upd ((va_up A 21 (upd (A 21) ((32 * (I 13)) + (A 20 (I 13).toNatClampNeg)).toNatClampNeg x1)) 22) ((32 * (I 13)) + (A 20 (I 13).toNatClampNeg)).toNatClampNeg x2)) 23 (upd ((va_up (va_up A 21 (upd (A 21) ((32 * (I 13)) + (A 20 (I 13).toNatClampNeg)).toNatClampNeg x1)) 22 (upd ((va_up A 21 (upd (A 21) ((32 * (I 13)) + (A 20 (I 13).toNatClampNeg)).toNatClampNeg x1)) 22) ((32 * (I 13)) + (A 20 (I 13).toNatClampNeg)).toNatClampNeg x2)) 23) ((32 * (I 13)) + (A 20 (I 13).toNatClampNeg)).toNatClampNeg x3)) 24 (upd ((va_up (va_up (va_up A 21 (upd (A 21) ((32 * (I 13)) + (A 20 (I 13).toNatClampNeg)).toNatClampNeg x1)) 22 (upd ((va_up A 21 (upd (A 21) ((32 * (I 13)) + (A 20 (I 13).toNatClampNeg)).toNatClampNeg x1)) 22) ((32 * (I 13)) + (A 20 (I 13).toNatClampNeg)).toNatClampNeg x2)) 23 (upd ((va_up (va_up A 21 (upd (A 21) ((32 * (I 13)) + (A 20 (I 13).toNatClampNeg)).toNatClampNeg x1)) 22 (upd ((va_up A 21 (upd (A 21) ((32 * (I 13)) + (A 20 (I 13).toNatClampNeg)).toNatClampNeg x1)) 22) ((32 * (I 13)) + (A 20 (I 13).toNatClampNeg)).toNatClampNeg x2)) 23) ((32 * (I 13)) + (A 20 (I 13).toNatClampNeg)).toNatClampNeg x3)) 24) ((32 * (I 13)) + (A 20 (I 13).toNatClampNeg)).toNatClampNeg x4)) 20 (I 13).toNatClampNeg) + 1))) 20 (I 13).toNatClampNeg) - 1))) (fs_mk ht I (va_up (va_up (va_up (va_up (va_up A 21 (upd (A 21) ((32 * (I 13)) + (A 20 (I 13).toNatClampNeg)).toNatClampNeg x1)) 22 (upd ((va_up A 21 (upd (A 21) ((32 * (I 13)) + (A 20 (I 13).toNatClampNeg)).toNatClampNeg x1)) 22) ((32 * (I 13)) + (A 20 (I 13).toNatClampNeg)).toNatClampNeg x2)) 23 (upd ((va_up (va_up A 21 (upd (A 21) ((32 * (I 13)) + (A 20 (I 13).toNatClampNeg)).toNatClampNeg x1)) 22 (upd ((va_up A 21 (upd (A 21) ((32 * (I 13)) + (A 20 (I 13).toNatClampNeg)).toNatClampNeg x1)) 22) ((32 * (I 13)) + (A 20 (I 13).toNatClampNeg)).toNatClampNeg x2)) 23) ((32 * (I 13)) + (A 20 (I 13).toNatClampNeg)).toNatClampNeg x3)) 24 (upd ((va_up (va_up (va_up A 21 (upd (A 21) ((32 * (I 13)) + (A 20 (I 13).toNatClampNeg)).toNatClampNeg x1)) 22 (upd ((va_up A 21 (upd (A 21) ((32 * (I 13)) + (A 20 (I 13).toNatClampNeg)).toNatClampNeg x1)) 22) ((32 * (I 13)) + (A 20 (I 13).toNatClampNeg)).toNatClampNeg x2)) 23 (upd ((va_up (va_up A 21 (upd (A 21) ((32 * (I 13)) + (A 20 (I 13).toNatClampNeg)).toNatClampNeg x1)) 22 (upd ((va_up A 21 (upd (A 21) ((32 * (I 13)) + (A 20 (I 13).toNatClampNeg)).toNatClampNeg x1)) 22) ((32 * (I 13)) + (A 20 (I 13).toNatClampNeg)).toNatClampNeg x2)) 23) ((32 * (I 13)) + (A 20 (I 13).toNatClampNeg)).toNatClampNeg x3)) 24) ((32 * (I 13)) + (A 20 (I 13).toNatClampNeg)).toNatClampNeg x4)) 20 (upd ((va_up (va_up (va_up (va_up A 21 (upd (A 21) ((32 * (I 13)) + (A 20 (I 13).toNatClampNeg)).toNatClampNeg x1)) 22 (upd ((va_up A 21 (upd (A 21) ((32 * (I 13)) + (A 20 (I 13).toNatClampNeg)).toNatClampNeg x1)) 22) ((32 * (I 13)) + (A 20 (I 13).toNatClampNeg)).toNatClampNeg x2)) 23 (upd ((va_up (va_up A 21 (upd (A 21) ((32 * (I 13)) + (A 20 (I 13).toNatClampNeg)).toNatClampNeg x1)) 22 (upd ((va_up A 21 (upd (A 21) ((32 * (I 13)) + (A 20 (I 13).toNatClampNeg)).toNatClampNeg x1)) 22) ((32 * (I 13)) + (A 20 (I 13).toNatClampNeg)).toNatClampNeg x2)) 23) ((32 * (I 13)) + (A 20 (I 13).toNatClampNeg)).toNatClampNeg x3)) 24 (upd ((va_up (va_up (va_up A 21 (upd (A 21) ((32 * (I 13)) + (A 20 (I 13).toNatClampNeg)).toNatClampNeg x1)) 22 (upd ((va_up A 21 (upd (A 21) ((32 * (I 13)) + (A 20 (I 13).toNatClampNeg)).toNatClampNeg x1)) 22) ((32 * (I 13)) + (A 20 (I 13).toNatClampNeg)).toNatClampNeg x2)) 23 (upd ((va_up (va_up A 21 (upd (A 21) ((32 * (I 13)) + (A 20 (I 13).toNatClampNeg)).toNatClampNeg x1)) 22 (upd ((va_up A 21 (upd (A 21) ((32 * (I 13)) + (A 20 (I 13).toNatClampNeg)).toNatClampNeg x1)) 22) ((32 * (I 13)) + (A 20 (I 13).toNatClampNeg)).toNatClampNeg x2)) 23) ((32 * (I 13)) + (A 20 (I 13).toNatClampNeg)).toNatClampNeg x3)) 24) ((32 * (I 13)) + (A 20 (I 13).toNatClampNeg)).toNatClampNeg x4)) 20) (I 13).toNatClampNeg (((va_up (va_up (va_up (va_up A 21 (upd (A 21) ((32 * (I 13)) + (A 20 (I 13).toNatClampNeg)).toNatClampNeg x1)) 22 (upd ((va_up A 21 (upd (A 21) ((32 * (I 13)) + (A 20 (I 13).toNatClampNeg)).toNatClampNeg x1)) 22) ((32 * (I 13)) + (A 20 (I 13).toNatClampNeg)).toNatClampNeg x2)) 23 (upd ((va_up (va_up A 21 (upd (A 21) ((32 * (I 13)) + (A 20 (I 13).toNatClampNeg)).toNatClampNeg x1)) 22 (upd ((va_up A 21 (upd (A 21) ((32 * (I 13)) + (A 20 (I 13).toNatClampNeg)).toNatClampNeg x1)) 22) ((32 * (I 13)) + (A 20 (I 13).toNatClampNeg)).toNatClampNeg x2)) 23) ((32 * (I 13)) + (A 20 (I 13).toNatClampNeg)).toNatClampNeg x3)) 24 (upd ((va_up (va_up (va_up A 21 (upd (A 21) ((32 * (I 13)) + (A 20 (I 13).toNatClampNeg)).toNatClampNeg x1)) 22 (upd ((va_up A 21 (upd (A 21) ((32 * (I 13)) + (A 20 (I 13).toNatClampNeg)).toNatClampNeg x1)) 22) ((32 * (I 13)) + (A 20 (I 13).toNatClampNeg)).toNatClampNeg x2)) 23 (upd ((va_up (va_up A 21 (upd (A 21) ((32 * (I 13)) + (A 20 (I 13).toNatClampNeg)).toNatClampNeg x1)) 22 (upd ((va_up A 21 (upd (A 21) ((32 * (I 13)) + (A 20 (I 13).toNatClampNeg)).toNatClampNeg x1)) 22) ((32 * (I 13)) + (A 20 (I 13).toNatClampNeg)).toNatClampNeg x2)) 23) ((32 * (I 13)) + (A 20 (I 13).toNatClampNeg)).toNatClampNeg x3)) 24) ((32 * (I 13)) + (A 20 (I 13).toNatClampNeg)).toNatClampNeg x4)) 20 (I 13).toNatClampNeg) + 1))) (va_up J 25 (vp_updL (J 25) ((32 * (I 13)) + (A 20 (I 13).toNatClampNeg)).toNatClampNeg x5)) it dyn) := hq
  have hS : ((vp_in (I 13) 17) ∧ ((vp_in ((32 * (I 13)) + (A 20 (I 13).toNatClampNeg)) 544) ∧ ((vp_in ((32 * (I 13)) + (A 20 (I 13).toNatClampNeg)) 544) ∧ ((vp_in ((32 * (I 13)) + (A 20 (I 13).toNatClampNeg)) 544) ∧ ((vp_in ((32 * (I 13)) + (A 20 (I 13).toNatClampNeg)) 544) ∧ ((vp_in ((32 * (I 13)) + (A 20 (I 13).toNatClampNeg)) 544) ∧ ((vp_in (I 13) 17) ∧ ((vp_in (I 13) 17) ∧ (vp_in (I 13) 17))))))))) := hS
  refine (show fsW G l mX8_part 0 0 0 0 0 Q 0 [(0, .inr (.inr (some 14))), (1, .inl x1), (2, .inl x2), (3, .inl x3), (4, .inl x4), (5, .inr (.inl x5))] [] (fs_mk ht I A J it dyn) from ?_)
  refine fs_bipush (v := 32) dX8_part_0 rfl ?_
  refine fs_aload_n dX8_part_2 rfl rfl ?_
  refine fs_getfield (v := .inl (I 13)) dX8_part_3 sf_X8_115 rfl rfl ?_
  refine fs_imul dX8_part_6 ?_
  refine fs_aload_n dX8_part_7 rfl rfl ?_
  refine fs_getfield (v := .inr (.inr (some 20))) dX8_part_8 sf_X8_34 rfl rfl ?_
  refine fs_aload_n dX8_part_11 rfl rfl ?_
  refine fs_getfield (v := .inl (I 13)) dX8_part_12 sf_X8_115 rfl rfl ?_
  obtain ⟨ho1, hS⟩ := hS
  refine fs_iaload dX8_part_15 rfl ho1 ?_
  refine fs_iadd dX8_part_16 ?_
  refine fs_istore (L' := [(7, .inl ((32 * (I 13)) + (A 20 (I 13).toNatClampNeg))), (0, .inr (.inr (some 14))), (1, .inl x1), (2, .inl x2), (3, .inl x3), (4, .inl x4), (5, .inr (.inl x5))]) dX8_part_17 (by decide) rfl ?_
  refine fs_aload_n dX8_part_19 rfl rfl ?_
  refine fs_getfield (v := .inr (.inr (some 21))) dX8_part_20 sf_X8_37 rfl rfl ?_
  refine fs_iload dX8_part_23 rfl ?_
  refine fs_iload_n dX8_part_25 rfl rfl ?_
  obtain ⟨ho1, hS⟩ := hS
  refine fss_21 dX8_part_26 ho1 ?_
  refine fs_aload_n dX8_part_27 rfl rfl ?_
  refine fs_getfield (v := .inr (.inr (some 22))) dX8_part_28 sf_X8_40 rfl rfl ?_
  refine fs_iload dX8_part_31 rfl ?_
  refine fs_iload_n dX8_part_33 rfl rfl ?_
  obtain ⟨ho1, hS⟩ := hS
  refine fss_22 dX8_part_34 ho1 ?_
  refine fs_aload_n dX8_part_35 rfl rfl ?_
  refine fs_getfield (v := .inr (.inr (some 23))) dX8_part_36 sf_X8_43 rfl rfl ?_
  refine fs_iload dX8_part_39 rfl ?_
  refine fs_iload_n dX8_part_41 rfl rfl ?_
  obtain ⟨ho1, hS⟩ := hS
  refine fss_23 dX8_part_42 ho1 ?_
  refine fs_aload_n dX8_part_43 rfl rfl ?_
  refine fs_getfield (v := .inr (.inr (some 24))) dX8_part_44 sf_X8_46 rfl rfl ?_
  refine fs_iload dX8_part_47 rfl ?_
  refine fs_iload dX8_part_49 rfl ?_
  obtain ⟨ho1, hS⟩ := hS
  refine fss_24 dX8_part_51 ho1 ?_
  refine fs_aload_n dX8_part_52 rfl rfl ?_
  refine fs_getfield (v := .inr (.inr (some 25))) dX8_part_53 sf_X8_49 rfl rfl ?_
  refine fs_iload dX8_part_56 rfl ?_
  refine fs_lload dX8_part_58 rfl ?_
  obtain ⟨ho1, hS⟩ := hS
  refine fss_25 dX8_part_60 ho1 ?_
  refine fs_aload_n dX8_part_61 rfl rfl ?_
  refine fs_getfield (v := .inr (.inr (some 20))) dX8_part_62 sf_X8_34 rfl rfl ?_
  refine fs_aload_n dX8_part_65 rfl rfl ?_
  refine fs_getfield (v := .inl (I 13)) dX8_part_66 sf_X8_115 rfl rfl ?_
  refine fs_dup2 dX8_part_69 rfl rfl ?_
  obtain ⟨ho1, hS⟩ := hS
  refine fs_iaload dX8_part_70 rfl ho1 ?_
  refine fs_iconst (v := 1) dX8_part_71 rfl ?_
  refine fs_iadd dX8_part_72 ?_
  obtain ⟨ho1, hS⟩ := hS
  refine fss_20 dX8_part_73 ho1 ?_
  refine fs_aload_n dX8_part_74 rfl rfl ?_
  refine fs_getfield (v := .inr (.inr (some 20))) dX8_part_75 sf_X8_34 rfl rfl ?_
  refine fs_aload_n dX8_part_78 rfl rfl ?_
  refine fs_getfield (v := .inl (I 13)) dX8_part_79 sf_X8_115 rfl rfl ?_
  have ho1 := hS
  refine fs_iaload dX8_part_82 rfl ho1 ?_
  refine fs_iconst (v := 1) dX8_part_83 rfl ?_
  refine fs_isub dX8_part_84 ?_
  have k9 := hq
  exact fs_iret dX8_part_85 rfl rfl k9
def Lb_X8_readNumber_4_I : Nat → Nat → (Nat → Int32) → (Nat → Nat → Int32) → (Nat → Nat → Int64) → (Nat → Option Nat) → fsH → Int64 → Int32 → (Nat → Int32)
  | 0, ht, I, A, J, it, dyn, v1, v3 => I
  | n + 1, ht, I, A, J, it, dyn, v1, v3 => (if 6 ≤ v3 then I else (if (L_X8_digit_r ht I A J it dyn (L_X8_here_r ht I A J it dyn)) = 0 then I else (Lb_X8_readNumber_4_I n ht (upd I 14 ((I 14) + 1)) A J it dyn ((((10) * v1) + (L_X8_here_r ht I A J it dyn).toInt64) - (48)) (v3 + 1))))
def Lb_X8_readNumber_4_v1 : Nat → Nat → (Nat → Int32) → (Nat → Nat → Int32) → (Nat → Nat → Int64) → (Nat → Option Nat) → fsH → Int64 → Int32 → Int64
  | 0, ht, I, A, J, it, dyn, v1, v3 => v1
  | n + 1, ht, I, A, J, it, dyn, v1, v3 => (if 6 ≤ v3 then v1 else (if (L_X8_digit_r ht I A J it dyn (L_X8_here_r ht I A J it dyn)) = 0 then v1 else (Lb_X8_readNumber_4_v1 n ht (upd I 14 ((I 14) + 1)) A J it dyn ((((10) * v1) + (L_X8_here_r ht I A J it dyn).toInt64) - (48)) (v3 + 1))))
def Lb_X8_readNumber_4_v3 : Nat → Nat → (Nat → Int32) → (Nat → Nat → Int32) → (Nat → Nat → Int64) → (Nat → Option Nat) → fsH → Int64 → Int32 → Int32
  | 0, ht, I, A, J, it, dyn, v1, v3 => v3
  | n + 1, ht, I, A, J, it, dyn, v1, v3 => (if 6 ≤ v3 then v3 else (if (L_X8_digit_r ht I A J it dyn (L_X8_here_r ht I A J it dyn)) = 0 then v3 else (Lb_X8_readNumber_4_v3 n ht (upd I 14 ((I 14) + 1)) A J it dyn ((((10) * v1) + (L_X8_here_r ht I A J it dyn).toInt64) - (48)) (v3 + 1))))
def S_Lb_X8_readNumber_4 : Nat → Nat → (Nat → Int32) → (Nat → Nat → Int32) → (Nat → Nat → Int64) → (Nat → Option Nat) → fsH → Int64 → Int32 → Prop
  | 0, _, _, _, _, _, _, _, _ => False
  | n + 1, ht, I, A, J, it, dyn, v1, v3 => (¬ (6 ≤ v3) → ((S_X8_here ht I A J it dyn) ∧ (¬ ((L_X8_digit_r ht I A J it dyn (L_X8_here_r ht I A J it dyn)) = 0) → ((S_X8_here ht I A J it dyn) ∧ (S_Lb_X8_readNumber_4 n ht (upd I 14 ((I 14) + 1)) A J it dyn ((((10) * v1) + (L_X8_here_r ht I A J it dyn).toInt64) - (48)) (v3 + 1))))))
set_option maxRecDepth 100000 in
set_option maxHeartbeats 4000000 in
theorem lp_Lb_X8_readNumber_4 (G : fsG) (l : Launch) (Q : Option fsV → fsH → Prop) : ∀ (n : Nat) (ht : Nat) (I : Nat → Int32) (A : Nat → Nat → Int32) (J : Nat → Nat → Int64) (it : Nat → Option Nat) (dyn : fsH) (v1 : Int64) (v3 : Int32), S_Lb_X8_readNumber_4 n ht I A J it dyn v1 v3 → (fsW G l mX8_readNumber 1 0 0 0 0 Q 52 [(0, .inr (.inr (some 14))), (1, .inr (.inl (Lb_X8_readNumber_4_v1 n ht I A J it dyn v1 v3))), (3, .inl (Lb_X8_readNumber_4_v3 n ht I A J it dyn v1 v3))] [] (fs_mk ht (Lb_X8_readNumber_4_I n ht I A J it dyn v1 v3) A J it dyn)) → fsW G l mX8_readNumber 1 0 0 0 0 Q 4 [(0, .inr (.inr (some 14))), (1, .inr (.inl v1)), (3, .inl v3)] [] (fs_mk ht I A J it dyn) := by
  intro n
  induction n with
  | zero =>
    intro ht I A J it dyn v1 v3 hS
    exact hS.elim
  | succ n ih =>
    intro ht I A J it dyn v1 v3 hS hq
    have hS : (¬ (6 ≤ v3) → ((S_X8_here ht I A J it dyn) ∧ (¬ ((L_X8_digit_r ht I A J it dyn (L_X8_here_r ht I A J it dyn)) = 0) → ((S_X8_here ht I A J it dyn) ∧ (S_Lb_X8_readNumber_4 n ht (upd I 14 ((I 14) + 1)) A J it dyn ((((10) * v1) + (L_X8_here_r ht I A J it dyn).toInt64) - (48)) (v3 + 1)))))) := hS
    have hq : fsW G l mX8_readNumber 1 0 0 0 0 Q 52 [(0, .inr (.inr (some 14))), (1, .inr (.inl (if 6 ≤ v3 then v1 else (if (L_X8_digit_r ht I A J it dyn (L_X8_here_r ht I A J it dyn)) = 0 then v1 else (Lb_X8_readNumber_4_v1 n ht (upd I 14 ((I 14) + 1)) A J it dyn ((((10) * v1) + (L_X8_here_r ht I A J it dyn).toInt64) - (48)) (v3 + 1)))))), (3, .inl (if 6 ≤ v3 then v3 else (if (L_X8_digit_r ht I A J it dyn (L_X8_here_r ht I A J it dyn)) = 0 then v3 else (Lb_X8_readNumber_4_v3 n ht (upd I 14 ((I 14) + 1)) A J it dyn ((((10) * v1) + (L_X8_here_r ht I A J it dyn).toInt64) - (48)) (v3 + 1)))))] [] (fs_mk ht (if 6 ≤ v3 then I else (if (L_X8_digit_r ht I A J it dyn (L_X8_here_r ht I A J it dyn)) = 0 then I else (Lb_X8_readNumber_4_I n ht (upd I 14 ((I 14) + 1)) A J it dyn ((((10) * v1) + (L_X8_here_r ht I A J it dyn).toInt64) - (48)) (v3 + 1)))) A J it dyn) := hq
    refine fs_iload_n dX8_readNumber_4 rfl rfl ?_
    refine fs_bipush (v := 6) dX8_readNumber_5 rfl ?_
    refine fs_icmp_ge 52 dX8_readNumber_7 (by decide) (fun c_7 : 6 ≤ v3 => ?_) (fun c_7 : ¬ (6 ≤ v3) => ?_)
    · have k9 := hq
      try simp only [if_pos c_7] at k9 ⊢
      exact k9
    · have hS := hS c_7
      refine fs_aload_n dX8_readNumber_10 rfl rfl ?_
      obtain ⟨ho1, hS⟩ := hS
      refine fs_callV1 dX8_readNumber_11 sv_X8_107 rfl ⟨_, rfl, rfl⟩ (c_X8_here G l ht I A J it dyn ho1) rfl rfl (Nat.le_of_ble_eq_true rfl) (Nat.le_of_ble_eq_true rfl) (Nat.le_of_ble_eq_true rfl) (Nat.le_of_ble_eq_true rfl) ?_
      refine fs_callS1 dX8_readNumber_14 sv_X8_118 (c_X8_digit G l ht I A J it dyn (L_X8_here_r ht I A J it dyn)) rfl rfl (Nat.le_of_ble_eq_true rfl) (Nat.le_of_ble_eq_true rfl) (Nat.le_of_ble_eq_true rfl) (Nat.le_of_ble_eq_true rfl) ?_
      refine fs_if_eq 52 dX8_readNumber_17 (by decide) (fun c_17 : (L_X8_digit_r ht I A J it dyn (L_X8_here_r ht I A J it dyn)) = 0 => ?_) (fun c_17 : ¬ ((L_X8_digit_r ht I A J it dyn (L_X8_here_r ht I A J it dyn)) = 0) => ?_)
      · have k9 := hq
        try simp only [if_neg c_7, if_pos c_17] at k9 ⊢
        exact k9
      · have hS := hS c_17
        refine fs_ldc2 (v := (10)) dX8_readNumber_20 sk_X8_121 ?_
        refine fs_lload_n dX8_readNumber_23 rfl rfl ?_
        refine fs_lmul dX8_readNumber_24 ?_
        refine fs_aload_n dX8_readNumber_25 rfl rfl ?_
        obtain ⟨ho1, hS⟩ := hS
        refine fs_callV1 dX8_readNumber_26 sv_X8_107 rfl ⟨_, rfl, rfl⟩ (c_X8_here G l ht I A J it dyn ho1) rfl rfl (Nat.le_of_ble_eq_true rfl) (Nat.le_of_ble_eq_true rfl) (Nat.le_of_ble_eq_true rfl) (Nat.le_of_ble_eq_true rfl) ?_
        refine fs_i2l dX8_readNumber_29 ?_
        refine fs_ladd dX8_readNumber_30 ?_
        refine fs_ldc2 (v := (48)) dX8_readNumber_31 sk_X8_123 ?_
        refine fs_lsub dX8_readNumber_34 ?_
        refine fs_lstore_n (L' := [(1, .inr (.inl ((((10) * v1) + (L_X8_here_r ht I A J it dyn).toInt64) - (48)))), (0, .inr (.inr (some 14))), (3, .inl v3)]) dX8_readNumber_35 rfl (by decide) rfl ?_
        refine fs_aload_n dX8_readNumber_36 rfl rfl ?_
        refine fs_dup dX8_readNumber_37 rfl ?_
        refine fs_getfield (v := .inl (I 14)) dX8_readNumber_38 sf_X8_104 rfl rfl ?_
        refine fs_iconst (v := 1) dX8_readNumber_41 rfl ?_
        refine fs_iadd dX8_readNumber_42 ?_
        refine fsp_14 dX8_readNumber_43 sp_X8_104 ?_
        refine fs_iinc (v := (v3 + 1)) (L' := [(3, .inl (v3 + 1)), (1, .inr (.inl ((((10) * v1) + (L_X8_here_r ht I A J it dyn).toInt64) - (48)))), (0, .inr (.inr (some 14)))]) dX8_readNumber_46 rfl rfl (by decide) rfl ?_
        refine fs_goto 4 dX8_readNumber_49 (by decide) ?_
        refine fs_reL [2, 1, 0] rfl ?_
        have k9 := hq
        try simp only [if_neg c_7, if_neg c_17] at hS k9 ⊢
        exact ih _ _ _ _ _ _ _ _ hS k9
def L_X8_readNumber_r (ht : Nat) (I : Nat → Int32) (A : Nat → Nat → Int32) (J : Nat → Nat → Int64) (it : Nat → Option Nat) (dyn : fsH)  : Int64 := (if (L_X8_here_r ht (Lb_X8_readNumber_4_I 70 ht I A J it dyn 0 0) A J it dyn) = 46 then (if (L_X8_digit_r ht (upd (Lb_X8_readNumber_4_I 70 ht I A J it dyn 0 0) 14 (((Lb_X8_readNumber_4_I 70 ht I A J it dyn 0 0) 14) + 1)) A J it dyn (L_X8_here_r ht (upd (Lb_X8_readNumber_4_I 70 ht I A J it dyn 0 0) 14 (((Lb_X8_readNumber_4_I 70 ht I A J it dyn 0 0) 14) + 1)) A J it dyn)) = 0 then (-1) else (if (L_X8_digit_r ht (upd (upd (Lb_X8_readNumber_4_I 70 ht I A J it dyn 0 0) 14 (((Lb_X8_readNumber_4_I 70 ht I A J it dyn 0 0) 14) + 1)) 14 ((((Lb_X8_readNumber_4_I 70 ht I A J it dyn 0 0) 14) + 1) + 1)) A J it dyn (L_X8_here_r ht (upd (upd (Lb_X8_readNumber_4_I 70 ht I A J it dyn 0 0) 14 (((Lb_X8_readNumber_4_I 70 ht I A J it dyn 0 0) 14) + 1)) 14 ((((Lb_X8_readNumber_4_I 70 ht I A J it dyn 0 0) 14) + 1) + 1)) A J it dyn)) = 0 then (((100) * (Lb_X8_readNumber_4_v1 70 ht I A J it dyn 0 0)) + (10 * ((L_X8_here_r ht (upd (Lb_X8_readNumber_4_I 70 ht I A J it dyn 0 0) 14 (((Lb_X8_readNumber_4_I 70 ht I A J it dyn 0 0) 14) + 1)) A J it dyn) - 48)).toInt64) else ((((100) * (Lb_X8_readNumber_4_v1 70 ht I A J it dyn 0 0)) + (10 * ((L_X8_here_r ht (upd (Lb_X8_readNumber_4_I 70 ht I A J it dyn 0 0) 14 (((Lb_X8_readNumber_4_I 70 ht I A J it dyn 0 0) 14) + 1)) A J it dyn) - 48)).toInt64) + ((L_X8_here_r ht (upd (upd (Lb_X8_readNumber_4_I 70 ht I A J it dyn 0 0) 14 (((Lb_X8_readNumber_4_I 70 ht I A J it dyn 0 0) 14) + 1)) 14 ((((Lb_X8_readNumber_4_I 70 ht I A J it dyn 0 0) 14) + 1) + 1)) A J it dyn) - 48).toInt64) : Int64)) else ((100) * (Lb_X8_readNumber_4_v1 70 ht I A J it dyn 0 0)))
def L_X8_readNumber_I (ht : Nat) (I : Nat → Int32) (A : Nat → Nat → Int32) (J : Nat → Nat → Int64) (it : Nat → Option Nat) (dyn : fsH)  : Nat → Int32 := (if (L_X8_here_r ht (Lb_X8_readNumber_4_I 70 ht I A J it dyn 0 0) A J it dyn) = 46 then (if (L_X8_digit_r ht (upd (Lb_X8_readNumber_4_I 70 ht I A J it dyn 0 0) 14 (((Lb_X8_readNumber_4_I 70 ht I A J it dyn 0 0) 14) + 1)) A J it dyn (L_X8_here_r ht (upd (Lb_X8_readNumber_4_I 70 ht I A J it dyn 0 0) 14 (((Lb_X8_readNumber_4_I 70 ht I A J it dyn 0 0) 14) + 1)) A J it dyn)) = 0 then (upd (Lb_X8_readNumber_4_I 70 ht I A J it dyn 0 0) 14 (((Lb_X8_readNumber_4_I 70 ht I A J it dyn 0 0) 14) + 1)) else (if (L_X8_digit_r ht (upd (upd (Lb_X8_readNumber_4_I 70 ht I A J it dyn 0 0) 14 (((Lb_X8_readNumber_4_I 70 ht I A J it dyn 0 0) 14) + 1)) 14 ((((Lb_X8_readNumber_4_I 70 ht I A J it dyn 0 0) 14) + 1) + 1)) A J it dyn (L_X8_here_r ht (upd (upd (Lb_X8_readNumber_4_I 70 ht I A J it dyn 0 0) 14 (((Lb_X8_readNumber_4_I 70 ht I A J it dyn 0 0) 14) + 1)) 14 ((((Lb_X8_readNumber_4_I 70 ht I A J it dyn 0 0) 14) + 1) + 1)) A J it dyn)) = 0 then (upd (upd (Lb_X8_readNumber_4_I 70 ht I A J it dyn 0 0) 14 (((Lb_X8_readNumber_4_I 70 ht I A J it dyn 0 0) 14) + 1)) 14 ((((Lb_X8_readNumber_4_I 70 ht I A J it dyn 0 0) 14) + 1) + 1)) else (upd (upd (upd (Lb_X8_readNumber_4_I 70 ht I A J it dyn 0 0) 14 (((Lb_X8_readNumber_4_I 70 ht I A J it dyn 0 0) 14) + 1)) 14 ((((Lb_X8_readNumber_4_I 70 ht I A J it dyn 0 0) 14) + 1) + 1)) 14 (((((Lb_X8_readNumber_4_I 70 ht I A J it dyn 0 0) 14) + 1) + 1) + 1)))) else (Lb_X8_readNumber_4_I 70 ht I A J it dyn 0 0))
def S_X8_readNumber (ht : Nat) (I : Nat → Int32) (A : Nat → Nat → Int32) (J : Nat → Nat → Int64) (it : Nat → Option Nat) (dyn : fsH)  : Prop := ((S_Lb_X8_readNumber_4 70 ht I A J it dyn 0 0) ∧ ((S_X8_here ht (Lb_X8_readNumber_4_I 70 ht I A J it dyn 0 0) A J it dyn) ∧ (((L_X8_here_r ht (Lb_X8_readNumber_4_I 70 ht I A J it dyn 0 0) A J it dyn) = 46) → ((S_X8_here ht (upd (Lb_X8_readNumber_4_I 70 ht I A J it dyn 0 0) 14 (((Lb_X8_readNumber_4_I 70 ht I A J it dyn 0 0) 14) + 1)) A J it dyn) ∧ (¬ ((L_X8_digit_r ht (upd (Lb_X8_readNumber_4_I 70 ht I A J it dyn 0 0) 14 (((Lb_X8_readNumber_4_I 70 ht I A J it dyn 0 0) 14) + 1)) A J it dyn (L_X8_here_r ht (upd (Lb_X8_readNumber_4_I 70 ht I A J it dyn 0 0) 14 (((Lb_X8_readNumber_4_I 70 ht I A J it dyn 0 0) 14) + 1)) A J it dyn)) = 0) → ((S_X8_here ht (upd (Lb_X8_readNumber_4_I 70 ht I A J it dyn 0 0) 14 (((Lb_X8_readNumber_4_I 70 ht I A J it dyn 0 0) 14) + 1)) A J it dyn) ∧ ((S_X8_here ht (upd (upd (Lb_X8_readNumber_4_I 70 ht I A J it dyn 0 0) 14 (((Lb_X8_readNumber_4_I 70 ht I A J it dyn 0 0) 14) + 1)) 14 ((((Lb_X8_readNumber_4_I 70 ht I A J it dyn 0 0) 14) + 1) + 1)) A J it dyn) ∧ (¬ ((L_X8_digit_r ht (upd (upd (Lb_X8_readNumber_4_I 70 ht I A J it dyn 0 0) 14 (((Lb_X8_readNumber_4_I 70 ht I A J it dyn 0 0) 14) + 1)) 14 ((((Lb_X8_readNumber_4_I 70 ht I A J it dyn 0 0) 14) + 1) + 1)) A J it dyn (L_X8_here_r ht (upd (upd (Lb_X8_readNumber_4_I 70 ht I A J it dyn 0 0) 14 (((Lb_X8_readNumber_4_I 70 ht I A J it dyn 0 0) 14) + 1)) 14 ((((Lb_X8_readNumber_4_I 70 ht I A J it dyn 0 0) 14) + 1) + 1)) A J it dyn)) = 0) → (S_X8_here ht (upd (upd (Lb_X8_readNumber_4_I 70 ht I A J it dyn 0 0) 14 (((Lb_X8_readNumber_4_I 70 ht I A J it dyn 0 0) 14) + 1)) 14 ((((Lb_X8_readNumber_4_I 70 ht I A J it dyn 0 0) 14) + 1) + 1)) A J it dyn)))))))))
set_option maxRecDepth 100000 in
set_option maxHeartbeats 4000000 in
theorem c_X8_readNumber (G : fsG) (l : Launch) (ht : Nat) (I : Nat → Int32) (A : Nat → Nat → Int32) (J : Nat → Nat → Int64) (it : Nat → Option Nat) (dyn : fsH)  (hS : S_X8_readNumber ht I A J it dyn ) : fsFn G l mX8_readNumber 1 0 0 [.inr (.inr (some 14))] (fs_mk ht I A J it dyn) (some (.inr (.inl (L_X8_readNumber_r ht I A J it dyn )))) (fs_mk ht (L_X8_readNumber_I ht I A J it dyn ) A J it dyn) := by
  refine fsMet_of (by decide) (Nat.le_of_ble_eq_true rfl) ?_
  generalize hQ : (fun (r1 : Option fsV) (h1 : fsH) => r1 = (some (.inr (.inl (L_X8_readNumber_r ht I A J it dyn )))) ∧ h1 = (fs_mk ht (L_X8_readNumber_I ht I A J it dyn ) A J it dyn)) = Q
  have hq : Q (some (.inr (.inl (L_X8_readNumber_r ht I A J it dyn )))) (fs_mk ht (L_X8_readNumber_I ht I A J it dyn ) A J it dyn) := by rw [← hQ]; exact ⟨rfl, rfl⟩
  clear hQ
  have hq : Q (some (.inr (.inl (if (L_X8_here_r ht (Lb_X8_readNumber_4_I 70 ht I A J it dyn 0 0) A J it dyn) = 46 then (if (L_X8_digit_r ht (upd (Lb_X8_readNumber_4_I 70 ht I A J it dyn 0 0) 14 (((Lb_X8_readNumber_4_I 70 ht I A J it dyn 0 0) 14) + 1)) A J it dyn (L_X8_here_r ht (upd (Lb_X8_readNumber_4_I 70 ht I A J it dyn 0 0) 14 (((Lb_X8_readNumber_4_I 70 ht I A J it dyn 0 0) 14) + 1)) A J it dyn)) = 0 then (-1) else (if (L_X8_digit_r ht (upd (upd (Lb_X8_readNumber_4_I 70 ht I A J it dyn 0 0) 14 (((Lb_X8_readNumber_4_I 70 ht I A J it dyn 0 0) 14) + 1)) 14 ((((Lb_X8_readNumber_4_I 70 ht I A J it dyn 0 0) 14) + 1) + 1)) A J it dyn (L_X8_here_r ht (upd (upd (Lb_X8_readNumber_4_I 70 ht I A J it dyn 0 0) 14 (((Lb_X8_readNumber_4_I 70 ht I A J it dyn 0 0) 14) + 1)) 14 ((((Lb_X8_readNumber_4_I 70 ht I A J it dyn 0 0) 14) + 1) + 1)) A J it dyn)) = 0 then (((100) * (Lb_X8_readNumber_4_v1 70 ht I A J it dyn 0 0)) + (10 * ((L_X8_here_r ht (upd (Lb_X8_readNumber_4_I 70 ht I A J it dyn 0 0) 14 (((Lb_X8_readNumber_4_I 70 ht I A J it dyn 0 0) 14) + 1)) A J it dyn) - 48)).toInt64) else ((((100) * (Lb_X8_readNumber_4_v1 70 ht I A J it dyn 0 0)) + (10 * ((L_X8_here_r ht (upd (Lb_X8_readNumber_4_I 70 ht I A J it dyn 0 0) 14 (((Lb_X8_readNumber_4_I 70 ht I A J it dyn 0 0) 14) + 1)) A J it dyn) - 48)).toInt64) + ((L_X8_here_r ht (upd (upd (Lb_X8_readNumber_4_I 70 ht I A J it dyn 0 0) 14 (((Lb_X8_readNumber_4_I 70 ht I A J it dyn 0 0) 14) + 1)) 14 ((((Lb_X8_readNumber_4_I 70 ht I A J it dyn 0 0) 14) + 1) + 1)) A J it dyn) - 48).toInt64) : Int64)) else ((100) * (Lb_X8_readNumber_4_v1 70 ht I A J it dyn 0 0)))))) (fs_mk ht (if (L_X8_here_r ht (Lb_X8_readNumber_4_I 70 ht I A J it dyn 0 0) A J it dyn) = 46 then (if (L_X8_digit_r ht (upd (Lb_X8_readNumber_4_I 70 ht I A J it dyn 0 0) 14 (((Lb_X8_readNumber_4_I 70 ht I A J it dyn 0 0) 14) + 1)) A J it dyn (L_X8_here_r ht (upd (Lb_X8_readNumber_4_I 70 ht I A J it dyn 0 0) 14 (((Lb_X8_readNumber_4_I 70 ht I A J it dyn 0 0) 14) + 1)) A J it dyn)) = 0 then (upd (Lb_X8_readNumber_4_I 70 ht I A J it dyn 0 0) 14 (((Lb_X8_readNumber_4_I 70 ht I A J it dyn 0 0) 14) + 1)) else (if (L_X8_digit_r ht (upd (upd (Lb_X8_readNumber_4_I 70 ht I A J it dyn 0 0) 14 (((Lb_X8_readNumber_4_I 70 ht I A J it dyn 0 0) 14) + 1)) 14 ((((Lb_X8_readNumber_4_I 70 ht I A J it dyn 0 0) 14) + 1) + 1)) A J it dyn (L_X8_here_r ht (upd (upd (Lb_X8_readNumber_4_I 70 ht I A J it dyn 0 0) 14 (((Lb_X8_readNumber_4_I 70 ht I A J it dyn 0 0) 14) + 1)) 14 ((((Lb_X8_readNumber_4_I 70 ht I A J it dyn 0 0) 14) + 1) + 1)) A J it dyn)) = 0 then (upd (upd (Lb_X8_readNumber_4_I 70 ht I A J it dyn 0 0) 14 (((Lb_X8_readNumber_4_I 70 ht I A J it dyn 0 0) 14) + 1)) 14 ((((Lb_X8_readNumber_4_I 70 ht I A J it dyn 0 0) 14) + 1) + 1)) else (upd (upd (upd (Lb_X8_readNumber_4_I 70 ht I A J it dyn 0 0) 14 (((Lb_X8_readNumber_4_I 70 ht I A J it dyn 0 0) 14) + 1)) 14 ((((Lb_X8_readNumber_4_I 70 ht I A J it dyn 0 0) 14) + 1) + 1)) 14 (((((Lb_X8_readNumber_4_I 70 ht I A J it dyn 0 0) 14) + 1) + 1) + 1)))) else (Lb_X8_readNumber_4_I 70 ht I A J it dyn 0 0)) A J it dyn) := hq
  have hS : ((S_Lb_X8_readNumber_4 70 ht I A J it dyn 0 0) ∧ ((S_X8_here ht (Lb_X8_readNumber_4_I 70 ht I A J it dyn 0 0) A J it dyn) ∧ (((L_X8_here_r ht (Lb_X8_readNumber_4_I 70 ht I A J it dyn 0 0) A J it dyn) = 46) → ((S_X8_here ht (upd (Lb_X8_readNumber_4_I 70 ht I A J it dyn 0 0) 14 (((Lb_X8_readNumber_4_I 70 ht I A J it dyn 0 0) 14) + 1)) A J it dyn) ∧ (¬ ((L_X8_digit_r ht (upd (Lb_X8_readNumber_4_I 70 ht I A J it dyn 0 0) 14 (((Lb_X8_readNumber_4_I 70 ht I A J it dyn 0 0) 14) + 1)) A J it dyn (L_X8_here_r ht (upd (Lb_X8_readNumber_4_I 70 ht I A J it dyn 0 0) 14 (((Lb_X8_readNumber_4_I 70 ht I A J it dyn 0 0) 14) + 1)) A J it dyn)) = 0) → ((S_X8_here ht (upd (Lb_X8_readNumber_4_I 70 ht I A J it dyn 0 0) 14 (((Lb_X8_readNumber_4_I 70 ht I A J it dyn 0 0) 14) + 1)) A J it dyn) ∧ ((S_X8_here ht (upd (upd (Lb_X8_readNumber_4_I 70 ht I A J it dyn 0 0) 14 (((Lb_X8_readNumber_4_I 70 ht I A J it dyn 0 0) 14) + 1)) 14 ((((Lb_X8_readNumber_4_I 70 ht I A J it dyn 0 0) 14) + 1) + 1)) A J it dyn) ∧ (¬ ((L_X8_digit_r ht (upd (upd (Lb_X8_readNumber_4_I 70 ht I A J it dyn 0 0) 14 (((Lb_X8_readNumber_4_I 70 ht I A J it dyn 0 0) 14) + 1)) 14 ((((Lb_X8_readNumber_4_I 70 ht I A J it dyn 0 0) 14) + 1) + 1)) A J it dyn (L_X8_here_r ht (upd (upd (Lb_X8_readNumber_4_I 70 ht I A J it dyn 0 0) 14 (((Lb_X8_readNumber_4_I 70 ht I A J it dyn 0 0) 14) + 1)) 14 ((((Lb_X8_readNumber_4_I 70 ht I A J it dyn 0 0) 14) + 1) + 1)) A J it dyn)) = 0) → (S_X8_here ht (upd (upd (Lb_X8_readNumber_4_I 70 ht I A J it dyn 0 0) 14 (((Lb_X8_readNumber_4_I 70 ht I A J it dyn 0 0) 14) + 1)) 14 ((((Lb_X8_readNumber_4_I 70 ht I A J it dyn 0 0) 14) + 1) + 1)) A J it dyn))))))))) := hS
  refine (show fsW G l mX8_readNumber 1 0 0 0 0 Q 0 [(0, .inr (.inr (some 14)))] [] (fs_mk ht I A J it dyn) from ?_)
  refine fs_lconst (v := 0) dX8_readNumber_0 rfl ?_
  refine fs_lstore_n (L' := [(1, .inr (.inl 0)), (0, .inr (.inr (some 14)))]) dX8_readNumber_1 rfl (by decide) rfl ?_
  refine fs_iconst (v := 0) dX8_readNumber_2 rfl ?_
  refine fs_istore_n (L' := [(3, .inl 0), (1, .inr (.inl 0)), (0, .inr (.inr (some 14)))]) dX8_readNumber_3 rfl (by decide) rfl ?_
  refine fs_reL [2, 1, 0] rfl ?_
  obtain ⟨ho1, hS⟩ := hS
  refine lp_Lb_X8_readNumber_4 G l Q 70 ht I A J it dyn 0 0 ho1 ?_
  refine fs_ldc2 (v := (100)) dX8_readNumber_52 sk_X8_125 ?_
  refine fs_lload_n dX8_readNumber_55 rfl rfl ?_
  refine fs_lmul dX8_readNumber_56 ?_
  refine fs_lstore_n (L' := [(1, .inr (.inl ((100) * (Lb_X8_readNumber_4_v1 70 ht I A J it dyn 0 0)))), (0, .inr (.inr (some 14))), (3, .inl (Lb_X8_readNumber_4_v3 70 ht I A J it dyn 0 0))]) dX8_readNumber_57 rfl (by decide) rfl ?_
  refine fs_aload_n dX8_readNumber_58 rfl rfl ?_
  obtain ⟨ho1, hS⟩ := hS
  refine fs_callV1 dX8_readNumber_59 sv_X8_107 rfl ⟨_, rfl, rfl⟩ (c_X8_here G l ht (Lb_X8_readNumber_4_I 70 ht I A J it dyn 0 0) A J it dyn ho1) rfl rfl (Nat.le_of_ble_eq_true rfl) (Nat.le_of_ble_eq_true rfl) (Nat.le_of_ble_eq_true rfl) (Nat.le_of_ble_eq_true rfl) ?_
  refine fs_bipush (v := 46) dX8_readNumber_62 rfl ?_
  refine fs_icmp_ne 146 dX8_readNumber_64 (by decide) (fun c_64 : ¬ (L_X8_here_r ht (Lb_X8_readNumber_4_I 70 ht I A J it dyn 0 0) A J it dyn) = 46 => ?_) (fun c_64 : (L_X8_here_r ht (Lb_X8_readNumber_4_I 70 ht I A J it dyn 0 0) A J it dyn) = 46 => ?_)
  · refine fs_lload_n dX8_readNumber_146 rfl rfl ?_
    have k9 := hq
    try simp only [if_neg c_64] at k9 ⊢
    exact fs_lret dX8_readNumber_147 rfl k9
  · have hS := hS c_64
    refine fs_aload_n dX8_readNumber_67 rfl rfl ?_
    refine fs_dup dX8_readNumber_68 rfl ?_
    refine fs_getfield (v := .inl ((Lb_X8_readNumber_4_I 70 ht I A J it dyn 0 0) 14)) dX8_readNumber_69 sf_X8_104 rfl rfl ?_
    refine fs_iconst (v := 1) dX8_readNumber_72 rfl ?_
    refine fs_iadd dX8_readNumber_73 ?_
    refine fsp_14 dX8_readNumber_74 sp_X8_104 ?_
    refine fs_aload_n dX8_readNumber_77 rfl rfl ?_
    obtain ⟨ho1, hS⟩ := hS
    refine fs_callV1 dX8_readNumber_78 sv_X8_107 rfl ⟨_, rfl, rfl⟩ (c_X8_here G l ht (upd (Lb_X8_readNumber_4_I 70 ht I A J it dyn 0 0) 14 (((Lb_X8_readNumber_4_I 70 ht I A J it dyn 0 0) 14) + 1)) A J it dyn ho1) rfl rfl (Nat.le_of_ble_eq_true rfl) (Nat.le_of_ble_eq_true rfl) (Nat.le_of_ble_eq_true rfl) (Nat.le_of_ble_eq_true rfl) ?_
    refine fs_callS1 dX8_readNumber_81 sv_X8_118 (c_X8_digit G l ht (upd (Lb_X8_readNumber_4_I 70 ht I A J it dyn 0 0) 14 (((Lb_X8_readNumber_4_I 70 ht I A J it dyn 0 0) 14) + 1)) A J it dyn (L_X8_here_r ht (upd (Lb_X8_readNumber_4_I 70 ht I A J it dyn 0 0) 14 (((Lb_X8_readNumber_4_I 70 ht I A J it dyn 0 0) 14) + 1)) A J it dyn)) rfl rfl (Nat.le_of_ble_eq_true rfl) (Nat.le_of_ble_eq_true rfl) (Nat.le_of_ble_eq_true rfl) (Nat.le_of_ble_eq_true rfl) ?_
    refine fs_if_ne 91 dX8_readNumber_84 (by decide) (fun c_84 : ¬ (L_X8_digit_r ht (upd (Lb_X8_readNumber_4_I 70 ht I A J it dyn 0 0) 14 (((Lb_X8_readNumber_4_I 70 ht I A J it dyn 0 0) 14) + 1)) A J it dyn (L_X8_here_r ht (upd (Lb_X8_readNumber_4_I 70 ht I A J it dyn 0 0) 14 (((Lb_X8_readNumber_4_I 70 ht I A J it dyn 0 0) 14) + 1)) A J it dyn)) = 0 => ?_) (fun c_84 : (L_X8_digit_r ht (upd (Lb_X8_readNumber_4_I 70 ht I A J it dyn 0 0) 14 (((Lb_X8_readNumber_4_I 70 ht I A J it dyn 0 0) 14) + 1)) A J it dyn (L_X8_here_r ht (upd (Lb_X8_readNumber_4_I 70 ht I A J it dyn 0 0) 14 (((Lb_X8_readNumber_4_I 70 ht I A J it dyn 0 0) 14) + 1)) A J it dyn)) = 0 => ?_)
    · have hS := hS c_84
      refine fs_lload_n dX8_readNumber_91 rfl rfl ?_
      refine fs_bipush (v := 10) dX8_readNumber_92 rfl ?_
      refine fs_aload_n dX8_readNumber_94 rfl rfl ?_
      obtain ⟨ho1, hS⟩ := hS
      refine fs_callV1 dX8_readNumber_95 sv_X8_107 rfl ⟨_, rfl, rfl⟩ (c_X8_here G l ht (upd (Lb_X8_readNumber_4_I 70 ht I A J it dyn 0 0) 14 (((Lb_X8_readNumber_4_I 70 ht I A J it dyn 0 0) 14) + 1)) A J it dyn ho1) rfl rfl (Nat.le_of_ble_eq_true rfl) (Nat.le_of_ble_eq_true rfl) (Nat.le_of_ble_eq_true rfl) (Nat.le_of_ble_eq_true rfl) ?_
      refine fs_bipush (v := 48) dX8_readNumber_98 rfl ?_
      refine fs_isub dX8_readNumber_100 ?_
      refine fs_imul dX8_readNumber_101 ?_
      refine fs_i2l dX8_readNumber_102 ?_
      refine fs_ladd dX8_readNumber_103 ?_
      refine fs_lstore_n (L' := [(1, .inr (.inl (((100) * (Lb_X8_readNumber_4_v1 70 ht I A J it dyn 0 0)) + (10 * ((L_X8_here_r ht (upd (Lb_X8_readNumber_4_I 70 ht I A J it dyn 0 0) 14 (((Lb_X8_readNumber_4_I 70 ht I A J it dyn 0 0) 14) + 1)) A J it dyn) - 48)).toInt64))), (0, .inr (.inr (some 14))), (3, .inl (Lb_X8_readNumber_4_v3 70 ht I A J it dyn 0 0))]) dX8_readNumber_104 rfl (by decide) rfl ?_
      refine fs_aload_n dX8_readNumber_105 rfl rfl ?_
      refine fs_dup dX8_readNumber_106 rfl ?_
      refine fs_getfield (v := .inl (((Lb_X8_readNumber_4_I 70 ht I A J it dyn 0 0) 14) + 1)) dX8_readNumber_107 sf_X8_104 rfl rfl ?_
      refine fs_iconst (v := 1) dX8_readNumber_110 rfl ?_
      refine fs_iadd dX8_readNumber_111 ?_
      refine fsp_14 dX8_readNumber_112 sp_X8_104 ?_
      refine fs_aload_n dX8_readNumber_115 rfl rfl ?_
      obtain ⟨ho1, hS⟩ := hS
      refine fs_callV1 dX8_readNumber_116 sv_X8_107 rfl ⟨_, rfl, rfl⟩ (c_X8_here G l ht (upd (upd (Lb_X8_readNumber_4_I 70 ht I A J it dyn 0 0) 14 (((Lb_X8_readNumber_4_I 70 ht I A J it dyn 0 0) 14) + 1)) 14 ((((Lb_X8_readNumber_4_I 70 ht I A J it dyn 0 0) 14) + 1) + 1)) A J it dyn ho1) rfl rfl (Nat.le_of_ble_eq_true rfl) (Nat.le_of_ble_eq_true rfl) (Nat.le_of_ble_eq_true rfl) (Nat.le_of_ble_eq_true rfl) ?_
      refine fs_callS1 dX8_readNumber_119 sv_X8_118 (c_X8_digit G l ht (upd (upd (Lb_X8_readNumber_4_I 70 ht I A J it dyn 0 0) 14 (((Lb_X8_readNumber_4_I 70 ht I A J it dyn 0 0) 14) + 1)) 14 ((((Lb_X8_readNumber_4_I 70 ht I A J it dyn 0 0) 14) + 1) + 1)) A J it dyn (L_X8_here_r ht (upd (upd (Lb_X8_readNumber_4_I 70 ht I A J it dyn 0 0) 14 (((Lb_X8_readNumber_4_I 70 ht I A J it dyn 0 0) 14) + 1)) 14 ((((Lb_X8_readNumber_4_I 70 ht I A J it dyn 0 0) 14) + 1) + 1)) A J it dyn)) rfl rfl (Nat.le_of_ble_eq_true rfl) (Nat.le_of_ble_eq_true rfl) (Nat.le_of_ble_eq_true rfl) (Nat.le_of_ble_eq_true rfl) ?_
      have hR_122 := hS
      have key_146 : fsW G l mX8_readNumber 1 0 0 0 0 Q 146 [(0, .inr (.inr (some 14))), (1, .inr (.inl (if (L_X8_digit_r ht (upd (upd (Lb_X8_readNumber_4_I 70 ht I A J it dyn 0 0) 14 (((Lb_X8_readNumber_4_I 70 ht I A J it dyn 0 0) 14) + 1)) 14 ((((Lb_X8_readNumber_4_I 70 ht I A J it dyn 0 0) 14) + 1) + 1)) A J it dyn (L_X8_here_r ht (upd (upd (Lb_X8_readNumber_4_I 70 ht I A J it dyn 0 0) 14 (((Lb_X8_readNumber_4_I 70 ht I A J it dyn 0 0) 14) + 1)) 14 ((((Lb_X8_readNumber_4_I 70 ht I A J it dyn 0 0) 14) + 1) + 1)) A J it dyn)) = 0 then (((100) * (Lb_X8_readNumber_4_v1 70 ht I A J it dyn 0 0)) + (10 * ((L_X8_here_r ht (upd (Lb_X8_readNumber_4_I 70 ht I A J it dyn 0 0) 14 (((Lb_X8_readNumber_4_I 70 ht I A J it dyn 0 0) 14) + 1)) A J it dyn) - 48)).toInt64) else ((((100) * (Lb_X8_readNumber_4_v1 70 ht I A J it dyn 0 0)) + (10 * ((L_X8_here_r ht (upd (Lb_X8_readNumber_4_I 70 ht I A J it dyn 0 0) 14 (((Lb_X8_readNumber_4_I 70 ht I A J it dyn 0 0) 14) + 1)) A J it dyn) - 48)).toInt64) + ((L_X8_here_r ht (upd (upd (Lb_X8_readNumber_4_I 70 ht I A J it dyn 0 0) 14 (((Lb_X8_readNumber_4_I 70 ht I A J it dyn 0 0) 14) + 1)) 14 ((((Lb_X8_readNumber_4_I 70 ht I A J it dyn 0 0) 14) + 1) + 1)) A J it dyn) - 48).toInt64) : Int64))), (3, .inl (Lb_X8_readNumber_4_v3 70 ht I A J it dyn 0 0))] [] (fs_mk ht (if (L_X8_digit_r ht (upd (upd (Lb_X8_readNumber_4_I 70 ht I A J it dyn 0 0) 14 (((Lb_X8_readNumber_4_I 70 ht I A J it dyn 0 0) 14) + 1)) 14 ((((Lb_X8_readNumber_4_I 70 ht I A J it dyn 0 0) 14) + 1) + 1)) A J it dyn (L_X8_here_r ht (upd (upd (Lb_X8_readNumber_4_I 70 ht I A J it dyn 0 0) 14 (((Lb_X8_readNumber_4_I 70 ht I A J it dyn 0 0) 14) + 1)) 14 ((((Lb_X8_readNumber_4_I 70 ht I A J it dyn 0 0) 14) + 1) + 1)) A J it dyn)) = 0 then (upd (upd (Lb_X8_readNumber_4_I 70 ht I A J it dyn 0 0) 14 (((Lb_X8_readNumber_4_I 70 ht I A J it dyn 0 0) 14) + 1)) 14 ((((Lb_X8_readNumber_4_I 70 ht I A J it dyn 0 0) 14) + 1) + 1)) else (upd (upd (upd (Lb_X8_readNumber_4_I 70 ht I A J it dyn 0 0) 14 (((Lb_X8_readNumber_4_I 70 ht I A J it dyn 0 0) 14) + 1)) 14 ((((Lb_X8_readNumber_4_I 70 ht I A J it dyn 0 0) 14) + 1) + 1)) 14 (((((Lb_X8_readNumber_4_I 70 ht I A J it dyn 0 0) 14) + 1) + 1) + 1))) A J it dyn) := by
        refine fs_lload_n dX8_readNumber_146 rfl rfl ?_
        have k9 := hq
        try simp only [if_pos c_64, if_neg c_84] at k9 ⊢
        exact fs_lret dX8_readNumber_147 rfl k9
      refine fs_if_eq 146 dX8_readNumber_122 (by decide) (fun c_122 : (L_X8_digit_r ht (upd (upd (Lb_X8_readNumber_4_I 70 ht I A J it dyn 0 0) 14 (((Lb_X8_readNumber_4_I 70 ht I A J it dyn 0 0) 14) + 1)) 14 ((((Lb_X8_readNumber_4_I 70 ht I A J it dyn 0 0) 14) + 1) + 1)) A J it dyn (L_X8_here_r ht (upd (upd (Lb_X8_readNumber_4_I 70 ht I A J it dyn 0 0) 14 (((Lb_X8_readNumber_4_I 70 ht I A J it dyn 0 0) 14) + 1)) 14 ((((Lb_X8_readNumber_4_I 70 ht I A J it dyn 0 0) 14) + 1) + 1)) A J it dyn)) = 0 => ?_) (fun c_122 : ¬ ((L_X8_digit_r ht (upd (upd (Lb_X8_readNumber_4_I 70 ht I A J it dyn 0 0) 14 (((Lb_X8_readNumber_4_I 70 ht I A J it dyn 0 0) 14) + 1)) 14 ((((Lb_X8_readNumber_4_I 70 ht I A J it dyn 0 0) 14) + 1) + 1)) A J it dyn (L_X8_here_r ht (upd (upd (Lb_X8_readNumber_4_I 70 ht I A J it dyn 0 0) 14 (((Lb_X8_readNumber_4_I 70 ht I A J it dyn 0 0) 14) + 1)) 14 ((((Lb_X8_readNumber_4_I 70 ht I A J it dyn 0 0) 14) + 1) + 1)) A J it dyn)) = 0) => ?_)
      · refine fs_reL [1, 0, 2] rfl ?_
        have k9 := key_146
        try simp only [if_pos c_64, if_neg c_84, if_pos c_122] at k9 ⊢
        exact k9
      · have hS := hR_122 c_122
        refine fs_lload_n dX8_readNumber_125 rfl rfl ?_
        refine fs_aload_n dX8_readNumber_126 rfl rfl ?_
        have ho1 := hS
        refine fs_callV1 dX8_readNumber_127 sv_X8_107 rfl ⟨_, rfl, rfl⟩ (c_X8_here G l ht (upd (upd (Lb_X8_readNumber_4_I 70 ht I A J it dyn 0 0) 14 (((Lb_X8_readNumber_4_I 70 ht I A J it dyn 0 0) 14) + 1)) 14 ((((Lb_X8_readNumber_4_I 70 ht I A J it dyn 0 0) 14) + 1) + 1)) A J it dyn ho1) rfl rfl (Nat.le_of_ble_eq_true rfl) (Nat.le_of_ble_eq_true rfl) (Nat.le_of_ble_eq_true rfl) (Nat.le_of_ble_eq_true rfl) ?_
        refine fs_bipush (v := 48) dX8_readNumber_130 rfl ?_
        refine fs_isub dX8_readNumber_132 ?_
        refine fs_i2l dX8_readNumber_133 ?_
        refine fs_ladd dX8_readNumber_134 ?_
        refine fs_lstore_n (L' := [(1, .inr (.inl ((((100) * (Lb_X8_readNumber_4_v1 70 ht I A J it dyn 0 0)) + (10 * ((L_X8_here_r ht (upd (Lb_X8_readNumber_4_I 70 ht I A J it dyn 0 0) 14 (((Lb_X8_readNumber_4_I 70 ht I A J it dyn 0 0) 14) + 1)) A J it dyn) - 48)).toInt64) + ((L_X8_here_r ht (upd (upd (Lb_X8_readNumber_4_I 70 ht I A J it dyn 0 0) 14 (((Lb_X8_readNumber_4_I 70 ht I A J it dyn 0 0) 14) + 1)) 14 ((((Lb_X8_readNumber_4_I 70 ht I A J it dyn 0 0) 14) + 1) + 1)) A J it dyn) - 48).toInt64))), (0, .inr (.inr (some 14))), (3, .inl (Lb_X8_readNumber_4_v3 70 ht I A J it dyn 0 0))]) dX8_readNumber_135 rfl (by decide) rfl ?_
        refine fs_aload_n dX8_readNumber_136 rfl rfl ?_
        refine fs_dup dX8_readNumber_137 rfl ?_
        refine fs_getfield (v := .inl ((((Lb_X8_readNumber_4_I 70 ht I A J it dyn 0 0) 14) + 1) + 1)) dX8_readNumber_138 sf_X8_104 rfl rfl ?_
        refine fs_iconst (v := 1) dX8_readNumber_141 rfl ?_
        refine fs_iadd dX8_readNumber_142 ?_
        refine fsp_14 dX8_readNumber_143 sp_X8_104 ?_
        refine fs_reL [1, 0, 2] rfl ?_
        have k9 := key_146
        try simp only [if_pos c_64, if_neg c_84, if_neg c_122] at k9 ⊢
        exact k9
    · refine fs_ldc2 (v := (-1)) dX8_readNumber_87 sk_X8_127 ?_
      have k9 := hq
      try simp only [if_pos c_64, if_pos c_84] at k9 ⊢
      exact fs_lret dX8_readNumber_90 rfl k9
def L_X8_isSign_r (ht : Nat) (I : Nat → Int32) (A : Nat → Nat → Int32) (J : Nat → Nat → Int64) (it : Nat → Option Nat) (dyn : fsH) (x1 : Int32) : Int32 := (if x1 = 43 then 1 else (if x1 = 45 then 1 else (if x1 = 42 then 1 else (if x1 = 47 then 1 else (if x1 = 60 then 1 else (if x1 = 61 then 1 else (if x1 = 63 then 1 else 0 : Int32) : Int32) : Int32) : Int32) : Int32) : Int32) : Int32)
set_option maxRecDepth 100000 in
set_option maxHeartbeats 4000000 in
theorem c_X8_isSign (G : fsG) (l : Launch) (ht : Nat) (I : Nat → Int32) (A : Nat → Nat → Int32) (J : Nat → Nat → Int64) (it : Nat → Option Nat) (dyn : fsH) (x1 : Int32) : fsFn G l mX8_isSign 0 0 0 [.inl x1] (fs_mk ht I A J it dyn) (some (.inl (L_X8_isSign_r ht I A J it dyn x1))) (fs_mk ht I A J it dyn) := by
  refine fsMet_of (by decide) (Nat.le_of_ble_eq_true rfl) ?_
  generalize hQ : (fun (r1 : Option fsV) (h1 : fsH) => r1 = (some (.inl (L_X8_isSign_r ht I A J it dyn x1))) ∧ h1 = (fs_mk ht I A J it dyn)) = Q
  have hq : Q (some (.inl (L_X8_isSign_r ht I A J it dyn x1))) (fs_mk ht I A J it dyn) := by rw [← hQ]; exact ⟨rfl, rfl⟩
  clear hQ
  have hq : Q (some (.inl (if x1 = 43 then 1 else (if x1 = 45 then 1 else (if x1 = 42 then 1 else (if x1 = 47 then 1 else (if x1 = 60 then 1 else (if x1 = 61 then 1 else (if x1 = 63 then 1 else 0 : Int32) : Int32) : Int32) : Int32) : Int32) : Int32) : Int32))) (fs_mk ht I A J it dyn) := hq
  refine (show fsW G l mX8_isSign 0 0 0 0 0 Q 0 [(0, .inl x1)] [] (fs_mk ht I A J it dyn) from ?_)
  refine fs_iload_n dX8_isSign_0 rfl rfl ?_
  refine fs_bipush (v := 43) dX8_isSign_1 rfl ?_
  have key_47 : fsW G l mX8_isSign 0 0 0 0 0 Q 47 [(0, .inl x1)] [.inl (if x1 = 43 then 1 else (if x1 = 45 then 1 else (if x1 = 42 then 1 else (if x1 = 47 then 1 else (if x1 = 60 then 1 else (if x1 = 61 then 1 else (if x1 = 63 then 1 else 0 : Int32) : Int32) : Int32) : Int32) : Int32) : Int32) : Int32)] (fs_mk ht I A J it dyn) := by
    have k9 := hq
    exact fs_iret dX8_isSign_47 rfl (by (repeat' split) <;> first | rfl) k9
  refine fs_icmp_eq 42 dX8_isSign_3 (by decide) (fun c_3 : x1 = 43 => ?_) (fun c_3 : ¬ (x1 = 43) => ?_)
  · refine fs_iconst (v := 1) dX8_isSign_42 rfl ?_
    refine fs_goto 47 dX8_isSign_43 (by decide) ?_
    have k9 := key_47
    try simp only [if_pos c_3] at k9 ⊢
    exact k9
  · refine fs_iload_n dX8_isSign_6 rfl rfl ?_
    refine fs_bipush (v := 45) dX8_isSign_7 rfl ?_
    refine fs_icmp_eq 42 dX8_isSign_9 (by decide) (fun c_9 : x1 = 45 => ?_) (fun c_9 : ¬ (x1 = 45) => ?_)
    · refine fs_iconst (v := 1) dX8_isSign_42 rfl ?_
      refine fs_goto 47 dX8_isSign_43 (by decide) ?_
      have k9 := key_47
      try simp only [if_neg c_3, if_pos c_9] at k9 ⊢
      exact k9
    · refine fs_iload_n dX8_isSign_12 rfl rfl ?_
      refine fs_bipush (v := 42) dX8_isSign_13 rfl ?_
      refine fs_icmp_eq 42 dX8_isSign_15 (by decide) (fun c_15 : x1 = 42 => ?_) (fun c_15 : ¬ (x1 = 42) => ?_)
      · refine fs_iconst (v := 1) dX8_isSign_42 rfl ?_
        refine fs_goto 47 dX8_isSign_43 (by decide) ?_
        have k9 := key_47
        try simp only [if_neg c_3, if_neg c_9, if_pos c_15] at k9 ⊢
        exact k9
      · refine fs_iload_n dX8_isSign_18 rfl rfl ?_
        refine fs_bipush (v := 47) dX8_isSign_19 rfl ?_
        refine fs_icmp_eq 42 dX8_isSign_21 (by decide) (fun c_21 : x1 = 47 => ?_) (fun c_21 : ¬ (x1 = 47) => ?_)
        · refine fs_iconst (v := 1) dX8_isSign_42 rfl ?_
          refine fs_goto 47 dX8_isSign_43 (by decide) ?_
          have k9 := key_47
          try simp only [if_neg c_3, if_neg c_9, if_neg c_15, if_pos c_21] at k9 ⊢
          exact k9
        · refine fs_iload_n dX8_isSign_24 rfl rfl ?_
          refine fs_bipush (v := 60) dX8_isSign_25 rfl ?_
          refine fs_icmp_eq 42 dX8_isSign_27 (by decide) (fun c_27 : x1 = 60 => ?_) (fun c_27 : ¬ (x1 = 60) => ?_)
          · refine fs_iconst (v := 1) dX8_isSign_42 rfl ?_
            refine fs_goto 47 dX8_isSign_43 (by decide) ?_
            have k9 := key_47
            try simp only [if_neg c_3, if_neg c_9, if_neg c_15, if_neg c_21, if_pos c_27] at k9 ⊢
            exact k9
          · refine fs_iload_n dX8_isSign_30 rfl rfl ?_
            refine fs_bipush (v := 61) dX8_isSign_31 rfl ?_
            refine fs_icmp_eq 42 dX8_isSign_33 (by decide) (fun c_33 : x1 = 61 => ?_) (fun c_33 : ¬ (x1 = 61) => ?_)
            · refine fs_iconst (v := 1) dX8_isSign_42 rfl ?_
              refine fs_goto 47 dX8_isSign_43 (by decide) ?_
              have k9 := key_47
              try simp only [if_neg c_3, if_neg c_9, if_neg c_15, if_neg c_21, if_neg c_27, if_pos c_33] at k9 ⊢
              exact k9
            · refine fs_iload_n dX8_isSign_36 rfl rfl ?_
              refine fs_bipush (v := 63) dX8_isSign_37 rfl ?_
              refine fs_icmp_ne 46 dX8_isSign_39 (by decide) (fun c_39 : ¬ x1 = 63 => ?_) (fun c_39 : x1 = 63 => ?_)
              · refine fs_iconst (v := 0) dX8_isSign_46 rfl ?_
                have k9 := key_47
                try simp only [if_neg c_3, if_neg c_9, if_neg c_15, if_neg c_21, if_neg c_27, if_neg c_33, if_neg c_39] at k9 ⊢
                exact k9
              · refine fs_iconst (v := 1) dX8_isSign_42 rfl ?_
                refine fs_goto 47 dX8_isSign_43 (by decide) ?_
                have k9 := key_47
                try simp only [if_neg c_3, if_neg c_9, if_neg c_15, if_neg c_21, if_neg c_27, if_neg c_33, if_pos c_39] at k9 ⊢
                exact k9
theorem nb_X8_isSign (ht : Nat) (I : Nat → Int32) (A : Nat → Nat → Int32) (J : Nat → Nat → Int64) (it : Nat → Option Nat) (dyn : fsH) (x1 : Int32) : narrow .boolean (.int (L_X8_isSign_r ht I A J it dyn x1)) = .int (L_X8_isSign_r ht I A J it dyn x1) := by
  unfold L_X8_isSign_r
  exact (by (repeat' split) <;> first | rfl)
def L_X8_begin_r (ht : Nat) (I : Nat → Int32) (A : Nat → Nat → Int32) (J : Nat → Nat → Int64) (it : Nat → Option Nat) (dyn : fsH)  : Int32 := (if (L_X8_digit_r ht I A J it dyn (L_X8_here_r ht I A J it dyn)) = 0 then (if (L_X8_letter_r ht I A J it dyn (L_X8_here_r ht I A J it dyn)) = 0 then (if (L_X8_here_r ht I A J it dyn) = 35 then (if 0 ≤ (L_X8_readName_r ht (upd I 14 ((I 14) + 1)) A J it dyn) then (L_X8_part_r ht (L_X8_readName_I ht (upd I 14 ((I 14) + 1)) A J it dyn) A J it dyn 2 (L_X8_readName_r ht (upd I 14 ((I 14) + 1)) A J it dyn) 0 0 0) else (-2) : Int32) else (if (L_X8_here_r ht I A J it dyn) = 40 then (if (I 15) = 6 then (-2) else (-1)) else (-2))) else (L_X8_part_r ht (L_X8_readName_I ht I A J it dyn) A J it dyn 1 (L_X8_readName_r ht I A J it dyn) 0 0 0)) else (if 0 ≤ (lg_cmp (L_X8_readNumber_r ht I A J it dyn) 0) then (L_X8_part_r ht (L_X8_readNumber_I ht I A J it dyn) A J it dyn 0 0 0 0 (L_X8_readNumber_r ht I A J it dyn)) else (-2) : Int32))
def L_X8_begin_I (ht : Nat) (I : Nat → Int32) (A : Nat → Nat → Int32) (J : Nat → Nat → Int64) (it : Nat → Option Nat) (dyn : fsH)  : Nat → Int32 := (if (L_X8_digit_r ht I A J it dyn (L_X8_here_r ht I A J it dyn)) = 0 then (if (L_X8_letter_r ht I A J it dyn (L_X8_here_r ht I A J it dyn)) = 0 then (if (L_X8_here_r ht I A J it dyn) = 35 then (L_X8_readName_I ht (upd I 14 ((I 14) + 1)) A J it dyn) else (if (L_X8_here_r ht I A J it dyn) = 40 then (if (I 15) = 6 then I else (upd (upd I 14 ((I 14) + 1)) 15 ((I 15) + 1))) else I)) else (L_X8_readName_I ht I A J it dyn)) else (L_X8_readNumber_I ht I A J it dyn))
def L_X8_begin_A (ht : Nat) (I : Nat → Int32) (A : Nat → Nat → Int32) (J : Nat → Nat → Int64) (it : Nat → Option Nat) (dyn : fsH)  : Nat → Nat → Int32 := (if (L_X8_digit_r ht I A J it dyn (L_X8_here_r ht I A J it dyn)) = 0 then (if (L_X8_letter_r ht I A J it dyn (L_X8_here_r ht I A J it dyn)) = 0 then (if (L_X8_here_r ht I A J it dyn) = 35 then (if 0 ≤ (L_X8_readName_r ht (upd I 14 ((I 14) + 1)) A J it dyn) then (L_X8_part_A ht (L_X8_readName_I ht (upd I 14 ((I 14) + 1)) A J it dyn) A J it dyn 2 (L_X8_readName_r ht (upd I 14 ((I 14) + 1)) A J it dyn) 0 0 0) else A) else (if (L_X8_here_r ht I A J it dyn) = 40 then (if (I 15) = 6 then A else (va_up A 26 (upd (A 26) (I 15).toNatClampNeg 0))) else A)) else (L_X8_part_A ht (L_X8_readName_I ht I A J it dyn) A J it dyn 1 (L_X8_readName_r ht I A J it dyn) 0 0 0)) else (if 0 ≤ (lg_cmp (L_X8_readNumber_r ht I A J it dyn) 0) then (L_X8_part_A ht (L_X8_readNumber_I ht I A J it dyn) A J it dyn 0 0 0 0 (L_X8_readNumber_r ht I A J it dyn)) else A))
def L_X8_begin_J (ht : Nat) (I : Nat → Int32) (A : Nat → Nat → Int32) (J : Nat → Nat → Int64) (it : Nat → Option Nat) (dyn : fsH)  : Nat → Nat → Int64 := (if (L_X8_digit_r ht I A J it dyn (L_X8_here_r ht I A J it dyn)) = 0 then (if (L_X8_letter_r ht I A J it dyn (L_X8_here_r ht I A J it dyn)) = 0 then (if (L_X8_here_r ht I A J it dyn) = 35 then (if 0 ≤ (L_X8_readName_r ht (upd I 14 ((I 14) + 1)) A J it dyn) then (L_X8_part_J ht (L_X8_readName_I ht (upd I 14 ((I 14) + 1)) A J it dyn) A J it dyn 2 (L_X8_readName_r ht (upd I 14 ((I 14) + 1)) A J it dyn) 0 0 0) else J) else J) else (L_X8_part_J ht (L_X8_readName_I ht I A J it dyn) A J it dyn 1 (L_X8_readName_r ht I A J it dyn) 0 0 0)) else (if 0 ≤ (lg_cmp (L_X8_readNumber_r ht I A J it dyn) 0) then (L_X8_part_J ht (L_X8_readNumber_I ht I A J it dyn) A J it dyn 0 0 0 0 (L_X8_readNumber_r ht I A J it dyn)) else J))
def S_X8_begin (ht : Nat) (I : Nat → Int32) (A : Nat → Nat → Int32) (J : Nat → Nat → Int64) (it : Nat → Option Nat) (dyn : fsH)  : Prop := ((S_X8_here ht I A J it dyn) ∧ ((((L_X8_digit_r ht I A J it dyn (L_X8_here_r ht I A J it dyn)) = 0) → ((((L_X8_letter_r ht I A J it dyn (L_X8_here_r ht I A J it dyn)) = 0) → ((((L_X8_here_r ht I A J it dyn) = 35) → ((S_X8_readName ht (upd I 14 ((I 14) + 1)) A J it dyn) ∧ ((0 ≤ (L_X8_readName_r ht (upd I 14 ((I 14) + 1)) A J it dyn)) → (S_X8_part ht (L_X8_readName_I ht (upd I 14 ((I 14) + 1)) A J it dyn) A J it dyn 2 (L_X8_readName_r ht (upd I 14 ((I 14) + 1)) A J it dyn) 0 0 0)))) ∧ (¬ ((L_X8_here_r ht I A J it dyn) = 35) → (((L_X8_here_r ht I A J it dyn) = 40) → (¬ ((I 15) = 6) → (vp_in (I 15) 7)))))) ∧ (¬ ((L_X8_letter_r ht I A J it dyn (L_X8_here_r ht I A J it dyn)) = 0) → ((S_X8_readName ht I A J it dyn) ∧ (S_X8_part ht (L_X8_readName_I ht I A J it dyn) A J it dyn 1 (L_X8_readName_r ht I A J it dyn) 0 0 0))))) ∧ (¬ ((L_X8_digit_r ht I A J it dyn (L_X8_here_r ht I A J it dyn)) = 0) → ((S_X8_readNumber ht I A J it dyn) ∧ ((0 ≤ (lg_cmp (L_X8_readNumber_r ht I A J it dyn) 0)) → (S_X8_part ht (L_X8_readNumber_I ht I A J it dyn) A J it dyn 0 0 0 0 (L_X8_readNumber_r ht I A J it dyn)))))))
set_option maxRecDepth 100000 in
set_option maxHeartbeats 4000000 in
theorem c_X8_begin (G : fsG) (l : Launch) (ht : Nat) (I : Nat → Int32) (A : Nat → Nat → Int32) (J : Nat → Nat → Int64) (it : Nat → Option Nat) (dyn : fsH)  (hS : S_X8_begin ht I A J it dyn ) : fsFn G l mX8_begin 2 0 0 [.inr (.inr (some 14))] (fs_mk ht I A J it dyn) (some (.inl (L_X8_begin_r ht I A J it dyn ))) (fs_mk ht (L_X8_begin_I ht I A J it dyn ) (L_X8_begin_A ht I A J it dyn ) (L_X8_begin_J ht I A J it dyn ) it dyn) := by
  refine fsMet_of (by decide) (Nat.le_of_ble_eq_true rfl) ?_
  generalize hQ : (fun (r1 : Option fsV) (h1 : fsH) => r1 = (some (.inl (L_X8_begin_r ht I A J it dyn ))) ∧ h1 = (fs_mk ht (L_X8_begin_I ht I A J it dyn ) (L_X8_begin_A ht I A J it dyn ) (L_X8_begin_J ht I A J it dyn ) it dyn)) = Q
  have hq : Q (some (.inl (L_X8_begin_r ht I A J it dyn ))) (fs_mk ht (L_X8_begin_I ht I A J it dyn ) (L_X8_begin_A ht I A J it dyn ) (L_X8_begin_J ht I A J it dyn ) it dyn) := by rw [← hQ]; exact ⟨rfl, rfl⟩
  clear hQ
  have hq : Q (some (.inl (if (L_X8_digit_r ht I A J it dyn (L_X8_here_r ht I A J it dyn)) = 0 then (if (L_X8_letter_r ht I A J it dyn (L_X8_here_r ht I A J it dyn)) = 0 then (if (L_X8_here_r ht I A J it dyn) = 35 then (if 0 ≤ (L_X8_readName_r ht (upd I 14 ((I 14) + 1)) A J it dyn) then (L_X8_part_r ht (L_X8_readName_I ht (upd I 14 ((I 14) + 1)) A J it dyn) A J it dyn 2 (L_X8_readName_r ht (upd I 14 ((I 14) + 1)) A J it dyn) 0 0 0) else (-2) : Int32) else (if (L_X8_here_r ht I A J it dyn) = 40 then (if (I 15) = 6 then (-2) else (-1)) else (-2))) else (L_X8_part_r ht (L_X8_readName_I ht I A J it dyn) A J it dyn 1 (L_X8_readName_r ht I A J it dyn) 0 0 0)) else (if 0 ≤ (lg_cmp (L_X8_readNumber_r ht I A J it dyn) 0) then (L_X8_part_r ht (L_X8_readNumber_I ht I A J it dyn) A J it dyn 0 0 0 0 (L_X8_readNumber_r ht I A J it dyn)) else (-2) : Int32)))) (fs_mk ht (if (L_X8_digit_r ht I A J it dyn (L_X8_here_r ht I A J it dyn)) = 0 then (if (L_X8_letter_r ht I A J it dyn (L_X8_here_r ht I A J it dyn)) = 0 then (if (L_X8_here_r ht I A J it dyn) = 35 then (L_X8_readName_I ht (upd I 14 ((I 14) + 1)) A J it dyn) else (if (L_X8_here_r ht I A J it dyn) = 40 then (if (I 15) = 6 then I else (upd (upd I 14 ((I 14) + 1)) 15 ((I 15) + 1))) else I)) else (L_X8_readName_I ht I A J it dyn)) else (L_X8_readNumber_I ht I A J it dyn)) (if (L_X8_digit_r ht I A J it dyn (L_X8_here_r ht I A J it dyn)) = 0 then (if (L_X8_letter_r ht I A J it dyn (L_X8_here_r ht I A J it dyn)) = 0 then (if (L_X8_here_r ht I A J it dyn) = 35 then (if 0 ≤ (L_X8_readName_r ht (upd I 14 ((I 14) + 1)) A J it dyn) then (L_X8_part_A ht (L_X8_readName_I ht (upd I 14 ((I 14) + 1)) A J it dyn) A J it dyn 2 (L_X8_readName_r ht (upd I 14 ((I 14) + 1)) A J it dyn) 0 0 0) else A) else (if (L_X8_here_r ht I A J it dyn) = 40 then (if (I 15) = 6 then A else (va_up A 26 (upd (A 26) (I 15).toNatClampNeg 0))) else A)) else (L_X8_part_A ht (L_X8_readName_I ht I A J it dyn) A J it dyn 1 (L_X8_readName_r ht I A J it dyn) 0 0 0)) else (if 0 ≤ (lg_cmp (L_X8_readNumber_r ht I A J it dyn) 0) then (L_X8_part_A ht (L_X8_readNumber_I ht I A J it dyn) A J it dyn 0 0 0 0 (L_X8_readNumber_r ht I A J it dyn)) else A)) (if (L_X8_digit_r ht I A J it dyn (L_X8_here_r ht I A J it dyn)) = 0 then (if (L_X8_letter_r ht I A J it dyn (L_X8_here_r ht I A J it dyn)) = 0 then (if (L_X8_here_r ht I A J it dyn) = 35 then (if 0 ≤ (L_X8_readName_r ht (upd I 14 ((I 14) + 1)) A J it dyn) then (L_X8_part_J ht (L_X8_readName_I ht (upd I 14 ((I 14) + 1)) A J it dyn) A J it dyn 2 (L_X8_readName_r ht (upd I 14 ((I 14) + 1)) A J it dyn) 0 0 0) else J) else J) else (L_X8_part_J ht (L_X8_readName_I ht I A J it dyn) A J it dyn 1 (L_X8_readName_r ht I A J it dyn) 0 0 0)) else (if 0 ≤ (lg_cmp (L_X8_readNumber_r ht I A J it dyn) 0) then (L_X8_part_J ht (L_X8_readNumber_I ht I A J it dyn) A J it dyn 0 0 0 0 (L_X8_readNumber_r ht I A J it dyn)) else J)) it dyn) := hq
  have hS : ((S_X8_here ht I A J it dyn) ∧ ((((L_X8_digit_r ht I A J it dyn (L_X8_here_r ht I A J it dyn)) = 0) → ((((L_X8_letter_r ht I A J it dyn (L_X8_here_r ht I A J it dyn)) = 0) → ((((L_X8_here_r ht I A J it dyn) = 35) → ((S_X8_readName ht (upd I 14 ((I 14) + 1)) A J it dyn) ∧ ((0 ≤ (L_X8_readName_r ht (upd I 14 ((I 14) + 1)) A J it dyn)) → (S_X8_part ht (L_X8_readName_I ht (upd I 14 ((I 14) + 1)) A J it dyn) A J it dyn 2 (L_X8_readName_r ht (upd I 14 ((I 14) + 1)) A J it dyn) 0 0 0)))) ∧ (¬ ((L_X8_here_r ht I A J it dyn) = 35) → (((L_X8_here_r ht I A J it dyn) = 40) → (¬ ((I 15) = 6) → (vp_in (I 15) 7)))))) ∧ (¬ ((L_X8_letter_r ht I A J it dyn (L_X8_here_r ht I A J it dyn)) = 0) → ((S_X8_readName ht I A J it dyn) ∧ (S_X8_part ht (L_X8_readName_I ht I A J it dyn) A J it dyn 1 (L_X8_readName_r ht I A J it dyn) 0 0 0))))) ∧ (¬ ((L_X8_digit_r ht I A J it dyn (L_X8_here_r ht I A J it dyn)) = 0) → ((S_X8_readNumber ht I A J it dyn) ∧ ((0 ≤ (lg_cmp (L_X8_readNumber_r ht I A J it dyn) 0)) → (S_X8_part ht (L_X8_readNumber_I ht I A J it dyn) A J it dyn 0 0 0 0 (L_X8_readNumber_r ht I A J it dyn))))))) := hS
  refine (show fsW G l mX8_begin 2 0 0 0 0 Q 0 [(0, .inr (.inr (some 14)))] [] (fs_mk ht I A J it dyn) from ?_)
  refine fs_aload_n dX8_begin_0 rfl rfl ?_
  obtain ⟨ho1, hS⟩ := hS
  refine fs_callV1 dX8_begin_1 sv_X8_107 rfl ⟨_, rfl, rfl⟩ (c_X8_here G l ht I A J it dyn ho1) rfl rfl (Nat.le_of_ble_eq_true rfl) (Nat.le_of_ble_eq_true rfl) (Nat.le_of_ble_eq_true rfl) (Nat.le_of_ble_eq_true rfl) ?_
  refine fs_istore_n (L' := [(1, .inl (L_X8_here_r ht I A J it dyn)), (0, .inr (.inr (some 14)))]) dX8_begin_4 rfl (by decide) rfl ?_
  refine fs_iload_n dX8_begin_5 rfl rfl ?_
  refine fs_callS1 dX8_begin_6 sv_X8_118 (c_X8_digit G l ht I A J it dyn (L_X8_here_r ht I A J it dyn)) rfl rfl (Nat.le_of_ble_eq_true rfl) (Nat.le_of_ble_eq_true rfl) (Nat.le_of_ble_eq_true rfl) (Nat.le_of_ble_eq_true rfl) ?_
  refine fs_if_eq 38 dX8_begin_9 (by decide) (fun c_9 : (L_X8_digit_r ht I A J it dyn (L_X8_here_r ht I A J it dyn)) = 0 => ?_) (fun c_9 : ¬ ((L_X8_digit_r ht I A J it dyn (L_X8_here_r ht I A J it dyn)) = 0) => ?_)
  · have hS := hS.1 c_9
    refine fs_iload_n dX8_begin_38 rfl rfl ?_
    refine fs_callS1 dX8_begin_39 sv_X8_111 (c_X8_letter G l ht I A J it dyn (L_X8_here_r ht I A J it dyn)) rfl rfl (Nat.le_of_ble_eq_true rfl) (Nat.le_of_ble_eq_true rfl) (Nat.le_of_ble_eq_true rfl) (Nat.le_of_ble_eq_true rfl) ?_
    refine fs_if_eq 58 dX8_begin_42 (by decide) (fun c_42 : (L_X8_letter_r ht I A J it dyn (L_X8_here_r ht I A J it dyn)) = 0 => ?_) (fun c_42 : ¬ ((L_X8_letter_r ht I A J it dyn (L_X8_here_r ht I A J it dyn)) = 0) => ?_)
    · have hS := hS.1 c_42
      refine fs_iload_n dX8_begin_58 rfl rfl ?_
      refine fs_bipush (v := 35) dX8_begin_59 rfl ?_
      refine fs_icmp_ne 98 dX8_begin_61 (by decide) (fun c_61 : ¬ (L_X8_here_r ht I A J it dyn) = 35 => ?_) (fun c_61 : (L_X8_here_r ht I A J it dyn) = 35 => ?_)
      · have hS := hS.2 c_61
        refine fs_iload_n dX8_begin_98 rfl rfl ?_
        refine fs_bipush (v := 40) dX8_begin_99 rfl ?_
        refine fs_icmp_ne 113 dX8_begin_101 (by decide) (fun c_101 : ¬ (L_X8_here_r ht I A J it dyn) = 40 => ?_) (fun c_101 : (L_X8_here_r ht I A J it dyn) = 40 => ?_)
        · refine fs_bipush (v := (-2)) dX8_begin_113 rfl ?_
          have k9 := hq
          try simp only [if_pos c_9, if_pos c_42, if_neg c_61, if_neg c_101] at k9 ⊢
          exact fs_iret dX8_begin_115 rfl rfl k9
        · have hS := hS c_101
          refine fs_aload_n dX8_begin_104 rfl rfl ?_
          refine fs_getfield (v := .inl (I 15)) dX8_begin_105 sf_X8_141 rfl rfl ?_
          refine fs_bipush (v := 6) dX8_begin_108 rfl ?_
          refine fs_icmp_ne 116 dX8_begin_110 (by decide) (fun c_110 : ¬ (I 15) = 6 => ?_) (fun c_110 : (I 15) = 6 => ?_)
          · have hS := hS c_110
            refine fs_aload_n dX8_begin_116 rfl rfl ?_
            refine fs_dup dX8_begin_117 rfl ?_
            refine fs_getfield (v := .inl (I 14)) dX8_begin_118 sf_X8_104 rfl rfl ?_
            refine fs_iconst (v := 1) dX8_begin_121 rfl ?_
            refine fs_iadd dX8_begin_122 ?_
            refine fsp_14 dX8_begin_123 sp_X8_104 ?_
            refine fs_aload_n dX8_begin_126 rfl rfl ?_
            refine fs_getfield (v := .inr (.inr (some 26))) dX8_begin_127 sf_X8_53 rfl rfl ?_
            refine fs_aload_n dX8_begin_130 rfl rfl ?_
            refine fs_getfield (v := .inl (I 15)) dX8_begin_131 sf_X8_141 rfl rfl ?_
            refine fs_iconst (v := 0) dX8_begin_134 rfl ?_
            have ho1 := hS
            refine fss_26 dX8_begin_135 ho1 ?_
            refine fs_aload_n dX8_begin_136 rfl rfl ?_
            refine fs_dup dX8_begin_137 rfl ?_
            refine fs_getfield (v := .inl (I 15)) dX8_begin_138 sf_X8_141 rfl rfl ?_
            refine fs_iconst (v := 1) dX8_begin_141 rfl ?_
            refine fs_iadd dX8_begin_142 ?_
            refine fsp_15 dX8_begin_143 sp_X8_141 ?_
            refine fs_iconst (v := (-1)) dX8_begin_146 rfl ?_
            have k9 := hq
            try simp only [if_pos c_9, if_pos c_42, if_neg c_61, if_pos c_101, if_neg c_110] at k9 ⊢
            exact fs_iret dX8_begin_147 rfl rfl k9
          · refine fs_bipush (v := (-2)) dX8_begin_113 rfl ?_
            have k9 := hq
            try simp only [if_pos c_9, if_pos c_42, if_neg c_61, if_pos c_101, if_pos c_110] at k9 ⊢
            exact fs_iret dX8_begin_115 rfl rfl k9
      · have hS := hS.1 c_61
        refine fs_aload_n dX8_begin_64 rfl rfl ?_
        refine fs_dup dX8_begin_65 rfl ?_
        refine fs_getfield (v := .inl (I 14)) dX8_begin_66 sf_X8_104 rfl rfl ?_
        refine fs_iconst (v := 1) dX8_begin_69 rfl ?_
        refine fs_iadd dX8_begin_70 ?_
        refine fsp_14 dX8_begin_71 sp_X8_104 ?_
        refine fs_aload_n dX8_begin_74 rfl rfl ?_
        obtain ⟨ho1, hS⟩ := hS
        refine fs_callV1 dX8_begin_75 sv_X8_137 rfl ⟨_, rfl, rfl⟩ (c_X8_readName G l ht (upd I 14 ((I 14) + 1)) A J it dyn ho1) rfl rfl (Nat.le_of_ble_eq_true rfl) (Nat.le_of_ble_eq_true rfl) (Nat.le_of_ble_eq_true rfl) (Nat.le_of_ble_eq_true rfl) ?_
        refine fs_istore_n (L' := [(2, .inl (L_X8_readName_r ht (upd I 14 ((I 14) + 1)) A J it dyn)), (1, .inl (L_X8_here_r ht I A J it dyn)), (0, .inr (.inr (some 14)))]) dX8_begin_78 rfl (by decide) rfl ?_
        refine fs_iload_n dX8_begin_79 rfl rfl ?_
        have hR_80 := hS
        have key_97 : fsW G l mX8_begin 2 0 0 0 0 Q 97 [(0, .inr (.inr (some 14))), (1, .inl (L_X8_here_r ht I A J it dyn)), (2, .inl (L_X8_readName_r ht (upd I 14 ((I 14) + 1)) A J it dyn))] [.inl (if 0 ≤ (L_X8_readName_r ht (upd I 14 ((I 14) + 1)) A J it dyn) then (L_X8_part_r ht (L_X8_readName_I ht (upd I 14 ((I 14) + 1)) A J it dyn) A J it dyn 2 (L_X8_readName_r ht (upd I 14 ((I 14) + 1)) A J it dyn) 0 0 0) else (-2) : Int32)] (fs_mk ht (L_X8_readName_I ht (upd I 14 ((I 14) + 1)) A J it dyn) (if 0 ≤ (L_X8_readName_r ht (upd I 14 ((I 14) + 1)) A J it dyn) then (L_X8_part_A ht (L_X8_readName_I ht (upd I 14 ((I 14) + 1)) A J it dyn) A J it dyn 2 (L_X8_readName_r ht (upd I 14 ((I 14) + 1)) A J it dyn) 0 0 0) else A) (if 0 ≤ (L_X8_readName_r ht (upd I 14 ((I 14) + 1)) A J it dyn) then (L_X8_part_J ht (L_X8_readName_I ht (upd I 14 ((I 14) + 1)) A J it dyn) A J it dyn 2 (L_X8_readName_r ht (upd I 14 ((I 14) + 1)) A J it dyn) 0 0 0) else J) it dyn) := by
          have k9 := hq
          try simp only [if_pos c_9, if_pos c_42, if_pos c_61] at k9 ⊢
          exact fs_iret dX8_begin_97 rfl rfl k9
        refine fs_if_ge 88 dX8_begin_80 (by decide) (fun c_80 : 0 ≤ (L_X8_readName_r ht (upd I 14 ((I 14) + 1)) A J it dyn) => ?_) (fun c_80 : ¬ (0 ≤ (L_X8_readName_r ht (upd I 14 ((I 14) + 1)) A J it dyn)) => ?_)
        · have hS := hR_80 c_80
          refine fs_aload_n dX8_begin_88 rfl rfl ?_
          refine fs_iconst (v := 2) dX8_begin_89 rfl ?_
          refine fs_iload_n dX8_begin_90 rfl rfl ?_
          refine fs_iconst (v := 0) dX8_begin_91 rfl ?_
          refine fs_iconst (v := 0) dX8_begin_92 rfl ?_
          refine fs_lconst (v := 0) dX8_begin_93 rfl ?_
          have ho1 := hS
          refine fs_callV1 dX8_begin_94 sv_X8_133 rfl ⟨_, rfl, rfl⟩ (c_X8_part G l ht (L_X8_readName_I ht (upd I 14 ((I 14) + 1)) A J it dyn) A J it dyn 2 (L_X8_readName_r ht (upd I 14 ((I 14) + 1)) A J it dyn) 0 0 0 ho1) rfl rfl (Nat.le_of_ble_eq_true rfl) (Nat.le_of_ble_eq_true rfl) (Nat.le_of_ble_eq_true rfl) (Nat.le_of_ble_eq_true rfl) ?_
          refine fs_reL [2, 1, 0] rfl ?_
          have k9 := key_97
          try simp only [if_pos c_9, if_pos c_42, if_pos c_61, if_pos c_80] at k9 ⊢
          exact k9
        · refine fs_bipush (v := (-2)) dX8_begin_83 rfl ?_
          refine fs_goto 97 dX8_begin_85 (by decide) ?_
          refine fs_reL [2, 1, 0] rfl ?_
          have k9 := key_97
          try simp only [if_pos c_9, if_pos c_42, if_pos c_61, if_neg c_80] at k9 ⊢
          exact k9
    · have hS := hS.2 c_42
      refine fs_aload_n dX8_begin_45 rfl rfl ?_
      refine fs_iconst (v := 1) dX8_begin_46 rfl ?_
      refine fs_aload_n dX8_begin_47 rfl rfl ?_
      obtain ⟨ho1, hS⟩ := hS
      refine fs_callV1 dX8_begin_48 sv_X8_137 rfl ⟨_, rfl, rfl⟩ (c_X8_readName G l ht I A J it dyn ho1) rfl rfl (Nat.le_of_ble_eq_true rfl) (Nat.le_of_ble_eq_true rfl) (Nat.le_of_ble_eq_true rfl) (Nat.le_of_ble_eq_true rfl) ?_
      refine fs_iconst (v := 0) dX8_begin_51 rfl ?_
      refine fs_iconst (v := 0) dX8_begin_52 rfl ?_
      refine fs_lconst (v := 0) dX8_begin_53 rfl ?_
      have ho1 := hS
      refine fs_callV1 dX8_begin_54 sv_X8_133 rfl ⟨_, rfl, rfl⟩ (c_X8_part G l ht (L_X8_readName_I ht I A J it dyn) A J it dyn 1 (L_X8_readName_r ht I A J it dyn) 0 0 0 ho1) rfl rfl (Nat.le_of_ble_eq_true rfl) (Nat.le_of_ble_eq_true rfl) (Nat.le_of_ble_eq_true rfl) (Nat.le_of_ble_eq_true rfl) ?_
      have k9 := hq
      try simp only [if_pos c_9, if_neg c_42] at k9 ⊢
      exact fs_iret dX8_begin_57 rfl rfl k9
  · have hS := hS.2 c_9
    refine fs_aload_n dX8_begin_12 rfl rfl ?_
    obtain ⟨ho1, hS⟩ := hS
    refine fs_callV1 dX8_begin_13 sv_X8_129 rfl ⟨_, rfl, rfl⟩ (c_X8_readNumber G l ht I A J it dyn ho1) rfl rfl (Nat.le_of_ble_eq_true rfl) (Nat.le_of_ble_eq_true rfl) (Nat.le_of_ble_eq_true rfl) (Nat.le_of_ble_eq_true rfl) ?_
    refine fs_lstore_n (L' := [(2, .inr (.inl (L_X8_readNumber_r ht I A J it dyn))), (1, .inl (L_X8_here_r ht I A J it dyn)), (0, .inr (.inr (some 14)))]) dX8_begin_16 rfl (by decide) rfl ?_
    refine fs_lload_n dX8_begin_17 rfl rfl ?_
    refine fs_lconst (v := 0) dX8_begin_18 rfl ?_
    refine fs_lcmp dX8_begin_19 ?_
    have hR_20 := hS
    have key_37 : fsW G l mX8_begin 2 0 0 0 0 Q 37 [(0, .inr (.inr (some 14))), (1, .inl (L_X8_here_r ht I A J it dyn)), (2, .inr (.inl (L_X8_readNumber_r ht I A J it dyn)))] [.inl (if 0 ≤ (lg_cmp (L_X8_readNumber_r ht I A J it dyn) 0) then (L_X8_part_r ht (L_X8_readNumber_I ht I A J it dyn) A J it dyn 0 0 0 0 (L_X8_readNumber_r ht I A J it dyn)) else (-2) : Int32)] (fs_mk ht (L_X8_readNumber_I ht I A J it dyn) (if 0 ≤ (lg_cmp (L_X8_readNumber_r ht I A J it dyn) 0) then (L_X8_part_A ht (L_X8_readNumber_I ht I A J it dyn) A J it dyn 0 0 0 0 (L_X8_readNumber_r ht I A J it dyn)) else A) (if 0 ≤ (lg_cmp (L_X8_readNumber_r ht I A J it dyn) 0) then (L_X8_part_J ht (L_X8_readNumber_I ht I A J it dyn) A J it dyn 0 0 0 0 (L_X8_readNumber_r ht I A J it dyn)) else J) it dyn) := by
      have k9 := hq
      try simp only [if_neg c_9] at k9 ⊢
      exact fs_iret dX8_begin_37 rfl rfl k9
    refine fs_if_ge 28 dX8_begin_20 (by decide) (fun c_20 : 0 ≤ (lg_cmp (L_X8_readNumber_r ht I A J it dyn) 0) => ?_) (fun c_20 : ¬ (0 ≤ (lg_cmp (L_X8_readNumber_r ht I A J it dyn) 0)) => ?_)
    · have hS := hR_20 c_20
      refine fs_aload_n dX8_begin_28 rfl rfl ?_
      refine fs_iconst (v := 0) dX8_begin_29 rfl ?_
      refine fs_iconst (v := 0) dX8_begin_30 rfl ?_
      refine fs_iconst (v := 0) dX8_begin_31 rfl ?_
      refine fs_iconst (v := 0) dX8_begin_32 rfl ?_
      refine fs_lload_n dX8_begin_33 rfl rfl ?_
      have ho1 := hS
      refine fs_callV1 dX8_begin_34 sv_X8_133 rfl ⟨_, rfl, rfl⟩ (c_X8_part G l ht (L_X8_readNumber_I ht I A J it dyn) A J it dyn 0 0 0 0 (L_X8_readNumber_r ht I A J it dyn) ho1) rfl rfl (Nat.le_of_ble_eq_true rfl) (Nat.le_of_ble_eq_true rfl) (Nat.le_of_ble_eq_true rfl) (Nat.le_of_ble_eq_true rfl) ?_
      refine fs_reL [2, 1, 0] rfl ?_
      have k9 := key_37
      try simp only [if_neg c_9, if_pos c_20] at k9 ⊢
      exact k9
    · refine fs_bipush (v := (-2)) dX8_begin_23 rfl ?_
      refine fs_goto 37 dX8_begin_25 (by decide) ?_
      refine fs_reL [2, 1, 0] rfl ?_
      have k9 := key_37
      try simp only [if_neg c_9, if_neg c_20] at k9 ⊢
      exact k9
def L_X8_goOn_r (ht : Nat) (I : Nat → Int32) (A : Nat → Nat → Int32) (J : Nat → Nat → Int64) (it : Nat → Option Nat) (dyn : fsH) (x1 : Int32) : Int32 := (if ((va_up A 26 (upd (A 26) ((I 15) - 1).toNatClampNeg ((A 26 ((I 15) - 1).toNatClampNeg) + 1))) 26 ((I 15) - 1).toNatClampNeg) = 1 then (if (L_X8_isSign_r ht (upd I 14 (if (L_X8_isSign_r ht I (va_up (va_up (va_up A 26 (upd (A 26) ((I 15) - 1).toNatClampNeg ((A 26 ((I 15) - 1).toNatClampNeg) + 1))) 28 (upd ((va_up A 26 (upd (A 26) ((I 15) - 1).toNatClampNeg ((A 26 ((I 15) - 1).toNatClampNeg) + 1))) 28) ((I 15) - 1).toNatClampNeg x1)) 27 (upd ((va_up (va_up A 26 (upd (A 26) ((I 15) - 1).toNatClampNeg ((A 26 ((I 15) - 1).toNatClampNeg) + 1))) 28 (upd ((va_up A 26 (upd (A 26) ((I 15) - 1).toNatClampNeg ((A 26 ((I 15) - 1).toNatClampNeg) + 1))) 28) ((I 15) - 1).toNatClampNeg x1)) 27) ((I 15) - 1).toNatClampNeg (L_X8_here_r ht I (va_up A 26 (upd (A 26) ((I 15) - 1).toNatClampNeg ((A 26 ((I 15) - 1).toNatClampNeg) + 1))) J it dyn))) J it dyn (L_X8_here_r ht I (va_up A 26 (upd (A 26) ((I 15) - 1).toNatClampNeg ((A 26 ((I 15) - 1).toNatClampNeg) + 1))) J it dyn)) = 0 then (I 14) else ((I 14) + 1) : Int32)) (va_up (va_up (va_up A 26 (upd (A 26) ((I 15) - 1).toNatClampNeg ((A 26 ((I 15) - 1).toNatClampNeg) + 1))) 28 (upd ((va_up A 26 (upd (A 26) ((I 15) - 1).toNatClampNeg ((A 26 ((I 15) - 1).toNatClampNeg) + 1))) 28) ((I 15) - 1).toNatClampNeg x1)) 27 (upd ((va_up (va_up A 26 (upd (A 26) ((I 15) - 1).toNatClampNeg ((A 26 ((I 15) - 1).toNatClampNeg) + 1))) 28 (upd ((va_up A 26 (upd (A 26) ((I 15) - 1).toNatClampNeg ((A 26 ((I 15) - 1).toNatClampNeg) + 1))) 28) ((I 15) - 1).toNatClampNeg x1)) 27) ((I 15) - 1).toNatClampNeg (L_X8_here_r ht I (va_up A 26 (upd (A 26) ((I 15) - 1).toNatClampNeg ((A 26 ((I 15) - 1).toNatClampNeg) + 1))) J it dyn))) J it dyn (L_X8_here_r ht I (va_up A 26 (upd (A 26) ((I 15) - 1).toNatClampNeg ((A 26 ((I 15) - 1).toNatClampNeg) + 1))) J it dyn)) = 0 then (-2) else (-1) : Int32) else (if ((va_up A 26 (upd (A 26) ((I 15) - 1).toNatClampNeg ((A 26 ((I 15) - 1).toNatClampNeg) + 1))) 26 ((I 15) - 1).toNatClampNeg) = 2 then (if ((va_up A 26 (upd (A 26) ((I 15) - 1).toNatClampNeg ((A 26 ((I 15) - 1).toNatClampNeg) + 1))) 27 ((I 15) - 1).toNatClampNeg) = 63 then (if (L_X8_here_r ht I (va_up A 26 (upd (A 26) ((I 15) - 1).toNatClampNeg ((A 26 ((I 15) - 1).toNatClampNeg) + 1))) J it dyn) = 58 then (-1) else (-2) : Int32) else (if (L_X8_here_r ht I (va_up A 26 (upd (A 26) ((I 15) - 1).toNatClampNeg ((A 26 ((I 15) - 1).toNatClampNeg) + 1))) J it dyn) = 41 then (L_X8_part_r ht (upd (upd I 14 ((I 14) + 1)) 15 ((I 15) - 1)) (va_up A 26 (upd (A 26) ((I 15) - 1).toNatClampNeg ((A 26 ((I 15) - 1).toNatClampNeg) + 1))) J it dyn ((va_up A 26 (upd (A 26) ((I 15) - 1).toNatClampNeg ((A 26 ((I 15) - 1).toNatClampNeg) + 1))) 27 ((I 15) - 1).toNatClampNeg) ((va_up A 26 (upd (A 26) ((I 15) - 1).toNatClampNeg ((A 26 ((I 15) - 1).toNatClampNeg) + 1))) 28 ((I 15) - 1).toNatClampNeg) x1 0 0) else (-2))) else (if (L_X8_here_r ht I (va_up A 26 (upd (A 26) ((I 15) - 1).toNatClampNeg ((A 26 ((I 15) - 1).toNatClampNeg) + 1))) J it dyn) = 41 then (if ((va_up A 26 (upd (A 26) ((I 15) - 1).toNatClampNeg ((A 26 ((I 15) - 1).toNatClampNeg) + 1))) 27 ((I 15) - 1).toNatClampNeg) = 63 then (L_X8_part_r ht (upd (upd I 14 ((I 14) + 1)) 15 ((I 15) - 1)) (va_up A 26 (upd (A 26) ((I 15) - 1).toNatClampNeg ((A 26 ((I 15) - 1).toNatClampNeg) + 1))) J it dyn 63 ((va_up A 26 (upd (A 26) ((I 15) - 1).toNatClampNeg ((A 26 ((I 15) - 1).toNatClampNeg) + 1))) 28 ((I 15) - 1).toNatClampNeg) ((va_up A 26 (upd (A 26) ((I 15) - 1).toNatClampNeg ((A 26 ((I 15) - 1).toNatClampNeg) + 1))) 29 ((I 15) - 1).toNatClampNeg) x1 0) else (L_X8_part_r ht (upd (upd I 14 ((I 14) + 1)) 15 ((I 15) - 1)) (va_up A 26 (upd (A 26) ((I 15) - 1).toNatClampNeg ((A 26 ((I 15) - 1).toNatClampNeg) + 1))) J it dyn ((va_up A 26 (upd (A 26) ((I 15) - 1).toNatClampNeg ((A 26 ((I 15) - 1).toNatClampNeg) + 1))) 27 ((I 15) - 1).toNatClampNeg) ((va_up A 26 (upd (A 26) ((I 15) - 1).toNatClampNeg ((A 26 ((I 15) - 1).toNatClampNeg) + 1))) 28 ((I 15) - 1).toNatClampNeg) x1 0 0) : Int32) else (-2))))
def L_X8_goOn_I (ht : Nat) (I : Nat → Int32) (A : Nat → Nat → Int32) (J : Nat → Nat → Int64) (it : Nat → Option Nat) (dyn : fsH) (x1 : Int32) : Nat → Int32 := (if ((va_up A 26 (upd (A 26) ((I 15) - 1).toNatClampNeg ((A 26 ((I 15) - 1).toNatClampNeg) + 1))) 26 ((I 15) - 1).toNatClampNeg) = 1 then (upd I 14 (if (L_X8_isSign_r ht I (va_up (va_up (va_up A 26 (upd (A 26) ((I 15) - 1).toNatClampNeg ((A 26 ((I 15) - 1).toNatClampNeg) + 1))) 28 (upd ((va_up A 26 (upd (A 26) ((I 15) - 1).toNatClampNeg ((A 26 ((I 15) - 1).toNatClampNeg) + 1))) 28) ((I 15) - 1).toNatClampNeg x1)) 27 (upd ((va_up (va_up A 26 (upd (A 26) ((I 15) - 1).toNatClampNeg ((A 26 ((I 15) - 1).toNatClampNeg) + 1))) 28 (upd ((va_up A 26 (upd (A 26) ((I 15) - 1).toNatClampNeg ((A 26 ((I 15) - 1).toNatClampNeg) + 1))) 28) ((I 15) - 1).toNatClampNeg x1)) 27) ((I 15) - 1).toNatClampNeg (L_X8_here_r ht I (va_up A 26 (upd (A 26) ((I 15) - 1).toNatClampNeg ((A 26 ((I 15) - 1).toNatClampNeg) + 1))) J it dyn))) J it dyn (L_X8_here_r ht I (va_up A 26 (upd (A 26) ((I 15) - 1).toNatClampNeg ((A 26 ((I 15) - 1).toNatClampNeg) + 1))) J it dyn)) = 0 then (I 14) else ((I 14) + 1) : Int32)) else (if ((va_up A 26 (upd (A 26) ((I 15) - 1).toNatClampNeg ((A 26 ((I 15) - 1).toNatClampNeg) + 1))) 26 ((I 15) - 1).toNatClampNeg) = 2 then (if ((va_up A 26 (upd (A 26) ((I 15) - 1).toNatClampNeg ((A 26 ((I 15) - 1).toNatClampNeg) + 1))) 27 ((I 15) - 1).toNatClampNeg) = 63 then (upd I 14 (if (L_X8_here_r ht I (va_up A 26 (upd (A 26) ((I 15) - 1).toNatClampNeg ((A 26 ((I 15) - 1).toNatClampNeg) + 1))) J it dyn) = 58 then ((I 14) + 1) else (I 14) : Int32)) else (if (L_X8_here_r ht I (va_up A 26 (upd (A 26) ((I 15) - 1).toNatClampNeg ((A 26 ((I 15) - 1).toNatClampNeg) + 1))) J it dyn) = 41 then (upd (upd I 14 ((I 14) + 1)) 15 ((I 15) - 1)) else I)) else (if (L_X8_here_r ht I (va_up A 26 (upd (A 26) ((I 15) - 1).toNatClampNeg ((A 26 ((I 15) - 1).toNatClampNeg) + 1))) J it dyn) = 41 then (upd (upd I 14 ((I 14) + 1)) 15 ((I 15) - 1)) else I)))
def L_X8_goOn_A (ht : Nat) (I : Nat → Int32) (A : Nat → Nat → Int32) (J : Nat → Nat → Int64) (it : Nat → Option Nat) (dyn : fsH) (x1 : Int32) : Nat → Nat → Int32 := (if ((va_up A 26 (upd (A 26) ((I 15) - 1).toNatClampNeg ((A 26 ((I 15) - 1).toNatClampNeg) + 1))) 26 ((I 15) - 1).toNatClampNeg) = 1 then (va_up (va_up (va_up A 26 (upd (A 26) ((I 15) - 1).toNatClampNeg ((A 26 ((I 15) - 1).toNatClampNeg) + 1))) 28 (upd ((va_up A 26 (upd (A 26) ((I 15) - 1).toNatClampNeg ((A 26 ((I 15) - 1).toNatClampNeg) + 1))) 28) ((I 15) - 1).toNatClampNeg x1)) 27 (upd ((va_up (va_up A 26 (upd (A 26) ((I 15) - 1).toNatClampNeg ((A 26 ((I 15) - 1).toNatClampNeg) + 1))) 28 (upd ((va_up A 26 (upd (A 26) ((I 15) - 1).toNatClampNeg ((A 26 ((I 15) - 1).toNatClampNeg) + 1))) 28) ((I 15) - 1).toNatClampNeg x1)) 27) ((I 15) - 1).toNatClampNeg (L_X8_here_r ht I (va_up A 26 (upd (A 26) ((I 15) - 1).toNatClampNeg ((A 26 ((I 15) - 1).toNatClampNeg) + 1))) J it dyn))) else (if ((va_up A 26 (upd (A 26) ((I 15) - 1).toNatClampNeg ((A 26 ((I 15) - 1).toNatClampNeg) + 1))) 26 ((I 15) - 1).toNatClampNeg) = 2 then (if ((va_up A 26 (upd (A 26) ((I 15) - 1).toNatClampNeg ((A 26 ((I 15) - 1).toNatClampNeg) + 1))) 27 ((I 15) - 1).toNatClampNeg) = 63 then (va_up (va_up A 26 (upd (A 26) ((I 15) - 1).toNatClampNeg ((A 26 ((I 15) - 1).toNatClampNeg) + 1))) 29 (upd ((va_up A 26 (upd (A 26) ((I 15) - 1).toNatClampNeg ((A 26 ((I 15) - 1).toNatClampNeg) + 1))) 29) ((I 15) - 1).toNatClampNeg x1)) else (if (L_X8_here_r ht I (va_up A 26 (upd (A 26) ((I 15) - 1).toNatClampNeg ((A 26 ((I 15) - 1).toNatClampNeg) + 1))) J it dyn) = 41 then (L_X8_part_A ht (upd (upd I 14 ((I 14) + 1)) 15 ((I 15) - 1)) (va_up A 26 (upd (A 26) ((I 15) - 1).toNatClampNeg ((A 26 ((I 15) - 1).toNatClampNeg) + 1))) J it dyn ((va_up A 26 (upd (A 26) ((I 15) - 1).toNatClampNeg ((A 26 ((I 15) - 1).toNatClampNeg) + 1))) 27 ((I 15) - 1).toNatClampNeg) ((va_up A 26 (upd (A 26) ((I 15) - 1).toNatClampNeg ((A 26 ((I 15) - 1).toNatClampNeg) + 1))) 28 ((I 15) - 1).toNatClampNeg) x1 0 0) else (va_up A 26 (upd (A 26) ((I 15) - 1).toNatClampNeg ((A 26 ((I 15) - 1).toNatClampNeg) + 1))))) else (if (L_X8_here_r ht I (va_up A 26 (upd (A 26) ((I 15) - 1).toNatClampNeg ((A 26 ((I 15) - 1).toNatClampNeg) + 1))) J it dyn) = 41 then (if ((va_up A 26 (upd (A 26) ((I 15) - 1).toNatClampNeg ((A 26 ((I 15) - 1).toNatClampNeg) + 1))) 27 ((I 15) - 1).toNatClampNeg) = 63 then (L_X8_part_A ht (upd (upd I 14 ((I 14) + 1)) 15 ((I 15) - 1)) (va_up A 26 (upd (A 26) ((I 15) - 1).toNatClampNeg ((A 26 ((I 15) - 1).toNatClampNeg) + 1))) J it dyn 63 ((va_up A 26 (upd (A 26) ((I 15) - 1).toNatClampNeg ((A 26 ((I 15) - 1).toNatClampNeg) + 1))) 28 ((I 15) - 1).toNatClampNeg) ((va_up A 26 (upd (A 26) ((I 15) - 1).toNatClampNeg ((A 26 ((I 15) - 1).toNatClampNeg) + 1))) 29 ((I 15) - 1).toNatClampNeg) x1 0) else (L_X8_part_A ht (upd (upd I 14 ((I 14) + 1)) 15 ((I 15) - 1)) (va_up A 26 (upd (A 26) ((I 15) - 1).toNatClampNeg ((A 26 ((I 15) - 1).toNatClampNeg) + 1))) J it dyn ((va_up A 26 (upd (A 26) ((I 15) - 1).toNatClampNeg ((A 26 ((I 15) - 1).toNatClampNeg) + 1))) 27 ((I 15) - 1).toNatClampNeg) ((va_up A 26 (upd (A 26) ((I 15) - 1).toNatClampNeg ((A 26 ((I 15) - 1).toNatClampNeg) + 1))) 28 ((I 15) - 1).toNatClampNeg) x1 0 0)) else (va_up A 26 (upd (A 26) ((I 15) - 1).toNatClampNeg ((A 26 ((I 15) - 1).toNatClampNeg) + 1))))))
def L_X8_goOn_J (ht : Nat) (I : Nat → Int32) (A : Nat → Nat → Int32) (J : Nat → Nat → Int64) (it : Nat → Option Nat) (dyn : fsH) (x1 : Int32) : Nat → Nat → Int64 := (if ((va_up A 26 (upd (A 26) ((I 15) - 1).toNatClampNeg ((A 26 ((I 15) - 1).toNatClampNeg) + 1))) 26 ((I 15) - 1).toNatClampNeg) = 1 then J else (if ((va_up A 26 (upd (A 26) ((I 15) - 1).toNatClampNeg ((A 26 ((I 15) - 1).toNatClampNeg) + 1))) 26 ((I 15) - 1).toNatClampNeg) = 2 then (if ((va_up A 26 (upd (A 26) ((I 15) - 1).toNatClampNeg ((A 26 ((I 15) - 1).toNatClampNeg) + 1))) 27 ((I 15) - 1).toNatClampNeg) = 63 then J else (if (L_X8_here_r ht I (va_up A 26 (upd (A 26) ((I 15) - 1).toNatClampNeg ((A 26 ((I 15) - 1).toNatClampNeg) + 1))) J it dyn) = 41 then (L_X8_part_J ht (upd (upd I 14 ((I 14) + 1)) 15 ((I 15) - 1)) (va_up A 26 (upd (A 26) ((I 15) - 1).toNatClampNeg ((A 26 ((I 15) - 1).toNatClampNeg) + 1))) J it dyn ((va_up A 26 (upd (A 26) ((I 15) - 1).toNatClampNeg ((A 26 ((I 15) - 1).toNatClampNeg) + 1))) 27 ((I 15) - 1).toNatClampNeg) ((va_up A 26 (upd (A 26) ((I 15) - 1).toNatClampNeg ((A 26 ((I 15) - 1).toNatClampNeg) + 1))) 28 ((I 15) - 1).toNatClampNeg) x1 0 0) else J)) else (if (L_X8_here_r ht I (va_up A 26 (upd (A 26) ((I 15) - 1).toNatClampNeg ((A 26 ((I 15) - 1).toNatClampNeg) + 1))) J it dyn) = 41 then (if ((va_up A 26 (upd (A 26) ((I 15) - 1).toNatClampNeg ((A 26 ((I 15) - 1).toNatClampNeg) + 1))) 27 ((I 15) - 1).toNatClampNeg) = 63 then (L_X8_part_J ht (upd (upd I 14 ((I 14) + 1)) 15 ((I 15) - 1)) (va_up A 26 (upd (A 26) ((I 15) - 1).toNatClampNeg ((A 26 ((I 15) - 1).toNatClampNeg) + 1))) J it dyn 63 ((va_up A 26 (upd (A 26) ((I 15) - 1).toNatClampNeg ((A 26 ((I 15) - 1).toNatClampNeg) + 1))) 28 ((I 15) - 1).toNatClampNeg) ((va_up A 26 (upd (A 26) ((I 15) - 1).toNatClampNeg ((A 26 ((I 15) - 1).toNatClampNeg) + 1))) 29 ((I 15) - 1).toNatClampNeg) x1 0) else (L_X8_part_J ht (upd (upd I 14 ((I 14) + 1)) 15 ((I 15) - 1)) (va_up A 26 (upd (A 26) ((I 15) - 1).toNatClampNeg ((A 26 ((I 15) - 1).toNatClampNeg) + 1))) J it dyn ((va_up A 26 (upd (A 26) ((I 15) - 1).toNatClampNeg ((A 26 ((I 15) - 1).toNatClampNeg) + 1))) 27 ((I 15) - 1).toNatClampNeg) ((va_up A 26 (upd (A 26) ((I 15) - 1).toNatClampNeg ((A 26 ((I 15) - 1).toNatClampNeg) + 1))) 28 ((I 15) - 1).toNatClampNeg) x1 0 0)) else J)))
def S_X8_goOn (ht : Nat) (I : Nat → Int32) (A : Nat → Nat → Int32) (J : Nat → Nat → Int64) (it : Nat → Option Nat) (dyn : fsH) (x1 : Int32) : Prop := ((vp_in ((I 15) - 1) 7) ∧ ((vp_in ((I 15) - 1) 7) ∧ ((S_X8_here ht I (va_up A 26 (upd (A 26) ((I 15) - 1).toNatClampNeg ((A 26 ((I 15) - 1).toNatClampNeg) + 1))) J it dyn) ∧ ((vp_in ((I 15) - 1) 7) ∧ (((((va_up A 26 (upd (A 26) ((I 15) - 1).toNatClampNeg ((A 26 ((I 15) - 1).toNatClampNeg) + 1))) 26 ((I 15) - 1).toNatClampNeg) = 1) → ((vp_in ((I 15) - 1) 7) ∧ (vp_in ((I 15) - 1) 7))) ∧ (¬ (((va_up A 26 (upd (A 26) ((I 15) - 1).toNatClampNeg ((A 26 ((I 15) - 1).toNatClampNeg) + 1))) 26 ((I 15) - 1).toNatClampNeg) = 1) → ((vp_in ((I 15) - 1) 7) ∧ (((((va_up A 26 (upd (A 26) ((I 15) - 1).toNatClampNeg ((A 26 ((I 15) - 1).toNatClampNeg) + 1))) 26 ((I 15) - 1).toNatClampNeg) = 2) → ((vp_in ((I 15) - 1) 7) ∧ (((((va_up A 26 (upd (A 26) ((I 15) - 1).toNatClampNeg ((A 26 ((I 15) - 1).toNatClampNeg) + 1))) 27 ((I 15) - 1).toNatClampNeg) = 63) → (vp_in ((I 15) - 1) 7)) ∧ (¬ (((va_up A 26 (upd (A 26) ((I 15) - 1).toNatClampNeg ((A 26 ((I 15) - 1).toNatClampNeg) + 1))) 27 ((I 15) - 1).toNatClampNeg) = 63) → (((L_X8_here_r ht I (va_up A 26 (upd (A 26) ((I 15) - 1).toNatClampNeg ((A 26 ((I 15) - 1).toNatClampNeg) + 1))) J it dyn) = 41) → ((vp_in ((I 15) - 1) 7) ∧ ((vp_in ((I 15) - 1) 7) ∧ ((vp_in ((I 15) - 1) 7) ∧ (S_X8_part ht (upd (upd I 14 ((I 14) + 1)) 15 ((I 15) - 1)) (va_up A 26 (upd (A 26) ((I 15) - 1).toNatClampNeg ((A 26 ((I 15) - 1).toNatClampNeg) + 1))) J it dyn ((va_up A 26 (upd (A 26) ((I 15) - 1).toNatClampNeg ((A 26 ((I 15) - 1).toNatClampNeg) + 1))) 27 ((I 15) - 1).toNatClampNeg) ((va_up A 26 (upd (A 26) ((I 15) - 1).toNatClampNeg ((A 26 ((I 15) - 1).toNatClampNeg) + 1))) 28 ((I 15) - 1).toNatClampNeg) x1 0 0))))))))) ∧ (¬ (((va_up A 26 (upd (A 26) ((I 15) - 1).toNatClampNeg ((A 26 ((I 15) - 1).toNatClampNeg) + 1))) 26 ((I 15) - 1).toNatClampNeg) = 2) → (((L_X8_here_r ht I (va_up A 26 (upd (A 26) ((I 15) - 1).toNatClampNeg ((A 26 ((I 15) - 1).toNatClampNeg) + 1))) J it dyn) = 41) → ((vp_in ((I 15) - 1) 7) ∧ (((((va_up A 26 (upd (A 26) ((I 15) - 1).toNatClampNeg ((A 26 ((I 15) - 1).toNatClampNeg) + 1))) 27 ((I 15) - 1).toNatClampNeg) = 63) → ((vp_in ((I 15) - 1) 7) ∧ ((vp_in ((I 15) - 1) 7) ∧ (S_X8_part ht (upd (upd I 14 ((I 14) + 1)) 15 ((I 15) - 1)) (va_up A 26 (upd (A 26) ((I 15) - 1).toNatClampNeg ((A 26 ((I 15) - 1).toNatClampNeg) + 1))) J it dyn 63 ((va_up A 26 (upd (A 26) ((I 15) - 1).toNatClampNeg ((A 26 ((I 15) - 1).toNatClampNeg) + 1))) 28 ((I 15) - 1).toNatClampNeg) ((va_up A 26 (upd (A 26) ((I 15) - 1).toNatClampNeg ((A 26 ((I 15) - 1).toNatClampNeg) + 1))) 29 ((I 15) - 1).toNatClampNeg) x1 0)))) ∧ (¬ (((va_up A 26 (upd (A 26) ((I 15) - 1).toNatClampNeg ((A 26 ((I 15) - 1).toNatClampNeg) + 1))) 27 ((I 15) - 1).toNatClampNeg) = 63) → ((vp_in ((I 15) - 1) 7) ∧ ((vp_in ((I 15) - 1) 7) ∧ (S_X8_part ht (upd (upd I 14 ((I 14) + 1)) 15 ((I 15) - 1)) (va_up A 26 (upd (A 26) ((I 15) - 1).toNatClampNeg ((A 26 ((I 15) - 1).toNatClampNeg) + 1))) J it dyn ((va_up A 26 (upd (A 26) ((I 15) - 1).toNatClampNeg ((A 26 ((I 15) - 1).toNatClampNeg) + 1))) 27 ((I 15) - 1).toNatClampNeg) ((va_up A 26 (upd (A 26) ((I 15) - 1).toNatClampNeg ((A 26 ((I 15) - 1).toNatClampNeg) + 1))) 28 ((I 15) - 1).toNatClampNeg) x1 0 0))))))))))))))))
set_option maxRecDepth 100000 in
set_option maxHeartbeats 4000000 in
theorem c_X8_goOn (G : fsG) (l : Launch) (ht : Nat) (I : Nat → Int32) (A : Nat → Nat → Int32) (J : Nat → Nat → Int64) (it : Nat → Option Nat) (dyn : fsH) (x1 : Int32) (hS : S_X8_goOn ht I A J it dyn x1) : fsFn G l mX8_goOn 1 0 0 [.inr (.inr (some 14)), .inl x1] (fs_mk ht I A J it dyn) (some (.inl (L_X8_goOn_r ht I A J it dyn x1))) (fs_mk ht (L_X8_goOn_I ht I A J it dyn x1) (L_X8_goOn_A ht I A J it dyn x1) (L_X8_goOn_J ht I A J it dyn x1) it dyn) := by
  refine fsMet_of (by decide) (Nat.le_of_ble_eq_true rfl) ?_
  generalize hQ : (fun (r1 : Option fsV) (h1 : fsH) => r1 = (some (.inl (L_X8_goOn_r ht I A J it dyn x1))) ∧ h1 = (fs_mk ht (L_X8_goOn_I ht I A J it dyn x1) (L_X8_goOn_A ht I A J it dyn x1) (L_X8_goOn_J ht I A J it dyn x1) it dyn)) = Q
  have hq : Q (some (.inl (L_X8_goOn_r ht I A J it dyn x1))) (fs_mk ht (L_X8_goOn_I ht I A J it dyn x1) (L_X8_goOn_A ht I A J it dyn x1) (L_X8_goOn_J ht I A J it dyn x1) it dyn) := by rw [← hQ]; exact ⟨rfl, rfl⟩
  clear hQ
  have hq : Q (some (.inl (if ((va_up A 26 (upd (A 26) ((I 15) - 1).toNatClampNeg ((A 26 ((I 15) - 1).toNatClampNeg) + 1))) 26 ((I 15) - 1).toNatClampNeg) = 1 then (if (L_X8_isSign_r ht (upd I 14 (if (L_X8_isSign_r ht I (va_up (va_up (va_up A 26 (upd (A 26) ((I 15) - 1).toNatClampNeg ((A 26 ((I 15) - 1).toNatClampNeg) + 1))) 28 (upd ((va_up A 26 (upd (A 26) ((I 15) - 1).toNatClampNeg ((A 26 ((I 15) - 1).toNatClampNeg) + 1))) 28) ((I 15) - 1).toNatClampNeg x1)) 27 (upd ((va_up (va_up A 26 (upd (A 26) ((I 15) - 1).toNatClampNeg ((A 26 ((I 15) - 1).toNatClampNeg) + 1))) 28 (upd ((va_up A 26 (upd (A 26) ((I 15) - 1).toNatClampNeg ((A 26 ((I 15) - 1).toNatClampNeg) + 1))) 28) ((I 15) - 1).toNatClampNeg x1)) 27) ((I 15) - 1).toNatClampNeg (L_X8_here_r ht I (va_up A 26 (upd (A 26) ((I 15) - 1).toNatClampNeg ((A 26 ((I 15) - 1).toNatClampNeg) + 1))) J it dyn))) J it dyn (L_X8_here_r ht I (va_up A 26 (upd (A 26) ((I 15) - 1).toNatClampNeg ((A 26 ((I 15) - 1).toNatClampNeg) + 1))) J it dyn)) = 0 then (I 14) else ((I 14) + 1) : Int32)) (va_up (va_up (va_up A 26 (upd (A 26) ((I 15) - 1).toNatClampNeg ((A 26 ((I 15) - 1).toNatClampNeg) + 1))) 28 (upd ((va_up A 26 (upd (A 26) ((I 15) - 1).toNatClampNeg ((A 26 ((I 15) - 1).toNatClampNeg) + 1))) 28) ((I 15) - 1).toNatClampNeg x1)) 27 (upd ((va_up (va_up A 26 (upd (A 26) ((I 15) - 1).toNatClampNeg ((A 26 ((I 15) - 1).toNatClampNeg) + 1))) 28 (upd ((va_up A 26 (upd (A 26) ((I 15) - 1).toNatClampNeg ((A 26 ((I 15) - 1).toNatClampNeg) + 1))) 28) ((I 15) - 1).toNatClampNeg x1)) 27) ((I 15) - 1).toNatClampNeg (L_X8_here_r ht I (va_up A 26 (upd (A 26) ((I 15) - 1).toNatClampNeg ((A 26 ((I 15) - 1).toNatClampNeg) + 1))) J it dyn))) J it dyn (L_X8_here_r ht I (va_up A 26 (upd (A 26) ((I 15) - 1).toNatClampNeg ((A 26 ((I 15) - 1).toNatClampNeg) + 1))) J it dyn)) = 0 then (-2) else (-1) : Int32) else (if ((va_up A 26 (upd (A 26) ((I 15) - 1).toNatClampNeg ((A 26 ((I 15) - 1).toNatClampNeg) + 1))) 26 ((I 15) - 1).toNatClampNeg) = 2 then (if ((va_up A 26 (upd (A 26) ((I 15) - 1).toNatClampNeg ((A 26 ((I 15) - 1).toNatClampNeg) + 1))) 27 ((I 15) - 1).toNatClampNeg) = 63 then (if (L_X8_here_r ht I (va_up A 26 (upd (A 26) ((I 15) - 1).toNatClampNeg ((A 26 ((I 15) - 1).toNatClampNeg) + 1))) J it dyn) = 58 then (-1) else (-2) : Int32) else (if (L_X8_here_r ht I (va_up A 26 (upd (A 26) ((I 15) - 1).toNatClampNeg ((A 26 ((I 15) - 1).toNatClampNeg) + 1))) J it dyn) = 41 then (L_X8_part_r ht (upd (upd I 14 ((I 14) + 1)) 15 ((I 15) - 1)) (va_up A 26 (upd (A 26) ((I 15) - 1).toNatClampNeg ((A 26 ((I 15) - 1).toNatClampNeg) + 1))) J it dyn ((va_up A 26 (upd (A 26) ((I 15) - 1).toNatClampNeg ((A 26 ((I 15) - 1).toNatClampNeg) + 1))) 27 ((I 15) - 1).toNatClampNeg) ((va_up A 26 (upd (A 26) ((I 15) - 1).toNatClampNeg ((A 26 ((I 15) - 1).toNatClampNeg) + 1))) 28 ((I 15) - 1).toNatClampNeg) x1 0 0) else (-2))) else (if (L_X8_here_r ht I (va_up A 26 (upd (A 26) ((I 15) - 1).toNatClampNeg ((A 26 ((I 15) - 1).toNatClampNeg) + 1))) J it dyn) = 41 then (if ((va_up A 26 (upd (A 26) ((I 15) - 1).toNatClampNeg ((A 26 ((I 15) - 1).toNatClampNeg) + 1))) 27 ((I 15) - 1).toNatClampNeg) = 63 then (L_X8_part_r ht (upd (upd I 14 ((I 14) + 1)) 15 ((I 15) - 1)) (va_up A 26 (upd (A 26) ((I 15) - 1).toNatClampNeg ((A 26 ((I 15) - 1).toNatClampNeg) + 1))) J it dyn 63 ((va_up A 26 (upd (A 26) ((I 15) - 1).toNatClampNeg ((A 26 ((I 15) - 1).toNatClampNeg) + 1))) 28 ((I 15) - 1).toNatClampNeg) ((va_up A 26 (upd (A 26) ((I 15) - 1).toNatClampNeg ((A 26 ((I 15) - 1).toNatClampNeg) + 1))) 29 ((I 15) - 1).toNatClampNeg) x1 0) else (L_X8_part_r ht (upd (upd I 14 ((I 14) + 1)) 15 ((I 15) - 1)) (va_up A 26 (upd (A 26) ((I 15) - 1).toNatClampNeg ((A 26 ((I 15) - 1).toNatClampNeg) + 1))) J it dyn ((va_up A 26 (upd (A 26) ((I 15) - 1).toNatClampNeg ((A 26 ((I 15) - 1).toNatClampNeg) + 1))) 27 ((I 15) - 1).toNatClampNeg) ((va_up A 26 (upd (A 26) ((I 15) - 1).toNatClampNeg ((A 26 ((I 15) - 1).toNatClampNeg) + 1))) 28 ((I 15) - 1).toNatClampNeg) x1 0 0) : Int32) else (-2)))))) (fs_mk ht (if ((va_up A 26 (upd (A 26) ((I 15) - 1).toNatClampNeg ((A 26 ((I 15) - 1).toNatClampNeg) + 1))) 26 ((I 15) - 1).toNatClampNeg) = 1 then (upd I 14 (if (L_X8_isSign_r ht I (va_up (va_up (va_up A 26 (upd (A 26) ((I 15) - 1).toNatClampNeg ((A 26 ((I 15) - 1).toNatClampNeg) + 1))) 28 (upd ((va_up A 26 (upd (A 26) ((I 15) - 1).toNatClampNeg ((A 26 ((I 15) - 1).toNatClampNeg) + 1))) 28) ((I 15) - 1).toNatClampNeg x1)) 27 (upd ((va_up (va_up A 26 (upd (A 26) ((I 15) - 1).toNatClampNeg ((A 26 ((I 15) - 1).toNatClampNeg) + 1))) 28 (upd ((va_up A 26 (upd (A 26) ((I 15) - 1).toNatClampNeg ((A 26 ((I 15) - 1).toNatClampNeg) + 1))) 28) ((I 15) - 1).toNatClampNeg x1)) 27) ((I 15) - 1).toNatClampNeg (L_X8_here_r ht I (va_up A 26 (upd (A 26) ((I 15) - 1).toNatClampNeg ((A 26 ((I 15) - 1).toNatClampNeg) + 1))) J it dyn))) J it dyn (L_X8_here_r ht I (va_up A 26 (upd (A 26) ((I 15) - 1).toNatClampNeg ((A 26 ((I 15) - 1).toNatClampNeg) + 1))) J it dyn)) = 0 then (I 14) else ((I 14) + 1) : Int32)) else (if ((va_up A 26 (upd (A 26) ((I 15) - 1).toNatClampNeg ((A 26 ((I 15) - 1).toNatClampNeg) + 1))) 26 ((I 15) - 1).toNatClampNeg) = 2 then (if ((va_up A 26 (upd (A 26) ((I 15) - 1).toNatClampNeg ((A 26 ((I 15) - 1).toNatClampNeg) + 1))) 27 ((I 15) - 1).toNatClampNeg) = 63 then (upd I 14 (if (L_X8_here_r ht I (va_up A 26 (upd (A 26) ((I 15) - 1).toNatClampNeg ((A 26 ((I 15) - 1).toNatClampNeg) + 1))) J it dyn) = 58 then ((I 14) + 1) else (I 14) : Int32)) else (if (L_X8_here_r ht I (va_up A 26 (upd (A 26) ((I 15) - 1).toNatClampNeg ((A 26 ((I 15) - 1).toNatClampNeg) + 1))) J it dyn) = 41 then (upd (upd I 14 ((I 14) + 1)) 15 ((I 15) - 1)) else I)) else (if (L_X8_here_r ht I (va_up A 26 (upd (A 26) ((I 15) - 1).toNatClampNeg ((A 26 ((I 15) - 1).toNatClampNeg) + 1))) J it dyn) = 41 then (upd (upd I 14 ((I 14) + 1)) 15 ((I 15) - 1)) else I))) (if ((va_up A 26 (upd (A 26) ((I 15) - 1).toNatClampNeg ((A 26 ((I 15) - 1).toNatClampNeg) + 1))) 26 ((I 15) - 1).toNatClampNeg) = 1 then (va_up (va_up (va_up A 26 (upd (A 26) ((I 15) - 1).toNatClampNeg ((A 26 ((I 15) - 1).toNatClampNeg) + 1))) 28 (upd ((va_up A 26 (upd (A 26) ((I 15) - 1).toNatClampNeg ((A 26 ((I 15) - 1).toNatClampNeg) + 1))) 28) ((I 15) - 1).toNatClampNeg x1)) 27 (upd ((va_up (va_up A 26 (upd (A 26) ((I 15) - 1).toNatClampNeg ((A 26 ((I 15) - 1).toNatClampNeg) + 1))) 28 (upd ((va_up A 26 (upd (A 26) ((I 15) - 1).toNatClampNeg ((A 26 ((I 15) - 1).toNatClampNeg) + 1))) 28) ((I 15) - 1).toNatClampNeg x1)) 27) ((I 15) - 1).toNatClampNeg (L_X8_here_r ht I (va_up A 26 (upd (A 26) ((I 15) - 1).toNatClampNeg ((A 26 ((I 15) - 1).toNatClampNeg) + 1))) J it dyn))) else (if ((va_up A 26 (upd (A 26) ((I 15) - 1).toNatClampNeg ((A 26 ((I 15) - 1).toNatClampNeg) + 1))) 26 ((I 15) - 1).toNatClampNeg) = 2 then (if ((va_up A 26 (upd (A 26) ((I 15) - 1).toNatClampNeg ((A 26 ((I 15) - 1).toNatClampNeg) + 1))) 27 ((I 15) - 1).toNatClampNeg) = 63 then (va_up (va_up A 26 (upd (A 26) ((I 15) - 1).toNatClampNeg ((A 26 ((I 15) - 1).toNatClampNeg) + 1))) 29 (upd ((va_up A 26 (upd (A 26) ((I 15) - 1).toNatClampNeg ((A 26 ((I 15) - 1).toNatClampNeg) + 1))) 29) ((I 15) - 1).toNatClampNeg x1)) else (if (L_X8_here_r ht I (va_up A 26 (upd (A 26) ((I 15) - 1).toNatClampNeg ((A 26 ((I 15) - 1).toNatClampNeg) + 1))) J it dyn) = 41 then (L_X8_part_A ht (upd (upd I 14 ((I 14) + 1)) 15 ((I 15) - 1)) (va_up A 26 (upd (A 26) ((I 15) - 1).toNatClampNeg ((A 26 ((I 15) - 1).toNatClampNeg) + 1))) J it dyn ((va_up A 26 (upd (A 26) ((I 15) - 1).toNatClampNeg ((A 26 ((I 15) - 1).toNatClampNeg) + 1))) 27 ((I 15) - 1).toNatClampNeg) ((va_up A 26 (upd (A 26) ((I 15) - 1).toNatClampNeg ((A 26 ((I 15) - 1).toNatClampNeg) + 1))) 28 ((I 15) - 1).toNatClampNeg) x1 0 0) else (va_up A 26 (upd (A 26) ((I 15) - 1).toNatClampNeg ((A 26 ((I 15) - 1).toNatClampNeg) + 1))))) else (if (L_X8_here_r ht I (va_up A 26 (upd (A 26) ((I 15) - 1).toNatClampNeg ((A 26 ((I 15) - 1).toNatClampNeg) + 1))) J it dyn) = 41 then (if ((va_up A 26 (upd (A 26) ((I 15) - 1).toNatClampNeg ((A 26 ((I 15) - 1).toNatClampNeg) + 1))) 27 ((I 15) - 1).toNatClampNeg) = 63 then (L_X8_part_A ht (upd (upd I 14 ((I 14) + 1)) 15 ((I 15) - 1)) (va_up A 26 (upd (A 26) ((I 15) - 1).toNatClampNeg ((A 26 ((I 15) - 1).toNatClampNeg) + 1))) J it dyn 63 ((va_up A 26 (upd (A 26) ((I 15) - 1).toNatClampNeg ((A 26 ((I 15) - 1).toNatClampNeg) + 1))) 28 ((I 15) - 1).toNatClampNeg) ((va_up A 26 (upd (A 26) ((I 15) - 1).toNatClampNeg ((A 26 ((I 15) - 1).toNatClampNeg) + 1))) 29 ((I 15) - 1).toNatClampNeg) x1 0) else (L_X8_part_A ht (upd (upd I 14 ((I 14) + 1)) 15 ((I 15) - 1)) (va_up A 26 (upd (A 26) ((I 15) - 1).toNatClampNeg ((A 26 ((I 15) - 1).toNatClampNeg) + 1))) J it dyn ((va_up A 26 (upd (A 26) ((I 15) - 1).toNatClampNeg ((A 26 ((I 15) - 1).toNatClampNeg) + 1))) 27 ((I 15) - 1).toNatClampNeg) ((va_up A 26 (upd (A 26) ((I 15) - 1).toNatClampNeg ((A 26 ((I 15) - 1).toNatClampNeg) + 1))) 28 ((I 15) - 1).toNatClampNeg) x1 0 0)) else (va_up A 26 (upd (A 26) ((I 15) - 1).toNatClampNeg ((A 26 ((I 15) - 1).toNatClampNeg) + 1)))))) (if ((va_up A 26 (upd (A 26) ((I 15) - 1).toNatClampNeg ((A 26 ((I 15) - 1).toNatClampNeg) + 1))) 26 ((I 15) - 1).toNatClampNeg) = 1 then J else (if ((va_up A 26 (upd (A 26) ((I 15) - 1).toNatClampNeg ((A 26 ((I 15) - 1).toNatClampNeg) + 1))) 26 ((I 15) - 1).toNatClampNeg) = 2 then (if ((va_up A 26 (upd (A 26) ((I 15) - 1).toNatClampNeg ((A 26 ((I 15) - 1).toNatClampNeg) + 1))) 27 ((I 15) - 1).toNatClampNeg) = 63 then J else (if (L_X8_here_r ht I (va_up A 26 (upd (A 26) ((I 15) - 1).toNatClampNeg ((A 26 ((I 15) - 1).toNatClampNeg) + 1))) J it dyn) = 41 then (L_X8_part_J ht (upd (upd I 14 ((I 14) + 1)) 15 ((I 15) - 1)) (va_up A 26 (upd (A 26) ((I 15) - 1).toNatClampNeg ((A 26 ((I 15) - 1).toNatClampNeg) + 1))) J it dyn ((va_up A 26 (upd (A 26) ((I 15) - 1).toNatClampNeg ((A 26 ((I 15) - 1).toNatClampNeg) + 1))) 27 ((I 15) - 1).toNatClampNeg) ((va_up A 26 (upd (A 26) ((I 15) - 1).toNatClampNeg ((A 26 ((I 15) - 1).toNatClampNeg) + 1))) 28 ((I 15) - 1).toNatClampNeg) x1 0 0) else J)) else (if (L_X8_here_r ht I (va_up A 26 (upd (A 26) ((I 15) - 1).toNatClampNeg ((A 26 ((I 15) - 1).toNatClampNeg) + 1))) J it dyn) = 41 then (if ((va_up A 26 (upd (A 26) ((I 15) - 1).toNatClampNeg ((A 26 ((I 15) - 1).toNatClampNeg) + 1))) 27 ((I 15) - 1).toNatClampNeg) = 63 then (L_X8_part_J ht (upd (upd I 14 ((I 14) + 1)) 15 ((I 15) - 1)) (va_up A 26 (upd (A 26) ((I 15) - 1).toNatClampNeg ((A 26 ((I 15) - 1).toNatClampNeg) + 1))) J it dyn 63 ((va_up A 26 (upd (A 26) ((I 15) - 1).toNatClampNeg ((A 26 ((I 15) - 1).toNatClampNeg) + 1))) 28 ((I 15) - 1).toNatClampNeg) ((va_up A 26 (upd (A 26) ((I 15) - 1).toNatClampNeg ((A 26 ((I 15) - 1).toNatClampNeg) + 1))) 29 ((I 15) - 1).toNatClampNeg) x1 0) else (L_X8_part_J ht (upd (upd I 14 ((I 14) + 1)) 15 ((I 15) - 1)) (va_up A 26 (upd (A 26) ((I 15) - 1).toNatClampNeg ((A 26 ((I 15) - 1).toNatClampNeg) + 1))) J it dyn ((va_up A 26 (upd (A 26) ((I 15) - 1).toNatClampNeg ((A 26 ((I 15) - 1).toNatClampNeg) + 1))) 27 ((I 15) - 1).toNatClampNeg) ((va_up A 26 (upd (A 26) ((I 15) - 1).toNatClampNeg ((A 26 ((I 15) - 1).toNatClampNeg) + 1))) 28 ((I 15) - 1).toNatClampNeg) x1 0 0)) else J))) it dyn) := hq
  have hS : ((vp_in ((I 15) - 1) 7) ∧ ((vp_in ((I 15) - 1) 7) ∧ ((S_X8_here ht I (va_up A 26 (upd (A 26) ((I 15) - 1).toNatClampNeg ((A 26 ((I 15) - 1).toNatClampNeg) + 1))) J it dyn) ∧ ((vp_in ((I 15) - 1) 7) ∧ (((((va_up A 26 (upd (A 26) ((I 15) - 1).toNatClampNeg ((A 26 ((I 15) - 1).toNatClampNeg) + 1))) 26 ((I 15) - 1).toNatClampNeg) = 1) → ((vp_in ((I 15) - 1) 7) ∧ (vp_in ((I 15) - 1) 7))) ∧ (¬ (((va_up A 26 (upd (A 26) ((I 15) - 1).toNatClampNeg ((A 26 ((I 15) - 1).toNatClampNeg) + 1))) 26 ((I 15) - 1).toNatClampNeg) = 1) → ((vp_in ((I 15) - 1) 7) ∧ (((((va_up A 26 (upd (A 26) ((I 15) - 1).toNatClampNeg ((A 26 ((I 15) - 1).toNatClampNeg) + 1))) 26 ((I 15) - 1).toNatClampNeg) = 2) → ((vp_in ((I 15) - 1) 7) ∧ (((((va_up A 26 (upd (A 26) ((I 15) - 1).toNatClampNeg ((A 26 ((I 15) - 1).toNatClampNeg) + 1))) 27 ((I 15) - 1).toNatClampNeg) = 63) → (vp_in ((I 15) - 1) 7)) ∧ (¬ (((va_up A 26 (upd (A 26) ((I 15) - 1).toNatClampNeg ((A 26 ((I 15) - 1).toNatClampNeg) + 1))) 27 ((I 15) - 1).toNatClampNeg) = 63) → (((L_X8_here_r ht I (va_up A 26 (upd (A 26) ((I 15) - 1).toNatClampNeg ((A 26 ((I 15) - 1).toNatClampNeg) + 1))) J it dyn) = 41) → ((vp_in ((I 15) - 1) 7) ∧ ((vp_in ((I 15) - 1) 7) ∧ ((vp_in ((I 15) - 1) 7) ∧ (S_X8_part ht (upd (upd I 14 ((I 14) + 1)) 15 ((I 15) - 1)) (va_up A 26 (upd (A 26) ((I 15) - 1).toNatClampNeg ((A 26 ((I 15) - 1).toNatClampNeg) + 1))) J it dyn ((va_up A 26 (upd (A 26) ((I 15) - 1).toNatClampNeg ((A 26 ((I 15) - 1).toNatClampNeg) + 1))) 27 ((I 15) - 1).toNatClampNeg) ((va_up A 26 (upd (A 26) ((I 15) - 1).toNatClampNeg ((A 26 ((I 15) - 1).toNatClampNeg) + 1))) 28 ((I 15) - 1).toNatClampNeg) x1 0 0))))))))) ∧ (¬ (((va_up A 26 (upd (A 26) ((I 15) - 1).toNatClampNeg ((A 26 ((I 15) - 1).toNatClampNeg) + 1))) 26 ((I 15) - 1).toNatClampNeg) = 2) → (((L_X8_here_r ht I (va_up A 26 (upd (A 26) ((I 15) - 1).toNatClampNeg ((A 26 ((I 15) - 1).toNatClampNeg) + 1))) J it dyn) = 41) → ((vp_in ((I 15) - 1) 7) ∧ (((((va_up A 26 (upd (A 26) ((I 15) - 1).toNatClampNeg ((A 26 ((I 15) - 1).toNatClampNeg) + 1))) 27 ((I 15) - 1).toNatClampNeg) = 63) → ((vp_in ((I 15) - 1) 7) ∧ ((vp_in ((I 15) - 1) 7) ∧ (S_X8_part ht (upd (upd I 14 ((I 14) + 1)) 15 ((I 15) - 1)) (va_up A 26 (upd (A 26) ((I 15) - 1).toNatClampNeg ((A 26 ((I 15) - 1).toNatClampNeg) + 1))) J it dyn 63 ((va_up A 26 (upd (A 26) ((I 15) - 1).toNatClampNeg ((A 26 ((I 15) - 1).toNatClampNeg) + 1))) 28 ((I 15) - 1).toNatClampNeg) ((va_up A 26 (upd (A 26) ((I 15) - 1).toNatClampNeg ((A 26 ((I 15) - 1).toNatClampNeg) + 1))) 29 ((I 15) - 1).toNatClampNeg) x1 0)))) ∧ (¬ (((va_up A 26 (upd (A 26) ((I 15) - 1).toNatClampNeg ((A 26 ((I 15) - 1).toNatClampNeg) + 1))) 27 ((I 15) - 1).toNatClampNeg) = 63) → ((vp_in ((I 15) - 1) 7) ∧ ((vp_in ((I 15) - 1) 7) ∧ (S_X8_part ht (upd (upd I 14 ((I 14) + 1)) 15 ((I 15) - 1)) (va_up A 26 (upd (A 26) ((I 15) - 1).toNatClampNeg ((A 26 ((I 15) - 1).toNatClampNeg) + 1))) J it dyn ((va_up A 26 (upd (A 26) ((I 15) - 1).toNatClampNeg ((A 26 ((I 15) - 1).toNatClampNeg) + 1))) 27 ((I 15) - 1).toNatClampNeg) ((va_up A 26 (upd (A 26) ((I 15) - 1).toNatClampNeg ((A 26 ((I 15) - 1).toNatClampNeg) + 1))) 28 ((I 15) - 1).toNatClampNeg) x1 0 0)))))))))))))))) := hS
  refine (show fsW G l mX8_goOn 1 0 0 0 0 Q 0 [(0, .inr (.inr (some 14))), (1, .inl x1)] [] (fs_mk ht I A J it dyn) from ?_)
  refine fs_aload_n dX8_goOn_0 rfl rfl ?_
  refine fs_getfield (v := .inl (I 15)) dX8_goOn_1 sf_X8_141 rfl rfl ?_
  refine fs_iconst (v := 1) dX8_goOn_4 rfl ?_
  refine fs_isub dX8_goOn_5 ?_
  refine fs_istore_n (L' := [(2, .inl ((I 15) - 1)), (0, .inr (.inr (some 14))), (1, .inl x1)]) dX8_goOn_6 rfl (by decide) rfl ?_
  refine fs_aload_n dX8_goOn_7 rfl rfl ?_
  refine fs_getfield (v := .inr (.inr (some 26))) dX8_goOn_8 sf_X8_53 rfl rfl ?_
  refine fs_iload_n dX8_goOn_11 rfl rfl ?_
  refine fs_dup2 dX8_goOn_12 rfl rfl ?_
  obtain ⟨ho1, hS⟩ := hS
  refine fs_iaload dX8_goOn_13 rfl ho1 ?_
  refine fs_iconst (v := 1) dX8_goOn_14 rfl ?_
  refine fs_iadd dX8_goOn_15 ?_
  obtain ⟨ho1, hS⟩ := hS
  refine fss_26 dX8_goOn_16 ho1 ?_
  refine fs_aload_n dX8_goOn_17 rfl rfl ?_
  obtain ⟨ho1, hS⟩ := hS
  refine fs_callV1 dX8_goOn_18 sv_X8_107 rfl ⟨_, rfl, rfl⟩ (c_X8_here G l ht I (va_up A 26 (upd (A 26) ((I 15) - 1).toNatClampNeg ((A 26 ((I 15) - 1).toNatClampNeg) + 1))) J it dyn ho1) rfl rfl (Nat.le_of_ble_eq_true rfl) (Nat.le_of_ble_eq_true rfl) (Nat.le_of_ble_eq_true rfl) (Nat.le_of_ble_eq_true rfl) ?_
  refine fs_istore_n (L' := [(3, .inl (L_X8_here_r ht I (va_up A 26 (upd (A 26) ((I 15) - 1).toNatClampNeg ((A 26 ((I 15) - 1).toNatClampNeg) + 1))) J it dyn)), (2, .inl ((I 15) - 1)), (0, .inr (.inr (some 14))), (1, .inl x1)]) dX8_goOn_21 rfl (by decide) rfl ?_
  refine fs_aload_n dX8_goOn_22 rfl rfl ?_
  refine fs_getfield (v := .inr (.inr (some 26))) dX8_goOn_23 sf_X8_53 rfl rfl ?_
  refine fs_iload_n dX8_goOn_26 rfl rfl ?_
  obtain ⟨ho1, hS⟩ := hS
  refine fs_iaload dX8_goOn_27 rfl ho1 ?_
  refine fs_iconst (v := 1) dX8_goOn_28 rfl ?_
  refine fs_icmp_ne 84 dX8_goOn_29 (by decide) (fun c_29 : ¬ ((va_up A 26 (upd (A 26) ((I 15) - 1).toNatClampNeg ((A 26 ((I 15) - 1).toNatClampNeg) + 1))) 26 ((I 15) - 1).toNatClampNeg) = 1 => ?_) (fun c_29 : ((va_up A 26 (upd (A 26) ((I 15) - 1).toNatClampNeg ((A 26 ((I 15) - 1).toNatClampNeg) + 1))) 26 ((I 15) - 1).toNatClampNeg) = 1 => ?_)
  · have hS := hS.2 c_29
    refine fs_aload_n dX8_goOn_84 rfl rfl ?_
    refine fs_getfield (v := .inr (.inr (some 26))) dX8_goOn_85 sf_X8_53 rfl rfl ?_
    refine fs_iload_n dX8_goOn_88 rfl rfl ?_
    obtain ⟨ho1, hS⟩ := hS
    refine fs_iaload dX8_goOn_89 rfl ho1 ?_
    refine fs_iconst (v := 2) dX8_goOn_90 rfl ?_
    refine fs_icmp_ne 148 dX8_goOn_91 (by decide) (fun c_91 : ¬ ((va_up A 26 (upd (A 26) ((I 15) - 1).toNatClampNeg ((A 26 ((I 15) - 1).toNatClampNeg) + 1))) 26 ((I 15) - 1).toNatClampNeg) = 2 => ?_) (fun c_91 : ((va_up A 26 (upd (A 26) ((I 15) - 1).toNatClampNeg ((A 26 ((I 15) - 1).toNatClampNeg) + 1))) 26 ((I 15) - 1).toNatClampNeg) = 2 => ?_)
    · have hS := hS.2 c_91
      refine fs_iload_n dX8_goOn_148 rfl rfl ?_
      refine fs_bipush (v := 41) dX8_goOn_149 rfl ?_
      refine fs_icmp_eq 157 dX8_goOn_151 (by decide) (fun c_151 : (L_X8_here_r ht I (va_up A 26 (upd (A 26) ((I 15) - 1).toNatClampNeg ((A 26 ((I 15) - 1).toNatClampNeg) + 1))) J it dyn) = 41 => ?_) (fun c_151 : ¬ ((L_X8_here_r ht I (va_up A 26 (upd (A 26) ((I 15) - 1).toNatClampNeg ((A 26 ((I 15) - 1).toNatClampNeg) + 1))) J it dyn) = 41) => ?_)
      · have hS := hS c_151
        refine fs_aload_n dX8_goOn_157 rfl rfl ?_
        refine fs_dup dX8_goOn_158 rfl ?_
        refine fs_getfield (v := .inl (I 14)) dX8_goOn_159 sf_X8_104 rfl rfl ?_
        refine fs_iconst (v := 1) dX8_goOn_162 rfl ?_
        refine fs_iadd dX8_goOn_163 ?_
        refine fsp_14 dX8_goOn_164 sp_X8_104 ?_
        refine fs_aload_n dX8_goOn_167 rfl rfl ?_
        refine fs_dup dX8_goOn_168 rfl ?_
        refine fs_getfield (v := .inl (I 15)) dX8_goOn_169 sf_X8_141 rfl rfl ?_
        refine fs_iconst (v := 1) dX8_goOn_172 rfl ?_
        refine fs_isub dX8_goOn_173 ?_
        refine fsp_15 dX8_goOn_174 sp_X8_141 ?_
        refine fs_aload_n dX8_goOn_177 rfl rfl ?_
        refine fs_getfield (v := .inr (.inr (some 27))) dX8_goOn_178 sf_X8_56 rfl rfl ?_
        refine fs_iload_n dX8_goOn_181 rfl rfl ?_
        obtain ⟨ho1, hS⟩ := hS
        refine fs_iaload dX8_goOn_182 rfl ho1 ?_
        refine fs_bipush (v := 63) dX8_goOn_183 rfl ?_
        have hR_185 := hS
        have key_230 : fsW G l mX8_goOn 1 0 0 0 0 Q 230 [(0, .inr (.inr (some 14))), (1, .inl x1), (2, .inl ((I 15) - 1)), (3, .inl (L_X8_here_r ht I (va_up A 26 (upd (A 26) ((I 15) - 1).toNatClampNeg ((A 26 ((I 15) - 1).toNatClampNeg) + 1))) J it dyn))] [.inl (if ((va_up A 26 (upd (A 26) ((I 15) - 1).toNatClampNeg ((A 26 ((I 15) - 1).toNatClampNeg) + 1))) 27 ((I 15) - 1).toNatClampNeg) = 63 then (L_X8_part_r ht (upd (upd I 14 ((I 14) + 1)) 15 ((I 15) - 1)) (va_up A 26 (upd (A 26) ((I 15) - 1).toNatClampNeg ((A 26 ((I 15) - 1).toNatClampNeg) + 1))) J it dyn 63 ((va_up A 26 (upd (A 26) ((I 15) - 1).toNatClampNeg ((A 26 ((I 15) - 1).toNatClampNeg) + 1))) 28 ((I 15) - 1).toNatClampNeg) ((va_up A 26 (upd (A 26) ((I 15) - 1).toNatClampNeg ((A 26 ((I 15) - 1).toNatClampNeg) + 1))) 29 ((I 15) - 1).toNatClampNeg) x1 0) else (L_X8_part_r ht (upd (upd I 14 ((I 14) + 1)) 15 ((I 15) - 1)) (va_up A 26 (upd (A 26) ((I 15) - 1).toNatClampNeg ((A 26 ((I 15) - 1).toNatClampNeg) + 1))) J it dyn ((va_up A 26 (upd (A 26) ((I 15) - 1).toNatClampNeg ((A 26 ((I 15) - 1).toNatClampNeg) + 1))) 27 ((I 15) - 1).toNatClampNeg) ((va_up A 26 (upd (A 26) ((I 15) - 1).toNatClampNeg ((A 26 ((I 15) - 1).toNatClampNeg) + 1))) 28 ((I 15) - 1).toNatClampNeg) x1 0 0) : Int32)] (fs_mk ht (upd (upd I 14 ((I 14) + 1)) 15 ((I 15) - 1)) (if ((va_up A 26 (upd (A 26) ((I 15) - 1).toNatClampNeg ((A 26 ((I 15) - 1).toNatClampNeg) + 1))) 27 ((I 15) - 1).toNatClampNeg) = 63 then (L_X8_part_A ht (upd (upd I 14 ((I 14) + 1)) 15 ((I 15) - 1)) (va_up A 26 (upd (A 26) ((I 15) - 1).toNatClampNeg ((A 26 ((I 15) - 1).toNatClampNeg) + 1))) J it dyn 63 ((va_up A 26 (upd (A 26) ((I 15) - 1).toNatClampNeg ((A 26 ((I 15) - 1).toNatClampNeg) + 1))) 28 ((I 15) - 1).toNatClampNeg) ((va_up A 26 (upd (A 26) ((I 15) - 1).toNatClampNeg ((A 26 ((I 15) - 1).toNatClampNeg) + 1))) 29 ((I 15) - 1).toNatClampNeg) x1 0) else (L_X8_part_A ht (upd (upd I 14 ((I 14) + 1)) 15 ((I 15) - 1)) (va_up A 26 (upd (A 26) ((I 15) - 1).toNatClampNeg ((A 26 ((I 15) - 1).toNatClampNeg) + 1))) J it dyn ((va_up A 26 (upd (A 26) ((I 15) - 1).toNatClampNeg ((A 26 ((I 15) - 1).toNatClampNeg) + 1))) 27 ((I 15) - 1).toNatClampNeg) ((va_up A 26 (upd (A 26) ((I 15) - 1).toNatClampNeg ((A 26 ((I 15) - 1).toNatClampNeg) + 1))) 28 ((I 15) - 1).toNatClampNeg) x1 0 0)) (if ((va_up A 26 (upd (A 26) ((I 15) - 1).toNatClampNeg ((A 26 ((I 15) - 1).toNatClampNeg) + 1))) 27 ((I 15) - 1).toNatClampNeg) = 63 then (L_X8_part_J ht (upd (upd I 14 ((I 14) + 1)) 15 ((I 15) - 1)) (va_up A 26 (upd (A 26) ((I 15) - 1).toNatClampNeg ((A 26 ((I 15) - 1).toNatClampNeg) + 1))) J it dyn 63 ((va_up A 26 (upd (A 26) ((I 15) - 1).toNatClampNeg ((A 26 ((I 15) - 1).toNatClampNeg) + 1))) 28 ((I 15) - 1).toNatClampNeg) ((va_up A 26 (upd (A 26) ((I 15) - 1).toNatClampNeg ((A 26 ((I 15) - 1).toNatClampNeg) + 1))) 29 ((I 15) - 1).toNatClampNeg) x1 0) else (L_X8_part_J ht (upd (upd I 14 ((I 14) + 1)) 15 ((I 15) - 1)) (va_up A 26 (upd (A 26) ((I 15) - 1).toNatClampNeg ((A 26 ((I 15) - 1).toNatClampNeg) + 1))) J it dyn ((va_up A 26 (upd (A 26) ((I 15) - 1).toNatClampNeg ((A 26 ((I 15) - 1).toNatClampNeg) + 1))) 27 ((I 15) - 1).toNatClampNeg) ((va_up A 26 (upd (A 26) ((I 15) - 1).toNatClampNeg ((A 26 ((I 15) - 1).toNatClampNeg) + 1))) 28 ((I 15) - 1).toNatClampNeg) x1 0 0)) it dyn) := by
          have k9 := hq
          try simp only [if_neg c_29, if_neg c_91, if_pos c_151] at k9 ⊢
          exact fs_iret dX8_goOn_230 rfl rfl k9
        refine fs_icmp_ne 211 dX8_goOn_185 (by decide) (fun c_185 : ¬ ((va_up A 26 (upd (A 26) ((I 15) - 1).toNatClampNeg ((A 26 ((I 15) - 1).toNatClampNeg) + 1))) 27 ((I 15) - 1).toNatClampNeg) = 63 => ?_) (fun c_185 : ((va_up A 26 (upd (A 26) ((I 15) - 1).toNatClampNeg ((A 26 ((I 15) - 1).toNatClampNeg) + 1))) 27 ((I 15) - 1).toNatClampNeg) = 63 => ?_)
        · have hS := hR_185.2 c_185
          refine fs_aload_n dX8_goOn_211 rfl rfl ?_
          refine fs_aload_n dX8_goOn_212 rfl rfl ?_
          refine fs_getfield (v := .inr (.inr (some 27))) dX8_goOn_213 sf_X8_56 rfl rfl ?_
          refine fs_iload_n dX8_goOn_216 rfl rfl ?_
          obtain ⟨ho1, hS⟩ := hS
          refine fs_iaload dX8_goOn_217 rfl ho1 ?_
          refine fs_aload_n dX8_goOn_218 rfl rfl ?_
          refine fs_getfield (v := .inr (.inr (some 28))) dX8_goOn_219 sf_X8_59 rfl rfl ?_
          refine fs_iload_n dX8_goOn_222 rfl rfl ?_
          obtain ⟨ho1, hS⟩ := hS
          refine fs_iaload dX8_goOn_223 rfl ho1 ?_
          refine fs_iload_n dX8_goOn_224 rfl rfl ?_
          refine fs_iconst (v := 0) dX8_goOn_225 rfl ?_
          refine fs_lconst (v := 0) dX8_goOn_226 rfl ?_
          have ho1 := hS
          refine fs_callV1 dX8_goOn_227 sv_X8_133 rfl ⟨_, rfl, rfl⟩ (c_X8_part G l ht (upd (upd I 14 ((I 14) + 1)) 15 ((I 15) - 1)) (va_up A 26 (upd (A 26) ((I 15) - 1).toNatClampNeg ((A 26 ((I 15) - 1).toNatClampNeg) + 1))) J it dyn ((va_up A 26 (upd (A 26) ((I 15) - 1).toNatClampNeg ((A 26 ((I 15) - 1).toNatClampNeg) + 1))) 27 ((I 15) - 1).toNatClampNeg) ((va_up A 26 (upd (A 26) ((I 15) - 1).toNatClampNeg ((A 26 ((I 15) - 1).toNatClampNeg) + 1))) 28 ((I 15) - 1).toNatClampNeg) x1 0 0 ho1) rfl rfl (Nat.le_of_ble_eq_true rfl) (Nat.le_of_ble_eq_true rfl) (Nat.le_of_ble_eq_true rfl) (Nat.le_of_ble_eq_true rfl) ?_
          refine fs_reL [2, 3, 1, 0] rfl ?_
          have k9 := key_230
          try simp only [if_neg c_29, if_neg c_91, if_pos c_151, if_neg c_185] at k9 ⊢
          exact k9
        · have hS := hR_185.1 c_185
          refine fs_aload_n dX8_goOn_188 rfl rfl ?_
          refine fs_bipush (v := 63) dX8_goOn_189 rfl ?_
          refine fs_aload_n dX8_goOn_191 rfl rfl ?_
          refine fs_getfield (v := .inr (.inr (some 28))) dX8_goOn_192 sf_X8_59 rfl rfl ?_
          refine fs_iload_n dX8_goOn_195 rfl rfl ?_
          obtain ⟨ho1, hS⟩ := hS
          refine fs_iaload dX8_goOn_196 rfl ho1 ?_
          refine fs_aload_n dX8_goOn_197 rfl rfl ?_
          refine fs_getfield (v := .inr (.inr (some 29))) dX8_goOn_198 sf_X8_62 rfl rfl ?_
          refine fs_iload_n dX8_goOn_201 rfl rfl ?_
          obtain ⟨ho1, hS⟩ := hS
          refine fs_iaload dX8_goOn_202 rfl ho1 ?_
          refine fs_iload_n dX8_goOn_203 rfl rfl ?_
          refine fs_lconst (v := 0) dX8_goOn_204 rfl ?_
          have ho1 := hS
          refine fs_callV1 dX8_goOn_205 sv_X8_133 rfl ⟨_, rfl, rfl⟩ (c_X8_part G l ht (upd (upd I 14 ((I 14) + 1)) 15 ((I 15) - 1)) (va_up A 26 (upd (A 26) ((I 15) - 1).toNatClampNeg ((A 26 ((I 15) - 1).toNatClampNeg) + 1))) J it dyn 63 ((va_up A 26 (upd (A 26) ((I 15) - 1).toNatClampNeg ((A 26 ((I 15) - 1).toNatClampNeg) + 1))) 28 ((I 15) - 1).toNatClampNeg) ((va_up A 26 (upd (A 26) ((I 15) - 1).toNatClampNeg ((A 26 ((I 15) - 1).toNatClampNeg) + 1))) 29 ((I 15) - 1).toNatClampNeg) x1 0 ho1) rfl rfl (Nat.le_of_ble_eq_true rfl) (Nat.le_of_ble_eq_true rfl) (Nat.le_of_ble_eq_true rfl) (Nat.le_of_ble_eq_true rfl) ?_
          refine fs_goto 230 dX8_goOn_208 (by decide) ?_
          refine fs_reL [2, 3, 1, 0] rfl ?_
          have k9 := key_230
          try simp only [if_neg c_29, if_neg c_91, if_pos c_151, if_pos c_185] at k9 ⊢
          exact k9
      · refine fs_bipush (v := (-2)) dX8_goOn_154 rfl ?_
        have k9 := hq
        try simp only [if_neg c_29, if_neg c_91, if_neg c_151] at k9 ⊢
        exact fs_iret dX8_goOn_156 rfl rfl k9
    · have hS := hS.1 c_91
      refine fs_aload_n dX8_goOn_94 rfl rfl ?_
      refine fs_getfield (v := .inr (.inr (some 27))) dX8_goOn_95 sf_X8_56 rfl rfl ?_
      refine fs_iload_n dX8_goOn_98 rfl rfl ?_
      obtain ⟨ho1, hS⟩ := hS
      refine fs_iaload dX8_goOn_99 rfl ho1 ?_
      refine fs_bipush (v := 63) dX8_goOn_100 rfl ?_
      refine fs_icmp_ne 148 dX8_goOn_102 (by decide) (fun c_102 : ¬ ((va_up A 26 (upd (A 26) ((I 15) - 1).toNatClampNeg ((A 26 ((I 15) - 1).toNatClampNeg) + 1))) 27 ((I 15) - 1).toNatClampNeg) = 63 => ?_) (fun c_102 : ((va_up A 26 (upd (A 26) ((I 15) - 1).toNatClampNeg ((A 26 ((I 15) - 1).toNatClampNeg) + 1))) 27 ((I 15) - 1).toNatClampNeg) = 63 => ?_)
      · have hS := hS.2 c_102
        refine fs_iload_n dX8_goOn_148 rfl rfl ?_
        refine fs_bipush (v := 41) dX8_goOn_149 rfl ?_
        refine fs_icmp_eq 157 dX8_goOn_151 (by decide) (fun c_151 : (L_X8_here_r ht I (va_up A 26 (upd (A 26) ((I 15) - 1).toNatClampNeg ((A 26 ((I 15) - 1).toNatClampNeg) + 1))) J it dyn) = 41 => ?_) (fun c_151 : ¬ ((L_X8_here_r ht I (va_up A 26 (upd (A 26) ((I 15) - 1).toNatClampNeg ((A 26 ((I 15) - 1).toNatClampNeg) + 1))) J it dyn) = 41) => ?_)
        · have hS := hS c_151
          refine fs_aload_n dX8_goOn_157 rfl rfl ?_
          refine fs_dup dX8_goOn_158 rfl ?_
          refine fs_getfield (v := .inl (I 14)) dX8_goOn_159 sf_X8_104 rfl rfl ?_
          refine fs_iconst (v := 1) dX8_goOn_162 rfl ?_
          refine fs_iadd dX8_goOn_163 ?_
          refine fsp_14 dX8_goOn_164 sp_X8_104 ?_
          refine fs_aload_n dX8_goOn_167 rfl rfl ?_
          refine fs_dup dX8_goOn_168 rfl ?_
          refine fs_getfield (v := .inl (I 15)) dX8_goOn_169 sf_X8_141 rfl rfl ?_
          refine fs_iconst (v := 1) dX8_goOn_172 rfl ?_
          refine fs_isub dX8_goOn_173 ?_
          refine fsp_15 dX8_goOn_174 sp_X8_141 ?_
          refine fs_aload_n dX8_goOn_177 rfl rfl ?_
          refine fs_getfield (v := .inr (.inr (some 27))) dX8_goOn_178 sf_X8_56 rfl rfl ?_
          refine fs_iload_n dX8_goOn_181 rfl rfl ?_
          obtain ⟨ho1, hS⟩ := hS
          refine fs_iaload dX8_goOn_182 rfl ho1 ?_
          refine fs_bipush (v := 63) dX8_goOn_183 rfl ?_
          refine fs_icmp_ne 211 dX8_goOn_185 (by decide) (fun c_185 : ¬ ((va_up A 26 (upd (A 26) ((I 15) - 1).toNatClampNeg ((A 26 ((I 15) - 1).toNatClampNeg) + 1))) 27 ((I 15) - 1).toNatClampNeg) = 63 => ?_) (fun c_185 : ((va_up A 26 (upd (A 26) ((I 15) - 1).toNatClampNeg ((A 26 ((I 15) - 1).toNatClampNeg) + 1))) 27 ((I 15) - 1).toNatClampNeg) = 63 => ?_)
          · refine fs_aload_n dX8_goOn_211 rfl rfl ?_
            refine fs_aload_n dX8_goOn_212 rfl rfl ?_
            refine fs_getfield (v := .inr (.inr (some 27))) dX8_goOn_213 sf_X8_56 rfl rfl ?_
            refine fs_iload_n dX8_goOn_216 rfl rfl ?_
            obtain ⟨ho1, hS⟩ := hS
            refine fs_iaload dX8_goOn_217 rfl ho1 ?_
            refine fs_aload_n dX8_goOn_218 rfl rfl ?_
            refine fs_getfield (v := .inr (.inr (some 28))) dX8_goOn_219 sf_X8_59 rfl rfl ?_
            refine fs_iload_n dX8_goOn_222 rfl rfl ?_
            obtain ⟨ho1, hS⟩ := hS
            refine fs_iaload dX8_goOn_223 rfl ho1 ?_
            refine fs_iload_n dX8_goOn_224 rfl rfl ?_
            refine fs_iconst (v := 0) dX8_goOn_225 rfl ?_
            refine fs_lconst (v := 0) dX8_goOn_226 rfl ?_
            have ho1 := hS
            refine fs_callV1 dX8_goOn_227 sv_X8_133 rfl ⟨_, rfl, rfl⟩ (c_X8_part G l ht (upd (upd I 14 ((I 14) + 1)) 15 ((I 15) - 1)) (va_up A 26 (upd (A 26) ((I 15) - 1).toNatClampNeg ((A 26 ((I 15) - 1).toNatClampNeg) + 1))) J it dyn ((va_up A 26 (upd (A 26) ((I 15) - 1).toNatClampNeg ((A 26 ((I 15) - 1).toNatClampNeg) + 1))) 27 ((I 15) - 1).toNatClampNeg) ((va_up A 26 (upd (A 26) ((I 15) - 1).toNatClampNeg ((A 26 ((I 15) - 1).toNatClampNeg) + 1))) 28 ((I 15) - 1).toNatClampNeg) x1 0 0 ho1) rfl rfl (Nat.le_of_ble_eq_true rfl) (Nat.le_of_ble_eq_true rfl) (Nat.le_of_ble_eq_true rfl) (Nat.le_of_ble_eq_true rfl) ?_
            have k9 := hq
            try simp only [if_neg c_29, if_pos c_91, if_neg c_102, if_pos c_151] at k9 ⊢
            exact fs_iret dX8_goOn_230 rfl rfl k9
          · exact absurd c_185 c_102
        · refine fs_bipush (v := (-2)) dX8_goOn_154 rfl ?_
          have k9 := hq
          try simp only [if_neg c_29, if_pos c_91, if_neg c_102, if_neg c_151] at k9 ⊢
          exact fs_iret dX8_goOn_156 rfl rfl k9
      · have hS := hS.1 c_102
        refine fs_aload_n dX8_goOn_105 rfl rfl ?_
        refine fs_getfield (v := .inr (.inr (some 29))) dX8_goOn_106 sf_X8_62 rfl rfl ?_
        refine fs_iload_n dX8_goOn_109 rfl rfl ?_
        refine fs_iload_n dX8_goOn_110 rfl rfl ?_
        have ho1 := hS
        refine fss_29 dX8_goOn_111 ho1 ?_
        refine fs_aload_n dX8_goOn_112 rfl rfl ?_
        refine fs_iload_n dX8_goOn_113 rfl rfl ?_
        refine fs_bipush (v := 58) dX8_goOn_114 rfl ?_
        have key_132 : fsW G l mX8_goOn 1 0 0 0 0 Q 132 [(0, .inr (.inr (some 14))), (1, .inl x1), (2, .inl ((I 15) - 1)), (3, .inl (L_X8_here_r ht I (va_up A 26 (upd (A 26) ((I 15) - 1).toNatClampNeg ((A 26 ((I 15) - 1).toNatClampNeg) + 1))) J it dyn))] [.inl (if (L_X8_here_r ht I (va_up A 26 (upd (A 26) ((I 15) - 1).toNatClampNeg ((A 26 ((I 15) - 1).toNatClampNeg) + 1))) J it dyn) = 58 then ((I 14) + 1) else (I 14) : Int32), .inr (.inr (some 14))] (fs_mk ht I (va_up (va_up A 26 (upd (A 26) ((I 15) - 1).toNatClampNeg ((A 26 ((I 15) - 1).toNatClampNeg) + 1))) 29 (upd ((va_up A 26 (upd (A 26) ((I 15) - 1).toNatClampNeg ((A 26 ((I 15) - 1).toNatClampNeg) + 1))) 29) ((I 15) - 1).toNatClampNeg x1)) J it dyn) := by
          refine fsp_14 dX8_goOn_132 sp_X8_104 ?_
          refine fs_iload_n dX8_goOn_135 rfl rfl ?_
          refine fs_bipush (v := 58) dX8_goOn_136 rfl ?_
          have key_147 : fsW G l mX8_goOn 1 0 0 0 0 Q 147 [(0, .inr (.inr (some 14))), (1, .inl x1), (2, .inl ((I 15) - 1)), (3, .inl (L_X8_here_r ht I (va_up A 26 (upd (A 26) ((I 15) - 1).toNatClampNeg ((A 26 ((I 15) - 1).toNatClampNeg) + 1))) J it dyn))] [.inl (if (L_X8_here_r ht I (va_up A 26 (upd (A 26) ((I 15) - 1).toNatClampNeg ((A 26 ((I 15) - 1).toNatClampNeg) + 1))) J it dyn) = 58 then (-1) else (-2) : Int32)] (fs_mk ht (upd I 14 (if (L_X8_here_r ht I (va_up A 26 (upd (A 26) ((I 15) - 1).toNatClampNeg ((A 26 ((I 15) - 1).toNatClampNeg) + 1))) J it dyn) = 58 then ((I 14) + 1) else (I 14) : Int32)) (va_up (va_up A 26 (upd (A 26) ((I 15) - 1).toNatClampNeg ((A 26 ((I 15) - 1).toNatClampNeg) + 1))) 29 (upd ((va_up A 26 (upd (A 26) ((I 15) - 1).toNatClampNeg ((A 26 ((I 15) - 1).toNatClampNeg) + 1))) 29) ((I 15) - 1).toNatClampNeg x1)) J it dyn) := by
            have k9 := hq
            try simp only [if_neg c_29, if_pos c_91, if_pos c_102] at k9 ⊢
            exact fs_iret dX8_goOn_147 rfl rfl k9
          refine fs_icmp_ne 145 dX8_goOn_138 (by decide) (fun c_138 : ¬ (L_X8_here_r ht I (va_up A 26 (upd (A 26) ((I 15) - 1).toNatClampNeg ((A 26 ((I 15) - 1).toNatClampNeg) + 1))) J it dyn) = 58 => ?_) (fun c_138 : (L_X8_here_r ht I (va_up A 26 (upd (A 26) ((I 15) - 1).toNatClampNeg ((A 26 ((I 15) - 1).toNatClampNeg) + 1))) J it dyn) = 58 => ?_)
          · refine fs_bipush (v := (-2)) dX8_goOn_145 rfl ?_
            have k9 := key_147
            try simp only [if_neg c_29, if_pos c_91, if_pos c_102, if_neg c_138] at k9 ⊢
            exact k9
          · refine fs_iconst (v := (-1)) dX8_goOn_141 rfl ?_
            refine fs_goto 147 dX8_goOn_142 (by decide) ?_
            have k9 := key_147
            try simp only [if_neg c_29, if_pos c_91, if_pos c_102, if_pos c_138] at k9 ⊢
            exact k9
        refine fs_icmp_ne 128 dX8_goOn_116 (by decide) (fun c_116 : ¬ (L_X8_here_r ht I (va_up A 26 (upd (A 26) ((I 15) - 1).toNatClampNeg ((A 26 ((I 15) - 1).toNatClampNeg) + 1))) J it dyn) = 58 => ?_) (fun c_116 : (L_X8_here_r ht I (va_up A 26 (upd (A 26) ((I 15) - 1).toNatClampNeg ((A 26 ((I 15) - 1).toNatClampNeg) + 1))) J it dyn) = 58 => ?_)
        · refine fs_aload_n dX8_goOn_128 rfl rfl ?_
          refine fs_getfield (v := .inl (I 14)) dX8_goOn_129 sf_X8_104 rfl rfl ?_
          refine fs_reL [2, 3, 1, 0] rfl ?_
          have k9 := key_132
          try simp only [if_neg c_29, if_pos c_91, if_pos c_102, if_neg c_116] at k9 ⊢
          exact k9
        · refine fs_aload_n dX8_goOn_119 rfl rfl ?_
          refine fs_getfield (v := .inl (I 14)) dX8_goOn_120 sf_X8_104 rfl rfl ?_
          refine fs_iconst (v := 1) dX8_goOn_123 rfl ?_
          refine fs_iadd dX8_goOn_124 ?_
          refine fs_goto 132 dX8_goOn_125 (by decide) ?_
          refine fs_reL [2, 3, 1, 0] rfl ?_
          have k9 := key_132
          try simp only [if_neg c_29, if_pos c_91, if_pos c_102, if_pos c_116] at k9 ⊢
          exact k9
  · have hS := hS.1 c_29
    refine fs_aload_n dX8_goOn_32 rfl rfl ?_
    refine fs_getfield (v := .inr (.inr (some 28))) dX8_goOn_33 sf_X8_59 rfl rfl ?_
    refine fs_iload_n dX8_goOn_36 rfl rfl ?_
    refine fs_iload_n dX8_goOn_37 rfl rfl ?_
    obtain ⟨ho1, hS⟩ := hS
    refine fss_28 dX8_goOn_38 ho1 ?_
    refine fs_aload_n dX8_goOn_39 rfl rfl ?_
    refine fs_getfield (v := .inr (.inr (some 27))) dX8_goOn_40 sf_X8_56 rfl rfl ?_
    refine fs_iload_n dX8_goOn_43 rfl rfl ?_
    refine fs_iload_n dX8_goOn_44 rfl rfl ?_
    have ho1 := hS
    refine fss_27 dX8_goOn_45 ho1 ?_
    refine fs_aload_n dX8_goOn_46 rfl rfl ?_
    refine fs_iload_n dX8_goOn_47 rfl rfl ?_
    refine fs_callS1 dX8_goOn_48 sv_X8_144 (c_X8_isSign G l ht I (va_up (va_up (va_up A 26 (upd (A 26) ((I 15) - 1).toNatClampNeg ((A 26 ((I 15) - 1).toNatClampNeg) + 1))) 28 (upd ((va_up A 26 (upd (A 26) ((I 15) - 1).toNatClampNeg ((A 26 ((I 15) - 1).toNatClampNeg) + 1))) 28) ((I 15) - 1).toNatClampNeg x1)) 27 (upd ((va_up (va_up A 26 (upd (A 26) ((I 15) - 1).toNatClampNeg ((A 26 ((I 15) - 1).toNatClampNeg) + 1))) 28 (upd ((va_up A 26 (upd (A 26) ((I 15) - 1).toNatClampNeg ((A 26 ((I 15) - 1).toNatClampNeg) + 1))) 28) ((I 15) - 1).toNatClampNeg x1)) 27) ((I 15) - 1).toNatClampNeg (L_X8_here_r ht I (va_up A 26 (upd (A 26) ((I 15) - 1).toNatClampNeg ((A 26 ((I 15) - 1).toNatClampNeg) + 1))) J it dyn))) J it dyn (L_X8_here_r ht I (va_up A 26 (upd (A 26) ((I 15) - 1).toNatClampNeg ((A 26 ((I 15) - 1).toNatClampNeg) + 1))) J it dyn)) rfl rfl (Nat.le_of_ble_eq_true rfl) (Nat.le_of_ble_eq_true rfl) (Nat.le_of_ble_eq_true rfl) (Nat.le_of_ble_eq_true rfl) ?_
    have key_67 : fsW G l mX8_goOn 1 0 0 0 0 Q 67 [(0, .inr (.inr (some 14))), (1, .inl x1), (2, .inl ((I 15) - 1)), (3, .inl (L_X8_here_r ht I (va_up A 26 (upd (A 26) ((I 15) - 1).toNatClampNeg ((A 26 ((I 15) - 1).toNatClampNeg) + 1))) J it dyn))] [.inl (if (L_X8_isSign_r ht I (va_up (va_up (va_up A 26 (upd (A 26) ((I 15) - 1).toNatClampNeg ((A 26 ((I 15) - 1).toNatClampNeg) + 1))) 28 (upd ((va_up A 26 (upd (A 26) ((I 15) - 1).toNatClampNeg ((A 26 ((I 15) - 1).toNatClampNeg) + 1))) 28) ((I 15) - 1).toNatClampNeg x1)) 27 (upd ((va_up (va_up A 26 (upd (A 26) ((I 15) - 1).toNatClampNeg ((A 26 ((I 15) - 1).toNatClampNeg) + 1))) 28 (upd ((va_up A 26 (upd (A 26) ((I 15) - 1).toNatClampNeg ((A 26 ((I 15) - 1).toNatClampNeg) + 1))) 28) ((I 15) - 1).toNatClampNeg x1)) 27) ((I 15) - 1).toNatClampNeg (L_X8_here_r ht I (va_up A 26 (upd (A 26) ((I 15) - 1).toNatClampNeg ((A 26 ((I 15) - 1).toNatClampNeg) + 1))) J it dyn))) J it dyn (L_X8_here_r ht I (va_up A 26 (upd (A 26) ((I 15) - 1).toNatClampNeg ((A 26 ((I 15) - 1).toNatClampNeg) + 1))) J it dyn)) = 0 then (I 14) else ((I 14) + 1) : Int32), .inr (.inr (some 14))] (fs_mk ht I (va_up (va_up (va_up A 26 (upd (A 26) ((I 15) - 1).toNatClampNeg ((A 26 ((I 15) - 1).toNatClampNeg) + 1))) 28 (upd ((va_up A 26 (upd (A 26) ((I 15) - 1).toNatClampNeg ((A 26 ((I 15) - 1).toNatClampNeg) + 1))) 28) ((I 15) - 1).toNatClampNeg x1)) 27 (upd ((va_up (va_up A 26 (upd (A 26) ((I 15) - 1).toNatClampNeg ((A 26 ((I 15) - 1).toNatClampNeg) + 1))) 28 (upd ((va_up A 26 (upd (A 26) ((I 15) - 1).toNatClampNeg ((A 26 ((I 15) - 1).toNatClampNeg) + 1))) 28) ((I 15) - 1).toNatClampNeg x1)) 27) ((I 15) - 1).toNatClampNeg (L_X8_here_r ht I (va_up A 26 (upd (A 26) ((I 15) - 1).toNatClampNeg ((A 26 ((I 15) - 1).toNatClampNeg) + 1))) J it dyn))) J it dyn) := by
      refine fsp_14 dX8_goOn_67 sp_X8_104 ?_
      refine fs_iload_n dX8_goOn_70 rfl rfl ?_
      refine fs_callS1 dX8_goOn_71 sv_X8_144 (c_X8_isSign G l ht (upd I 14 (if (L_X8_isSign_r ht I (va_up (va_up (va_up A 26 (upd (A 26) ((I 15) - 1).toNatClampNeg ((A 26 ((I 15) - 1).toNatClampNeg) + 1))) 28 (upd ((va_up A 26 (upd (A 26) ((I 15) - 1).toNatClampNeg ((A 26 ((I 15) - 1).toNatClampNeg) + 1))) 28) ((I 15) - 1).toNatClampNeg x1)) 27 (upd ((va_up (va_up A 26 (upd (A 26) ((I 15) - 1).toNatClampNeg ((A 26 ((I 15) - 1).toNatClampNeg) + 1))) 28 (upd ((va_up A 26 (upd (A 26) ((I 15) - 1).toNatClampNeg ((A 26 ((I 15) - 1).toNatClampNeg) + 1))) 28) ((I 15) - 1).toNatClampNeg x1)) 27) ((I 15) - 1).toNatClampNeg (L_X8_here_r ht I (va_up A 26 (upd (A 26) ((I 15) - 1).toNatClampNeg ((A 26 ((I 15) - 1).toNatClampNeg) + 1))) J it dyn))) J it dyn (L_X8_here_r ht I (va_up A 26 (upd (A 26) ((I 15) - 1).toNatClampNeg ((A 26 ((I 15) - 1).toNatClampNeg) + 1))) J it dyn)) = 0 then (I 14) else ((I 14) + 1) : Int32)) (va_up (va_up (va_up A 26 (upd (A 26) ((I 15) - 1).toNatClampNeg ((A 26 ((I 15) - 1).toNatClampNeg) + 1))) 28 (upd ((va_up A 26 (upd (A 26) ((I 15) - 1).toNatClampNeg ((A 26 ((I 15) - 1).toNatClampNeg) + 1))) 28) ((I 15) - 1).toNatClampNeg x1)) 27 (upd ((va_up (va_up A 26 (upd (A 26) ((I 15) - 1).toNatClampNeg ((A 26 ((I 15) - 1).toNatClampNeg) + 1))) 28 (upd ((va_up A 26 (upd (A 26) ((I 15) - 1).toNatClampNeg ((A 26 ((I 15) - 1).toNatClampNeg) + 1))) 28) ((I 15) - 1).toNatClampNeg x1)) 27) ((I 15) - 1).toNatClampNeg (L_X8_here_r ht I (va_up A 26 (upd (A 26) ((I 15) - 1).toNatClampNeg ((A 26 ((I 15) - 1).toNatClampNeg) + 1))) J it dyn))) J it dyn (L_X8_here_r ht I (va_up A 26 (upd (A 26) ((I 15) - 1).toNatClampNeg ((A 26 ((I 15) - 1).toNatClampNeg) + 1))) J it dyn)) rfl rfl (Nat.le_of_ble_eq_true rfl) (Nat.le_of_ble_eq_true rfl) (Nat.le_of_ble_eq_true rfl) (Nat.le_of_ble_eq_true rfl) ?_
      have key_83 : fsW G l mX8_goOn 1 0 0 0 0 Q 83 [(0, .inr (.inr (some 14))), (1, .inl x1), (2, .inl ((I 15) - 1)), (3, .inl (L_X8_here_r ht I (va_up A 26 (upd (A 26) ((I 15) - 1).toNatClampNeg ((A 26 ((I 15) - 1).toNatClampNeg) + 1))) J it dyn))] [.inl (if (L_X8_isSign_r ht (upd I 14 (if (L_X8_isSign_r ht I (va_up (va_up (va_up A 26 (upd (A 26) ((I 15) - 1).toNatClampNeg ((A 26 ((I 15) - 1).toNatClampNeg) + 1))) 28 (upd ((va_up A 26 (upd (A 26) ((I 15) - 1).toNatClampNeg ((A 26 ((I 15) - 1).toNatClampNeg) + 1))) 28) ((I 15) - 1).toNatClampNeg x1)) 27 (upd ((va_up (va_up A 26 (upd (A 26) ((I 15) - 1).toNatClampNeg ((A 26 ((I 15) - 1).toNatClampNeg) + 1))) 28 (upd ((va_up A 26 (upd (A 26) ((I 15) - 1).toNatClampNeg ((A 26 ((I 15) - 1).toNatClampNeg) + 1))) 28) ((I 15) - 1).toNatClampNeg x1)) 27) ((I 15) - 1).toNatClampNeg (L_X8_here_r ht I (va_up A 26 (upd (A 26) ((I 15) - 1).toNatClampNeg ((A 26 ((I 15) - 1).toNatClampNeg) + 1))) J it dyn))) J it dyn (L_X8_here_r ht I (va_up A 26 (upd (A 26) ((I 15) - 1).toNatClampNeg ((A 26 ((I 15) - 1).toNatClampNeg) + 1))) J it dyn)) = 0 then (I 14) else ((I 14) + 1) : Int32)) (va_up (va_up (va_up A 26 (upd (A 26) ((I 15) - 1).toNatClampNeg ((A 26 ((I 15) - 1).toNatClampNeg) + 1))) 28 (upd ((va_up A 26 (upd (A 26) ((I 15) - 1).toNatClampNeg ((A 26 ((I 15) - 1).toNatClampNeg) + 1))) 28) ((I 15) - 1).toNatClampNeg x1)) 27 (upd ((va_up (va_up A 26 (upd (A 26) ((I 15) - 1).toNatClampNeg ((A 26 ((I 15) - 1).toNatClampNeg) + 1))) 28 (upd ((va_up A 26 (upd (A 26) ((I 15) - 1).toNatClampNeg ((A 26 ((I 15) - 1).toNatClampNeg) + 1))) 28) ((I 15) - 1).toNatClampNeg x1)) 27) ((I 15) - 1).toNatClampNeg (L_X8_here_r ht I (va_up A 26 (upd (A 26) ((I 15) - 1).toNatClampNeg ((A 26 ((I 15) - 1).toNatClampNeg) + 1))) J it dyn))) J it dyn (L_X8_here_r ht I (va_up A 26 (upd (A 26) ((I 15) - 1).toNatClampNeg ((A 26 ((I 15) - 1).toNatClampNeg) + 1))) J it dyn)) = 0 then (-2) else (-1) : Int32)] (fs_mk ht (upd I 14 (if (L_X8_isSign_r ht I (va_up (va_up (va_up A 26 (upd (A 26) ((I 15) - 1).toNatClampNeg ((A 26 ((I 15) - 1).toNatClampNeg) + 1))) 28 (upd ((va_up A 26 (upd (A 26) ((I 15) - 1).toNatClampNeg ((A 26 ((I 15) - 1).toNatClampNeg) + 1))) 28) ((I 15) - 1).toNatClampNeg x1)) 27 (upd ((va_up (va_up A 26 (upd (A 26) ((I 15) - 1).toNatClampNeg ((A 26 ((I 15) - 1).toNatClampNeg) + 1))) 28 (upd ((va_up A 26 (upd (A 26) ((I 15) - 1).toNatClampNeg ((A 26 ((I 15) - 1).toNatClampNeg) + 1))) 28) ((I 15) - 1).toNatClampNeg x1)) 27) ((I 15) - 1).toNatClampNeg (L_X8_here_r ht I (va_up A 26 (upd (A 26) ((I 15) - 1).toNatClampNeg ((A 26 ((I 15) - 1).toNatClampNeg) + 1))) J it dyn))) J it dyn (L_X8_here_r ht I (va_up A 26 (upd (A 26) ((I 15) - 1).toNatClampNeg ((A 26 ((I 15) - 1).toNatClampNeg) + 1))) J it dyn)) = 0 then (I 14) else ((I 14) + 1) : Int32)) (va_up (va_up (va_up A 26 (upd (A 26) ((I 15) - 1).toNatClampNeg ((A 26 ((I 15) - 1).toNatClampNeg) + 1))) 28 (upd ((va_up A 26 (upd (A 26) ((I 15) - 1).toNatClampNeg ((A 26 ((I 15) - 1).toNatClampNeg) + 1))) 28) ((I 15) - 1).toNatClampNeg x1)) 27 (upd ((va_up (va_up A 26 (upd (A 26) ((I 15) - 1).toNatClampNeg ((A 26 ((I 15) - 1).toNatClampNeg) + 1))) 28 (upd ((va_up A 26 (upd (A 26) ((I 15) - 1).toNatClampNeg ((A 26 ((I 15) - 1).toNatClampNeg) + 1))) 28) ((I 15) - 1).toNatClampNeg x1)) 27) ((I 15) - 1).toNatClampNeg (L_X8_here_r ht I (va_up A 26 (upd (A 26) ((I 15) - 1).toNatClampNeg ((A 26 ((I 15) - 1).toNatClampNeg) + 1))) J it dyn))) J it dyn) := by
        have k9 := hq
        try simp only [if_pos c_29] at k9 ⊢
        exact fs_iret dX8_goOn_83 rfl rfl k9
      refine fs_if_eq 81 dX8_goOn_74 (by decide) (fun c_74 : (L_X8_isSign_r ht (upd I 14 (if (L_X8_isSign_r ht I (va_up (va_up (va_up A 26 (upd (A 26) ((I 15) - 1).toNatClampNeg ((A 26 ((I 15) - 1).toNatClampNeg) + 1))) 28 (upd ((va_up A 26 (upd (A 26) ((I 15) - 1).toNatClampNeg ((A 26 ((I 15) - 1).toNatClampNeg) + 1))) 28) ((I 15) - 1).toNatClampNeg x1)) 27 (upd ((va_up (va_up A 26 (upd (A 26) ((I 15) - 1).toNatClampNeg ((A 26 ((I 15) - 1).toNatClampNeg) + 1))) 28 (upd ((va_up A 26 (upd (A 26) ((I 15) - 1).toNatClampNeg ((A 26 ((I 15) - 1).toNatClampNeg) + 1))) 28) ((I 15) - 1).toNatClampNeg x1)) 27) ((I 15) - 1).toNatClampNeg (L_X8_here_r ht I (va_up A 26 (upd (A 26) ((I 15) - 1).toNatClampNeg ((A 26 ((I 15) - 1).toNatClampNeg) + 1))) J it dyn))) J it dyn (L_X8_here_r ht I (va_up A 26 (upd (A 26) ((I 15) - 1).toNatClampNeg ((A 26 ((I 15) - 1).toNatClampNeg) + 1))) J it dyn)) = 0 then (I 14) else ((I 14) + 1) : Int32)) (va_up (va_up (va_up A 26 (upd (A 26) ((I 15) - 1).toNatClampNeg ((A 26 ((I 15) - 1).toNatClampNeg) + 1))) 28 (upd ((va_up A 26 (upd (A 26) ((I 15) - 1).toNatClampNeg ((A 26 ((I 15) - 1).toNatClampNeg) + 1))) 28) ((I 15) - 1).toNatClampNeg x1)) 27 (upd ((va_up (va_up A 26 (upd (A 26) ((I 15) - 1).toNatClampNeg ((A 26 ((I 15) - 1).toNatClampNeg) + 1))) 28 (upd ((va_up A 26 (upd (A 26) ((I 15) - 1).toNatClampNeg ((A 26 ((I 15) - 1).toNatClampNeg) + 1))) 28) ((I 15) - 1).toNatClampNeg x1)) 27) ((I 15) - 1).toNatClampNeg (L_X8_here_r ht I (va_up A 26 (upd (A 26) ((I 15) - 1).toNatClampNeg ((A 26 ((I 15) - 1).toNatClampNeg) + 1))) J it dyn))) J it dyn (L_X8_here_r ht I (va_up A 26 (upd (A 26) ((I 15) - 1).toNatClampNeg ((A 26 ((I 15) - 1).toNatClampNeg) + 1))) J it dyn)) = 0 => ?_) (fun c_74 : ¬ ((L_X8_isSign_r ht (upd I 14 (if (L_X8_isSign_r ht I (va_up (va_up (va_up A 26 (upd (A 26) ((I 15) - 1).toNatClampNeg ((A 26 ((I 15) - 1).toNatClampNeg) + 1))) 28 (upd ((va_up A 26 (upd (A 26) ((I 15) - 1).toNatClampNeg ((A 26 ((I 15) - 1).toNatClampNeg) + 1))) 28) ((I 15) - 1).toNatClampNeg x1)) 27 (upd ((va_up (va_up A 26 (upd (A 26) ((I 15) - 1).toNatClampNeg ((A 26 ((I 15) - 1).toNatClampNeg) + 1))) 28 (upd ((va_up A 26 (upd (A 26) ((I 15) - 1).toNatClampNeg ((A 26 ((I 15) - 1).toNatClampNeg) + 1))) 28) ((I 15) - 1).toNatClampNeg x1)) 27) ((I 15) - 1).toNatClampNeg (L_X8_here_r ht I (va_up A 26 (upd (A 26) ((I 15) - 1).toNatClampNeg ((A 26 ((I 15) - 1).toNatClampNeg) + 1))) J it dyn))) J it dyn (L_X8_here_r ht I (va_up A 26 (upd (A 26) ((I 15) - 1).toNatClampNeg ((A 26 ((I 15) - 1).toNatClampNeg) + 1))) J it dyn)) = 0 then (I 14) else ((I 14) + 1) : Int32)) (va_up (va_up (va_up A 26 (upd (A 26) ((I 15) - 1).toNatClampNeg ((A 26 ((I 15) - 1).toNatClampNeg) + 1))) 28 (upd ((va_up A 26 (upd (A 26) ((I 15) - 1).toNatClampNeg ((A 26 ((I 15) - 1).toNatClampNeg) + 1))) 28) ((I 15) - 1).toNatClampNeg x1)) 27 (upd ((va_up (va_up A 26 (upd (A 26) ((I 15) - 1).toNatClampNeg ((A 26 ((I 15) - 1).toNatClampNeg) + 1))) 28 (upd ((va_up A 26 (upd (A 26) ((I 15) - 1).toNatClampNeg ((A 26 ((I 15) - 1).toNatClampNeg) + 1))) 28) ((I 15) - 1).toNatClampNeg x1)) 27) ((I 15) - 1).toNatClampNeg (L_X8_here_r ht I (va_up A 26 (upd (A 26) ((I 15) - 1).toNatClampNeg ((A 26 ((I 15) - 1).toNatClampNeg) + 1))) J it dyn))) J it dyn (L_X8_here_r ht I (va_up A 26 (upd (A 26) ((I 15) - 1).toNatClampNeg ((A 26 ((I 15) - 1).toNatClampNeg) + 1))) J it dyn)) = 0) => ?_)
      · refine fs_bipush (v := (-2)) dX8_goOn_81 rfl ?_
        have k9 := key_83
        try simp only [if_pos c_29, if_pos c_74] at k9 ⊢
        exact k9
      · refine fs_iconst (v := (-1)) dX8_goOn_77 rfl ?_
        refine fs_goto 83 dX8_goOn_78 (by decide) ?_
        have k9 := key_83
        try simp only [if_pos c_29, if_neg c_74] at k9 ⊢
        exact k9
    refine fs_if_eq 63 dX8_goOn_51 (by decide) (fun c_51 : (L_X8_isSign_r ht I (va_up (va_up (va_up A 26 (upd (A 26) ((I 15) - 1).toNatClampNeg ((A 26 ((I 15) - 1).toNatClampNeg) + 1))) 28 (upd ((va_up A 26 (upd (A 26) ((I 15) - 1).toNatClampNeg ((A 26 ((I 15) - 1).toNatClampNeg) + 1))) 28) ((I 15) - 1).toNatClampNeg x1)) 27 (upd ((va_up (va_up A 26 (upd (A 26) ((I 15) - 1).toNatClampNeg ((A 26 ((I 15) - 1).toNatClampNeg) + 1))) 28 (upd ((va_up A 26 (upd (A 26) ((I 15) - 1).toNatClampNeg ((A 26 ((I 15) - 1).toNatClampNeg) + 1))) 28) ((I 15) - 1).toNatClampNeg x1)) 27) ((I 15) - 1).toNatClampNeg (L_X8_here_r ht I (va_up A 26 (upd (A 26) ((I 15) - 1).toNatClampNeg ((A 26 ((I 15) - 1).toNatClampNeg) + 1))) J it dyn))) J it dyn (L_X8_here_r ht I (va_up A 26 (upd (A 26) ((I 15) - 1).toNatClampNeg ((A 26 ((I 15) - 1).toNatClampNeg) + 1))) J it dyn)) = 0 => ?_) (fun c_51 : ¬ ((L_X8_isSign_r ht I (va_up (va_up (va_up A 26 (upd (A 26) ((I 15) - 1).toNatClampNeg ((A 26 ((I 15) - 1).toNatClampNeg) + 1))) 28 (upd ((va_up A 26 (upd (A 26) ((I 15) - 1).toNatClampNeg ((A 26 ((I 15) - 1).toNatClampNeg) + 1))) 28) ((I 15) - 1).toNatClampNeg x1)) 27 (upd ((va_up (va_up A 26 (upd (A 26) ((I 15) - 1).toNatClampNeg ((A 26 ((I 15) - 1).toNatClampNeg) + 1))) 28 (upd ((va_up A 26 (upd (A 26) ((I 15) - 1).toNatClampNeg ((A 26 ((I 15) - 1).toNatClampNeg) + 1))) 28) ((I 15) - 1).toNatClampNeg x1)) 27) ((I 15) - 1).toNatClampNeg (L_X8_here_r ht I (va_up A 26 (upd (A 26) ((I 15) - 1).toNatClampNeg ((A 26 ((I 15) - 1).toNatClampNeg) + 1))) J it dyn))) J it dyn (L_X8_here_r ht I (va_up A 26 (upd (A 26) ((I 15) - 1).toNatClampNeg ((A 26 ((I 15) - 1).toNatClampNeg) + 1))) J it dyn)) = 0) => ?_)
    · refine fs_aload_n dX8_goOn_63 rfl rfl ?_
      refine fs_getfield (v := .inl (I 14)) dX8_goOn_64 sf_X8_104 rfl rfl ?_
      refine fs_reL [2, 3, 1, 0] rfl ?_
      have k9 := key_67
      try simp only [if_pos c_29, if_pos c_51] at k9 ⊢
      exact k9
    · refine fs_aload_n dX8_goOn_54 rfl rfl ?_
      refine fs_getfield (v := .inl (I 14)) dX8_goOn_55 sf_X8_104 rfl rfl ?_
      refine fs_iconst (v := 1) dX8_goOn_58 rfl ?_
      refine fs_iadd dX8_goOn_59 ?_
      refine fs_goto 67 dX8_goOn_60 (by decide) ?_
      refine fs_reL [2, 3, 1, 0] rfl ?_
      have k9 := key_67
      try simp only [if_pos c_29, if_neg c_51] at k9 ⊢
      exact k9
def L_X8_star_r (ht : Nat) (I : Nat → Int32) (A : Nat → Nat → Int32) (J : Nat → Nat → Int64) (it : Nat → Option Nat) (dyn : fsH)  : Int32 := (if (L_X8_here_r ht I A J it dyn) = 42 then 1 else 0 : Int32)
def L_X8_star_I (ht : Nat) (I : Nat → Int32) (A : Nat → Nat → Int32) (J : Nat → Nat → Int64) (it : Nat → Option Nat) (dyn : fsH)  : Nat → Int32 := (upd I 14 (if (if (L_X8_here_r ht I A J it dyn) = 42 then 1 else 0 : Int32) = 0 then (I 14) else ((I 14) + 1) : Int32))
def S_X8_star (ht : Nat) (I : Nat → Int32) (A : Nat → Nat → Int32) (J : Nat → Nat → Int64) (it : Nat → Option Nat) (dyn : fsH)  : Prop := (S_X8_here ht I A J it dyn)
set_option maxRecDepth 100000 in
set_option maxHeartbeats 4000000 in
theorem c_X8_star (G : fsG) (l : Launch) (ht : Nat) (I : Nat → Int32) (A : Nat → Nat → Int32) (J : Nat → Nat → Int64) (it : Nat → Option Nat) (dyn : fsH)  (hS : S_X8_star ht I A J it dyn ) : fsFn G l mX8_star 1 0 0 [.inr (.inr (some 14))] (fs_mk ht I A J it dyn) (some (.inl (L_X8_star_r ht I A J it dyn ))) (fs_mk ht (L_X8_star_I ht I A J it dyn ) A J it dyn) := by
  refine fsMet_of (by decide) (Nat.le_of_ble_eq_true rfl) ?_
  generalize hQ : (fun (r1 : Option fsV) (h1 : fsH) => r1 = (some (.inl (L_X8_star_r ht I A J it dyn ))) ∧ h1 = (fs_mk ht (L_X8_star_I ht I A J it dyn ) A J it dyn)) = Q
  have hq : Q (some (.inl (L_X8_star_r ht I A J it dyn ))) (fs_mk ht (L_X8_star_I ht I A J it dyn ) A J it dyn) := by rw [← hQ]; exact ⟨rfl, rfl⟩
  clear hQ
  have hq : Q (some (.inl (if (L_X8_here_r ht I A J it dyn) = 42 then 1 else 0 : Int32))) (fs_mk ht (upd I 14 (if (if (L_X8_here_r ht I A J it dyn) = 42 then 1 else 0 : Int32) = 0 then (I 14) else ((I 14) + 1) : Int32)) A J it dyn) := hq
  have hS : (S_X8_here ht I A J it dyn) := hS
  refine (show fsW G l mX8_star 1 0 0 0 0 Q 0 [(0, .inr (.inr (some 14)))] [] (fs_mk ht I A J it dyn) from ?_)
  refine fs_aload_n dX8_star_0 rfl rfl ?_
  have ho1 := hS
  refine fs_callV1 dX8_star_1 sv_X8_107 rfl ⟨_, rfl, rfl⟩ (c_X8_here G l ht I A J it dyn ho1) rfl rfl (Nat.le_of_ble_eq_true rfl) (Nat.le_of_ble_eq_true rfl) (Nat.le_of_ble_eq_true rfl) (Nat.le_of_ble_eq_true rfl) ?_
  refine fs_bipush (v := 42) dX8_star_4 rfl ?_
  have key_14 : fsW G l mX8_star 1 0 0 0 0 Q 14 [(0, .inr (.inr (some 14)))] [.inl (if (L_X8_here_r ht I A J it dyn) = 42 then 1 else 0 : Int32)] (fs_mk ht I A J it dyn) := by
    refine fs_istore_n (L' := [(1, .inl (if (L_X8_here_r ht I A J it dyn) = 42 then 1 else 0 : Int32)), (0, .inr (.inr (some 14)))]) dX8_star_14 rfl (by decide) rfl ?_
    refine fs_aload_n dX8_star_15 rfl rfl ?_
    refine fs_iload_n dX8_star_16 rfl rfl ?_
    have key_33 : fsW G l mX8_star 1 0 0 0 0 Q 33 [(0, .inr (.inr (some 14))), (1, .inl (if (L_X8_here_r ht I A J it dyn) = 42 then 1 else 0 : Int32))] [.inl (if (if (L_X8_here_r ht I A J it dyn) = 42 then 1 else 0 : Int32) = 0 then (I 14) else ((I 14) + 1) : Int32), .inr (.inr (some 14))] (fs_mk ht I A J it dyn) := by
      refine fsp_14 dX8_star_33 sp_X8_104 ?_
      refine fs_iload_n dX8_star_36 rfl rfl ?_
      have k9 := hq
      exact fs_iret dX8_star_37 rfl (by (repeat' split) <;> first | rfl) k9
    refine fs_if_eq 29 dX8_star_17 (by decide) (fun c_17 : (if (L_X8_here_r ht I A J it dyn) = 42 then 1 else 0 : Int32) = 0 => ?_) (fun c_17 : ¬ ((if (L_X8_here_r ht I A J it dyn) = 42 then 1 else 0 : Int32) = 0) => ?_)
    · refine fs_aload_n dX8_star_29 rfl rfl ?_
      refine fs_getfield (v := .inl (I 14)) dX8_star_30 sf_X8_104 rfl rfl ?_
      refine fs_reL [1, 0] rfl ?_
      have k9 := key_33
      try simp only [if_pos c_17] at k9 ⊢
      exact k9
    · refine fs_aload_n dX8_star_20 rfl rfl ?_
      refine fs_getfield (v := .inl (I 14)) dX8_star_21 sf_X8_104 rfl rfl ?_
      refine fs_iconst (v := 1) dX8_star_24 rfl ?_
      refine fs_iadd dX8_star_25 ?_
      refine fs_goto 33 dX8_star_26 (by decide) ?_
      refine fs_reL [1, 0] rfl ?_
      have k9 := key_33
      try simp only [if_neg c_17] at k9 ⊢
      exact k9
  refine fs_icmp_ne 13 dX8_star_6 (by decide) (fun c_6 : ¬ (L_X8_here_r ht I A J it dyn) = 42 => ?_) (fun c_6 : (L_X8_here_r ht I A J it dyn) = 42 => ?_)
  · refine fs_iconst (v := 0) dX8_star_13 rfl ?_
    have k9 := key_14
    try simp only [if_neg c_6] at k9 ⊢
    exact k9
  · refine fs_iconst (v := 1) dX8_star_9 rfl ?_
    refine fs_goto 14 dX8_star_10 (by decide) ?_
    have k9 := key_14
    try simp only [if_pos c_6] at k9 ⊢
    exact k9
theorem nb_X8_star (ht : Nat) (I : Nat → Int32) (A : Nat → Nat → Int32) (J : Nat → Nat → Int64) (it : Nat → Option Nat) (dyn : fsH)  : narrow .boolean (.int (L_X8_star_r ht I A J it dyn )) = .int (L_X8_star_r ht I A J it dyn ) := by
  unfold L_X8_star_r
  exact (by (repeat' split) <;> first | rfl)
def La_X8_find_2_r : Nat → Nat → (Nat → Int32) → (Nat → Nat → Int32) → (Nat → Nat → Int64) → (Nat → Option Nat) → fsH → Int32 → Int32 → Int32 → Int32
  | 0, ht, I, A, J, it, dyn, v1, v2, v3 => 0
  | n + 1, ht, I, A, J, it, dyn, v1, v2, v3 => (if v2 ≤ v3 then (-1) else (if (A 16 v3.toNatClampNeg) = 0 then (if (A 17 v3.toNatClampNeg) = v1 then v3 else (La_X8_find_2_r n ht I A J it dyn v1 v2 (v3 + 1))) else (La_X8_find_2_r n ht I A J it dyn v1 v2 (v3 + 1))))
def S_La_X8_find_2 : Nat → Nat → (Nat → Int32) → (Nat → Nat → Int32) → (Nat → Nat → Int64) → (Nat → Option Nat) → fsH → Int32 → Int32 → Int32 → Prop
  | 0, _, _, _, _, _, _, _, _, _ => False
  | n + 1, ht, I, A, J, it, dyn, v1, v2, v3 => (¬ (v2 ≤ v3) → ((vp_in v3 17) ∧ ((((A 16 v3.toNatClampNeg) = 0) → ((vp_in v3 17) ∧ (¬ ((A 17 v3.toNatClampNeg) = v1) → (S_La_X8_find_2 n ht I A J it dyn v1 v2 (v3 + 1))))) ∧ (¬ ((A 16 v3.toNatClampNeg) = 0) → (S_La_X8_find_2 n ht I A J it dyn v1 v2 (v3 + 1))))))
set_option maxRecDepth 100000 in
set_option maxHeartbeats 4000000 in
theorem lp_La_X8_find_2 (G : fsG) (l : Launch) (Q : Option fsV → fsH → Prop) : ∀ (n : Nat) (ht : Nat) (I : Nat → Int32) (A : Nat → Nat → Int32) (J : Nat → Nat → Int64) (it : Nat → Option Nat) (dyn : fsH) (v1 : Int32) (v2 : Int32) (v3 : Int32), S_La_X8_find_2 n ht I A J it dyn v1 v2 v3 → (Q (some (.inl (La_X8_find_2_r n ht I A J it dyn v1 v2 v3))) (fs_mk ht I A J it dyn)) → fsW G l mX8_find 0 0 0 0 0 Q 2 [(0, .inr (.inr (some 14))), (1, .inl v1), (2, .inl v2), (3, .inl v3)] [] (fs_mk ht I A J it dyn) := by
  intro n
  induction n with
  | zero =>
    intro ht I A J it dyn v1 v2 v3 hS
    exact hS.elim
  | succ n ih =>
    intro ht I A J it dyn v1 v2 v3 hS hq
    have hS : (¬ (v2 ≤ v3) → ((vp_in v3 17) ∧ ((((A 16 v3.toNatClampNeg) = 0) → ((vp_in v3 17) ∧ (¬ ((A 17 v3.toNatClampNeg) = v1) → (S_La_X8_find_2 n ht I A J it dyn v1 v2 (v3 + 1))))) ∧ (¬ ((A 16 v3.toNatClampNeg) = 0) → (S_La_X8_find_2 n ht I A J it dyn v1 v2 (v3 + 1)))))) := hS
    have hq : Q (some (.inl (if v2 ≤ v3 then (-1) else (if (A 16 v3.toNatClampNeg) = 0 then (if (A 17 v3.toNatClampNeg) = v1 then v3 else (La_X8_find_2_r n ht I A J it dyn v1 v2 (v3 + 1))) else (La_X8_find_2_r n ht I A J it dyn v1 v2 (v3 + 1)))))) (fs_mk ht I A J it dyn) := hq
    refine fs_iload_n dX8_find_2 rfl rfl ?_
    refine fs_iload_n dX8_find_3 rfl rfl ?_
    refine fs_icmp_ge 34 dX8_find_4 (by decide) (fun c_4 : v2 ≤ v3 => ?_) (fun c_4 : ¬ (v2 ≤ v3) => ?_)
    · refine fs_iconst (v := (-1)) dX8_find_34 rfl ?_
      have k9 := hq
      try simp only [if_pos c_4] at k9 ⊢
      exact fs_iret dX8_find_35 rfl rfl k9
    · have hS := hS c_4
      refine fs_aload_n dX8_find_7 rfl rfl ?_
      refine fs_getfield (v := .inr (.inr (some 16))) dX8_find_8 sf_X8_20 rfl rfl ?_
      refine fs_iload_n dX8_find_11 rfl rfl ?_
      obtain ⟨ho1, hS⟩ := hS
      refine fs_iaload dX8_find_12 rfl ho1 ?_
      refine fs_if_ne 28 dX8_find_13 (by decide) (fun c_13 : ¬ (A 16 v3.toNatClampNeg) = 0 => ?_) (fun c_13 : (A 16 v3.toNatClampNeg) = 0 => ?_)
      · have hS := hS.2 c_13
        refine fs_iinc (v := (v3 + 1)) (L' := [(3, .inl (v3 + 1)), (0, .inr (.inr (some 14))), (1, .inl v1), (2, .inl v2)]) dX8_find_28 rfl rfl (by decide) rfl ?_
        refine fs_goto 2 dX8_find_31 (by decide) ?_
        refine fs_reL [1, 2, 3, 0] rfl ?_
        have k9 := hq
        try simp only [if_neg c_4, if_neg c_13] at hS k9 ⊢
        exact ih _ _ _ _ _ _ _ _ _ hS k9
      · have hS := hS.1 c_13
        refine fs_aload_n dX8_find_16 rfl rfl ?_
        refine fs_getfield (v := .inr (.inr (some 17))) dX8_find_17 sf_X8_24 rfl rfl ?_
        refine fs_iload_n dX8_find_20 rfl rfl ?_
        obtain ⟨ho1, hS⟩ := hS
        refine fs_iaload dX8_find_21 rfl ho1 ?_
        refine fs_iload_n dX8_find_22 rfl rfl ?_
        refine fs_icmp_ne 28 dX8_find_23 (by decide) (fun c_23 : ¬ (A 17 v3.toNatClampNeg) = v1 => ?_) (fun c_23 : (A 17 v3.toNatClampNeg) = v1 => ?_)
        · have hS := hS c_23
          refine fs_iinc (v := (v3 + 1)) (L' := [(3, .inl (v3 + 1)), (0, .inr (.inr (some 14))), (1, .inl v1), (2, .inl v2)]) dX8_find_28 rfl rfl (by decide) rfl ?_
          refine fs_goto 2 dX8_find_31 (by decide) ?_
          refine fs_reL [1, 2, 3, 0] rfl ?_
          have k9 := hq
          try simp only [if_neg c_4, if_pos c_13, if_neg c_23] at hS k9 ⊢
          exact ih _ _ _ _ _ _ _ _ _ hS k9
        · refine fs_iload_n dX8_find_26 rfl rfl ?_
          have k9 := hq
          try simp only [if_neg c_4, if_pos c_13, if_pos c_23] at k9 ⊢
          exact fs_iret dX8_find_27 rfl rfl k9
def L_X8_find_r (ht : Nat) (I : Nat → Int32) (A : Nat → Nat → Int32) (J : Nat → Nat → Int64) (it : Nat → Option Nat) (dyn : fsH) (x1 : Int32) (x2 : Int32) : Int32 := (La_X8_find_2_r 70 ht I A J it dyn x1 x2 0)
def S_X8_find (ht : Nat) (I : Nat → Int32) (A : Nat → Nat → Int32) (J : Nat → Nat → Int64) (it : Nat → Option Nat) (dyn : fsH) (x1 : Int32) (x2 : Int32) : Prop := (S_La_X8_find_2 70 ht I A J it dyn x1 x2 0)
set_option maxRecDepth 100000 in
set_option maxHeartbeats 4000000 in
theorem c_X8_find (G : fsG) (l : Launch) (ht : Nat) (I : Nat → Int32) (A : Nat → Nat → Int32) (J : Nat → Nat → Int64) (it : Nat → Option Nat) (dyn : fsH) (x1 : Int32) (x2 : Int32) (hS : S_X8_find ht I A J it dyn x1 x2) : fsFn G l mX8_find 0 0 0 [.inr (.inr (some 14)), .inl x1, .inl x2] (fs_mk ht I A J it dyn) (some (.inl (L_X8_find_r ht I A J it dyn x1 x2))) (fs_mk ht I A J it dyn) := by
  refine fsMet_of (by decide) (Nat.le_of_ble_eq_true rfl) ?_
  generalize hQ : (fun (r1 : Option fsV) (h1 : fsH) => r1 = (some (.inl (L_X8_find_r ht I A J it dyn x1 x2))) ∧ h1 = (fs_mk ht I A J it dyn)) = Q
  have hq : Q (some (.inl (L_X8_find_r ht I A J it dyn x1 x2))) (fs_mk ht I A J it dyn) := by rw [← hQ]; exact ⟨rfl, rfl⟩
  clear hQ
  have hq : Q (some (.inl (La_X8_find_2_r 70 ht I A J it dyn x1 x2 0))) (fs_mk ht I A J it dyn) := hq
  have hS : (S_La_X8_find_2 70 ht I A J it dyn x1 x2 0) := hS
  refine (show fsW G l mX8_find 0 0 0 0 0 Q 0 [(0, .inr (.inr (some 14))), (1, .inl x1), (2, .inl x2)] [] (fs_mk ht I A J it dyn) from ?_)
  refine fs_iconst (v := 0) dX8_find_0 rfl ?_
  refine fs_istore_n (L' := [(3, .inl 0), (0, .inr (.inr (some 14))), (1, .inl x1), (2, .inl x2)]) dX8_find_1 rfl (by decide) rfl ?_
  refine fs_reL [1, 2, 3, 0] rfl ?_
  have ho1 := hS
  have k9 := hq
  exact lp_La_X8_find_2 G l Q 70 _ _ _ _ _ _ _ _ _ ho1 k9
def L_X8_position_r (ht : Nat) (I : Nat → Int32) (A : Nat → Nat → Int32) (J : Nat → Nat → Int64) (it : Nat → Option Nat) (dyn : fsH)  : Int32 := (I 10)
def L_X8_position_I (ht : Nat) (I : Nat → Int32) (A : Nat → Nat → Int32) (J : Nat → Nat → Int64) (it : Nat → Option Nat) (dyn : fsH)  : Nat → Int32 := (upd I 8 0)
set_option maxRecDepth 100000 in
set_option maxHeartbeats 4000000 in
theorem c_X8_position (G : fsG) (l : Launch) (ht : Nat) (I : Nat → Int32) (A : Nat → Nat → Int32) (J : Nat → Nat → Int64) (it : Nat → Option Nat) (dyn : fsH)  : fsFn G l mX8_position 0 0 0 [.inr (.inr (some 14))] (fs_mk ht I A J it dyn) (some (.inl (L_X8_position_r ht I A J it dyn ))) (fs_mk ht (L_X8_position_I ht I A J it dyn ) A J it dyn) := by
  refine fsMet_of (by decide) (Nat.le_of_ble_eq_true rfl) ?_
  generalize hQ : (fun (r1 : Option fsV) (h1 : fsH) => r1 = (some (.inl (L_X8_position_r ht I A J it dyn ))) ∧ h1 = (fs_mk ht (L_X8_position_I ht I A J it dyn ) A J it dyn)) = Q
  have hq : Q (some (.inl (L_X8_position_r ht I A J it dyn ))) (fs_mk ht (L_X8_position_I ht I A J it dyn ) A J it dyn) := by rw [← hQ]; exact ⟨rfl, rfl⟩
  clear hQ
  have hq : Q (some (.inl (I 10))) (fs_mk ht (upd I 8 0) A J it dyn) := hq
  refine (show fsW G l mX8_position 0 0 0 0 0 Q 0 [(0, .inr (.inr (some 14)))] [] (fs_mk ht I A J it dyn) from ?_)
  refine fs_aload_n dX8_position_0 rfl rfl ?_
  refine fs_iconst (v := 0) dX8_position_1 rfl ?_
  refine fsp_8 dX8_position_2 sp_X8_98 ?_
  refine fs_aload_n dX8_position_5 rfl rfl ?_
  refine fs_getfield (v := .inl (I 10)) dX8_position_6 sf_X8_13 rfl rfl ?_
  have k9 := hq
  exact fs_iret dX8_position_9 rfl rfl k9
def La_X8_named_5_r : Nat → Nat → (Nat → Int32) → (Nat → Nat → Int32) → (Nat → Nat → Int64) → (Nat → Option Nat) → fsH → Int32 → Int32 → Int32
  | 0, ht, I, A, J, it, dyn, v1, v2 => 0
  | n + 1, ht, I, A, J, it, dyn, v1, v2 => (if ((32 * v1) + (A 20 v1.toNatClampNeg)) ≤ v2 then 1 else (if (A 21 v2.toNatClampNeg) = 1 then (if (L_X8_find_r ht I A J it dyn (A 22 v2.toNatClampNeg) (I 13)) < 0 then 0 else (if (A 21 v2.toNatClampNeg) = 2 then (if (A 18 (L_X8_find_r ht I A J it dyn (A 22 v2.toNatClampNeg) (I 13)).toNatClampNeg) = 0 then 0 else (if (A 18 v1.toNatClampNeg) = 0 then 0 else (La_X8_named_5_r n ht I A J it dyn v1 (v2 + 1)))) else (if (A 18 (L_X8_find_r ht I A J it dyn (A 22 v2.toNatClampNeg) (I 13)).toNatClampNeg) = 0 then (La_X8_named_5_r n ht I A J it dyn v1 (v2 + 1)) else (if (A 18 v1.toNatClampNeg) = 0 then 0 else (La_X8_named_5_r n ht I A J it dyn v1 (v2 + 1)))))) else (if (A 21 v2.toNatClampNeg) = 2 then (if (L_X8_find_r ht I A J it dyn (A 22 v2.toNatClampNeg) (I 13)) < 0 then 0 else (if (A 18 (L_X8_find_r ht I A J it dyn (A 22 v2.toNatClampNeg) (I 13)).toNatClampNeg) = 0 then 0 else (La_X8_named_5_r n ht I A J it dyn v1 (v2 + 1)))) else (La_X8_named_5_r n ht I A J it dyn v1 (v2 + 1)))))
def S_La_X8_named_5 : Nat → Nat → (Nat → Int32) → (Nat → Nat → Int32) → (Nat → Nat → Int64) → (Nat → Option Nat) → fsH → Int32 → Int32 → Prop
  | 0, _, _, _, _, _, _, _, _ => False
  | n + 1, ht, I, A, J, it, dyn, v1, v2 => ((vp_in v1 17) ∧ (¬ (((32 * v1) + (A 20 v1.toNatClampNeg)) ≤ v2) → ((vp_in v2 544) ∧ ((((A 21 v2.toNatClampNeg) = 1) → ((vp_in v2 544) ∧ ((S_X8_find ht I A J it dyn (A 22 v2.toNatClampNeg) (I 13)) ∧ (¬ ((L_X8_find_r ht I A J it dyn (A 22 v2.toNatClampNeg) (I 13)) < 0) → ((vp_in v2 544) ∧ ((((A 21 v2.toNatClampNeg) = 2) → ((vp_in (L_X8_find_r ht I A J it dyn (A 22 v2.toNatClampNeg) (I 13)) 17) ∧ (¬ ((A 18 (L_X8_find_r ht I A J it dyn (A 22 v2.toNatClampNeg) (I 13)).toNatClampNeg) = 0) → ((vp_in v2 544) ∧ ((vp_in (L_X8_find_r ht I A J it dyn (A 22 v2.toNatClampNeg) (I 13)) 17) ∧ ((vp_in v1 17) ∧ (¬ ((A 18 v1.toNatClampNeg) = 0) → (S_La_X8_named_5 n ht I A J it dyn v1 (v2 + 1))))))))) ∧ (¬ ((A 21 v2.toNatClampNeg) = 2) → ((vp_in v2 544) ∧ ((vp_in (L_X8_find_r ht I A J it dyn (A 22 v2.toNatClampNeg) (I 13)) 17) ∧ ((((A 18 (L_X8_find_r ht I A J it dyn (A 22 v2.toNatClampNeg) (I 13)).toNatClampNeg) = 0) → (S_La_X8_named_5 n ht I A J it dyn v1 (v2 + 1))) ∧ (¬ ((A 18 (L_X8_find_r ht I A J it dyn (A 22 v2.toNatClampNeg) (I 13)).toNatClampNeg) = 0) → ((vp_in v1 17) ∧ (¬ ((A 18 v1.toNatClampNeg) = 0) → (S_La_X8_named_5 n ht I A J it dyn v1 (v2 + 1))))))))))))))) ∧ (¬ ((A 21 v2.toNatClampNeg) = 1) → ((vp_in v2 544) ∧ ((((A 21 v2.toNatClampNeg) = 2) → ((vp_in v2 544) ∧ ((S_X8_find ht I A J it dyn (A 22 v2.toNatClampNeg) (I 13)) ∧ (¬ ((L_X8_find_r ht I A J it dyn (A 22 v2.toNatClampNeg) (I 13)) < 0) → ((vp_in v2 544) ∧ ((vp_in (L_X8_find_r ht I A J it dyn (A 22 v2.toNatClampNeg) (I 13)) 17) ∧ (¬ ((A 18 (L_X8_find_r ht I A J it dyn (A 22 v2.toNatClampNeg) (I 13)).toNatClampNeg) = 0) → ((vp_in v2 544) ∧ (S_La_X8_named_5 n ht I A J it dyn v1 (v2 + 1)))))))))) ∧ (¬ ((A 21 v2.toNatClampNeg) = 2) → (S_La_X8_named_5 n ht I A J it dyn v1 (v2 + 1))))))))))
set_option maxRecDepth 100000 in
set_option maxHeartbeats 4000000 in
theorem lp_La_X8_named_5 (G : fsG) (l : Launch) (Q : Option fsV → fsH → Prop) : ∀ (n : Nat) (ht : Nat) (I : Nat → Int32) (A : Nat → Nat → Int32) (J : Nat → Nat → Int64) (it : Nat → Option Nat) (dyn : fsH) (v1 : Int32) (v2 : Int32), S_La_X8_named_5 n ht I A J it dyn v1 v2 → (Q (some (.inl (La_X8_named_5_r n ht I A J it dyn v1 v2))) (fs_mk ht I A J it dyn)) → fsW G l mX8_named 1 0 0 0 0 Q 5 [(0, .inr (.inr (some 14))), (1, .inl v1), (2, .inl v2)] [] (fs_mk ht I A J it dyn) := by
  intro n
  induction n with
  | zero =>
    intro ht I A J it dyn v1 v2 hS
    exact hS.elim
  | succ n ih =>
    intro ht I A J it dyn v1 v2 hS hq
    have hS : ((vp_in v1 17) ∧ (¬ (((32 * v1) + (A 20 v1.toNatClampNeg)) ≤ v2) → ((vp_in v2 544) ∧ ((((A 21 v2.toNatClampNeg) = 1) → ((vp_in v2 544) ∧ ((S_X8_find ht I A J it dyn (A 22 v2.toNatClampNeg) (I 13)) ∧ (¬ ((L_X8_find_r ht I A J it dyn (A 22 v2.toNatClampNeg) (I 13)) < 0) → ((vp_in v2 544) ∧ ((((A 21 v2.toNatClampNeg) = 2) → ((vp_in (L_X8_find_r ht I A J it dyn (A 22 v2.toNatClampNeg) (I 13)) 17) ∧ (¬ ((A 18 (L_X8_find_r ht I A J it dyn (A 22 v2.toNatClampNeg) (I 13)).toNatClampNeg) = 0) → ((vp_in v2 544) ∧ ((vp_in (L_X8_find_r ht I A J it dyn (A 22 v2.toNatClampNeg) (I 13)) 17) ∧ ((vp_in v1 17) ∧ (¬ ((A 18 v1.toNatClampNeg) = 0) → (S_La_X8_named_5 n ht I A J it dyn v1 (v2 + 1))))))))) ∧ (¬ ((A 21 v2.toNatClampNeg) = 2) → ((vp_in v2 544) ∧ ((vp_in (L_X8_find_r ht I A J it dyn (A 22 v2.toNatClampNeg) (I 13)) 17) ∧ ((((A 18 (L_X8_find_r ht I A J it dyn (A 22 v2.toNatClampNeg) (I 13)).toNatClampNeg) = 0) → (S_La_X8_named_5 n ht I A J it dyn v1 (v2 + 1))) ∧ (¬ ((A 18 (L_X8_find_r ht I A J it dyn (A 22 v2.toNatClampNeg) (I 13)).toNatClampNeg) = 0) → ((vp_in v1 17) ∧ (¬ ((A 18 v1.toNatClampNeg) = 0) → (S_La_X8_named_5 n ht I A J it dyn v1 (v2 + 1))))))))))))))) ∧ (¬ ((A 21 v2.toNatClampNeg) = 1) → ((vp_in v2 544) ∧ ((((A 21 v2.toNatClampNeg) = 2) → ((vp_in v2 544) ∧ ((S_X8_find ht I A J it dyn (A 22 v2.toNatClampNeg) (I 13)) ∧ (¬ ((L_X8_find_r ht I A J it dyn (A 22 v2.toNatClampNeg) (I 13)) < 0) → ((vp_in v2 544) ∧ ((vp_in (L_X8_find_r ht I A J it dyn (A 22 v2.toNatClampNeg) (I 13)) 17) ∧ (¬ ((A 18 (L_X8_find_r ht I A J it dyn (A 22 v2.toNatClampNeg) (I 13)).toNatClampNeg) = 0) → ((vp_in v2 544) ∧ (S_La_X8_named_5 n ht I A J it dyn v1 (v2 + 1)))))))))) ∧ (¬ ((A 21 v2.toNatClampNeg) = 2) → (S_La_X8_named_5 n ht I A J it dyn v1 (v2 + 1)))))))))) := hS
    have hq : Q (some (.inl (if ((32 * v1) + (A 20 v1.toNatClampNeg)) ≤ v2 then 1 else (if (A 21 v2.toNatClampNeg) = 1 then (if (L_X8_find_r ht I A J it dyn (A 22 v2.toNatClampNeg) (I 13)) < 0 then 0 else (if (A 21 v2.toNatClampNeg) = 2 then (if (A 18 (L_X8_find_r ht I A J it dyn (A 22 v2.toNatClampNeg) (I 13)).toNatClampNeg) = 0 then 0 else (if (A 18 v1.toNatClampNeg) = 0 then 0 else (La_X8_named_5_r n ht I A J it dyn v1 (v2 + 1)))) else (if (A 18 (L_X8_find_r ht I A J it dyn (A 22 v2.toNatClampNeg) (I 13)).toNatClampNeg) = 0 then (La_X8_named_5_r n ht I A J it dyn v1 (v2 + 1)) else (if (A 18 v1.toNatClampNeg) = 0 then 0 else (La_X8_named_5_r n ht I A J it dyn v1 (v2 + 1)))))) else (if (A 21 v2.toNatClampNeg) = 2 then (if (L_X8_find_r ht I A J it dyn (A 22 v2.toNatClampNeg) (I 13)) < 0 then 0 else (if (A 18 (L_X8_find_r ht I A J it dyn (A 22 v2.toNatClampNeg) (I 13)).toNatClampNeg) = 0 then 0 else (La_X8_named_5_r n ht I A J it dyn v1 (v2 + 1)))) else (La_X8_named_5_r n ht I A J it dyn v1 (v2 + 1))))))) (fs_mk ht I A J it dyn) := hq
    refine fs_iload_n dX8_named_5 rfl rfl ?_
    refine fs_bipush (v := 32) dX8_named_6 rfl ?_
    refine fs_iload_n dX8_named_8 rfl rfl ?_
    refine fs_imul dX8_named_9 ?_
    refine fs_aload_n dX8_named_10 rfl rfl ?_
    refine fs_getfield (v := .inr (.inr (some 20))) dX8_named_11 sf_X8_34 rfl rfl ?_
    refine fs_iload_n dX8_named_14 rfl rfl ?_
    obtain ⟨ho1, hS⟩ := hS
    refine fs_iaload dX8_named_15 rfl ho1 ?_
    refine fs_iadd dX8_named_16 ?_
    refine fs_icmp_ge 114 dX8_named_17 (by decide) (fun c_17 : ((32 * v1) + (A 20 v1.toNatClampNeg)) ≤ v2 => ?_) (fun c_17 : ¬ (((32 * v1) + (A 20 v1.toNatClampNeg)) ≤ v2) => ?_)
    · refine fs_iconst (v := 1) dX8_named_114 rfl ?_
      have k9 := hq
      try simp only [if_pos c_17] at k9 ⊢
      exact fs_iret dX8_named_115 rfl rfl k9
    · have hS := hS c_17
      refine fs_aload_n dX8_named_20 rfl rfl ?_
      refine fs_getfield (v := .inr (.inr (some 21))) dX8_named_21 sf_X8_37 rfl rfl ?_
      refine fs_iload_n dX8_named_24 rfl rfl ?_
      obtain ⟨ho1, hS⟩ := hS
      refine fs_iaload dX8_named_25 rfl ho1 ?_
      refine fs_iconst (v := 1) dX8_named_26 rfl ?_
      refine fs_icmp_eq 40 dX8_named_27 (by decide) (fun c_27 : (A 21 v2.toNatClampNeg) = 1 => ?_) (fun c_27 : ¬ ((A 21 v2.toNatClampNeg) = 1) => ?_)
      · have hS := hS.1 c_27
        refine fs_aload_n dX8_named_40 rfl rfl ?_
        refine fs_aload_n dX8_named_41 rfl rfl ?_
        refine fs_getfield (v := .inr (.inr (some 22))) dX8_named_42 sf_X8_40 rfl rfl ?_
        refine fs_iload_n dX8_named_45 rfl rfl ?_
        obtain ⟨ho1, hS⟩ := hS
        refine fs_iaload dX8_named_46 rfl ho1 ?_
        refine fs_aload_n dX8_named_47 rfl rfl ?_
        refine fs_getfield (v := .inl (I 13)) dX8_named_48 sf_X8_115 rfl rfl ?_
        obtain ⟨ho1, hS⟩ := hS
        refine fs_callV1 dX8_named_51 sv_X8_168 rfl ⟨_, rfl, rfl⟩ (c_X8_find G l ht I A J it dyn (A 22 v2.toNatClampNeg) (I 13) ho1) rfl rfl (Nat.le_of_ble_eq_true rfl) (Nat.le_of_ble_eq_true rfl) (Nat.le_of_ble_eq_true rfl) (Nat.le_of_ble_eq_true rfl) ?_
        refine fs_istore_n (L' := [(3, .inl (L_X8_find_r ht I A J it dyn (A 22 v2.toNatClampNeg) (I 13))), (0, .inr (.inr (some 14))), (1, .inl v1), (2, .inl v2)]) dX8_named_54 rfl (by decide) rfl ?_
        refine fs_iload_n dX8_named_55 rfl rfl ?_
        refine fs_if_lt 106 dX8_named_56 (by decide) (fun c_56 : (L_X8_find_r ht I A J it dyn (A 22 v2.toNatClampNeg) (I 13)) < 0 => ?_) (fun c_56 : ¬ ((L_X8_find_r ht I A J it dyn (A 22 v2.toNatClampNeg) (I 13)) < 0) => ?_)
        · refine fs_iconst (v := 0) dX8_named_106 rfl ?_
          have k9 := hq
          try simp only [if_neg c_17, if_pos c_27, if_pos c_56] at k9 ⊢
          exact fs_iret dX8_named_107 rfl rfl k9
        · have hS := hS c_56
          refine fs_aload_n dX8_named_59 rfl rfl ?_
          refine fs_getfield (v := .inr (.inr (some 21))) dX8_named_60 sf_X8_37 rfl rfl ?_
          refine fs_iload_n dX8_named_63 rfl rfl ?_
          obtain ⟨ho1, hS⟩ := hS
          refine fs_iaload dX8_named_64 rfl ho1 ?_
          refine fs_iconst (v := 2) dX8_named_65 rfl ?_
          refine fs_icmp_ne 78 dX8_named_66 (by decide) (fun c_66 : ¬ (A 21 v2.toNatClampNeg) = 2 => ?_) (fun c_66 : (A 21 v2.toNatClampNeg) = 2 => ?_)
          · have hS := hS.2 c_66
            refine fs_aload_n dX8_named_78 rfl rfl ?_
            refine fs_getfield (v := .inr (.inr (some 21))) dX8_named_79 sf_X8_37 rfl rfl ?_
            refine fs_iload_n dX8_named_82 rfl rfl ?_
            obtain ⟨ho1, hS⟩ := hS
            refine fs_iaload dX8_named_83 rfl ho1 ?_
            refine fs_iconst (v := 1) dX8_named_84 rfl ?_
            refine fs_icmp_ne 108 dX8_named_85 (by decide) (fun c_85 : ¬ (A 21 v2.toNatClampNeg) = 1 => ?_) (fun c_85 : (A 21 v2.toNatClampNeg) = 1 => ?_)
            · exact absurd c_27 c_85
            · refine fs_aload_n dX8_named_88 rfl rfl ?_
              refine fs_getfield (v := .inr (.inr (some 18))) dX8_named_89 sf_X8_27 rfl rfl ?_
              refine fs_iload_n dX8_named_92 rfl rfl ?_
              obtain ⟨ho1, hS⟩ := hS
              refine fs_zaload dX8_named_93 rfl ho1 ?_
              refine fs_if_eq 108 dX8_named_94 (by decide) (fun c_94 : (A 18 (L_X8_find_r ht I A J it dyn (A 22 v2.toNatClampNeg) (I 13)).toNatClampNeg) = 0 => ?_) (fun c_94 : ¬ ((A 18 (L_X8_find_r ht I A J it dyn (A 22 v2.toNatClampNeg) (I 13)).toNatClampNeg) = 0) => ?_)
              · have hS := hS.1 c_94
                refine fs_iinc (v := (v2 + 1)) (L' := [(2, .inl (v2 + 1)), (3, .inl (L_X8_find_r ht I A J it dyn (A 22 v2.toNatClampNeg) (I 13))), (0, .inr (.inr (some 14))), (1, .inl v1)]) dX8_named_108 rfl rfl (by decide) rfl ?_
                refine fs_goto 5 dX8_named_111 (by decide) ?_
                refine fs_reL [2, 3, 0] rfl ?_
                have k9 := hq
                try simp only [if_neg c_17, if_pos c_27, if_neg c_56, if_neg c_66, if_pos c_94] at hS k9 ⊢
                exact ih _ _ _ _ _ _ _ _ hS k9
              · have hS := hS.2 c_94
                refine fs_aload_n dX8_named_97 rfl rfl ?_
                refine fs_getfield (v := .inr (.inr (some 18))) dX8_named_98 sf_X8_27 rfl rfl ?_
                refine fs_iload_n dX8_named_101 rfl rfl ?_
                obtain ⟨ho1, hS⟩ := hS
                refine fs_zaload dX8_named_102 rfl ho1 ?_
                refine fs_if_ne 108 dX8_named_103 (by decide) (fun c_103 : ¬ (A 18 v1.toNatClampNeg) = 0 => ?_) (fun c_103 : (A 18 v1.toNatClampNeg) = 0 => ?_)
                · have hS := hS c_103
                  refine fs_iinc (v := (v2 + 1)) (L' := [(2, .inl (v2 + 1)), (3, .inl (L_X8_find_r ht I A J it dyn (A 22 v2.toNatClampNeg) (I 13))), (0, .inr (.inr (some 14))), (1, .inl v1)]) dX8_named_108 rfl rfl (by decide) rfl ?_
                  refine fs_goto 5 dX8_named_111 (by decide) ?_
                  refine fs_reL [2, 3, 0] rfl ?_
                  have k9 := hq
                  try simp only [if_neg c_17, if_pos c_27, if_neg c_56, if_neg c_66, if_neg c_94, if_neg c_103] at hS k9 ⊢
                  exact ih _ _ _ _ _ _ _ _ hS k9
                · refine fs_iconst (v := 0) dX8_named_106 rfl ?_
                  have k9 := hq
                  try simp only [if_neg c_17, if_pos c_27, if_neg c_56, if_neg c_66, if_neg c_94, if_pos c_103] at k9 ⊢
                  exact fs_iret dX8_named_107 rfl rfl k9
          · have hS := hS.1 c_66
            refine fs_aload_n dX8_named_69 rfl rfl ?_
            refine fs_getfield (v := .inr (.inr (some 18))) dX8_named_70 sf_X8_27 rfl rfl ?_
            refine fs_iload_n dX8_named_73 rfl rfl ?_
            obtain ⟨ho1, hS⟩ := hS
            refine fs_zaload dX8_named_74 rfl ho1 ?_
            refine fs_if_eq 106 dX8_named_75 (by decide) (fun c_75 : (A 18 (L_X8_find_r ht I A J it dyn (A 22 v2.toNatClampNeg) (I 13)).toNatClampNeg) = 0 => ?_) (fun c_75 : ¬ ((A 18 (L_X8_find_r ht I A J it dyn (A 22 v2.toNatClampNeg) (I 13)).toNatClampNeg) = 0) => ?_)
            · refine fs_iconst (v := 0) dX8_named_106 rfl ?_
              have k9 := hq
              try simp only [if_neg c_17, if_pos c_27, if_neg c_56, if_pos c_66, if_pos c_75] at k9 ⊢
              exact fs_iret dX8_named_107 rfl rfl k9
            · have hS := hS c_75
              refine fs_aload_n dX8_named_78 rfl rfl ?_
              refine fs_getfield (v := .inr (.inr (some 21))) dX8_named_79 sf_X8_37 rfl rfl ?_
              refine fs_iload_n dX8_named_82 rfl rfl ?_
              obtain ⟨ho1, hS⟩ := hS
              refine fs_iaload dX8_named_83 rfl ho1 ?_
              refine fs_iconst (v := 1) dX8_named_84 rfl ?_
              refine fs_icmp_ne 108 dX8_named_85 (by decide) (fun c_85 : ¬ (A 21 v2.toNatClampNeg) = 1 => ?_) (fun c_85 : (A 21 v2.toNatClampNeg) = 1 => ?_)
              · exact absurd c_27 c_85
              · refine fs_aload_n dX8_named_88 rfl rfl ?_
                refine fs_getfield (v := .inr (.inr (some 18))) dX8_named_89 sf_X8_27 rfl rfl ?_
                refine fs_iload_n dX8_named_92 rfl rfl ?_
                obtain ⟨ho1, hS⟩ := hS
                refine fs_zaload dX8_named_93 rfl ho1 ?_
                refine fs_if_eq 108 dX8_named_94 (by decide) (fun c_94 : (A 18 (L_X8_find_r ht I A J it dyn (A 22 v2.toNatClampNeg) (I 13)).toNatClampNeg) = 0 => ?_) (fun c_94 : ¬ ((A 18 (L_X8_find_r ht I A J it dyn (A 22 v2.toNatClampNeg) (I 13)).toNatClampNeg) = 0) => ?_)
                · exact absurd c_94 c_75
                · refine fs_aload_n dX8_named_97 rfl rfl ?_
                  refine fs_getfield (v := .inr (.inr (some 18))) dX8_named_98 sf_X8_27 rfl rfl ?_
                  refine fs_iload_n dX8_named_101 rfl rfl ?_
                  obtain ⟨ho1, hS⟩ := hS
                  refine fs_zaload dX8_named_102 rfl ho1 ?_
                  refine fs_if_ne 108 dX8_named_103 (by decide) (fun c_103 : ¬ (A 18 v1.toNatClampNeg) = 0 => ?_) (fun c_103 : (A 18 v1.toNatClampNeg) = 0 => ?_)
                  · have hS := hS c_103
                    refine fs_iinc (v := (v2 + 1)) (L' := [(2, .inl (v2 + 1)), (3, .inl (L_X8_find_r ht I A J it dyn (A 22 v2.toNatClampNeg) (I 13))), (0, .inr (.inr (some 14))), (1, .inl v1)]) dX8_named_108 rfl rfl (by decide) rfl ?_
                    refine fs_goto 5 dX8_named_111 (by decide) ?_
                    refine fs_reL [2, 3, 0] rfl ?_
                    have k9 := hq
                    try simp only [if_neg c_17, if_pos c_27, if_neg c_56, if_pos c_66, if_neg c_75, if_neg c_103] at hS k9 ⊢
                    exact ih _ _ _ _ _ _ _ _ hS k9
                  · refine fs_iconst (v := 0) dX8_named_106 rfl ?_
                    have k9 := hq
                    try simp only [if_neg c_17, if_pos c_27, if_neg c_56, if_pos c_66, if_neg c_75, if_pos c_103] at k9 ⊢
                    exact fs_iret dX8_named_107 rfl rfl k9
      · have hS := hS.2 c_27
        refine fs_aload_n dX8_named_30 rfl rfl ?_
        refine fs_getfield (v := .inr (.inr (some 21))) dX8_named_31 sf_X8_37 rfl rfl ?_
        refine fs_iload_n dX8_named_34 rfl rfl ?_
        obtain ⟨ho1, hS⟩ := hS
        refine fs_iaload dX8_named_35 rfl ho1 ?_
        refine fs_iconst (v := 2) dX8_named_36 rfl ?_
        refine fs_icmp_ne 108 dX8_named_37 (by decide) (fun c_37 : ¬ (A 21 v2.toNatClampNeg) = 2 => ?_) (fun c_37 : (A 21 v2.toNatClampNeg) = 2 => ?_)
        · have hS := hS.2 c_37
          refine fs_iinc (v := (v2 + 1)) (L' := [(2, .inl (v2 + 1)), (0, .inr (.inr (some 14))), (1, .inl v1)]) dX8_named_108 rfl rfl (by decide) rfl ?_
          refine fs_goto 5 dX8_named_111 (by decide) ?_
          refine fs_reL [1, 2, 0] rfl ?_
          have k9 := hq
          try simp only [if_neg c_17, if_neg c_27, if_neg c_37] at hS k9 ⊢
          exact ih _ _ _ _ _ _ _ _ hS k9
        · have hS := hS.1 c_37
          refine fs_aload_n dX8_named_40 rfl rfl ?_
          refine fs_aload_n dX8_named_41 rfl rfl ?_
          refine fs_getfield (v := .inr (.inr (some 22))) dX8_named_42 sf_X8_40 rfl rfl ?_
          refine fs_iload_n dX8_named_45 rfl rfl ?_
          obtain ⟨ho1, hS⟩ := hS
          refine fs_iaload dX8_named_46 rfl ho1 ?_
          refine fs_aload_n dX8_named_47 rfl rfl ?_
          refine fs_getfield (v := .inl (I 13)) dX8_named_48 sf_X8_115 rfl rfl ?_
          obtain ⟨ho1, hS⟩ := hS
          refine fs_callV1 dX8_named_51 sv_X8_168 rfl ⟨_, rfl, rfl⟩ (c_X8_find G l ht I A J it dyn (A 22 v2.toNatClampNeg) (I 13) ho1) rfl rfl (Nat.le_of_ble_eq_true rfl) (Nat.le_of_ble_eq_true rfl) (Nat.le_of_ble_eq_true rfl) (Nat.le_of_ble_eq_true rfl) ?_
          refine fs_istore_n (L' := [(3, .inl (L_X8_find_r ht I A J it dyn (A 22 v2.toNatClampNeg) (I 13))), (0, .inr (.inr (some 14))), (1, .inl v1), (2, .inl v2)]) dX8_named_54 rfl (by decide) rfl ?_
          refine fs_iload_n dX8_named_55 rfl rfl ?_
          refine fs_if_lt 106 dX8_named_56 (by decide) (fun c_56 : (L_X8_find_r ht I A J it dyn (A 22 v2.toNatClampNeg) (I 13)) < 0 => ?_) (fun c_56 : ¬ ((L_X8_find_r ht I A J it dyn (A 22 v2.toNatClampNeg) (I 13)) < 0) => ?_)
          · refine fs_iconst (v := 0) dX8_named_106 rfl ?_
            have k9 := hq
            try simp only [if_neg c_17, if_neg c_27, if_pos c_37, if_pos c_56] at k9 ⊢
            exact fs_iret dX8_named_107 rfl rfl k9
          · have hS := hS c_56
            refine fs_aload_n dX8_named_59 rfl rfl ?_
            refine fs_getfield (v := .inr (.inr (some 21))) dX8_named_60 sf_X8_37 rfl rfl ?_
            refine fs_iload_n dX8_named_63 rfl rfl ?_
            obtain ⟨ho1, hS⟩ := hS
            refine fs_iaload dX8_named_64 rfl ho1 ?_
            refine fs_iconst (v := 2) dX8_named_65 rfl ?_
            refine fs_icmp_ne 78 dX8_named_66 (by decide) (fun c_66 : ¬ (A 21 v2.toNatClampNeg) = 2 => ?_) (fun c_66 : (A 21 v2.toNatClampNeg) = 2 => ?_)
            · exact absurd c_37 c_66
            · refine fs_aload_n dX8_named_69 rfl rfl ?_
              refine fs_getfield (v := .inr (.inr (some 18))) dX8_named_70 sf_X8_27 rfl rfl ?_
              refine fs_iload_n dX8_named_73 rfl rfl ?_
              obtain ⟨ho1, hS⟩ := hS
              refine fs_zaload dX8_named_74 rfl ho1 ?_
              refine fs_if_eq 106 dX8_named_75 (by decide) (fun c_75 : (A 18 (L_X8_find_r ht I A J it dyn (A 22 v2.toNatClampNeg) (I 13)).toNatClampNeg) = 0 => ?_) (fun c_75 : ¬ ((A 18 (L_X8_find_r ht I A J it dyn (A 22 v2.toNatClampNeg) (I 13)).toNatClampNeg) = 0) => ?_)
              · refine fs_iconst (v := 0) dX8_named_106 rfl ?_
                have k9 := hq
                try simp only [if_neg c_17, if_neg c_27, if_pos c_37, if_neg c_56, if_pos c_75] at k9 ⊢
                exact fs_iret dX8_named_107 rfl rfl k9
              · have hS := hS c_75
                refine fs_aload_n dX8_named_78 rfl rfl ?_
                refine fs_getfield (v := .inr (.inr (some 21))) dX8_named_79 sf_X8_37 rfl rfl ?_
                refine fs_iload_n dX8_named_82 rfl rfl ?_
                obtain ⟨ho1, hS⟩ := hS
                refine fs_iaload dX8_named_83 rfl ho1 ?_
                refine fs_iconst (v := 1) dX8_named_84 rfl ?_
                refine fs_icmp_ne 108 dX8_named_85 (by decide) (fun c_85 : ¬ (A 21 v2.toNatClampNeg) = 1 => ?_) (fun c_85 : (A 21 v2.toNatClampNeg) = 1 => ?_)
                · refine fs_iinc (v := (v2 + 1)) (L' := [(2, .inl (v2 + 1)), (3, .inl (L_X8_find_r ht I A J it dyn (A 22 v2.toNatClampNeg) (I 13))), (0, .inr (.inr (some 14))), (1, .inl v1)]) dX8_named_108 rfl rfl (by decide) rfl ?_
                  refine fs_goto 5 dX8_named_111 (by decide) ?_
                  refine fs_reL [2, 3, 0] rfl ?_
                  have k9 := hq
                  try simp only [if_neg c_17, if_neg c_27, if_pos c_37, if_neg c_56, if_neg c_75] at hS k9 ⊢
                  exact ih _ _ _ _ _ _ _ _ hS k9
                · exact absurd c_85 c_27
theorem nb_La_X8_named_5 : ∀ (n : Nat) (ht : Nat) (I : Nat → Int32) (A : Nat → Nat → Int32) (J : Nat → Nat → Int64) (it : Nat → Option Nat) (dyn : fsH) (v1 : Int32) (v2 : Int32), narrow .boolean (.int (La_X8_named_5_r n ht I A J it dyn v1 v2)) = .int (La_X8_named_5_r n ht I A J it dyn v1 v2) := by
  intro n
  induction n with
  | zero =>
    intro ht I A J it dyn v1 v2
    exact (rfl : narrow .boolean (.int 0) = .int 0)
  | succ n ih =>
    intro ht I A J it dyn v1 v2
    unfold La_X8_named_5_r
    (repeat' split) <;> first | rfl | exact ih _ _ _ _ _ _ _ _
def L_X8_named_r (ht : Nat) (I : Nat → Int32) (A : Nat → Nat → Int32) (J : Nat → Nat → Int64) (it : Nat → Option Nat) (dyn : fsH) (x1 : Int32) : Int32 := (La_X8_named_5_r 70 ht I A J it dyn x1 (32 * x1))
def S_X8_named (ht : Nat) (I : Nat → Int32) (A : Nat → Nat → Int32) (J : Nat → Nat → Int64) (it : Nat → Option Nat) (dyn : fsH) (x1 : Int32) : Prop := (S_La_X8_named_5 70 ht I A J it dyn x1 (32 * x1))
set_option maxRecDepth 100000 in
set_option maxHeartbeats 4000000 in
theorem c_X8_named (G : fsG) (l : Launch) (ht : Nat) (I : Nat → Int32) (A : Nat → Nat → Int32) (J : Nat → Nat → Int64) (it : Nat → Option Nat) (dyn : fsH) (x1 : Int32) (hS : S_X8_named ht I A J it dyn x1) : fsFn G l mX8_named 1 0 0 [.inr (.inr (some 14)), .inl x1] (fs_mk ht I A J it dyn) (some (.inl (L_X8_named_r ht I A J it dyn x1))) (fs_mk ht I A J it dyn) := by
  refine fsMet_of (by decide) (Nat.le_of_ble_eq_true rfl) ?_
  generalize hQ : (fun (r1 : Option fsV) (h1 : fsH) => r1 = (some (.inl (L_X8_named_r ht I A J it dyn x1))) ∧ h1 = (fs_mk ht I A J it dyn)) = Q
  have hq : Q (some (.inl (L_X8_named_r ht I A J it dyn x1))) (fs_mk ht I A J it dyn) := by rw [← hQ]; exact ⟨rfl, rfl⟩
  clear hQ
  have hq : Q (some (.inl (La_X8_named_5_r 70 ht I A J it dyn x1 (32 * x1)))) (fs_mk ht I A J it dyn) := hq
  have hS : (S_La_X8_named_5 70 ht I A J it dyn x1 (32 * x1)) := hS
  refine (show fsW G l mX8_named 1 0 0 0 0 Q 0 [(0, .inr (.inr (some 14))), (1, .inl x1)] [] (fs_mk ht I A J it dyn) from ?_)
  refine fs_bipush (v := 32) dX8_named_0 rfl ?_
  refine fs_iload_n dX8_named_2 rfl rfl ?_
  refine fs_imul dX8_named_3 ?_
  refine fs_istore_n (L' := [(2, .inl (32 * x1)), (0, .inr (.inr (some 14))), (1, .inl x1)]) dX8_named_4 rfl (by decide) rfl ?_
  refine fs_reL [1, 2, 0] rfl ?_
  have ho1 := hS
  have k9 := hq
  exact lp_La_X8_named_5 G l Q 70 _ _ _ _ _ _ _ _ ho1 k9
theorem nb_X8_named (ht : Nat) (I : Nat → Int32) (A : Nat → Nat → Int32) (J : Nat → Nat → Int64) (it : Nat → Option Nat) (dyn : fsH) (x1 : Int32) : narrow .boolean (.int (L_X8_named_r ht I A J it dyn x1)) = .int (L_X8_named_r ht I A J it dyn x1) := by
  unfold L_X8_named_r
  exact (by (repeat' split) <;> first | rfl | exact nb_La_X8_named_5 _ _ _ _ _ _ _ _ _)
def L_X8_rowsOf_r (ht : Nat) (I : Nat → Int32) (A : Nat → Nat → Int32) (J : Nat → Nat → Int64) (it : Nat → Option Nat) (dyn : fsH) (x1 : Int32) : Int32 := (if (A 18 x1.toNatClampNeg) = 0 then 1 else (I 11) : Int32)
def S_X8_rowsOf (ht : Nat) (I : Nat → Int32) (A : Nat → Nat → Int32) (J : Nat → Nat → Int64) (it : Nat → Option Nat) (dyn : fsH) (x1 : Int32) : Prop := (vp_in x1 17)
set_option maxRecDepth 100000 in
set_option maxHeartbeats 4000000 in
theorem c_X8_rowsOf (G : fsG) (l : Launch) (ht : Nat) (I : Nat → Int32) (A : Nat → Nat → Int32) (J : Nat → Nat → Int64) (it : Nat → Option Nat) (dyn : fsH) (x1 : Int32) (hS : S_X8_rowsOf ht I A J it dyn x1) : fsFn G l mX8_rowsOf 0 0 0 [.inr (.inr (some 14)), .inl x1] (fs_mk ht I A J it dyn) (some (.inl (L_X8_rowsOf_r ht I A J it dyn x1))) (fs_mk ht I A J it dyn) := by
  refine fsMet_of (by decide) (Nat.le_of_ble_eq_true rfl) ?_
  generalize hQ : (fun (r1 : Option fsV) (h1 : fsH) => r1 = (some (.inl (L_X8_rowsOf_r ht I A J it dyn x1))) ∧ h1 = (fs_mk ht I A J it dyn)) = Q
  have hq : Q (some (.inl (L_X8_rowsOf_r ht I A J it dyn x1))) (fs_mk ht I A J it dyn) := by rw [← hQ]; exact ⟨rfl, rfl⟩
  clear hQ
  have hq : Q (some (.inl (if (A 18 x1.toNatClampNeg) = 0 then 1 else (I 11) : Int32))) (fs_mk ht I A J it dyn) := hq
  have hS : (vp_in x1 17) := hS
  refine (show fsW G l mX8_rowsOf 0 0 0 0 0 Q 0 [(0, .inr (.inr (some 14))), (1, .inl x1)] [] (fs_mk ht I A J it dyn) from ?_)
  refine fs_aload_n dX8_rowsOf_0 rfl rfl ?_
  refine fs_getfield (v := .inr (.inr (some 18))) dX8_rowsOf_1 sf_X8_27 rfl rfl ?_
  refine fs_iload_n dX8_rowsOf_4 rfl rfl ?_
  have ho1 := hS
  refine fs_zaload dX8_rowsOf_5 rfl ho1 ?_
  have key_17 : fsW G l mX8_rowsOf 0 0 0 0 0 Q 17 [(0, .inr (.inr (some 14))), (1, .inl x1)] [.inl (if (A 18 x1.toNatClampNeg) = 0 then 1 else (I 11) : Int32)] (fs_mk ht I A J it dyn) := by
    have k9 := hq
    exact fs_iret dX8_rowsOf_17 rfl rfl k9
  refine fs_if_eq 16 dX8_rowsOf_6 (by decide) (fun c_6 : (A 18 x1.toNatClampNeg) = 0 => ?_) (fun c_6 : ¬ ((A 18 x1.toNatClampNeg) = 0) => ?_)
  · refine fs_iconst (v := 1) dX8_rowsOf_16 rfl ?_
    have k9 := key_17
    try simp only [if_pos c_6] at k9 ⊢
    exact k9
  · refine fs_aload_n dX8_rowsOf_9 rfl rfl ?_
    refine fs_getfield (v := .inl (I 11)) dX8_rowsOf_10 sf_X8_17 rfl rfl ?_
    refine fs_goto 17 dX8_rowsOf_13 (by decide) ?_
    have k9 := key_17
    try simp only [if_neg c_6] at k9 ⊢
    exact k9
def Lb_X8_values_4_v1 : Nat → Nat → (Nat → Int32) → (Nat → Nat → Int32) → (Nat → Nat → Int64) → (Nat → Option Nat) → fsH → Int32 → Int32 → Int32
  | 0, ht, I, A, J, it, dyn, v1, v2 => v1
  | n + 1, ht, I, A, J, it, dyn, v1, v2 => (if (I 13) ≤ v2 then v1 else (Lb_X8_values_4_v1 n ht I A J it dyn (v1 + (if (A 16 v2.toNatClampNeg) = 0 then (L_X8_rowsOf_r ht I A J it dyn v2) else 0 : Int32)) (v2 + 1)))
def Lb_X8_values_4_v2 : Nat → Nat → (Nat → Int32) → (Nat → Nat → Int32) → (Nat → Nat → Int64) → (Nat → Option Nat) → fsH → Int32 → Int32 → Int32
  | 0, ht, I, A, J, it, dyn, v1, v2 => v2
  | n + 1, ht, I, A, J, it, dyn, v1, v2 => (if (I 13) ≤ v2 then v2 else (Lb_X8_values_4_v2 n ht I A J it dyn (v1 + (if (A 16 v2.toNatClampNeg) = 0 then (L_X8_rowsOf_r ht I A J it dyn v2) else 0 : Int32)) (v2 + 1)))
def S_Lb_X8_values_4 : Nat → Nat → (Nat → Int32) → (Nat → Nat → Int32) → (Nat → Nat → Int64) → (Nat → Option Nat) → fsH → Int32 → Int32 → Prop
  | 0, _, _, _, _, _, _, _, _ => False
  | n + 1, ht, I, A, J, it, dyn, v1, v2 => (¬ ((I 13) ≤ v2) → ((vp_in v2 17) ∧ ((((A 16 v2.toNatClampNeg) = 0) → (S_X8_rowsOf ht I A J it dyn v2)) ∧ (S_Lb_X8_values_4 n ht I A J it dyn (v1 + (if (A 16 v2.toNatClampNeg) = 0 then (L_X8_rowsOf_r ht I A J it dyn v2) else 0 : Int32)) (v2 + 1)))))
set_option maxRecDepth 100000 in
set_option maxHeartbeats 4000000 in
theorem lp_Lb_X8_values_4 (G : fsG) (l : Launch) (Q : Option fsV → fsH → Prop) : ∀ (n : Nat) (ht : Nat) (I : Nat → Int32) (A : Nat → Nat → Int32) (J : Nat → Nat → Int64) (it : Nat → Option Nat) (dyn : fsH) (v1 : Int32) (v2 : Int32), S_Lb_X8_values_4 n ht I A J it dyn v1 v2 → (fsW G l mX8_values 1 0 0 0 0 Q 39 [(0, .inr (.inr (some 14))), (1, .inl (Lb_X8_values_4_v1 n ht I A J it dyn v1 v2)), (2, .inl (Lb_X8_values_4_v2 n ht I A J it dyn v1 v2))] [] (fs_mk ht I A J it dyn)) → fsW G l mX8_values 1 0 0 0 0 Q 4 [(0, .inr (.inr (some 14))), (1, .inl v1), (2, .inl v2)] [] (fs_mk ht I A J it dyn) := by
  intro n
  induction n with
  | zero =>
    intro ht I A J it dyn v1 v2 hS
    exact hS.elim
  | succ n ih =>
    intro ht I A J it dyn v1 v2 hS hq
    have hS : (¬ ((I 13) ≤ v2) → ((vp_in v2 17) ∧ ((((A 16 v2.toNatClampNeg) = 0) → (S_X8_rowsOf ht I A J it dyn v2)) ∧ (S_Lb_X8_values_4 n ht I A J it dyn (v1 + (if (A 16 v2.toNatClampNeg) = 0 then (L_X8_rowsOf_r ht I A J it dyn v2) else 0 : Int32)) (v2 + 1))))) := hS
    have hq : fsW G l mX8_values 1 0 0 0 0 Q 39 [(0, .inr (.inr (some 14))), (1, .inl (if (I 13) ≤ v2 then v1 else (Lb_X8_values_4_v1 n ht I A J it dyn (v1 + (if (A 16 v2.toNatClampNeg) = 0 then (L_X8_rowsOf_r ht I A J it dyn v2) else 0 : Int32)) (v2 + 1)))), (2, .inl (if (I 13) ≤ v2 then v2 else (Lb_X8_values_4_v2 n ht I A J it dyn (v1 + (if (A 16 v2.toNatClampNeg) = 0 then (L_X8_rowsOf_r ht I A J it dyn v2) else 0 : Int32)) (v2 + 1))))] [] (fs_mk ht I A J it dyn) := hq
    refine fs_iload_n dX8_values_4 rfl rfl ?_
    refine fs_aload_n dX8_values_5 rfl rfl ?_
    refine fs_getfield (v := .inl (I 13)) dX8_values_6 sf_X8_115 rfl rfl ?_
    refine fs_icmp_ge 39 dX8_values_9 (by decide) (fun c_9 : (I 13) ≤ v2 => ?_) (fun c_9 : ¬ ((I 13) ≤ v2) => ?_)
    · have k9 := hq
      try simp only [if_pos c_9] at k9 ⊢
      exact k9
    · have hS := hS c_9
      refine fs_iload_n dX8_values_12 rfl rfl ?_
      refine fs_aload_n dX8_values_13 rfl rfl ?_
      refine fs_getfield (v := .inr (.inr (some 16))) dX8_values_14 sf_X8_20 rfl rfl ?_
      refine fs_iload_n dX8_values_17 rfl rfl ?_
      obtain ⟨ho1, hS⟩ := hS
      refine fs_iaload dX8_values_18 rfl ho1 ?_
      obtain ⟨hR_19, hS⟩ := hS
      have key_31 : fsW G l mX8_values 1 0 0 0 0 Q 31 [(0, .inr (.inr (some 14))), (1, .inl v1), (2, .inl v2)] [.inl (if (A 16 v2.toNatClampNeg) = 0 then (L_X8_rowsOf_r ht I A J it dyn v2) else 0 : Int32), .inl v1] (fs_mk ht I A J it dyn) := by
        refine fs_iadd dX8_values_31 ?_
        refine fs_istore_n (L' := [(1, .inl (v1 + (if (A 16 v2.toNatClampNeg) = 0 then (L_X8_rowsOf_r ht I A J it dyn v2) else 0 : Int32))), (0, .inr (.inr (some 14))), (2, .inl v2)]) dX8_values_32 rfl (by decide) rfl ?_
        refine fs_iinc (v := (v2 + 1)) (L' := [(2, .inl (v2 + 1)), (1, .inl (v1 + (if (A 16 v2.toNatClampNeg) = 0 then (L_X8_rowsOf_r ht I A J it dyn v2) else 0 : Int32))), (0, .inr (.inr (some 14)))]) dX8_values_33 rfl rfl (by decide) rfl ?_
        refine fs_goto 4 dX8_values_36 (by decide) ?_
        refine fs_reL [2, 1, 0] rfl ?_
        have k9 := hq
        try simp only [if_neg c_9] at hS k9 ⊢
        exact ih _ _ _ _ _ _ _ _ hS k9
      refine fs_if_ne 30 dX8_values_19 (by decide) (fun c_19 : ¬ (A 16 v2.toNatClampNeg) = 0 => ?_) (fun c_19 : (A 16 v2.toNatClampNeg) = 0 => ?_)
      · refine fs_iconst (v := 0) dX8_values_30 rfl ?_
        have k9 := key_31
        try simp only [if_neg c_9, if_neg c_19] at k9 ⊢
        exact k9
      · have hS := hR_19 c_19
        refine fs_aload_n dX8_values_22 rfl rfl ?_
        refine fs_iload_n dX8_values_23 rfl rfl ?_
        have ho1 := hS
        refine fs_callV1 dX8_values_24 sv_X8_172 rfl ⟨_, rfl, rfl⟩ (c_X8_rowsOf G l ht I A J it dyn v2 ho1) rfl rfl (Nat.le_of_ble_eq_true rfl) (Nat.le_of_ble_eq_true rfl) (Nat.le_of_ble_eq_true rfl) (Nat.le_of_ble_eq_true rfl) ?_
        refine fs_goto 31 dX8_values_27 (by decide) ?_
        have k9 := key_31
        try simp only [if_neg c_9, if_pos c_19] at k9 ⊢
        exact k9
def L_X8_values_r (ht : Nat) (I : Nat → Int32) (A : Nat → Nat → Int32) (J : Nat → Nat → Int64) (it : Nat → Option Nat) (dyn : fsH)  : Int32 := (Lb_X8_values_4_v1 70 ht I A J it dyn 0 0)
def S_X8_values (ht : Nat) (I : Nat → Int32) (A : Nat → Nat → Int32) (J : Nat → Nat → Int64) (it : Nat → Option Nat) (dyn : fsH)  : Prop := (S_Lb_X8_values_4 70 ht I A J it dyn 0 0)
set_option maxRecDepth 100000 in
set_option maxHeartbeats 4000000 in
theorem c_X8_values (G : fsG) (l : Launch) (ht : Nat) (I : Nat → Int32) (A : Nat → Nat → Int32) (J : Nat → Nat → Int64) (it : Nat → Option Nat) (dyn : fsH)  (hS : S_X8_values ht I A J it dyn ) : fsFn G l mX8_values 1 0 0 [.inr (.inr (some 14))] (fs_mk ht I A J it dyn) (some (.inl (L_X8_values_r ht I A J it dyn ))) (fs_mk ht I A J it dyn) := by
  refine fsMet_of (by decide) (Nat.le_of_ble_eq_true rfl) ?_
  generalize hQ : (fun (r1 : Option fsV) (h1 : fsH) => r1 = (some (.inl (L_X8_values_r ht I A J it dyn ))) ∧ h1 = (fs_mk ht I A J it dyn)) = Q
  have hq : Q (some (.inl (L_X8_values_r ht I A J it dyn ))) (fs_mk ht I A J it dyn) := by rw [← hQ]; exact ⟨rfl, rfl⟩
  clear hQ
  have hq : Q (some (.inl (Lb_X8_values_4_v1 70 ht I A J it dyn 0 0))) (fs_mk ht I A J it dyn) := hq
  have hS : (S_Lb_X8_values_4 70 ht I A J it dyn 0 0) := hS
  refine (show fsW G l mX8_values 1 0 0 0 0 Q 0 [(0, .inr (.inr (some 14)))] [] (fs_mk ht I A J it dyn) from ?_)
  refine fs_iconst (v := 0) dX8_values_0 rfl ?_
  refine fs_istore_n (L' := [(1, .inl 0), (0, .inr (.inr (some 14)))]) dX8_values_1 rfl (by decide) rfl ?_
  refine fs_iconst (v := 0) dX8_values_2 rfl ?_
  refine fs_istore_n (L' := [(2, .inl 0), (1, .inl 0), (0, .inr (.inr (some 14)))]) dX8_values_3 rfl (by decide) rfl ?_
  refine fs_reL [2, 1, 0] rfl ?_
  have ho1 := hS
  refine lp_Lb_X8_values_4 G l Q 70 ht I A J it dyn 0 0 ho1 ?_
  refine fs_iload_n dX8_values_39 rfl rfl ?_
  have k9 := hq
  exact fs_iret dX8_values_40 rfl rfl k9
def Lb_X8_names_119_v3 : Nat → Nat → (Nat → Int32) → (Nat → Nat → Int32) → (Nat → Nat → Int64) → (Nat → Option Nat) → fsH → Int32 → Int32 → Int64 → Int32 → Int32 → Int32 → Int64
  | 0, ht, I, A, J, it, dyn, v1, v2, v3, v5, v6, v7 => v3
  | n + 1, ht, I, A, J, it, dyn, v1, v2, v3, v5, v6, v7 => (if (I 11) ≤ v7 then v3 else (Lb_X8_names_119_v3 n ht I A J it dyn v1 v2 (v3 ||| (1 <<< (((4 * v6) + v7).toInt64 &&& 63))) v5 v6 (v7 + 1)))
def Lb_X8_names_119_v7 : Nat → Nat → (Nat → Int32) → (Nat → Nat → Int32) → (Nat → Nat → Int64) → (Nat → Option Nat) → fsH → Int32 → Int32 → Int64 → Int32 → Int32 → Int32 → Int32
  | 0, ht, I, A, J, it, dyn, v1, v2, v3, v5, v6, v7 => v7
  | n + 1, ht, I, A, J, it, dyn, v1, v2, v3, v5, v6, v7 => (if (I 11) ≤ v7 then v7 else (Lb_X8_names_119_v7 n ht I A J it dyn v1 v2 (v3 ||| (1 <<< (((4 * v6) + v7).toInt64 &&& 63))) v5 v6 (v7 + 1)))
def S_Lb_X8_names_119 : Nat → Nat → (Nat → Int32) → (Nat → Nat → Int32) → (Nat → Nat → Int64) → (Nat → Option Nat) → fsH → Int32 → Int32 → Int64 → Int32 → Int32 → Int32 → Prop
  | 0, _, _, _, _, _, _, _, _, _, _, _, _ => False
  | n + 1, ht, I, A, J, it, dyn, v1, v2, v3, v5, v6, v7 => (¬ ((I 11) ≤ v7) → (S_Lb_X8_names_119 n ht I A J it dyn v1 v2 (v3 ||| (1 <<< (((4 * v6) + v7).toInt64 &&& 63))) v5 v6 (v7 + 1)))
set_option maxRecDepth 100000 in
set_option maxHeartbeats 4000000 in
theorem lp_Lb_X8_names_119 (G : fsG) (l : Launch) (Q : Option fsV → fsH → Prop) : ∀ (n : Nat) (ht : Nat) (I : Nat → Int32) (A : Nat → Nat → Int32) (J : Nat → Nat → Int64) (it : Nat → Option Nat) (dyn : fsH) (v1 : Int32) (v2 : Int32) (v3 : Int64) (v5 : Int32) (v6 : Int32) (v7 : Int32), S_Lb_X8_names_119 n ht I A J it dyn v1 v2 v3 v5 v6 v7 → (fsW G l mX8_names 1 0 0 0 0 Q 146 [(0, .inr (.inr (some 14))), (1, .inl v1), (2, .inl v2), (3, .inr (.inl (Lb_X8_names_119_v3 n ht I A J it dyn v1 v2 v3 v5 v6 v7))), (5, .inl v5), (6, .inl v6), (7, .inl (Lb_X8_names_119_v7 n ht I A J it dyn v1 v2 v3 v5 v6 v7))] [] (fs_mk ht I A J it dyn)) → fsW G l mX8_names 1 0 0 0 0 Q 119 [(0, .inr (.inr (some 14))), (1, .inl v1), (2, .inl v2), (3, .inr (.inl v3)), (5, .inl v5), (6, .inl v6), (7, .inl v7)] [] (fs_mk ht I A J it dyn) := by
  intro n
  induction n with
  | zero =>
    intro ht I A J it dyn v1 v2 v3 v5 v6 v7 hS
    exact hS.elim
  | succ n ih =>
    intro ht I A J it dyn v1 v2 v3 v5 v6 v7 hS hq
    have hS : (¬ ((I 11) ≤ v7) → (S_Lb_X8_names_119 n ht I A J it dyn v1 v2 (v3 ||| (1 <<< (((4 * v6) + v7).toInt64 &&& 63))) v5 v6 (v7 + 1))) := hS
    have hq : fsW G l mX8_names 1 0 0 0 0 Q 146 [(0, .inr (.inr (some 14))), (1, .inl v1), (2, .inl v2), (3, .inr (.inl (if (I 11) ≤ v7 then v3 else (Lb_X8_names_119_v3 n ht I A J it dyn v1 v2 (v3 ||| (1 <<< (((4 * v6) + v7).toInt64 &&& 63))) v5 v6 (v7 + 1))))), (5, .inl v5), (6, .inl v6), (7, .inl (if (I 11) ≤ v7 then v7 else (Lb_X8_names_119_v7 n ht I A J it dyn v1 v2 (v3 ||| (1 <<< (((4 * v6) + v7).toInt64 &&& 63))) v5 v6 (v7 + 1))))] [] (fs_mk ht I A J it dyn) := hq
    refine fs_iload dX8_names_119 rfl ?_
    refine fs_aload_n dX8_names_121 rfl rfl ?_
    refine fs_getfield (v := .inl (I 11)) dX8_names_122 sf_X8_17 rfl rfl ?_
    refine fs_icmp_ge 146 dX8_names_125 (by decide) (fun c_125 : (I 11) ≤ v7 => ?_) (fun c_125 : ¬ ((I 11) ≤ v7) => ?_)
    · have k9 := hq
      try simp only [if_pos c_125] at k9 ⊢
      exact k9
    · have hS := hS c_125
      refine fs_lload_n dX8_names_128 rfl rfl ?_
      refine fs_lconst (v := 1) dX8_names_129 rfl ?_
      refine fs_iconst (v := 4) dX8_names_130 rfl ?_
      refine fs_iload dX8_names_131 rfl ?_
      refine fs_imul dX8_names_133 ?_
      refine fs_iload dX8_names_134 rfl ?_
      refine fs_iadd dX8_names_136 ?_
      refine fs_lshl dX8_names_137 ?_
      refine fs_lor dX8_names_138 ?_
      refine fs_lstore_n (L' := [(3, .inr (.inl (v3 ||| (1 <<< (((4 * v6) + v7).toInt64 &&& 63))))), (0, .inr (.inr (some 14))), (1, .inl v1), (2, .inl v2), (5, .inl v5), (6, .inl v6), (7, .inl v7)]) dX8_names_139 rfl (by decide) rfl ?_
      refine fs_iinc (v := (v7 + 1)) (L' := [(7, .inl (v7 + 1)), (3, .inr (.inl (v3 ||| (1 <<< (((4 * v6) + v7).toInt64 &&& 63))))), (0, .inr (.inr (some 14))), (1, .inl v1), (2, .inl v2), (5, .inl v5), (6, .inl v6)]) dX8_names_140 rfl rfl (by decide) rfl ?_
      refine fs_goto 119 dX8_names_143 (by decide) ?_
      refine fs_reL [2, 3, 4, 1, 5, 6, 0] rfl ?_
      have k9 := hq
      try simp only [if_neg c_125] at hS k9 ⊢
      exact ih _ _ _ _ _ _ _ _ _ _ _ _ hS k9
def Lb_X8_names_8_v3 : Nat → Nat → (Nat → Int32) → (Nat → Nat → Int32) → (Nat → Nat → Int64) → (Nat → Option Nat) → fsH → Int32 → Int32 → Int64 → Int32 → Int64
  | 0, ht, I, A, J, it, dyn, v1, v2, v3, v5 => v3
  | n + 1, ht, I, A, J, it, dyn, v1, v2, v3, v5 => (if ((32 * v1) + (A 20 v1.toNatClampNeg)) ≤ v5 then v3 else (Lb_X8_names_8_v3 n ht I A J it dyn v1 v2 (if (if (A 21 v5.toNatClampNeg) = 1 then (L_X8_find_r ht I A J it dyn (A 22 v5.toNatClampNeg) (I 13)) else (if (A 21 v5.toNatClampNeg) = 2 then (L_X8_find_r ht I A J it dyn (A 22 v5.toNatClampNeg) (I 13)) else (-1) : Int32) : Int32) < 0 then v3 else (if (A 21 v5.toNatClampNeg) = 1 then (v3 ||| (1 <<< (((4 * (if (A 21 v5.toNatClampNeg) = 1 then (L_X8_find_r ht I A J it dyn (A 22 v5.toNatClampNeg) (I 13)) else (if (A 21 v5.toNatClampNeg) = 2 then (L_X8_find_r ht I A J it dyn (A 22 v5.toNatClampNeg) (I 13)) else (-1) : Int32) : Int32)) + (if (A 18 (if (A 21 v5.toNatClampNeg) = 1 then (L_X8_find_r ht I A J it dyn (A 22 v5.toNatClampNeg) (I 13)) else (if (A 21 v5.toNatClampNeg) = 2 then (L_X8_find_r ht I A J it dyn (A 22 v5.toNatClampNeg) (I 13)) else (-1) : Int32) : Int32).toNatClampNeg) = 0 then 0 else v2 : Int32)).toInt64 &&& 63))) else (Lb_X8_names_119_v3 70 ht I A J it dyn v1 v2 v3 v5 (if (A 21 v5.toNatClampNeg) = 1 then (L_X8_find_r ht I A J it dyn (A 22 v5.toNatClampNeg) (I 13)) else (if (A 21 v5.toNatClampNeg) = 2 then (L_X8_find_r ht I A J it dyn (A 22 v5.toNatClampNeg) (I 13)) else (-1) : Int32) : Int32) 0) : Int64) : Int64) (v5 + 1)))
def Lb_X8_names_8_v5 : Nat → Nat → (Nat → Int32) → (Nat → Nat → Int32) → (Nat → Nat → Int64) → (Nat → Option Nat) → fsH → Int32 → Int32 → Int64 → Int32 → Int32
  | 0, ht, I, A, J, it, dyn, v1, v2, v3, v5 => v5
  | n + 1, ht, I, A, J, it, dyn, v1, v2, v3, v5 => (if ((32 * v1) + (A 20 v1.toNatClampNeg)) ≤ v5 then v5 else (Lb_X8_names_8_v5 n ht I A J it dyn v1 v2 (if (if (A 21 v5.toNatClampNeg) = 1 then (L_X8_find_r ht I A J it dyn (A 22 v5.toNatClampNeg) (I 13)) else (if (A 21 v5.toNatClampNeg) = 2 then (L_X8_find_r ht I A J it dyn (A 22 v5.toNatClampNeg) (I 13)) else (-1) : Int32) : Int32) < 0 then v3 else (if (A 21 v5.toNatClampNeg) = 1 then (v3 ||| (1 <<< (((4 * (if (A 21 v5.toNatClampNeg) = 1 then (L_X8_find_r ht I A J it dyn (A 22 v5.toNatClampNeg) (I 13)) else (if (A 21 v5.toNatClampNeg) = 2 then (L_X8_find_r ht I A J it dyn (A 22 v5.toNatClampNeg) (I 13)) else (-1) : Int32) : Int32)) + (if (A 18 (if (A 21 v5.toNatClampNeg) = 1 then (L_X8_find_r ht I A J it dyn (A 22 v5.toNatClampNeg) (I 13)) else (if (A 21 v5.toNatClampNeg) = 2 then (L_X8_find_r ht I A J it dyn (A 22 v5.toNatClampNeg) (I 13)) else (-1) : Int32) : Int32).toNatClampNeg) = 0 then 0 else v2 : Int32)).toInt64 &&& 63))) else (Lb_X8_names_119_v3 70 ht I A J it dyn v1 v2 v3 v5 (if (A 21 v5.toNatClampNeg) = 1 then (L_X8_find_r ht I A J it dyn (A 22 v5.toNatClampNeg) (I 13)) else (if (A 21 v5.toNatClampNeg) = 2 then (L_X8_find_r ht I A J it dyn (A 22 v5.toNatClampNeg) (I 13)) else (-1) : Int32) : Int32) 0) : Int64) : Int64) (v5 + 1)))
def S_Lb_X8_names_8 : Nat → Nat → (Nat → Int32) → (Nat → Nat → Int32) → (Nat → Nat → Int64) → (Nat → Option Nat) → fsH → Int32 → Int32 → Int64 → Int32 → Prop
  | 0, _, _, _, _, _, _, _, _, _, _ => False
  | n + 1, ht, I, A, J, it, dyn, v1, v2, v3, v5 => ((vp_in v1 17) ∧ (¬ (((32 * v1) + (A 20 v1.toNatClampNeg)) ≤ v5) → ((vp_in v5 544) ∧ (((((A 21 v5.toNatClampNeg) = 1) → ((vp_in v5 544) ∧ (S_X8_find ht I A J it dyn (A 22 v5.toNatClampNeg) (I 13)))) ∧ (¬ ((A 21 v5.toNatClampNeg) = 1) → ((vp_in v5 544) ∧ (((A 21 v5.toNatClampNeg) = 2) → ((vp_in v5 544) ∧ (S_X8_find ht I A J it dyn (A 22 v5.toNatClampNeg) (I 13))))))) ∧ ((¬ ((if (A 21 v5.toNatClampNeg) = 1 then (L_X8_find_r ht I A J it dyn (A 22 v5.toNatClampNeg) (I 13)) else (if (A 21 v5.toNatClampNeg) = 2 then (L_X8_find_r ht I A J it dyn (A 22 v5.toNatClampNeg) (I 13)) else (-1) : Int32) : Int32) < 0) → ((vp_in v5 544) ∧ ((((A 21 v5.toNatClampNeg) = 1) → (vp_in (if (A 21 v5.toNatClampNeg) = 1 then (L_X8_find_r ht I A J it dyn (A 22 v5.toNatClampNeg) (I 13)) else (if (A 21 v5.toNatClampNeg) = 2 then (L_X8_find_r ht I A J it dyn (A 22 v5.toNatClampNeg) (I 13)) else (-1) : Int32) : Int32) 17)) ∧ (¬ ((A 21 v5.toNatClampNeg) = 1) → (S_Lb_X8_names_119 70 ht I A J it dyn v1 v2 v3 v5 (if (A 21 v5.toNatClampNeg) = 1 then (L_X8_find_r ht I A J it dyn (A 22 v5.toNatClampNeg) (I 13)) else (if (A 21 v5.toNatClampNeg) = 2 then (L_X8_find_r ht I A J it dyn (A 22 v5.toNatClampNeg) (I 13)) else (-1) : Int32) : Int32) 0))))) ∧ (S_Lb_X8_names_8 n ht I A J it dyn v1 v2 (if (if (A 21 v5.toNatClampNeg) = 1 then (L_X8_find_r ht I A J it dyn (A 22 v5.toNatClampNeg) (I 13)) else (if (A 21 v5.toNatClampNeg) = 2 then (L_X8_find_r ht I A J it dyn (A 22 v5.toNatClampNeg) (I 13)) else (-1) : Int32) : Int32) < 0 then v3 else (if (A 21 v5.toNatClampNeg) = 1 then (v3 ||| (1 <<< (((4 * (if (A 21 v5.toNatClampNeg) = 1 then (L_X8_find_r ht I A J it dyn (A 22 v5.toNatClampNeg) (I 13)) else (if (A 21 v5.toNatClampNeg) = 2 then (L_X8_find_r ht I A J it dyn (A 22 v5.toNatClampNeg) (I 13)) else (-1) : Int32) : Int32)) + (if (A 18 (if (A 21 v5.toNatClampNeg) = 1 then (L_X8_find_r ht I A J it dyn (A 22 v5.toNatClampNeg) (I 13)) else (if (A 21 v5.toNatClampNeg) = 2 then (L_X8_find_r ht I A J it dyn (A 22 v5.toNatClampNeg) (I 13)) else (-1) : Int32) : Int32).toNatClampNeg) = 0 then 0 else v2 : Int32)).toInt64 &&& 63))) else (Lb_X8_names_119_v3 70 ht I A J it dyn v1 v2 v3 v5 (if (A 21 v5.toNatClampNeg) = 1 then (L_X8_find_r ht I A J it dyn (A 22 v5.toNatClampNeg) (I 13)) else (if (A 21 v5.toNatClampNeg) = 2 then (L_X8_find_r ht I A J it dyn (A 22 v5.toNatClampNeg) (I 13)) else (-1) : Int32) : Int32) 0) : Int64) : Int64) (v5 + 1)))))))
set_option maxRecDepth 100000 in
set_option maxHeartbeats 4000000 in
theorem lp_Lb_X8_names_8 (G : fsG) (l : Launch) (Q : Option fsV → fsH → Prop) : ∀ (n : Nat) (ht : Nat) (I : Nat → Int32) (A : Nat → Nat → Int32) (J : Nat → Nat → Int64) (it : Nat → Option Nat) (dyn : fsH) (v1 : Int32) (v2 : Int32) (v3 : Int64) (v5 : Int32), S_Lb_X8_names_8 n ht I A J it dyn v1 v2 v3 v5 → (fsW G l mX8_names 1 0 0 0 0 Q 152 [(0, .inr (.inr (some 14))), (1, .inl v1), (2, .inl v2), (3, .inr (.inl (Lb_X8_names_8_v3 n ht I A J it dyn v1 v2 v3 v5))), (5, .inl (Lb_X8_names_8_v5 n ht I A J it dyn v1 v2 v3 v5))] [] (fs_mk ht I A J it dyn)) → fsW G l mX8_names 1 0 0 0 0 Q 8 [(0, .inr (.inr (some 14))), (1, .inl v1), (2, .inl v2), (3, .inr (.inl v3)), (5, .inl v5)] [] (fs_mk ht I A J it dyn) := by
  intro n
  induction n with
  | zero =>
    intro ht I A J it dyn v1 v2 v3 v5 hS
    exact hS.elim
  | succ n ih =>
    intro ht I A J it dyn v1 v2 v3 v5 hS hq
    have hS : ((vp_in v1 17) ∧ (¬ (((32 * v1) + (A 20 v1.toNatClampNeg)) ≤ v5) → ((vp_in v5 544) ∧ (((((A 21 v5.toNatClampNeg) = 1) → ((vp_in v5 544) ∧ (S_X8_find ht I A J it dyn (A 22 v5.toNatClampNeg) (I 13)))) ∧ (¬ ((A 21 v5.toNatClampNeg) = 1) → ((vp_in v5 544) ∧ (((A 21 v5.toNatClampNeg) = 2) → ((vp_in v5 544) ∧ (S_X8_find ht I A J it dyn (A 22 v5.toNatClampNeg) (I 13))))))) ∧ ((¬ ((if (A 21 v5.toNatClampNeg) = 1 then (L_X8_find_r ht I A J it dyn (A 22 v5.toNatClampNeg) (I 13)) else (if (A 21 v5.toNatClampNeg) = 2 then (L_X8_find_r ht I A J it dyn (A 22 v5.toNatClampNeg) (I 13)) else (-1) : Int32) : Int32) < 0) → ((vp_in v5 544) ∧ ((((A 21 v5.toNatClampNeg) = 1) → (vp_in (if (A 21 v5.toNatClampNeg) = 1 then (L_X8_find_r ht I A J it dyn (A 22 v5.toNatClampNeg) (I 13)) else (if (A 21 v5.toNatClampNeg) = 2 then (L_X8_find_r ht I A J it dyn (A 22 v5.toNatClampNeg) (I 13)) else (-1) : Int32) : Int32) 17)) ∧ (¬ ((A 21 v5.toNatClampNeg) = 1) → (S_Lb_X8_names_119 70 ht I A J it dyn v1 v2 v3 v5 (if (A 21 v5.toNatClampNeg) = 1 then (L_X8_find_r ht I A J it dyn (A 22 v5.toNatClampNeg) (I 13)) else (if (A 21 v5.toNatClampNeg) = 2 then (L_X8_find_r ht I A J it dyn (A 22 v5.toNatClampNeg) (I 13)) else (-1) : Int32) : Int32) 0))))) ∧ (S_Lb_X8_names_8 n ht I A J it dyn v1 v2 (if (if (A 21 v5.toNatClampNeg) = 1 then (L_X8_find_r ht I A J it dyn (A 22 v5.toNatClampNeg) (I 13)) else (if (A 21 v5.toNatClampNeg) = 2 then (L_X8_find_r ht I A J it dyn (A 22 v5.toNatClampNeg) (I 13)) else (-1) : Int32) : Int32) < 0 then v3 else (if (A 21 v5.toNatClampNeg) = 1 then (v3 ||| (1 <<< (((4 * (if (A 21 v5.toNatClampNeg) = 1 then (L_X8_find_r ht I A J it dyn (A 22 v5.toNatClampNeg) (I 13)) else (if (A 21 v5.toNatClampNeg) = 2 then (L_X8_find_r ht I A J it dyn (A 22 v5.toNatClampNeg) (I 13)) else (-1) : Int32) : Int32)) + (if (A 18 (if (A 21 v5.toNatClampNeg) = 1 then (L_X8_find_r ht I A J it dyn (A 22 v5.toNatClampNeg) (I 13)) else (if (A 21 v5.toNatClampNeg) = 2 then (L_X8_find_r ht I A J it dyn (A 22 v5.toNatClampNeg) (I 13)) else (-1) : Int32) : Int32).toNatClampNeg) = 0 then 0 else v2 : Int32)).toInt64 &&& 63))) else (Lb_X8_names_119_v3 70 ht I A J it dyn v1 v2 v3 v5 (if (A 21 v5.toNatClampNeg) = 1 then (L_X8_find_r ht I A J it dyn (A 22 v5.toNatClampNeg) (I 13)) else (if (A 21 v5.toNatClampNeg) = 2 then (L_X8_find_r ht I A J it dyn (A 22 v5.toNatClampNeg) (I 13)) else (-1) : Int32) : Int32) 0) : Int64) : Int64) (v5 + 1))))))) := hS
    have hq : fsW G l mX8_names 1 0 0 0 0 Q 152 [(0, .inr (.inr (some 14))), (1, .inl v1), (2, .inl v2), (3, .inr (.inl (if ((32 * v1) + (A 20 v1.toNatClampNeg)) ≤ v5 then v3 else (Lb_X8_names_8_v3 n ht I A J it dyn v1 v2 (if (if (A 21 v5.toNatClampNeg) = 1 then (L_X8_find_r ht I A J it dyn (A 22 v5.toNatClampNeg) (I 13)) else (if (A 21 v5.toNatClampNeg) = 2 then (L_X8_find_r ht I A J it dyn (A 22 v5.toNatClampNeg) (I 13)) else (-1) : Int32) : Int32) < 0 then v3 else (if (A 21 v5.toNatClampNeg) = 1 then (v3 ||| (1 <<< (((4 * (if (A 21 v5.toNatClampNeg) = 1 then (L_X8_find_r ht I A J it dyn (A 22 v5.toNatClampNeg) (I 13)) else (if (A 21 v5.toNatClampNeg) = 2 then (L_X8_find_r ht I A J it dyn (A 22 v5.toNatClampNeg) (I 13)) else (-1) : Int32) : Int32)) + (if (A 18 (if (A 21 v5.toNatClampNeg) = 1 then (L_X8_find_r ht I A J it dyn (A 22 v5.toNatClampNeg) (I 13)) else (if (A 21 v5.toNatClampNeg) = 2 then (L_X8_find_r ht I A J it dyn (A 22 v5.toNatClampNeg) (I 13)) else (-1) : Int32) : Int32).toNatClampNeg) = 0 then 0 else v2 : Int32)).toInt64 &&& 63))) else (Lb_X8_names_119_v3 70 ht I A J it dyn v1 v2 v3 v5 (if (A 21 v5.toNatClampNeg) = 1 then (L_X8_find_r ht I A J it dyn (A 22 v5.toNatClampNeg) (I 13)) else (if (A 21 v5.toNatClampNeg) = 2 then (L_X8_find_r ht I A J it dyn (A 22 v5.toNatClampNeg) (I 13)) else (-1) : Int32) : Int32) 0) : Int64) : Int64) (v5 + 1))))), (5, .inl (if ((32 * v1) + (A 20 v1.toNatClampNeg)) ≤ v5 then v5 else (Lb_X8_names_8_v5 n ht I A J it dyn v1 v2 (if (if (A 21 v5.toNatClampNeg) = 1 then (L_X8_find_r ht I A J it dyn (A 22 v5.toNatClampNeg) (I 13)) else (if (A 21 v5.toNatClampNeg) = 2 then (L_X8_find_r ht I A J it dyn (A 22 v5.toNatClampNeg) (I 13)) else (-1) : Int32) : Int32) < 0 then v3 else (if (A 21 v5.toNatClampNeg) = 1 then (v3 ||| (1 <<< (((4 * (if (A 21 v5.toNatClampNeg) = 1 then (L_X8_find_r ht I A J it dyn (A 22 v5.toNatClampNeg) (I 13)) else (if (A 21 v5.toNatClampNeg) = 2 then (L_X8_find_r ht I A J it dyn (A 22 v5.toNatClampNeg) (I 13)) else (-1) : Int32) : Int32)) + (if (A 18 (if (A 21 v5.toNatClampNeg) = 1 then (L_X8_find_r ht I A J it dyn (A 22 v5.toNatClampNeg) (I 13)) else (if (A 21 v5.toNatClampNeg) = 2 then (L_X8_find_r ht I A J it dyn (A 22 v5.toNatClampNeg) (I 13)) else (-1) : Int32) : Int32).toNatClampNeg) = 0 then 0 else v2 : Int32)).toInt64 &&& 63))) else (Lb_X8_names_119_v3 70 ht I A J it dyn v1 v2 v3 v5 (if (A 21 v5.toNatClampNeg) = 1 then (L_X8_find_r ht I A J it dyn (A 22 v5.toNatClampNeg) (I 13)) else (if (A 21 v5.toNatClampNeg) = 2 then (L_X8_find_r ht I A J it dyn (A 22 v5.toNatClampNeg) (I 13)) else (-1) : Int32) : Int32) 0) : Int64) : Int64) (v5 + 1))))] [] (fs_mk ht I A J it dyn) := hq
    refine fs_iload dX8_names_8 rfl ?_
    refine fs_bipush (v := 32) dX8_names_10 rfl ?_
    refine fs_iload_n dX8_names_12 rfl rfl ?_
    refine fs_imul dX8_names_13 ?_
    refine fs_aload_n dX8_names_14 rfl rfl ?_
    refine fs_getfield (v := .inr (.inr (some 20))) dX8_names_15 sf_X8_34 rfl rfl ?_
    refine fs_iload_n dX8_names_18 rfl rfl ?_
    obtain ⟨ho1, hS⟩ := hS
    refine fs_iaload dX8_names_19 rfl ho1 ?_
    refine fs_iadd dX8_names_20 ?_
    refine fs_icmp_ge 152 dX8_names_21 (by decide) (fun c_21 : ((32 * v1) + (A 20 v1.toNatClampNeg)) ≤ v5 => ?_) (fun c_21 : ¬ (((32 * v1) + (A 20 v1.toNatClampNeg)) ≤ v5) => ?_)
    · have k9 := hq
      try simp only [if_pos c_21] at k9 ⊢
      exact k9
    · have hS := hS c_21
      refine fs_aload_n dX8_names_24 rfl rfl ?_
      refine fs_getfield (v := .inr (.inr (some 21))) dX8_names_25 sf_X8_37 rfl rfl ?_
      refine fs_iload dX8_names_28 rfl ?_
      obtain ⟨ho1, hS⟩ := hS
      refine fs_iaload dX8_names_30 rfl ho1 ?_
      refine fs_iconst (v := 1) dX8_names_31 rfl ?_
      obtain ⟨hR_32, hS⟩ := hS
      have key_65 : fsW G l mX8_names 1 0 0 0 0 Q 65 [(0, .inr (.inr (some 14))), (1, .inl v1), (2, .inl v2), (3, .inr (.inl v3)), (5, .inl v5)] [.inl (if (A 21 v5.toNatClampNeg) = 1 then (L_X8_find_r ht I A J it dyn (A 22 v5.toNatClampNeg) (I 13)) else (if (A 21 v5.toNatClampNeg) = 2 then (L_X8_find_r ht I A J it dyn (A 22 v5.toNatClampNeg) (I 13)) else (-1) : Int32) : Int32)] (fs_mk ht I A J it dyn) := by
        refine fs_istore (L' := [(6, .inl (if (A 21 v5.toNatClampNeg) = 1 then (L_X8_find_r ht I A J it dyn (A 22 v5.toNatClampNeg) (I 13)) else (if (A 21 v5.toNatClampNeg) = 2 then (L_X8_find_r ht I A J it dyn (A 22 v5.toNatClampNeg) (I 13)) else (-1) : Int32) : Int32)), (0, .inr (.inr (some 14))), (1, .inl v1), (2, .inl v2), (3, .inr (.inl v3)), (5, .inl v5)]) dX8_names_65 (by decide) rfl ?_
        refine fs_iload dX8_names_67 rfl ?_
        obtain ⟨hR_69, hS⟩ := hS
        have key_146 : fsW G l mX8_names 1 0 0 0 0 Q 146 [(0, .inr (.inr (some 14))), (1, .inl v1), (2, .inl v2), (3, .inr (.inl (if (if (A 21 v5.toNatClampNeg) = 1 then (L_X8_find_r ht I A J it dyn (A 22 v5.toNatClampNeg) (I 13)) else (if (A 21 v5.toNatClampNeg) = 2 then (L_X8_find_r ht I A J it dyn (A 22 v5.toNatClampNeg) (I 13)) else (-1) : Int32) : Int32) < 0 then v3 else (if (A 21 v5.toNatClampNeg) = 1 then (v3 ||| (1 <<< (((4 * (if (A 21 v5.toNatClampNeg) = 1 then (L_X8_find_r ht I A J it dyn (A 22 v5.toNatClampNeg) (I 13)) else (if (A 21 v5.toNatClampNeg) = 2 then (L_X8_find_r ht I A J it dyn (A 22 v5.toNatClampNeg) (I 13)) else (-1) : Int32) : Int32)) + (if (A 18 (if (A 21 v5.toNatClampNeg) = 1 then (L_X8_find_r ht I A J it dyn (A 22 v5.toNatClampNeg) (I 13)) else (if (A 21 v5.toNatClampNeg) = 2 then (L_X8_find_r ht I A J it dyn (A 22 v5.toNatClampNeg) (I 13)) else (-1) : Int32) : Int32).toNatClampNeg) = 0 then 0 else v2 : Int32)).toInt64 &&& 63))) else (Lb_X8_names_119_v3 70 ht I A J it dyn v1 v2 v3 v5 (if (A 21 v5.toNatClampNeg) = 1 then (L_X8_find_r ht I A J it dyn (A 22 v5.toNatClampNeg) (I 13)) else (if (A 21 v5.toNatClampNeg) = 2 then (L_X8_find_r ht I A J it dyn (A 22 v5.toNatClampNeg) (I 13)) else (-1) : Int32) : Int32) 0) : Int64) : Int64))), (5, .inl v5), (6, .inl (if (A 21 v5.toNatClampNeg) = 1 then (L_X8_find_r ht I A J it dyn (A 22 v5.toNatClampNeg) (I 13)) else (if (A 21 v5.toNatClampNeg) = 2 then (L_X8_find_r ht I A J it dyn (A 22 v5.toNatClampNeg) (I 13)) else (-1) : Int32) : Int32))] [] (fs_mk ht I A J it dyn) := by
          refine fs_iinc (v := (v5 + 1)) (L' := [(5, .inl (v5 + 1)), (0, .inr (.inr (some 14))), (1, .inl v1), (2, .inl v2), (3, .inr (.inl (if (if (A 21 v5.toNatClampNeg) = 1 then (L_X8_find_r ht I A J it dyn (A 22 v5.toNatClampNeg) (I 13)) else (if (A 21 v5.toNatClampNeg) = 2 then (L_X8_find_r ht I A J it dyn (A 22 v5.toNatClampNeg) (I 13)) else (-1) : Int32) : Int32) < 0 then v3 else (if (A 21 v5.toNatClampNeg) = 1 then (v3 ||| (1 <<< (((4 * (if (A 21 v5.toNatClampNeg) = 1 then (L_X8_find_r ht I A J it dyn (A 22 v5.toNatClampNeg) (I 13)) else (if (A 21 v5.toNatClampNeg) = 2 then (L_X8_find_r ht I A J it dyn (A 22 v5.toNatClampNeg) (I 13)) else (-1) : Int32) : Int32)) + (if (A 18 (if (A 21 v5.toNatClampNeg) = 1 then (L_X8_find_r ht I A J it dyn (A 22 v5.toNatClampNeg) (I 13)) else (if (A 21 v5.toNatClampNeg) = 2 then (L_X8_find_r ht I A J it dyn (A 22 v5.toNatClampNeg) (I 13)) else (-1) : Int32) : Int32).toNatClampNeg) = 0 then 0 else v2 : Int32)).toInt64 &&& 63))) else (Lb_X8_names_119_v3 70 ht I A J it dyn v1 v2 v3 v5 (if (A 21 v5.toNatClampNeg) = 1 then (L_X8_find_r ht I A J it dyn (A 22 v5.toNatClampNeg) (I 13)) else (if (A 21 v5.toNatClampNeg) = 2 then (L_X8_find_r ht I A J it dyn (A 22 v5.toNatClampNeg) (I 13)) else (-1) : Int32) : Int32) 0) : Int64) : Int64))), (6, .inl (if (A 21 v5.toNatClampNeg) = 1 then (L_X8_find_r ht I A J it dyn (A 22 v5.toNatClampNeg) (I 13)) else (if (A 21 v5.toNatClampNeg) = 2 then (L_X8_find_r ht I A J it dyn (A 22 v5.toNatClampNeg) (I 13)) else (-1) : Int32) : Int32))]) dX8_names_146 rfl rfl (by decide) rfl ?_
          refine fs_goto 8 dX8_names_149 (by decide) ?_
          refine fs_reL [1, 2, 3, 4, 0] rfl ?_
          have k9 := hq
          try simp only [if_neg c_21] at hS k9 ⊢
          exact ih _ _ _ _ _ _ _ _ _ _ hS k9
        refine fs_if_lt 111 dX8_names_69 (by decide) (fun c_69 : (if (A 21 v5.toNatClampNeg) = 1 then (L_X8_find_r ht I A J it dyn (A 22 v5.toNatClampNeg) (I 13)) else (if (A 21 v5.toNatClampNeg) = 2 then (L_X8_find_r ht I A J it dyn (A 22 v5.toNatClampNeg) (I 13)) else (-1) : Int32) : Int32) < 0 => ?_) (fun c_69 : ¬ ((if (A 21 v5.toNatClampNeg) = 1 then (L_X8_find_r ht I A J it dyn (A 22 v5.toNatClampNeg) (I 13)) else (if (A 21 v5.toNatClampNeg) = 2 then (L_X8_find_r ht I A J it dyn (A 22 v5.toNatClampNeg) (I 13)) else (-1) : Int32) : Int32) < 0) => ?_)
        · refine fs_iload dX8_names_111 rfl ?_
          refine fs_if_lt 146 dX8_names_113 (by decide) (fun c_113 : (if (A 21 v5.toNatClampNeg) = 1 then (L_X8_find_r ht I A J it dyn (A 22 v5.toNatClampNeg) (I 13)) else (if (A 21 v5.toNatClampNeg) = 2 then (L_X8_find_r ht I A J it dyn (A 22 v5.toNatClampNeg) (I 13)) else (-1) : Int32) : Int32) < 0 => ?_) (fun c_113 : ¬ ((if (A 21 v5.toNatClampNeg) = 1 then (L_X8_find_r ht I A J it dyn (A 22 v5.toNatClampNeg) (I 13)) else (if (A 21 v5.toNatClampNeg) = 2 then (L_X8_find_r ht I A J it dyn (A 22 v5.toNatClampNeg) (I 13)) else (-1) : Int32) : Int32) < 0) => ?_)
          · refine fs_reL [1, 2, 3, 4, 5, 0] rfl ?_
            have k9 := key_146
            try simp only [if_neg c_21, if_pos c_69] at k9 ⊢
            exact k9
          · exact absurd c_69 c_113
        · have hS := hR_69 c_69
          refine fs_aload_n dX8_names_72 rfl rfl ?_
          refine fs_getfield (v := .inr (.inr (some 21))) dX8_names_73 sf_X8_37 rfl rfl ?_
          refine fs_iload dX8_names_76 rfl ?_
          obtain ⟨ho1, hS⟩ := hS
          refine fs_iaload dX8_names_78 rfl ho1 ?_
          refine fs_iconst (v := 1) dX8_names_79 rfl ?_
          refine fs_icmp_ne 111 dX8_names_80 (by decide) (fun c_80 : ¬ (A 21 v5.toNatClampNeg) = 1 => ?_) (fun c_80 : (A 21 v5.toNatClampNeg) = 1 => ?_)
          · have hS := hS.2 c_80
            refine fs_iload dX8_names_111 rfl ?_
            refine fs_if_lt 146 dX8_names_113 (by decide) (fun c_113 : (if (A 21 v5.toNatClampNeg) = 1 then (L_X8_find_r ht I A J it dyn (A 22 v5.toNatClampNeg) (I 13)) else (if (A 21 v5.toNatClampNeg) = 2 then (L_X8_find_r ht I A J it dyn (A 22 v5.toNatClampNeg) (I 13)) else (-1) : Int32) : Int32) < 0 => ?_) (fun c_113 : ¬ ((if (A 21 v5.toNatClampNeg) = 1 then (L_X8_find_r ht I A J it dyn (A 22 v5.toNatClampNeg) (I 13)) else (if (A 21 v5.toNatClampNeg) = 2 then (L_X8_find_r ht I A J it dyn (A 22 v5.toNatClampNeg) (I 13)) else (-1) : Int32) : Int32) < 0) => ?_)
            · exact absurd c_113 c_69
            · refine fs_iconst (v := 0) dX8_names_116 rfl ?_
              refine fs_istore (L' := [(7, .inl 0), (6, .inl (if (A 21 v5.toNatClampNeg) = 1 then (L_X8_find_r ht I A J it dyn (A 22 v5.toNatClampNeg) (I 13)) else (if (A 21 v5.toNatClampNeg) = 2 then (L_X8_find_r ht I A J it dyn (A 22 v5.toNatClampNeg) (I 13)) else (-1) : Int32) : Int32)), (0, .inr (.inr (some 14))), (1, .inl v1), (2, .inl v2), (3, .inr (.inl v3)), (5, .inl v5)]) dX8_names_117 (by decide) rfl ?_
              refine fs_reL [2, 3, 4, 5, 6, 1, 0] rfl ?_
              have ho1 := hS
              refine lp_Lb_X8_names_119 G l Q 70 ht I A J it dyn v1 v2 v3 v5 (if (A 21 v5.toNatClampNeg) = 1 then (L_X8_find_r ht I A J it dyn (A 22 v5.toNatClampNeg) (I 13)) else (if (A 21 v5.toNatClampNeg) = 2 then (L_X8_find_r ht I A J it dyn (A 22 v5.toNatClampNeg) (I 13)) else (-1) : Int32) : Int32) 0 ho1 ?_
              refine fs_reL [0, 1, 2, 3, 4, 5] rfl ?_
              have k9 := key_146
              try simp only [if_neg c_21, if_neg c_69, if_neg c_80] at k9 ⊢
              exact k9
          · have hS := hS.1 c_80
            refine fs_lload_n dX8_names_83 rfl rfl ?_
            refine fs_lconst (v := 1) dX8_names_84 rfl ?_
            refine fs_iconst (v := 4) dX8_names_85 rfl ?_
            refine fs_iload dX8_names_86 rfl ?_
            refine fs_imul dX8_names_88 ?_
            refine fs_aload_n dX8_names_89 rfl rfl ?_
            refine fs_getfield (v := .inr (.inr (some 18))) dX8_names_90 sf_X8_27 rfl rfl ?_
            refine fs_iload dX8_names_93 rfl ?_
            have ho1 := hS
            refine fs_zaload dX8_names_95 rfl ho1 ?_
            have key_104 : fsW G l mX8_names 1 0 0 0 0 Q 104 [(0, .inr (.inr (some 14))), (1, .inl v1), (2, .inl v2), (3, .inr (.inl v3)), (5, .inl v5), (6, .inl (if (A 21 v5.toNatClampNeg) = 1 then (L_X8_find_r ht I A J it dyn (A 22 v5.toNatClampNeg) (I 13)) else (if (A 21 v5.toNatClampNeg) = 2 then (L_X8_find_r ht I A J it dyn (A 22 v5.toNatClampNeg) (I 13)) else (-1) : Int32) : Int32))] [.inl (if (A 18 (if (A 21 v5.toNatClampNeg) = 1 then (L_X8_find_r ht I A J it dyn (A 22 v5.toNatClampNeg) (I 13)) else (if (A 21 v5.toNatClampNeg) = 2 then (L_X8_find_r ht I A J it dyn (A 22 v5.toNatClampNeg) (I 13)) else (-1) : Int32) : Int32).toNatClampNeg) = 0 then 0 else v2 : Int32), .inl (4 * (if (A 21 v5.toNatClampNeg) = 1 then (L_X8_find_r ht I A J it dyn (A 22 v5.toNatClampNeg) (I 13)) else (if (A 21 v5.toNatClampNeg) = 2 then (L_X8_find_r ht I A J it dyn (A 22 v5.toNatClampNeg) (I 13)) else (-1) : Int32) : Int32)), .inr (.inl 1), .inr (.inl v3)] (fs_mk ht I A J it dyn) := by
              refine fs_iadd dX8_names_104 ?_
              refine fs_lshl dX8_names_105 ?_
              refine fs_lor dX8_names_106 ?_
              refine fs_lstore_n (L' := [(3, .inr (.inl (v3 ||| (1 <<< (((4 * (if (A 21 v5.toNatClampNeg) = 1 then (L_X8_find_r ht I A J it dyn (A 22 v5.toNatClampNeg) (I 13)) else (if (A 21 v5.toNatClampNeg) = 2 then (L_X8_find_r ht I A J it dyn (A 22 v5.toNatClampNeg) (I 13)) else (-1) : Int32) : Int32)) + (if (A 18 (if (A 21 v5.toNatClampNeg) = 1 then (L_X8_find_r ht I A J it dyn (A 22 v5.toNatClampNeg) (I 13)) else (if (A 21 v5.toNatClampNeg) = 2 then (L_X8_find_r ht I A J it dyn (A 22 v5.toNatClampNeg) (I 13)) else (-1) : Int32) : Int32).toNatClampNeg) = 0 then 0 else v2 : Int32)).toInt64 &&& 63))))), (0, .inr (.inr (some 14))), (1, .inl v1), (2, .inl v2), (5, .inl v5), (6, .inl (if (A 21 v5.toNatClampNeg) = 1 then (L_X8_find_r ht I A J it dyn (A 22 v5.toNatClampNeg) (I 13)) else (if (A 21 v5.toNatClampNeg) = 2 then (L_X8_find_r ht I A J it dyn (A 22 v5.toNatClampNeg) (I 13)) else (-1) : Int32) : Int32))]) dX8_names_107 rfl (by decide) rfl ?_
              refine fs_goto 146 dX8_names_108 (by decide) ?_
              refine fs_reL [1, 2, 3, 0, 4, 5] rfl ?_
              have k9 := key_146
              try simp only [if_neg c_21, if_neg c_69, if_pos c_80] at k9 ⊢
              exact k9
            refine fs_if_eq 103 dX8_names_96 (by decide) (fun c_96 : (A 18 (if (A 21 v5.toNatClampNeg) = 1 then (L_X8_find_r ht I A J it dyn (A 22 v5.toNatClampNeg) (I 13)) else (if (A 21 v5.toNatClampNeg) = 2 then (L_X8_find_r ht I A J it dyn (A 22 v5.toNatClampNeg) (I 13)) else (-1) : Int32) : Int32).toNatClampNeg) = 0 => ?_) (fun c_96 : ¬ ((A 18 (if (A 21 v5.toNatClampNeg) = 1 then (L_X8_find_r ht I A J it dyn (A 22 v5.toNatClampNeg) (I 13)) else (if (A 21 v5.toNatClampNeg) = 2 then (L_X8_find_r ht I A J it dyn (A 22 v5.toNatClampNeg) (I 13)) else (-1) : Int32) : Int32).toNatClampNeg) = 0) => ?_)
            · refine fs_iconst (v := 0) dX8_names_103 rfl ?_
              refine fs_reL [1, 2, 3, 4, 5, 0] rfl ?_
              have k9 := key_104
              try simp only [if_neg c_21, if_neg c_69, if_pos c_80, if_pos c_96] at k9 ⊢
              exact k9
            · refine fs_iload_n dX8_names_99 rfl rfl ?_
              refine fs_goto 104 dX8_names_100 (by decide) ?_
              refine fs_reL [1, 2, 3, 4, 5, 0] rfl ?_
              have k9 := key_104
              try simp only [if_neg c_21, if_neg c_69, if_pos c_80, if_neg c_96] at k9 ⊢
              exact k9
      refine fs_icmp_eq 46 dX8_names_32 (by decide) (fun c_32 : (A 21 v5.toNatClampNeg) = 1 => ?_) (fun c_32 : ¬ ((A 21 v5.toNatClampNeg) = 1) => ?_)
      · have hS := hR_32.1 c_32
        refine fs_aload_n dX8_names_46 rfl rfl ?_
        refine fs_aload_n dX8_names_47 rfl rfl ?_
        refine fs_getfield (v := .inr (.inr (some 22))) dX8_names_48 sf_X8_40 rfl rfl ?_
        refine fs_iload dX8_names_51 rfl ?_
        obtain ⟨ho1, hS⟩ := hS
        refine fs_iaload dX8_names_53 rfl ho1 ?_
        refine fs_aload_n dX8_names_54 rfl rfl ?_
        refine fs_getfield (v := .inl (I 13)) dX8_names_55 sf_X8_115 rfl rfl ?_
        have ho1 := hS
        refine fs_callV1 dX8_names_58 sv_X8_168 rfl ⟨_, rfl, rfl⟩ (c_X8_find G l ht I A J it dyn (A 22 v5.toNatClampNeg) (I 13) ho1) rfl rfl (Nat.le_of_ble_eq_true rfl) (Nat.le_of_ble_eq_true rfl) (Nat.le_of_ble_eq_true rfl) (Nat.le_of_ble_eq_true rfl) ?_
        refine fs_goto 65 dX8_names_61 (by decide) ?_
        have k9 := key_65
        try simp only [if_neg c_21, if_pos c_32] at k9 ⊢
        exact k9
      · have hS := hR_32.2 c_32
        refine fs_aload_n dX8_names_35 rfl rfl ?_
        refine fs_getfield (v := .inr (.inr (some 21))) dX8_names_36 sf_X8_37 rfl rfl ?_
        refine fs_iload dX8_names_39 rfl ?_
        obtain ⟨ho1, hS⟩ := hS
        refine fs_iaload dX8_names_41 rfl ho1 ?_
        refine fs_iconst (v := 2) dX8_names_42 rfl ?_
        refine fs_icmp_ne 64 dX8_names_43 (by decide) (fun c_43 : ¬ (A 21 v5.toNatClampNeg) = 2 => ?_) (fun c_43 : (A 21 v5.toNatClampNeg) = 2 => ?_)
        · refine fs_iconst (v := (-1)) dX8_names_64 rfl ?_
          have k9 := key_65
          try simp only [if_neg c_21, if_neg c_32, if_neg c_43] at k9 ⊢
          exact k9
        · have hS := hS c_43
          refine fs_aload_n dX8_names_46 rfl rfl ?_
          refine fs_aload_n dX8_names_47 rfl rfl ?_
          refine fs_getfield (v := .inr (.inr (some 22))) dX8_names_48 sf_X8_40 rfl rfl ?_
          refine fs_iload dX8_names_51 rfl ?_
          obtain ⟨ho1, hS⟩ := hS
          refine fs_iaload dX8_names_53 rfl ho1 ?_
          refine fs_aload_n dX8_names_54 rfl rfl ?_
          refine fs_getfield (v := .inl (I 13)) dX8_names_55 sf_X8_115 rfl rfl ?_
          have ho1 := hS
          refine fs_callV1 dX8_names_58 sv_X8_168 rfl ⟨_, rfl, rfl⟩ (c_X8_find G l ht I A J it dyn (A 22 v5.toNatClampNeg) (I 13) ho1) rfl rfl (Nat.le_of_ble_eq_true rfl) (Nat.le_of_ble_eq_true rfl) (Nat.le_of_ble_eq_true rfl) (Nat.le_of_ble_eq_true rfl) ?_
          refine fs_goto 65 dX8_names_61 (by decide) ?_
          have k9 := key_65
          try simp only [if_neg c_21, if_neg c_32, if_pos c_43] at k9 ⊢
          exact k9
def L_X8_names_r (ht : Nat) (I : Nat → Int32) (A : Nat → Nat → Int32) (J : Nat → Nat → Int64) (it : Nat → Option Nat) (dyn : fsH) (x1 : Int32) (x2 : Int32) : Int64 := (Lb_X8_names_8_v3 70 ht I A J it dyn x1 x2 0 (32 * x1))
def S_X8_names (ht : Nat) (I : Nat → Int32) (A : Nat → Nat → Int32) (J : Nat → Nat → Int64) (it : Nat → Option Nat) (dyn : fsH) (x1 : Int32) (x2 : Int32) : Prop := (S_Lb_X8_names_8 70 ht I A J it dyn x1 x2 0 (32 * x1))
set_option maxRecDepth 100000 in
set_option maxHeartbeats 4000000 in
theorem c_X8_names (G : fsG) (l : Launch) (ht : Nat) (I : Nat → Int32) (A : Nat → Nat → Int32) (J : Nat → Nat → Int64) (it : Nat → Option Nat) (dyn : fsH) (x1 : Int32) (x2 : Int32) (hS : S_X8_names ht I A J it dyn x1 x2) : fsFn G l mX8_names 1 0 0 [.inr (.inr (some 14)), .inl x1, .inl x2] (fs_mk ht I A J it dyn) (some (.inr (.inl (L_X8_names_r ht I A J it dyn x1 x2)))) (fs_mk ht I A J it dyn) := by
  refine fsMet_of (by decide) (Nat.le_of_ble_eq_true rfl) ?_
  generalize hQ : (fun (r1 : Option fsV) (h1 : fsH) => r1 = (some (.inr (.inl (L_X8_names_r ht I A J it dyn x1 x2)))) ∧ h1 = (fs_mk ht I A J it dyn)) = Q
  have hq : Q (some (.inr (.inl (L_X8_names_r ht I A J it dyn x1 x2)))) (fs_mk ht I A J it dyn) := by rw [← hQ]; exact ⟨rfl, rfl⟩
  clear hQ
  have hq : Q (some (.inr (.inl (Lb_X8_names_8_v3 70 ht I A J it dyn x1 x2 0 (32 * x1))))) (fs_mk ht I A J it dyn) := hq
  have hS : (S_Lb_X8_names_8 70 ht I A J it dyn x1 x2 0 (32 * x1)) := hS
  refine (show fsW G l mX8_names 1 0 0 0 0 Q 0 [(0, .inr (.inr (some 14))), (1, .inl x1), (2, .inl x2)] [] (fs_mk ht I A J it dyn) from ?_)
  refine fs_lconst (v := 0) dX8_names_0 rfl ?_
  refine fs_lstore_n (L' := [(3, .inr (.inl 0)), (0, .inr (.inr (some 14))), (1, .inl x1), (2, .inl x2)]) dX8_names_1 rfl (by decide) rfl ?_
  refine fs_bipush (v := 32) dX8_names_2 rfl ?_
  refine fs_iload_n dX8_names_4 rfl rfl ?_
  refine fs_imul dX8_names_5 ?_
  refine fs_istore (L' := [(5, .inl (32 * x1)), (3, .inr (.inl 0)), (0, .inr (.inr (some 14))), (1, .inl x1), (2, .inl x2)]) dX8_names_6 (by decide) rfl ?_
  refine fs_reL [2, 3, 4, 1, 0] rfl ?_
  have ho1 := hS
  refine lp_Lb_X8_names_8 G l Q 70 ht I A J it dyn x1 x2 0 (32 * x1) ho1 ?_
  refine fs_lload_n dX8_names_152 rfl rfl ?_
  have k9 := hq
  exact fs_lret dX8_names_153 rfl k9
def L_X8_isIn_r (ht : Nat) (I : Nat → Int32) (A : Nat → Nat → Int32) (J : Nat → Nat → Int64) (it : Nat → Option Nat) (dyn : fsH) (x1 : Int64) : Int32 := (if (lg_cmp x1 (-1000000000000000)) < 0 then 0 else (if 0 < (lg_cmp x1 (1000000000000000)) then 0 else 1 : Int32) : Int32)
set_option maxRecDepth 100000 in
set_option maxHeartbeats 4000000 in
theorem c_X8_isIn (G : fsG) (l : Launch) (ht : Nat) (I : Nat → Int32) (A : Nat → Nat → Int32) (J : Nat → Nat → Int64) (it : Nat → Option Nat) (dyn : fsH) (x1 : Int64) : fsFn G l mX8_isIn 0 0 0 [.inr (.inl x1)] (fs_mk ht I A J it dyn) (some (.inl (L_X8_isIn_r ht I A J it dyn x1))) (fs_mk ht I A J it dyn) := by
  refine fsMet_of (by decide) (Nat.le_of_ble_eq_true rfl) ?_
  generalize hQ : (fun (r1 : Option fsV) (h1 : fsH) => r1 = (some (.inl (L_X8_isIn_r ht I A J it dyn x1))) ∧ h1 = (fs_mk ht I A J it dyn)) = Q
  have hq : Q (some (.inl (L_X8_isIn_r ht I A J it dyn x1))) (fs_mk ht I A J it dyn) := by rw [← hQ]; exact ⟨rfl, rfl⟩
  clear hQ
  have hq : Q (some (.inl (if (lg_cmp x1 (-1000000000000000)) < 0 then 0 else (if 0 < (lg_cmp x1 (1000000000000000)) then 0 else 1 : Int32) : Int32))) (fs_mk ht I A J it dyn) := hq
  refine (show fsW G l mX8_isIn 0 0 0 0 0 Q 0 [(0, .inr (.inl x1))] [] (fs_mk ht I A J it dyn) from ?_)
  refine fs_lload_n dX8_isIn_0 rfl rfl ?_
  refine fs_ldc2 (v := (-1000000000000000)) dX8_isIn_1 sk_X8_185 ?_
  refine fs_lcmp dX8_isIn_4 ?_
  have key_21 : fsW G l mX8_isIn 0 0 0 0 0 Q 21 [(0, .inr (.inl x1))] [.inl (if (lg_cmp x1 (-1000000000000000)) < 0 then 0 else (if 0 < (lg_cmp x1 (1000000000000000)) then 0 else 1 : Int32) : Int32)] (fs_mk ht I A J it dyn) := by
    have k9 := hq
    exact fs_iret dX8_isIn_21 rfl (by (repeat' split) <;> first | rfl) k9
  refine fs_if_lt 20 dX8_isIn_5 (by decide) (fun c_5 : (lg_cmp x1 (-1000000000000000)) < 0 => ?_) (fun c_5 : ¬ ((lg_cmp x1 (-1000000000000000)) < 0) => ?_)
  · refine fs_iconst (v := 0) dX8_isIn_20 rfl ?_
    have k9 := key_21
    try simp only [if_pos c_5] at k9 ⊢
    exact k9
  · refine fs_lload_n dX8_isIn_8 rfl rfl ?_
    refine fs_ldc2 (v := (1000000000000000)) dX8_isIn_9 sk_X8_187 ?_
    refine fs_lcmp dX8_isIn_12 ?_
    refine fs_if_gt 20 dX8_isIn_13 (by decide) (fun c_13 : 0 < (lg_cmp x1 (1000000000000000)) => ?_) (fun c_13 : ¬ (0 < (lg_cmp x1 (1000000000000000))) => ?_)
    · refine fs_iconst (v := 0) dX8_isIn_20 rfl ?_
      have k9 := key_21
      try simp only [if_neg c_5, if_pos c_13] at k9 ⊢
      exact k9
    · refine fs_iconst (v := 1) dX8_isIn_16 rfl ?_
      refine fs_goto 21 dX8_isIn_17 (by decide) ?_
      have k9 := key_21
      try simp only [if_neg c_5, if_neg c_13] at k9 ⊢
      exact k9
theorem nb_X8_isIn (ht : Nat) (I : Nat → Int32) (A : Nat → Nat → Int32) (J : Nat → Nat → Int64) (it : Nat → Option Nat) (dyn : fsH) (x1 : Int64) : narrow .boolean (.int (L_X8_isIn_r ht I A J it dyn x1)) = .int (L_X8_isIn_r ht I A J it dyn x1) := by
  unfold L_X8_isIn_r
  exact (by (repeat' split) <;> first | rfl)
def L_X8_divided_r (ht : Nat) (I : Nat → Int32) (A : Nat → Nat → Int32) (J : Nat → Nat → Int64) (it : Nat → Option Nat) (dyn : fsH) (x1 : Int64) (x2 : Int64) : Int64 := (if 0 ≤ (lg_cmp x1 0) then (if 0 < (lg_cmp ((if 0 ≤ (lg_cmp x1 0) then x1 else (-x1) : Int64) - (if 0 ≤ (lg_cmp x1 0) then x1 else (-x1) : Int64) / x2 * x2) (x2 - ((if 0 ≤ (lg_cmp x1 0) then x1 else (-x1) : Int64) - (if 0 ≤ (lg_cmp x1 0) then x1 else (-x1) : Int64) / x2 * x2))) then (((if 0 ≤ (lg_cmp x1 0) then x1 else (-x1) : Int64) / x2) + 1) else (if (lg_cmp ((if 0 ≤ (lg_cmp x1 0) then x1 else (-x1) : Int64) - (if 0 ≤ (lg_cmp x1 0) then x1 else (-x1) : Int64) / x2 * x2) (x2 - ((if 0 ≤ (lg_cmp x1 0) then x1 else (-x1) : Int64) - (if 0 ≤ (lg_cmp x1 0) then x1 else (-x1) : Int64) / x2 * x2))) = 0 then (if (lg_cmp (((if 0 ≤ (lg_cmp x1 0) then x1 else (-x1) : Int64) / x2) - ((if 0 ≤ (lg_cmp x1 0) then x1 else (-x1) : Int64) / x2) / (2) * (2)) 1) = 0 then (((if 0 ≤ (lg_cmp x1 0) then x1 else (-x1) : Int64) / x2) + 1) else ((if 0 ≤ (lg_cmp x1 0) then x1 else (-x1) : Int64) / x2) : Int64) else ((if 0 ≤ (lg_cmp x1 0) then x1 else (-x1) : Int64) / x2) : Int64) : Int64) else (-(if 0 < (lg_cmp ((if 0 ≤ (lg_cmp x1 0) then x1 else (-x1) : Int64) - (if 0 ≤ (lg_cmp x1 0) then x1 else (-x1) : Int64) / x2 * x2) (x2 - ((if 0 ≤ (lg_cmp x1 0) then x1 else (-x1) : Int64) - (if 0 ≤ (lg_cmp x1 0) then x1 else (-x1) : Int64) / x2 * x2))) then (((if 0 ≤ (lg_cmp x1 0) then x1 else (-x1) : Int64) / x2) + 1) else (if (lg_cmp ((if 0 ≤ (lg_cmp x1 0) then x1 else (-x1) : Int64) - (if 0 ≤ (lg_cmp x1 0) then x1 else (-x1) : Int64) / x2 * x2) (x2 - ((if 0 ≤ (lg_cmp x1 0) then x1 else (-x1) : Int64) - (if 0 ≤ (lg_cmp x1 0) then x1 else (-x1) : Int64) / x2 * x2))) = 0 then (if (lg_cmp (((if 0 ≤ (lg_cmp x1 0) then x1 else (-x1) : Int64) / x2) - ((if 0 ≤ (lg_cmp x1 0) then x1 else (-x1) : Int64) / x2) / (2) * (2)) 1) = 0 then (((if 0 ≤ (lg_cmp x1 0) then x1 else (-x1) : Int64) / x2) + 1) else ((if 0 ≤ (lg_cmp x1 0) then x1 else (-x1) : Int64) / x2) : Int64) else ((if 0 ≤ (lg_cmp x1 0) then x1 else (-x1) : Int64) / x2) : Int64) : Int64)) : Int64)
def S_X8_divided (ht : Nat) (I : Nat → Int32) (A : Nat → Nat → Int32) (J : Nat → Nat → Int64) (it : Nat → Option Nat) (dyn : fsH) (x1 : Int64) (x2 : Int64) : Prop := ((¬ x2 = 0) ∧ (¬ x2 = 0))
set_option maxRecDepth 100000 in
set_option maxHeartbeats 4000000 in
theorem c_X8_divided (G : fsG) (l : Launch) (ht : Nat) (I : Nat → Int32) (A : Nat → Nat → Int32) (J : Nat → Nat → Int64) (it : Nat → Option Nat) (dyn : fsH) (x1 : Int64) (x2 : Int64) (hS : S_X8_divided ht I A J it dyn x1 x2) : fsFn G l mX8_divided 0 0 0 [.inr (.inl x1), .inr (.inl x2)] (fs_mk ht I A J it dyn) (some (.inr (.inl (L_X8_divided_r ht I A J it dyn x1 x2)))) (fs_mk ht I A J it dyn) := by
  refine fsMet_of (by decide) (Nat.le_of_ble_eq_true rfl) ?_
  generalize hQ : (fun (r1 : Option fsV) (h1 : fsH) => r1 = (some (.inr (.inl (L_X8_divided_r ht I A J it dyn x1 x2)))) ∧ h1 = (fs_mk ht I A J it dyn)) = Q
  have hq : Q (some (.inr (.inl (L_X8_divided_r ht I A J it dyn x1 x2)))) (fs_mk ht I A J it dyn) := by rw [← hQ]; exact ⟨rfl, rfl⟩
  clear hQ
  have hq : Q (some (.inr (.inl (if 0 ≤ (lg_cmp x1 0) then (if 0 < (lg_cmp ((if 0 ≤ (lg_cmp x1 0) then x1 else (-x1) : Int64) - (if 0 ≤ (lg_cmp x1 0) then x1 else (-x1) : Int64) / x2 * x2) (x2 - ((if 0 ≤ (lg_cmp x1 0) then x1 else (-x1) : Int64) - (if 0 ≤ (lg_cmp x1 0) then x1 else (-x1) : Int64) / x2 * x2))) then (((if 0 ≤ (lg_cmp x1 0) then x1 else (-x1) : Int64) / x2) + 1) else (if (lg_cmp ((if 0 ≤ (lg_cmp x1 0) then x1 else (-x1) : Int64) - (if 0 ≤ (lg_cmp x1 0) then x1 else (-x1) : Int64) / x2 * x2) (x2 - ((if 0 ≤ (lg_cmp x1 0) then x1 else (-x1) : Int64) - (if 0 ≤ (lg_cmp x1 0) then x1 else (-x1) : Int64) / x2 * x2))) = 0 then (if (lg_cmp (((if 0 ≤ (lg_cmp x1 0) then x1 else (-x1) : Int64) / x2) - ((if 0 ≤ (lg_cmp x1 0) then x1 else (-x1) : Int64) / x2) / (2) * (2)) 1) = 0 then (((if 0 ≤ (lg_cmp x1 0) then x1 else (-x1) : Int64) / x2) + 1) else ((if 0 ≤ (lg_cmp x1 0) then x1 else (-x1) : Int64) / x2) : Int64) else ((if 0 ≤ (lg_cmp x1 0) then x1 else (-x1) : Int64) / x2) : Int64) : Int64) else (-(if 0 < (lg_cmp ((if 0 ≤ (lg_cmp x1 0) then x1 else (-x1) : Int64) - (if 0 ≤ (lg_cmp x1 0) then x1 else (-x1) : Int64) / x2 * x2) (x2 - ((if 0 ≤ (lg_cmp x1 0) then x1 else (-x1) : Int64) - (if 0 ≤ (lg_cmp x1 0) then x1 else (-x1) : Int64) / x2 * x2))) then (((if 0 ≤ (lg_cmp x1 0) then x1 else (-x1) : Int64) / x2) + 1) else (if (lg_cmp ((if 0 ≤ (lg_cmp x1 0) then x1 else (-x1) : Int64) - (if 0 ≤ (lg_cmp x1 0) then x1 else (-x1) : Int64) / x2 * x2) (x2 - ((if 0 ≤ (lg_cmp x1 0) then x1 else (-x1) : Int64) - (if 0 ≤ (lg_cmp x1 0) then x1 else (-x1) : Int64) / x2 * x2))) = 0 then (if (lg_cmp (((if 0 ≤ (lg_cmp x1 0) then x1 else (-x1) : Int64) / x2) - ((if 0 ≤ (lg_cmp x1 0) then x1 else (-x1) : Int64) / x2) / (2) * (2)) 1) = 0 then (((if 0 ≤ (lg_cmp x1 0) then x1 else (-x1) : Int64) / x2) + 1) else ((if 0 ≤ (lg_cmp x1 0) then x1 else (-x1) : Int64) / x2) : Int64) else ((if 0 ≤ (lg_cmp x1 0) then x1 else (-x1) : Int64) / x2) : Int64) : Int64)) : Int64)))) (fs_mk ht I A J it dyn) := hq
  have hS : ((¬ x2 = 0) ∧ (¬ x2 = 0)) := hS
  refine (show fsW G l mX8_divided 0 0 0 0 0 Q 0 [(0, .inr (.inl x1)), (2, .inr (.inl x2))] [] (fs_mk ht I A J it dyn) from ?_)
  refine fs_lload_n dX8_divided_0 rfl rfl ?_
  refine fs_lconst (v := 0) dX8_divided_1 rfl ?_
  refine fs_lcmp dX8_divided_2 ?_
  have key_12 : fsW G l mX8_divided 0 0 0 0 0 Q 12 [(0, .inr (.inl x1)), (2, .inr (.inl x2))] [.inr (.inl (if 0 ≤ (lg_cmp x1 0) then x1 else (-x1) : Int64))] (fs_mk ht I A J it dyn) := by
    refine fs_lstore (L' := [(4, .inr (.inl (if 0 ≤ (lg_cmp x1 0) then x1 else (-x1) : Int64))), (0, .inr (.inl x1)), (2, .inr (.inl x2))]) dX8_divided_12 (by decide) rfl ?_
    refine fs_lload dX8_divided_14 rfl ?_
    refine fs_lload_n dX8_divided_16 rfl rfl ?_
    obtain ⟨ho1, hS⟩ := hS
    refine fs_ldiv dX8_divided_17 ho1 ?_
    refine fs_lstore (L' := [(6, .inr (.inl ((if 0 ≤ (lg_cmp x1 0) then x1 else (-x1) : Int64) / x2))), (4, .inr (.inl (if 0 ≤ (lg_cmp x1 0) then x1 else (-x1) : Int64))), (0, .inr (.inl x1)), (2, .inr (.inl x2))]) dX8_divided_18 (by decide) rfl ?_
    refine fs_lload dX8_divided_20 rfl ?_
    refine fs_lload_n dX8_divided_22 rfl rfl ?_
    have ho1 := hS
    refine fs_lrem dX8_divided_23 ho1 ?_
    refine fs_lstore (L' := [(8, .inr (.inl ((if 0 ≤ (lg_cmp x1 0) then x1 else (-x1) : Int64) - (if 0 ≤ (lg_cmp x1 0) then x1 else (-x1) : Int64) / x2 * x2))), (6, .inr (.inl ((if 0 ≤ (lg_cmp x1 0) then x1 else (-x1) : Int64) / x2))), (4, .inr (.inl (if 0 ≤ (lg_cmp x1 0) then x1 else (-x1) : Int64))), (0, .inr (.inl x1)), (2, .inr (.inl x2))]) dX8_divided_24 (by decide) rfl ?_
    refine fs_lload_n dX8_divided_26 rfl rfl ?_
    refine fs_lload dX8_divided_27 rfl ?_
    refine fs_lsub dX8_divided_29 ?_
    refine fs_lstore (L' := [(10, .inr (.inl (x2 - ((if 0 ≤ (lg_cmp x1 0) then x1 else (-x1) : Int64) - (if 0 ≤ (lg_cmp x1 0) then x1 else (-x1) : Int64) / x2 * x2)))), (8, .inr (.inl ((if 0 ≤ (lg_cmp x1 0) then x1 else (-x1) : Int64) - (if 0 ≤ (lg_cmp x1 0) then x1 else (-x1) : Int64) / x2 * x2))), (6, .inr (.inl ((if 0 ≤ (lg_cmp x1 0) then x1 else (-x1) : Int64) / x2))), (4, .inr (.inl (if 0 ≤ (lg_cmp x1 0) then x1 else (-x1) : Int64))), (0, .inr (.inl x1)), (2, .inr (.inl x2))]) dX8_divided_30 (by decide) rfl ?_
    refine fs_lload dX8_divided_32 rfl ?_
    refine fs_lload dX8_divided_34 rfl ?_
    refine fs_lcmp dX8_divided_36 ?_
    have key_68 : fsW G l mX8_divided 0 0 0 0 0 Q 68 [(0, .inr (.inl x1)), (2, .inr (.inl x2)), (4, .inr (.inl (if 0 ≤ (lg_cmp x1 0) then x1 else (-x1) : Int64))), (6, .inr (.inl ((if 0 ≤ (lg_cmp x1 0) then x1 else (-x1) : Int64) / x2))), (8, .inr (.inl ((if 0 ≤ (lg_cmp x1 0) then x1 else (-x1) : Int64) - (if 0 ≤ (lg_cmp x1 0) then x1 else (-x1) : Int64) / x2 * x2))), (10, .inr (.inl (x2 - ((if 0 ≤ (lg_cmp x1 0) then x1 else (-x1) : Int64) - (if 0 ≤ (lg_cmp x1 0) then x1 else (-x1) : Int64) / x2 * x2))))] [.inr (.inl (if 0 < (lg_cmp ((if 0 ≤ (lg_cmp x1 0) then x1 else (-x1) : Int64) - (if 0 ≤ (lg_cmp x1 0) then x1 else (-x1) : Int64) / x2 * x2) (x2 - ((if 0 ≤ (lg_cmp x1 0) then x1 else (-x1) : Int64) - (if 0 ≤ (lg_cmp x1 0) then x1 else (-x1) : Int64) / x2 * x2))) then (((if 0 ≤ (lg_cmp x1 0) then x1 else (-x1) : Int64) / x2) + 1) else (if (lg_cmp ((if 0 ≤ (lg_cmp x1 0) then x1 else (-x1) : Int64) - (if 0 ≤ (lg_cmp x1 0) then x1 else (-x1) : Int64) / x2 * x2) (x2 - ((if 0 ≤ (lg_cmp x1 0) then x1 else (-x1) : Int64) - (if 0 ≤ (lg_cmp x1 0) then x1 else (-x1) : Int64) / x2 * x2))) = 0 then (if (lg_cmp (((if 0 ≤ (lg_cmp x1 0) then x1 else (-x1) : Int64) / x2) - ((if 0 ≤ (lg_cmp x1 0) then x1 else (-x1) : Int64) / x2) / (2) * (2)) 1) = 0 then (((if 0 ≤ (lg_cmp x1 0) then x1 else (-x1) : Int64) / x2) + 1) else ((if 0 ≤ (lg_cmp x1 0) then x1 else (-x1) : Int64) / x2) : Int64) else ((if 0 ≤ (lg_cmp x1 0) then x1 else (-x1) : Int64) / x2) : Int64) : Int64))] (fs_mk ht I A J it dyn) := by
      refine fs_lstore (L' := [(6, .inr (.inl (if 0 < (lg_cmp ((if 0 ≤ (lg_cmp x1 0) then x1 else (-x1) : Int64) - (if 0 ≤ (lg_cmp x1 0) then x1 else (-x1) : Int64) / x2 * x2) (x2 - ((if 0 ≤ (lg_cmp x1 0) then x1 else (-x1) : Int64) - (if 0 ≤ (lg_cmp x1 0) then x1 else (-x1) : Int64) / x2 * x2))) then (((if 0 ≤ (lg_cmp x1 0) then x1 else (-x1) : Int64) / x2) + 1) else (if (lg_cmp ((if 0 ≤ (lg_cmp x1 0) then x1 else (-x1) : Int64) - (if 0 ≤ (lg_cmp x1 0) then x1 else (-x1) : Int64) / x2 * x2) (x2 - ((if 0 ≤ (lg_cmp x1 0) then x1 else (-x1) : Int64) - (if 0 ≤ (lg_cmp x1 0) then x1 else (-x1) : Int64) / x2 * x2))) = 0 then (if (lg_cmp (((if 0 ≤ (lg_cmp x1 0) then x1 else (-x1) : Int64) / x2) - ((if 0 ≤ (lg_cmp x1 0) then x1 else (-x1) : Int64) / x2) / (2) * (2)) 1) = 0 then (((if 0 ≤ (lg_cmp x1 0) then x1 else (-x1) : Int64) / x2) + 1) else ((if 0 ≤ (lg_cmp x1 0) then x1 else (-x1) : Int64) / x2) : Int64) else ((if 0 ≤ (lg_cmp x1 0) then x1 else (-x1) : Int64) / x2) : Int64) : Int64))), (0, .inr (.inl x1)), (2, .inr (.inl x2)), (4, .inr (.inl (if 0 ≤ (lg_cmp x1 0) then x1 else (-x1) : Int64))), (8, .inr (.inl ((if 0 ≤ (lg_cmp x1 0) then x1 else (-x1) : Int64) - (if 0 ≤ (lg_cmp x1 0) then x1 else (-x1) : Int64) / x2 * x2))), (10, .inr (.inl (x2 - ((if 0 ≤ (lg_cmp x1 0) then x1 else (-x1) : Int64) - (if 0 ≤ (lg_cmp x1 0) then x1 else (-x1) : Int64) / x2 * x2))))]) dX8_divided_68 (by decide) rfl ?_
      refine fs_lload_n dX8_divided_70 rfl rfl ?_
      refine fs_lconst (v := 0) dX8_divided_71 rfl ?_
      refine fs_lcmp dX8_divided_72 ?_
      have key_84 : fsW G l mX8_divided 0 0 0 0 0 Q 84 [(0, .inr (.inl x1)), (2, .inr (.inl x2)), (4, .inr (.inl (if 0 ≤ (lg_cmp x1 0) then x1 else (-x1) : Int64))), (6, .inr (.inl (if 0 < (lg_cmp ((if 0 ≤ (lg_cmp x1 0) then x1 else (-x1) : Int64) - (if 0 ≤ (lg_cmp x1 0) then x1 else (-x1) : Int64) / x2 * x2) (x2 - ((if 0 ≤ (lg_cmp x1 0) then x1 else (-x1) : Int64) - (if 0 ≤ (lg_cmp x1 0) then x1 else (-x1) : Int64) / x2 * x2))) then (((if 0 ≤ (lg_cmp x1 0) then x1 else (-x1) : Int64) / x2) + 1) else (if (lg_cmp ((if 0 ≤ (lg_cmp x1 0) then x1 else (-x1) : Int64) - (if 0 ≤ (lg_cmp x1 0) then x1 else (-x1) : Int64) / x2 * x2) (x2 - ((if 0 ≤ (lg_cmp x1 0) then x1 else (-x1) : Int64) - (if 0 ≤ (lg_cmp x1 0) then x1 else (-x1) : Int64) / x2 * x2))) = 0 then (if (lg_cmp (((if 0 ≤ (lg_cmp x1 0) then x1 else (-x1) : Int64) / x2) - ((if 0 ≤ (lg_cmp x1 0) then x1 else (-x1) : Int64) / x2) / (2) * (2)) 1) = 0 then (((if 0 ≤ (lg_cmp x1 0) then x1 else (-x1) : Int64) / x2) + 1) else ((if 0 ≤ (lg_cmp x1 0) then x1 else (-x1) : Int64) / x2) : Int64) else ((if 0 ≤ (lg_cmp x1 0) then x1 else (-x1) : Int64) / x2) : Int64) : Int64))), (8, .inr (.inl ((if 0 ≤ (lg_cmp x1 0) then x1 else (-x1) : Int64) - (if 0 ≤ (lg_cmp x1 0) then x1 else (-x1) : Int64) / x2 * x2))), (10, .inr (.inl (x2 - ((if 0 ≤ (lg_cmp x1 0) then x1 else (-x1) : Int64) - (if 0 ≤ (lg_cmp x1 0) then x1 else (-x1) : Int64) / x2 * x2))))] [.inr (.inl (if 0 ≤ (lg_cmp x1 0) then (if 0 < (lg_cmp ((if 0 ≤ (lg_cmp x1 0) then x1 else (-x1) : Int64) - (if 0 ≤ (lg_cmp x1 0) then x1 else (-x1) : Int64) / x2 * x2) (x2 - ((if 0 ≤ (lg_cmp x1 0) then x1 else (-x1) : Int64) - (if 0 ≤ (lg_cmp x1 0) then x1 else (-x1) : Int64) / x2 * x2))) then (((if 0 ≤ (lg_cmp x1 0) then x1 else (-x1) : Int64) / x2) + 1) else (if (lg_cmp ((if 0 ≤ (lg_cmp x1 0) then x1 else (-x1) : Int64) - (if 0 ≤ (lg_cmp x1 0) then x1 else (-x1) : Int64) / x2 * x2) (x2 - ((if 0 ≤ (lg_cmp x1 0) then x1 else (-x1) : Int64) - (if 0 ≤ (lg_cmp x1 0) then x1 else (-x1) : Int64) / x2 * x2))) = 0 then (if (lg_cmp (((if 0 ≤ (lg_cmp x1 0) then x1 else (-x1) : Int64) / x2) - ((if 0 ≤ (lg_cmp x1 0) then x1 else (-x1) : Int64) / x2) / (2) * (2)) 1) = 0 then (((if 0 ≤ (lg_cmp x1 0) then x1 else (-x1) : Int64) / x2) + 1) else ((if 0 ≤ (lg_cmp x1 0) then x1 else (-x1) : Int64) / x2) : Int64) else ((if 0 ≤ (lg_cmp x1 0) then x1 else (-x1) : Int64) / x2) : Int64) : Int64) else (-(if 0 < (lg_cmp ((if 0 ≤ (lg_cmp x1 0) then x1 else (-x1) : Int64) - (if 0 ≤ (lg_cmp x1 0) then x1 else (-x1) : Int64) / x2 * x2) (x2 - ((if 0 ≤ (lg_cmp x1 0) then x1 else (-x1) : Int64) - (if 0 ≤ (lg_cmp x1 0) then x1 else (-x1) : Int64) / x2 * x2))) then (((if 0 ≤ (lg_cmp x1 0) then x1 else (-x1) : Int64) / x2) + 1) else (if (lg_cmp ((if 0 ≤ (lg_cmp x1 0) then x1 else (-x1) : Int64) - (if 0 ≤ (lg_cmp x1 0) then x1 else (-x1) : Int64) / x2 * x2) (x2 - ((if 0 ≤ (lg_cmp x1 0) then x1 else (-x1) : Int64) - (if 0 ≤ (lg_cmp x1 0) then x1 else (-x1) : Int64) / x2 * x2))) = 0 then (if (lg_cmp (((if 0 ≤ (lg_cmp x1 0) then x1 else (-x1) : Int64) / x2) - ((if 0 ≤ (lg_cmp x1 0) then x1 else (-x1) : Int64) / x2) / (2) * (2)) 1) = 0 then (((if 0 ≤ (lg_cmp x1 0) then x1 else (-x1) : Int64) / x2) + 1) else ((if 0 ≤ (lg_cmp x1 0) then x1 else (-x1) : Int64) / x2) : Int64) else ((if 0 ≤ (lg_cmp x1 0) then x1 else (-x1) : Int64) / x2) : Int64) : Int64)) : Int64))] (fs_mk ht I A J it dyn) := by
        have k9 := hq
        exact fs_lret dX8_divided_84 rfl k9
      refine fs_if_ge 82 dX8_divided_73 (by decide) (fun c_73 : 0 ≤ (lg_cmp x1 0) => ?_) (fun c_73 : ¬ (0 ≤ (lg_cmp x1 0)) => ?_)
      · refine fs_lload dX8_divided_82 rfl ?_
        refine fs_reL [1, 2, 3, 0, 4, 5] rfl ?_
        have k9 := key_84
        try simp only [if_pos c_73] at k9 ⊢
        exact k9
      · refine fs_lload dX8_divided_76 rfl ?_
        refine fs_lneg dX8_divided_78 ?_
        refine fs_goto 84 dX8_divided_79 (by decide) ?_
        refine fs_reL [1, 2, 3, 0, 4, 5] rfl ?_
        have k9 := key_84
        try simp only [if_neg c_73] at k9 ⊢
        exact k9
    refine fs_if_gt 59 dX8_divided_37 (by decide) (fun c_37 : 0 < (lg_cmp ((if 0 ≤ (lg_cmp x1 0) then x1 else (-x1) : Int64) - (if 0 ≤ (lg_cmp x1 0) then x1 else (-x1) : Int64) / x2 * x2) (x2 - ((if 0 ≤ (lg_cmp x1 0) then x1 else (-x1) : Int64) - (if 0 ≤ (lg_cmp x1 0) then x1 else (-x1) : Int64) / x2 * x2))) => ?_) (fun c_37 : ¬ (0 < (lg_cmp ((if 0 ≤ (lg_cmp x1 0) then x1 else (-x1) : Int64) - (if 0 ≤ (lg_cmp x1 0) then x1 else (-x1) : Int64) / x2 * x2) (x2 - ((if 0 ≤ (lg_cmp x1 0) then x1 else (-x1) : Int64) - (if 0 ≤ (lg_cmp x1 0) then x1 else (-x1) : Int64) / x2 * x2)))) => ?_)
    · refine fs_lload dX8_divided_59 rfl ?_
      refine fs_lconst (v := 1) dX8_divided_61 rfl ?_
      refine fs_ladd dX8_divided_62 ?_
      refine fs_goto 68 dX8_divided_63 (by decide) ?_
      refine fs_reL [4, 5, 3, 2, 1, 0] rfl ?_
      have k9 := key_68
      try simp only [if_pos c_37] at k9 ⊢
      exact k9
    · refine fs_lload dX8_divided_40 rfl ?_
      refine fs_lload dX8_divided_42 rfl ?_
      refine fs_lcmp dX8_divided_44 ?_
      refine fs_if_ne 66 dX8_divided_45 (by decide) (fun c_45 : ¬ (lg_cmp ((if 0 ≤ (lg_cmp x1 0) then x1 else (-x1) : Int64) - (if 0 ≤ (lg_cmp x1 0) then x1 else (-x1) : Int64) / x2 * x2) (x2 - ((if 0 ≤ (lg_cmp x1 0) then x1 else (-x1) : Int64) - (if 0 ≤ (lg_cmp x1 0) then x1 else (-x1) : Int64) / x2 * x2))) = 0 => ?_) (fun c_45 : (lg_cmp ((if 0 ≤ (lg_cmp x1 0) then x1 else (-x1) : Int64) - (if 0 ≤ (lg_cmp x1 0) then x1 else (-x1) : Int64) / x2 * x2) (x2 - ((if 0 ≤ (lg_cmp x1 0) then x1 else (-x1) : Int64) - (if 0 ≤ (lg_cmp x1 0) then x1 else (-x1) : Int64) / x2 * x2))) = 0 => ?_)
      · refine fs_lload dX8_divided_66 rfl ?_
        refine fs_reL [4, 5, 3, 2, 1, 0] rfl ?_
        have k9 := key_68
        try simp only [if_neg c_37, if_neg c_45] at k9 ⊢
        exact k9
      · refine fs_lload dX8_divided_48 rfl ?_
        refine fs_ldc2 (v := (2)) dX8_divided_50 sk_X8_189 ?_
        refine fs_lrem dX8_divided_53 (by decide) ?_
        refine fs_lconst (v := 1) dX8_divided_54 rfl ?_
        refine fs_lcmp dX8_divided_55 ?_
        refine fs_if_ne 66 dX8_divided_56 (by decide) (fun c_56 : ¬ (lg_cmp (((if 0 ≤ (lg_cmp x1 0) then x1 else (-x1) : Int64) / x2) - ((if 0 ≤ (lg_cmp x1 0) then x1 else (-x1) : Int64) / x2) / (2) * (2)) 1) = 0 => ?_) (fun c_56 : (lg_cmp (((if 0 ≤ (lg_cmp x1 0) then x1 else (-x1) : Int64) / x2) - ((if 0 ≤ (lg_cmp x1 0) then x1 else (-x1) : Int64) / x2) / (2) * (2)) 1) = 0 => ?_)
        · refine fs_lload dX8_divided_66 rfl ?_
          refine fs_reL [4, 5, 3, 2, 1, 0] rfl ?_
          have k9 := key_68
          try simp only [if_neg c_37, if_pos c_45, if_neg c_56] at k9 ⊢
          exact k9
        · refine fs_lload dX8_divided_59 rfl ?_
          refine fs_lconst (v := 1) dX8_divided_61 rfl ?_
          refine fs_ladd dX8_divided_62 ?_
          refine fs_goto 68 dX8_divided_63 (by decide) ?_
          refine fs_reL [4, 5, 3, 2, 1, 0] rfl ?_
          have k9 := key_68
          try simp only [if_neg c_37, if_pos c_45, if_pos c_56] at k9 ⊢
          exact k9
  refine fs_if_ge 11 dX8_divided_3 (by decide) (fun c_3 : 0 ≤ (lg_cmp x1 0) => ?_) (fun c_3 : ¬ (0 ≤ (lg_cmp x1 0)) => ?_)
  · refine fs_lload_n dX8_divided_11 rfl rfl ?_
    have k9 := key_12
    try simp only [if_pos c_3] at k9 ⊢
    exact k9
  · refine fs_lload_n dX8_divided_6 rfl rfl ?_
    refine fs_lneg dX8_divided_7 ?_
    refine fs_goto 12 dX8_divided_8 (by decide) ?_
    have k9 := key_12
    try simp only [if_neg c_3] at k9 ⊢
    exact k9
def L_X8_product_r (ht : Nat) (I : Nat → Int32) (A : Nat → Nat → Int32) (J : Nat → Nat → Int64) (it : Nat → Option Nat) (dyn : fsH) (x1 : Int64) (x2 : Int64) : Int64 := (if 0 < (lg_cmp (((if 0 ≤ (lg_cmp x1 0) then x1 else (-x1) : Int64) / (1000000000)) * ((if 0 ≤ (lg_cmp x2 0) then x2 else (-x2) : Int64) / (1000000000))) 0) then (if (if (if 0 ≤ (lg_cmp x1 0) then 0 else 1 : Int32) = (if 0 ≤ (lg_cmp x2 0) then 0 else 1 : Int32) then 0 else 1 : Int32) = 0 then (2000000000000000) else (-2000000000000000) : Int64) else (if (lg_cmp ((((if 0 ≤ (lg_cmp x1 0) then x1 else (-x1) : Int64) / (1000000000)) * ((if 0 ≤ (lg_cmp x2 0) then x2 else (-x2) : Int64) - (if 0 ≤ (lg_cmp x2 0) then x2 else (-x2) : Int64) / (1000000000) * (1000000000))) + (((if 0 ≤ (lg_cmp x1 0) then x1 else (-x1) : Int64) - (if 0 ≤ (lg_cmp x1 0) then x1 else (-x1) : Int64) / (1000000000) * (1000000000)) * ((if 0 ≤ (lg_cmp x2 0) then x2 else (-x2) : Int64) / (1000000000)))) (200000000)) ≤ 0 then (if (if (if 0 ≤ (lg_cmp x1 0) then 0 else 1 : Int32) = (if 0 ≤ (lg_cmp x2 0) then 0 else 1 : Int32) then 0 else 1 : Int32) = 0 then (L_X8_divided_r ht I A J it dyn ((((((if 0 ≤ (lg_cmp x1 0) then x1 else (-x1) : Int64) / (1000000000)) * ((if 0 ≤ (lg_cmp x2 0) then x2 else (-x2) : Int64) - (if 0 ≤ (lg_cmp x2 0) then x2 else (-x2) : Int64) / (1000000000) * (1000000000))) + (((if 0 ≤ (lg_cmp x1 0) then x1 else (-x1) : Int64) - (if 0 ≤ (lg_cmp x1 0) then x1 else (-x1) : Int64) / (1000000000) * (1000000000)) * ((if 0 ≤ (lg_cmp x2 0) then x2 else (-x2) : Int64) / (1000000000)))) * (1000000000)) + (((if 0 ≤ (lg_cmp x1 0) then x1 else (-x1) : Int64) - (if 0 ≤ (lg_cmp x1 0) then x1 else (-x1) : Int64) / (1000000000) * (1000000000)) * ((if 0 ≤ (lg_cmp x2 0) then x2 else (-x2) : Int64) - (if 0 ≤ (lg_cmp x2 0) then x2 else (-x2) : Int64) / (1000000000) * (1000000000)))) (100)) else (-(L_X8_divided_r ht I A J it dyn ((((((if 0 ≤ (lg_cmp x1 0) then x1 else (-x1) : Int64) / (1000000000)) * ((if 0 ≤ (lg_cmp x2 0) then x2 else (-x2) : Int64) - (if 0 ≤ (lg_cmp x2 0) then x2 else (-x2) : Int64) / (1000000000) * (1000000000))) + (((if 0 ≤ (lg_cmp x1 0) then x1 else (-x1) : Int64) - (if 0 ≤ (lg_cmp x1 0) then x1 else (-x1) : Int64) / (1000000000) * (1000000000)) * ((if 0 ≤ (lg_cmp x2 0) then x2 else (-x2) : Int64) / (1000000000)))) * (1000000000)) + (((if 0 ≤ (lg_cmp x1 0) then x1 else (-x1) : Int64) - (if 0 ≤ (lg_cmp x1 0) then x1 else (-x1) : Int64) / (1000000000) * (1000000000)) * ((if 0 ≤ (lg_cmp x2 0) then x2 else (-x2) : Int64) - (if 0 ≤ (lg_cmp x2 0) then x2 else (-x2) : Int64) / (1000000000) * (1000000000)))) (100))) : Int64) else (if (if (if 0 ≤ (lg_cmp x1 0) then 0 else 1 : Int32) = (if 0 ≤ (lg_cmp x2 0) then 0 else 1 : Int32) then 0 else 1 : Int32) = 0 then (2000000000000000) else (-2000000000000000) : Int64)))
def S_X8_product (ht : Nat) (I : Nat → Int32) (A : Nat → Nat → Int32) (J : Nat → Nat → Int64) (it : Nat → Option Nat) (dyn : fsH) (x1 : Int64) (x2 : Int64) : Prop := (¬ (0 < (lg_cmp (((if 0 ≤ (lg_cmp x1 0) then x1 else (-x1) : Int64) / (1000000000)) * ((if 0 ≤ (lg_cmp x2 0) then x2 else (-x2) : Int64) / (1000000000))) 0)) → (((lg_cmp ((((if 0 ≤ (lg_cmp x1 0) then x1 else (-x1) : Int64) / (1000000000)) * ((if 0 ≤ (lg_cmp x2 0) then x2 else (-x2) : Int64) - (if 0 ≤ (lg_cmp x2 0) then x2 else (-x2) : Int64) / (1000000000) * (1000000000))) + (((if 0 ≤ (lg_cmp x1 0) then x1 else (-x1) : Int64) - (if 0 ≤ (lg_cmp x1 0) then x1 else (-x1) : Int64) / (1000000000) * (1000000000)) * ((if 0 ≤ (lg_cmp x2 0) then x2 else (-x2) : Int64) / (1000000000)))) (200000000)) ≤ 0) → (S_X8_divided ht I A J it dyn ((((((if 0 ≤ (lg_cmp x1 0) then x1 else (-x1) : Int64) / (1000000000)) * ((if 0 ≤ (lg_cmp x2 0) then x2 else (-x2) : Int64) - (if 0 ≤ (lg_cmp x2 0) then x2 else (-x2) : Int64) / (1000000000) * (1000000000))) + (((if 0 ≤ (lg_cmp x1 0) then x1 else (-x1) : Int64) - (if 0 ≤ (lg_cmp x1 0) then x1 else (-x1) : Int64) / (1000000000) * (1000000000)) * ((if 0 ≤ (lg_cmp x2 0) then x2 else (-x2) : Int64) / (1000000000)))) * (1000000000)) + (((if 0 ≤ (lg_cmp x1 0) then x1 else (-x1) : Int64) - (if 0 ≤ (lg_cmp x1 0) then x1 else (-x1) : Int64) / (1000000000) * (1000000000)) * ((if 0 ≤ (lg_cmp x2 0) then x2 else (-x2) : Int64) - (if 0 ≤ (lg_cmp x2 0) then x2 else (-x2) : Int64) / (1000000000) * (1000000000)))) (100))))
set_option maxRecDepth 100000 in
set_option maxHeartbeats 4000000 in
theorem c_X8_product (G : fsG) (l : Launch) (ht : Nat) (I : Nat → Int32) (A : Nat → Nat → Int32) (J : Nat → Nat → Int64) (it : Nat → Option Nat) (dyn : fsH) (x1 : Int64) (x2 : Int64) (hS : S_X8_product ht I A J it dyn x1 x2) : fsFn G l mX8_product 1 0 0 [.inr (.inl x1), .inr (.inl x2)] (fs_mk ht I A J it dyn) (some (.inr (.inl (L_X8_product_r ht I A J it dyn x1 x2)))) (fs_mk ht I A J it dyn) := by
  refine fsMet_of (by decide) (Nat.le_of_ble_eq_true rfl) ?_
  generalize hQ : (fun (r1 : Option fsV) (h1 : fsH) => r1 = (some (.inr (.inl (L_X8_product_r ht I A J it dyn x1 x2)))) ∧ h1 = (fs_mk ht I A J it dyn)) = Q
  have hq : Q (some (.inr (.inl (L_X8_product_r ht I A J it dyn x1 x2)))) (fs_mk ht I A J it dyn) := by rw [← hQ]; exact ⟨rfl, rfl⟩
  clear hQ
  have hq : Q (some (.inr (.inl (if 0 < (lg_cmp (((if 0 ≤ (lg_cmp x1 0) then x1 else (-x1) : Int64) / (1000000000)) * ((if 0 ≤ (lg_cmp x2 0) then x2 else (-x2) : Int64) / (1000000000))) 0) then (if (if (if 0 ≤ (lg_cmp x1 0) then 0 else 1 : Int32) = (if 0 ≤ (lg_cmp x2 0) then 0 else 1 : Int32) then 0 else 1 : Int32) = 0 then (2000000000000000) else (-2000000000000000) : Int64) else (if (lg_cmp ((((if 0 ≤ (lg_cmp x1 0) then x1 else (-x1) : Int64) / (1000000000)) * ((if 0 ≤ (lg_cmp x2 0) then x2 else (-x2) : Int64) - (if 0 ≤ (lg_cmp x2 0) then x2 else (-x2) : Int64) / (1000000000) * (1000000000))) + (((if 0 ≤ (lg_cmp x1 0) then x1 else (-x1) : Int64) - (if 0 ≤ (lg_cmp x1 0) then x1 else (-x1) : Int64) / (1000000000) * (1000000000)) * ((if 0 ≤ (lg_cmp x2 0) then x2 else (-x2) : Int64) / (1000000000)))) (200000000)) ≤ 0 then (if (if (if 0 ≤ (lg_cmp x1 0) then 0 else 1 : Int32) = (if 0 ≤ (lg_cmp x2 0) then 0 else 1 : Int32) then 0 else 1 : Int32) = 0 then (L_X8_divided_r ht I A J it dyn ((((((if 0 ≤ (lg_cmp x1 0) then x1 else (-x1) : Int64) / (1000000000)) * ((if 0 ≤ (lg_cmp x2 0) then x2 else (-x2) : Int64) - (if 0 ≤ (lg_cmp x2 0) then x2 else (-x2) : Int64) / (1000000000) * (1000000000))) + (((if 0 ≤ (lg_cmp x1 0) then x1 else (-x1) : Int64) - (if 0 ≤ (lg_cmp x1 0) then x1 else (-x1) : Int64) / (1000000000) * (1000000000)) * ((if 0 ≤ (lg_cmp x2 0) then x2 else (-x2) : Int64) / (1000000000)))) * (1000000000)) + (((if 0 ≤ (lg_cmp x1 0) then x1 else (-x1) : Int64) - (if 0 ≤ (lg_cmp x1 0) then x1 else (-x1) : Int64) / (1000000000) * (1000000000)) * ((if 0 ≤ (lg_cmp x2 0) then x2 else (-x2) : Int64) - (if 0 ≤ (lg_cmp x2 0) then x2 else (-x2) : Int64) / (1000000000) * (1000000000)))) (100)) else (-(L_X8_divided_r ht I A J it dyn ((((((if 0 ≤ (lg_cmp x1 0) then x1 else (-x1) : Int64) / (1000000000)) * ((if 0 ≤ (lg_cmp x2 0) then x2 else (-x2) : Int64) - (if 0 ≤ (lg_cmp x2 0) then x2 else (-x2) : Int64) / (1000000000) * (1000000000))) + (((if 0 ≤ (lg_cmp x1 0) then x1 else (-x1) : Int64) - (if 0 ≤ (lg_cmp x1 0) then x1 else (-x1) : Int64) / (1000000000) * (1000000000)) * ((if 0 ≤ (lg_cmp x2 0) then x2 else (-x2) : Int64) / (1000000000)))) * (1000000000)) + (((if 0 ≤ (lg_cmp x1 0) then x1 else (-x1) : Int64) - (if 0 ≤ (lg_cmp x1 0) then x1 else (-x1) : Int64) / (1000000000) * (1000000000)) * ((if 0 ≤ (lg_cmp x2 0) then x2 else (-x2) : Int64) - (if 0 ≤ (lg_cmp x2 0) then x2 else (-x2) : Int64) / (1000000000) * (1000000000)))) (100))) : Int64) else (if (if (if 0 ≤ (lg_cmp x1 0) then 0 else 1 : Int32) = (if 0 ≤ (lg_cmp x2 0) then 0 else 1 : Int32) then 0 else 1 : Int32) = 0 then (2000000000000000) else (-2000000000000000) : Int64)))))) (fs_mk ht I A J it dyn) := hq
  have hS : (¬ (0 < (lg_cmp (((if 0 ≤ (lg_cmp x1 0) then x1 else (-x1) : Int64) / (1000000000)) * ((if 0 ≤ (lg_cmp x2 0) then x2 else (-x2) : Int64) / (1000000000))) 0)) → (((lg_cmp ((((if 0 ≤ (lg_cmp x1 0) then x1 else (-x1) : Int64) / (1000000000)) * ((if 0 ≤ (lg_cmp x2 0) then x2 else (-x2) : Int64) - (if 0 ≤ (lg_cmp x2 0) then x2 else (-x2) : Int64) / (1000000000) * (1000000000))) + (((if 0 ≤ (lg_cmp x1 0) then x1 else (-x1) : Int64) - (if 0 ≤ (lg_cmp x1 0) then x1 else (-x1) : Int64) / (1000000000) * (1000000000)) * ((if 0 ≤ (lg_cmp x2 0) then x2 else (-x2) : Int64) / (1000000000)))) (200000000)) ≤ 0) → (S_X8_divided ht I A J it dyn ((((((if 0 ≤ (lg_cmp x1 0) then x1 else (-x1) : Int64) / (1000000000)) * ((if 0 ≤ (lg_cmp x2 0) then x2 else (-x2) : Int64) - (if 0 ≤ (lg_cmp x2 0) then x2 else (-x2) : Int64) / (1000000000) * (1000000000))) + (((if 0 ≤ (lg_cmp x1 0) then x1 else (-x1) : Int64) - (if 0 ≤ (lg_cmp x1 0) then x1 else (-x1) : Int64) / (1000000000) * (1000000000)) * ((if 0 ≤ (lg_cmp x2 0) then x2 else (-x2) : Int64) / (1000000000)))) * (1000000000)) + (((if 0 ≤ (lg_cmp x1 0) then x1 else (-x1) : Int64) - (if 0 ≤ (lg_cmp x1 0) then x1 else (-x1) : Int64) / (1000000000) * (1000000000)) * ((if 0 ≤ (lg_cmp x2 0) then x2 else (-x2) : Int64) - (if 0 ≤ (lg_cmp x2 0) then x2 else (-x2) : Int64) / (1000000000) * (1000000000)))) (100)))) := hS
  refine (show fsW G l mX8_product 1 0 0 0 0 Q 0 [(0, .inr (.inl x1)), (2, .inr (.inl x2))] [] (fs_mk ht I A J it dyn) from ?_)
  refine fs_lload_n dX8_product_0 rfl rfl ?_
  refine fs_lconst (v := 0) dX8_product_1 rfl ?_
  refine fs_lcmp dX8_product_2 ?_
  have key_12 : fsW G l mX8_product 1 0 0 0 0 Q 12 [(0, .inr (.inl x1)), (2, .inr (.inl x2))] [.inr (.inl (if 0 ≤ (lg_cmp x1 0) then x1 else (-x1) : Int64))] (fs_mk ht I A J it dyn) := by
    refine fs_lstore (L' := [(4, .inr (.inl (if 0 ≤ (lg_cmp x1 0) then x1 else (-x1) : Int64))), (0, .inr (.inl x1)), (2, .inr (.inl x2))]) dX8_product_12 (by decide) rfl ?_
    refine fs_lload_n dX8_product_14 rfl rfl ?_
    refine fs_lconst (v := 0) dX8_product_15 rfl ?_
    refine fs_lcmp dX8_product_16 ?_
    have key_26 : fsW G l mX8_product 1 0 0 0 0 Q 26 [(0, .inr (.inl x1)), (2, .inr (.inl x2)), (4, .inr (.inl (if 0 ≤ (lg_cmp x1 0) then x1 else (-x1) : Int64)))] [.inr (.inl (if 0 ≤ (lg_cmp x2 0) then x2 else (-x2) : Int64))] (fs_mk ht I A J it dyn) := by
      refine fs_lstore (L' := [(6, .inr (.inl (if 0 ≤ (lg_cmp x2 0) then x2 else (-x2) : Int64))), (0, .inr (.inl x1)), (2, .inr (.inl x2)), (4, .inr (.inl (if 0 ≤ (lg_cmp x1 0) then x1 else (-x1) : Int64)))]) dX8_product_26 (by decide) rfl ?_
      refine fs_lload_n dX8_product_28 rfl rfl ?_
      refine fs_lconst (v := 0) dX8_product_29 rfl ?_
      refine fs_lcmp dX8_product_30 ?_
      have key_39 : fsW G l mX8_product 1 0 0 0 0 Q 39 [(0, .inr (.inl x1)), (2, .inr (.inl x2)), (4, .inr (.inl (if 0 ≤ (lg_cmp x1 0) then x1 else (-x1) : Int64))), (6, .inr (.inl (if 0 ≤ (lg_cmp x2 0) then x2 else (-x2) : Int64)))] [.inl (if 0 ≤ (lg_cmp x1 0) then 0 else 1 : Int32)] (fs_mk ht I A J it dyn) := by
        refine fs_lload_n dX8_product_39 rfl rfl ?_
        refine fs_lconst (v := 0) dX8_product_40 rfl ?_
        refine fs_lcmp dX8_product_41 ?_
        have key_50 : fsW G l mX8_product 1 0 0 0 0 Q 50 [(0, .inr (.inl x1)), (2, .inr (.inl x2)), (4, .inr (.inl (if 0 ≤ (lg_cmp x1 0) then x1 else (-x1) : Int64))), (6, .inr (.inl (if 0 ≤ (lg_cmp x2 0) then x2 else (-x2) : Int64)))] [.inl (if 0 ≤ (lg_cmp x2 0) then 0 else 1 : Int32), .inl (if 0 ≤ (lg_cmp x1 0) then 0 else 1 : Int32)] (fs_mk ht I A J it dyn) := by
          have key_58 : fsW G l mX8_product 1 0 0 0 0 Q 58 [(0, .inr (.inl x1)), (2, .inr (.inl x2)), (4, .inr (.inl (if 0 ≤ (lg_cmp x1 0) then x1 else (-x1) : Int64))), (6, .inr (.inl (if 0 ≤ (lg_cmp x2 0) then x2 else (-x2) : Int64)))] [.inl (if (if 0 ≤ (lg_cmp x1 0) then 0 else 1 : Int32) = (if 0 ≤ (lg_cmp x2 0) then 0 else 1 : Int32) then 0 else 1 : Int32)] (fs_mk ht I A J it dyn) := by
            refine fs_istore (L' := [(8, .inl (if (if 0 ≤ (lg_cmp x1 0) then 0 else 1 : Int32) = (if 0 ≤ (lg_cmp x2 0) then 0 else 1 : Int32) then 0 else 1 : Int32)), (0, .inr (.inl x1)), (2, .inr (.inl x2)), (4, .inr (.inl (if 0 ≤ (lg_cmp x1 0) then x1 else (-x1) : Int64))), (6, .inr (.inl (if 0 ≤ (lg_cmp x2 0) then x2 else (-x2) : Int64)))]) dX8_product_58 (by decide) rfl ?_
            refine fs_ldc2 (v := (1000000000)) dX8_product_60 sk_X8_191 ?_
            refine fs_lstore (L' := [(9, .inr (.inl (1000000000))), (8, .inl (if (if 0 ≤ (lg_cmp x1 0) then 0 else 1 : Int32) = (if 0 ≤ (lg_cmp x2 0) then 0 else 1 : Int32) then 0 else 1 : Int32)), (0, .inr (.inl x1)), (2, .inr (.inl x2)), (4, .inr (.inl (if 0 ≤ (lg_cmp x1 0) then x1 else (-x1) : Int64))), (6, .inr (.inl (if 0 ≤ (lg_cmp x2 0) then x2 else (-x2) : Int64)))]) dX8_product_63 (by decide) rfl ?_
            refine fs_lload dX8_product_65 rfl ?_
            refine fs_lload dX8_product_67 rfl ?_
            refine fs_ldiv dX8_product_69 (by decide) ?_
            refine fs_lload dX8_product_70 rfl ?_
            refine fs_lload dX8_product_72 rfl ?_
            refine fs_lrem dX8_product_74 (by decide) ?_
            refine fs_lmul dX8_product_75 ?_
            refine fs_lload dX8_product_76 rfl ?_
            refine fs_lload dX8_product_78 rfl ?_
            refine fs_lrem dX8_product_80 (by decide) ?_
            refine fs_lload dX8_product_81 rfl ?_
            refine fs_lload dX8_product_83 rfl ?_
            refine fs_ldiv dX8_product_85 (by decide) ?_
            refine fs_lmul dX8_product_86 ?_
            refine fs_ladd dX8_product_87 ?_
            refine fs_lstore (L' := [(11, .inr (.inl ((((if 0 ≤ (lg_cmp x1 0) then x1 else (-x1) : Int64) / (1000000000)) * ((if 0 ≤ (lg_cmp x2 0) then x2 else (-x2) : Int64) - (if 0 ≤ (lg_cmp x2 0) then x2 else (-x2) : Int64) / (1000000000) * (1000000000))) + (((if 0 ≤ (lg_cmp x1 0) then x1 else (-x1) : Int64) - (if 0 ≤ (lg_cmp x1 0) then x1 else (-x1) : Int64) / (1000000000) * (1000000000)) * ((if 0 ≤ (lg_cmp x2 0) then x2 else (-x2) : Int64) / (1000000000)))))), (9, .inr (.inl (1000000000))), (8, .inl (if (if 0 ≤ (lg_cmp x1 0) then 0 else 1 : Int32) = (if 0 ≤ (lg_cmp x2 0) then 0 else 1 : Int32) then 0 else 1 : Int32)), (0, .inr (.inl x1)), (2, .inr (.inl x2)), (4, .inr (.inl (if 0 ≤ (lg_cmp x1 0) then x1 else (-x1) : Int64))), (6, .inr (.inl (if 0 ≤ (lg_cmp x2 0) then x2 else (-x2) : Int64)))]) dX8_product_88 (by decide) rfl ?_
            refine fs_lload dX8_product_90 rfl ?_
            refine fs_lload dX8_product_92 rfl ?_
            refine fs_ldiv dX8_product_94 (by decide) ?_
            refine fs_lload dX8_product_95 rfl ?_
            refine fs_lload dX8_product_97 rfl ?_
            refine fs_ldiv dX8_product_99 (by decide) ?_
            refine fs_lmul dX8_product_100 ?_
            refine fs_lconst (v := 0) dX8_product_101 rfl ?_
            refine fs_lcmp dX8_product_102 ?_
            refine fs_if_gt 115 dX8_product_103 (by decide) (fun c_103 : 0 < (lg_cmp (((if 0 ≤ (lg_cmp x1 0) then x1 else (-x1) : Int64) / (1000000000)) * ((if 0 ≤ (lg_cmp x2 0) then x2 else (-x2) : Int64) / (1000000000))) 0) => ?_) (fun c_103 : ¬ (0 < (lg_cmp (((if 0 ≤ (lg_cmp x1 0) then x1 else (-x1) : Int64) / (1000000000)) * ((if 0 ≤ (lg_cmp x2 0) then x2 else (-x2) : Int64) / (1000000000))) 0)) => ?_)
            · refine fs_iload dX8_product_115 rfl ?_
              have key_129 : fsW G l mX8_product 1 0 0 0 0 Q 129 [(0, .inr (.inl x1)), (2, .inr (.inl x2)), (4, .inr (.inl (if 0 ≤ (lg_cmp x1 0) then x1 else (-x1) : Int64))), (6, .inr (.inl (if 0 ≤ (lg_cmp x2 0) then x2 else (-x2) : Int64))), (8, .inl (if (if 0 ≤ (lg_cmp x1 0) then 0 else 1 : Int32) = (if 0 ≤ (lg_cmp x2 0) then 0 else 1 : Int32) then 0 else 1 : Int32)), (9, .inr (.inl (1000000000))), (11, .inr (.inl ((((if 0 ≤ (lg_cmp x1 0) then x1 else (-x1) : Int64) / (1000000000)) * ((if 0 ≤ (lg_cmp x2 0) then x2 else (-x2) : Int64) - (if 0 ≤ (lg_cmp x2 0) then x2 else (-x2) : Int64) / (1000000000) * (1000000000))) + (((if 0 ≤ (lg_cmp x1 0) then x1 else (-x1) : Int64) - (if 0 ≤ (lg_cmp x1 0) then x1 else (-x1) : Int64) / (1000000000) * (1000000000)) * ((if 0 ≤ (lg_cmp x2 0) then x2 else (-x2) : Int64) / (1000000000))))))] [.inr (.inl (if (if (if 0 ≤ (lg_cmp x1 0) then 0 else 1 : Int32) = (if 0 ≤ (lg_cmp x2 0) then 0 else 1 : Int32) then 0 else 1 : Int32) = 0 then (2000000000000000) else (-2000000000000000) : Int64))] (fs_mk ht I A J it dyn) := by
                have k9 := hq
                try simp only [if_pos c_103] at k9 ⊢
                exact fs_lret dX8_product_129 rfl k9
              refine fs_if_eq 126 dX8_product_117 (by decide) (fun c_117 : (if (if 0 ≤ (lg_cmp x1 0) then 0 else 1 : Int32) = (if 0 ≤ (lg_cmp x2 0) then 0 else 1 : Int32) then 0 else 1 : Int32) = 0 => ?_) (fun c_117 : ¬ ((if (if 0 ≤ (lg_cmp x1 0) then 0 else 1 : Int32) = (if 0 ≤ (lg_cmp x2 0) then 0 else 1 : Int32) then 0 else 1 : Int32) = 0) => ?_)
              · refine fs_ldc2 (v := (2000000000000000)) dX8_product_126 sk_X8_197 ?_
                refine fs_reL [3, 4, 5, 6, 2, 1, 0] rfl ?_
                have k9 := key_129
                try simp only [if_pos c_103, if_pos c_117] at k9 ⊢
                exact k9
              · refine fs_ldc2 (v := (-2000000000000000)) dX8_product_120 sk_X8_195 ?_
                refine fs_goto 129 dX8_product_123 (by decide) ?_
                refine fs_reL [3, 4, 5, 6, 2, 1, 0] rfl ?_
                have k9 := key_129
                try simp only [if_pos c_103, if_neg c_117] at k9 ⊢
                exact k9
            · have hS := hS c_103
              refine fs_lload dX8_product_106 rfl ?_
              refine fs_ldc2 (v := (200000000)) dX8_product_108 sk_X8_193 ?_
              refine fs_lcmp dX8_product_111 ?_
              refine fs_if_le 130 dX8_product_112 (by decide) (fun c_112 : (lg_cmp ((((if 0 ≤ (lg_cmp x1 0) then x1 else (-x1) : Int64) / (1000000000)) * ((if 0 ≤ (lg_cmp x2 0) then x2 else (-x2) : Int64) - (if 0 ≤ (lg_cmp x2 0) then x2 else (-x2) : Int64) / (1000000000) * (1000000000))) + (((if 0 ≤ (lg_cmp x1 0) then x1 else (-x1) : Int64) - (if 0 ≤ (lg_cmp x1 0) then x1 else (-x1) : Int64) / (1000000000) * (1000000000)) * ((if 0 ≤ (lg_cmp x2 0) then x2 else (-x2) : Int64) / (1000000000)))) (200000000)) ≤ 0 => ?_) (fun c_112 : ¬ ((lg_cmp ((((if 0 ≤ (lg_cmp x1 0) then x1 else (-x1) : Int64) / (1000000000)) * ((if 0 ≤ (lg_cmp x2 0) then x2 else (-x2) : Int64) - (if 0 ≤ (lg_cmp x2 0) then x2 else (-x2) : Int64) / (1000000000) * (1000000000))) + (((if 0 ≤ (lg_cmp x1 0) then x1 else (-x1) : Int64) - (if 0 ≤ (lg_cmp x1 0) then x1 else (-x1) : Int64) / (1000000000) * (1000000000)) * ((if 0 ≤ (lg_cmp x2 0) then x2 else (-x2) : Int64) / (1000000000)))) (200000000)) ≤ 0) => ?_)
              · have hS := hS c_112
                refine fs_lload dX8_product_130 rfl ?_
                refine fs_lload dX8_product_132 rfl ?_
                refine fs_lmul dX8_product_134 ?_
                refine fs_lload dX8_product_135 rfl ?_
                refine fs_lload dX8_product_137 rfl ?_
                refine fs_lrem dX8_product_139 (by decide) ?_
                refine fs_lload dX8_product_140 rfl ?_
                refine fs_lload dX8_product_142 rfl ?_
                refine fs_lrem dX8_product_144 (by decide) ?_
                refine fs_lmul dX8_product_145 ?_
                refine fs_ladd dX8_product_146 ?_
                refine fs_ldc2 (v := (100)) dX8_product_147 sk_X8_125 ?_
                have ho1 := hS
                refine fs_callS1 dX8_product_150 sv_X8_199 (c_X8_divided G l ht I A J it dyn ((((((if 0 ≤ (lg_cmp x1 0) then x1 else (-x1) : Int64) / (1000000000)) * ((if 0 ≤ (lg_cmp x2 0) then x2 else (-x2) : Int64) - (if 0 ≤ (lg_cmp x2 0) then x2 else (-x2) : Int64) / (1000000000) * (1000000000))) + (((if 0 ≤ (lg_cmp x1 0) then x1 else (-x1) : Int64) - (if 0 ≤ (lg_cmp x1 0) then x1 else (-x1) : Int64) / (1000000000) * (1000000000)) * ((if 0 ≤ (lg_cmp x2 0) then x2 else (-x2) : Int64) / (1000000000)))) * (1000000000)) + (((if 0 ≤ (lg_cmp x1 0) then x1 else (-x1) : Int64) - (if 0 ≤ (lg_cmp x1 0) then x1 else (-x1) : Int64) / (1000000000) * (1000000000)) * ((if 0 ≤ (lg_cmp x2 0) then x2 else (-x2) : Int64) - (if 0 ≤ (lg_cmp x2 0) then x2 else (-x2) : Int64) / (1000000000) * (1000000000)))) (100) ho1) rfl rfl (Nat.le_of_ble_eq_true rfl) (Nat.le_of_ble_eq_true rfl) (Nat.le_of_ble_eq_true rfl) (Nat.le_of_ble_eq_true rfl) ?_
                refine fs_lstore (L' := [(13, .inr (.inl (L_X8_divided_r ht I A J it dyn ((((((if 0 ≤ (lg_cmp x1 0) then x1 else (-x1) : Int64) / (1000000000)) * ((if 0 ≤ (lg_cmp x2 0) then x2 else (-x2) : Int64) - (if 0 ≤ (lg_cmp x2 0) then x2 else (-x2) : Int64) / (1000000000) * (1000000000))) + (((if 0 ≤ (lg_cmp x1 0) then x1 else (-x1) : Int64) - (if 0 ≤ (lg_cmp x1 0) then x1 else (-x1) : Int64) / (1000000000) * (1000000000)) * ((if 0 ≤ (lg_cmp x2 0) then x2 else (-x2) : Int64) / (1000000000)))) * (1000000000)) + (((if 0 ≤ (lg_cmp x1 0) then x1 else (-x1) : Int64) - (if 0 ≤ (lg_cmp x1 0) then x1 else (-x1) : Int64) / (1000000000) * (1000000000)) * ((if 0 ≤ (lg_cmp x2 0) then x2 else (-x2) : Int64) - (if 0 ≤ (lg_cmp x2 0) then x2 else (-x2) : Int64) / (1000000000) * (1000000000)))) (100)))), (11, .inr (.inl ((((if 0 ≤ (lg_cmp x1 0) then x1 else (-x1) : Int64) / (1000000000)) * ((if 0 ≤ (lg_cmp x2 0) then x2 else (-x2) : Int64) - (if 0 ≤ (lg_cmp x2 0) then x2 else (-x2) : Int64) / (1000000000) * (1000000000))) + (((if 0 ≤ (lg_cmp x1 0) then x1 else (-x1) : Int64) - (if 0 ≤ (lg_cmp x1 0) then x1 else (-x1) : Int64) / (1000000000) * (1000000000)) * ((if 0 ≤ (lg_cmp x2 0) then x2 else (-x2) : Int64) / (1000000000)))))), (9, .inr (.inl (1000000000))), (8, .inl (if (if 0 ≤ (lg_cmp x1 0) then 0 else 1 : Int32) = (if 0 ≤ (lg_cmp x2 0) then 0 else 1 : Int32) then 0 else 1 : Int32)), (0, .inr (.inl x1)), (2, .inr (.inl x2)), (4, .inr (.inl (if 0 ≤ (lg_cmp x1 0) then x1 else (-x1) : Int64))), (6, .inr (.inl (if 0 ≤ (lg_cmp x2 0) then x2 else (-x2) : Int64)))]) dX8_product_153 (by decide) rfl ?_
                refine fs_iload dX8_product_155 rfl ?_
                have key_168 : fsW G l mX8_product 1 0 0 0 0 Q 168 [(0, .inr (.inl x1)), (2, .inr (.inl x2)), (4, .inr (.inl (if 0 ≤ (lg_cmp x1 0) then x1 else (-x1) : Int64))), (6, .inr (.inl (if 0 ≤ (lg_cmp x2 0) then x2 else (-x2) : Int64))), (8, .inl (if (if 0 ≤ (lg_cmp x1 0) then 0 else 1 : Int32) = (if 0 ≤ (lg_cmp x2 0) then 0 else 1 : Int32) then 0 else 1 : Int32)), (9, .inr (.inl (1000000000))), (11, .inr (.inl ((((if 0 ≤ (lg_cmp x1 0) then x1 else (-x1) : Int64) / (1000000000)) * ((if 0 ≤ (lg_cmp x2 0) then x2 else (-x2) : Int64) - (if 0 ≤ (lg_cmp x2 0) then x2 else (-x2) : Int64) / (1000000000) * (1000000000))) + (((if 0 ≤ (lg_cmp x1 0) then x1 else (-x1) : Int64) - (if 0 ≤ (lg_cmp x1 0) then x1 else (-x1) : Int64) / (1000000000) * (1000000000)) * ((if 0 ≤ (lg_cmp x2 0) then x2 else (-x2) : Int64) / (1000000000)))))), (13, .inr (.inl (L_X8_divided_r ht I A J it dyn ((((((if 0 ≤ (lg_cmp x1 0) then x1 else (-x1) : Int64) / (1000000000)) * ((if 0 ≤ (lg_cmp x2 0) then x2 else (-x2) : Int64) - (if 0 ≤ (lg_cmp x2 0) then x2 else (-x2) : Int64) / (1000000000) * (1000000000))) + (((if 0 ≤ (lg_cmp x1 0) then x1 else (-x1) : Int64) - (if 0 ≤ (lg_cmp x1 0) then x1 else (-x1) : Int64) / (1000000000) * (1000000000)) * ((if 0 ≤ (lg_cmp x2 0) then x2 else (-x2) : Int64) / (1000000000)))) * (1000000000)) + (((if 0 ≤ (lg_cmp x1 0) then x1 else (-x1) : Int64) - (if 0 ≤ (lg_cmp x1 0) then x1 else (-x1) : Int64) / (1000000000) * (1000000000)) * ((if 0 ≤ (lg_cmp x2 0) then x2 else (-x2) : Int64) - (if 0 ≤ (lg_cmp x2 0) then x2 else (-x2) : Int64) / (1000000000) * (1000000000)))) (100))))] [.inr (.inl (if (if (if 0 ≤ (lg_cmp x1 0) then 0 else 1 : Int32) = (if 0 ≤ (lg_cmp x2 0) then 0 else 1 : Int32) then 0 else 1 : Int32) = 0 then (L_X8_divided_r ht I A J it dyn ((((((if 0 ≤ (lg_cmp x1 0) then x1 else (-x1) : Int64) / (1000000000)) * ((if 0 ≤ (lg_cmp x2 0) then x2 else (-x2) : Int64) - (if 0 ≤ (lg_cmp x2 0) then x2 else (-x2) : Int64) / (1000000000) * (1000000000))) + (((if 0 ≤ (lg_cmp x1 0) then x1 else (-x1) : Int64) - (if 0 ≤ (lg_cmp x1 0) then x1 else (-x1) : Int64) / (1000000000) * (1000000000)) * ((if 0 ≤ (lg_cmp x2 0) then x2 else (-x2) : Int64) / (1000000000)))) * (1000000000)) + (((if 0 ≤ (lg_cmp x1 0) then x1 else (-x1) : Int64) - (if 0 ≤ (lg_cmp x1 0) then x1 else (-x1) : Int64) / (1000000000) * (1000000000)) * ((if 0 ≤ (lg_cmp x2 0) then x2 else (-x2) : Int64) - (if 0 ≤ (lg_cmp x2 0) then x2 else (-x2) : Int64) / (1000000000) * (1000000000)))) (100)) else (-(L_X8_divided_r ht I A J it dyn ((((((if 0 ≤ (lg_cmp x1 0) then x1 else (-x1) : Int64) / (1000000000)) * ((if 0 ≤ (lg_cmp x2 0) then x2 else (-x2) : Int64) - (if 0 ≤ (lg_cmp x2 0) then x2 else (-x2) : Int64) / (1000000000) * (1000000000))) + (((if 0 ≤ (lg_cmp x1 0) then x1 else (-x1) : Int64) - (if 0 ≤ (lg_cmp x1 0) then x1 else (-x1) : Int64) / (1000000000) * (1000000000)) * ((if 0 ≤ (lg_cmp x2 0) then x2 else (-x2) : Int64) / (1000000000)))) * (1000000000)) + (((if 0 ≤ (lg_cmp x1 0) then x1 else (-x1) : Int64) - (if 0 ≤ (lg_cmp x1 0) then x1 else (-x1) : Int64) / (1000000000) * (1000000000)) * ((if 0 ≤ (lg_cmp x2 0) then x2 else (-x2) : Int64) - (if 0 ≤ (lg_cmp x2 0) then x2 else (-x2) : Int64) / (1000000000) * (1000000000)))) (100))) : Int64))] (fs_mk ht I A J it dyn) := by
                  have k9 := hq
                  try simp only [if_neg c_103, if_pos c_112] at k9 ⊢
                  exact fs_lret dX8_product_168 rfl k9
                refine fs_if_eq 166 dX8_product_157 (by decide) (fun c_157 : (if (if 0 ≤ (lg_cmp x1 0) then 0 else 1 : Int32) = (if 0 ≤ (lg_cmp x2 0) then 0 else 1 : Int32) then 0 else 1 : Int32) = 0 => ?_) (fun c_157 : ¬ ((if (if 0 ≤ (lg_cmp x1 0) then 0 else 1 : Int32) = (if 0 ≤ (lg_cmp x2 0) then 0 else 1 : Int32) then 0 else 1 : Int32) = 0) => ?_)
                · refine fs_lload dX8_product_166 rfl ?_
                  refine fs_reL [4, 5, 6, 7, 3, 2, 1, 0] rfl ?_
                  have k9 := key_168
                  try simp only [if_neg c_103, if_pos c_112, if_pos c_157] at k9 ⊢
                  exact k9
                · refine fs_lload dX8_product_160 rfl ?_
                  refine fs_lneg dX8_product_162 ?_
                  refine fs_goto 168 dX8_product_163 (by decide) ?_
                  refine fs_reL [4, 5, 6, 7, 3, 2, 1, 0] rfl ?_
                  have k9 := key_168
                  try simp only [if_neg c_103, if_pos c_112, if_neg c_157] at k9 ⊢
                  exact k9
              · refine fs_iload dX8_product_115 rfl ?_
                have key_129 : fsW G l mX8_product 1 0 0 0 0 Q 129 [(0, .inr (.inl x1)), (2, .inr (.inl x2)), (4, .inr (.inl (if 0 ≤ (lg_cmp x1 0) then x1 else (-x1) : Int64))), (6, .inr (.inl (if 0 ≤ (lg_cmp x2 0) then x2 else (-x2) : Int64))), (8, .inl (if (if 0 ≤ (lg_cmp x1 0) then 0 else 1 : Int32) = (if 0 ≤ (lg_cmp x2 0) then 0 else 1 : Int32) then 0 else 1 : Int32)), (9, .inr (.inl (1000000000))), (11, .inr (.inl ((((if 0 ≤ (lg_cmp x1 0) then x1 else (-x1) : Int64) / (1000000000)) * ((if 0 ≤ (lg_cmp x2 0) then x2 else (-x2) : Int64) - (if 0 ≤ (lg_cmp x2 0) then x2 else (-x2) : Int64) / (1000000000) * (1000000000))) + (((if 0 ≤ (lg_cmp x1 0) then x1 else (-x1) : Int64) - (if 0 ≤ (lg_cmp x1 0) then x1 else (-x1) : Int64) / (1000000000) * (1000000000)) * ((if 0 ≤ (lg_cmp x2 0) then x2 else (-x2) : Int64) / (1000000000))))))] [.inr (.inl (if (if (if 0 ≤ (lg_cmp x1 0) then 0 else 1 : Int32) = (if 0 ≤ (lg_cmp x2 0) then 0 else 1 : Int32) then 0 else 1 : Int32) = 0 then (2000000000000000) else (-2000000000000000) : Int64))] (fs_mk ht I A J it dyn) := by
                  have k9 := hq
                  try simp only [if_neg c_103, if_neg c_112] at k9 ⊢
                  exact fs_lret dX8_product_129 rfl k9
                refine fs_if_eq 126 dX8_product_117 (by decide) (fun c_117 : (if (if 0 ≤ (lg_cmp x1 0) then 0 else 1 : Int32) = (if 0 ≤ (lg_cmp x2 0) then 0 else 1 : Int32) then 0 else 1 : Int32) = 0 => ?_) (fun c_117 : ¬ ((if (if 0 ≤ (lg_cmp x1 0) then 0 else 1 : Int32) = (if 0 ≤ (lg_cmp x2 0) then 0 else 1 : Int32) then 0 else 1 : Int32) = 0) => ?_)
                · refine fs_ldc2 (v := (2000000000000000)) dX8_product_126 sk_X8_197 ?_
                  refine fs_reL [3, 4, 5, 6, 2, 1, 0] rfl ?_
                  have k9 := key_129
                  try simp only [if_neg c_103, if_neg c_112, if_pos c_117] at k9 ⊢
                  exact k9
                · refine fs_ldc2 (v := (-2000000000000000)) dX8_product_120 sk_X8_195 ?_
                  refine fs_goto 129 dX8_product_123 (by decide) ?_
                  refine fs_reL [3, 4, 5, 6, 2, 1, 0] rfl ?_
                  have k9 := key_129
                  try simp only [if_neg c_103, if_neg c_112, if_neg c_117] at k9 ⊢
                  exact k9
          refine fs_icmp_eq 57 dX8_product_50 (by decide) (fun c_50 : (if 0 ≤ (lg_cmp x1 0) then 0 else 1 : Int32) = (if 0 ≤ (lg_cmp x2 0) then 0 else 1 : Int32) => ?_) (fun c_50 : ¬ ((if 0 ≤ (lg_cmp x1 0) then 0 else 1 : Int32) = (if 0 ≤ (lg_cmp x2 0) then 0 else 1 : Int32)) => ?_)
          · refine fs_iconst (v := 0) dX8_product_57 rfl ?_
            have k9 := key_58
            try simp only [if_pos c_50] at k9 ⊢
            exact k9
          · refine fs_iconst (v := 1) dX8_product_53 rfl ?_
            refine fs_goto 58 dX8_product_54 (by decide) ?_
            have k9 := key_58
            try simp only [if_neg c_50] at k9 ⊢
            exact k9
        refine fs_if_ge 49 dX8_product_42 (by decide) (fun c_42 : 0 ≤ (lg_cmp x2 0) => ?_) (fun c_42 : ¬ (0 ≤ (lg_cmp x2 0)) => ?_)
        · refine fs_iconst (v := 0) dX8_product_49 rfl ?_
          have k9 := key_50
          try simp only [if_pos c_42] at k9 ⊢
          exact k9
        · refine fs_iconst (v := 1) dX8_product_45 rfl ?_
          refine fs_goto 50 dX8_product_46 (by decide) ?_
          have k9 := key_50
          try simp only [if_neg c_42] at k9 ⊢
          exact k9
      refine fs_if_ge 38 dX8_product_31 (by decide) (fun c_31 : 0 ≤ (lg_cmp x1 0) => ?_) (fun c_31 : ¬ (0 ≤ (lg_cmp x1 0)) => ?_)
      · refine fs_iconst (v := 0) dX8_product_38 rfl ?_
        refine fs_reL [1, 2, 3, 0] rfl ?_
        have k9 := key_39
        try simp only [if_pos c_31] at k9 ⊢
        exact k9
      · refine fs_iconst (v := 1) dX8_product_34 rfl ?_
        refine fs_goto 39 dX8_product_35 (by decide) ?_
        refine fs_reL [1, 2, 3, 0] rfl ?_
        have k9 := key_39
        try simp only [if_neg c_31] at k9 ⊢
        exact k9
    refine fs_if_ge 25 dX8_product_17 (by decide) (fun c_17 : 0 ≤ (lg_cmp x2 0) => ?_) (fun c_17 : ¬ (0 ≤ (lg_cmp x2 0)) => ?_)
    · refine fs_lload_n dX8_product_25 rfl rfl ?_
      refine fs_reL [1, 2, 0] rfl ?_
      have k9 := key_26
      try simp only [if_pos c_17] at k9 ⊢
      exact k9
    · refine fs_lload_n dX8_product_20 rfl rfl ?_
      refine fs_lneg dX8_product_21 ?_
      refine fs_goto 26 dX8_product_22 (by decide) ?_
      refine fs_reL [1, 2, 0] rfl ?_
      have k9 := key_26
      try simp only [if_neg c_17] at k9 ⊢
      exact k9
  refine fs_if_ge 11 dX8_product_3 (by decide) (fun c_3 : 0 ≤ (lg_cmp x1 0) => ?_) (fun c_3 : ¬ (0 ≤ (lg_cmp x1 0)) => ?_)
  · refine fs_lload_n dX8_product_11 rfl rfl ?_
    have k9 := key_12
    try simp only [if_pos c_3] at k9 ⊢
    exact k9
  · refine fs_lload_n dX8_product_6 rfl rfl ?_
    refine fs_lneg dX8_product_7 ?_
    refine fs_goto 12 dX8_product_8 (by decide) ?_
    have k9 := key_12
    try simp only [if_neg c_3] at k9 ⊢
    exact k9
def L_X8_come_A (ht : Nat) (I : Nat → Int32) (A : Nat → Nat → Int32) (J : Nat → Nat → Int64) (it : Nat → Option Nat) (dyn : fsH) (x1 : Int32) (x2 : Int64) (x3 : Int32) : Nat → Nat → Int32 := (va_up A 36 (upd (A 36) x1.toNatClampNeg (if x3 = 0 then (if (L_X8_isIn_r ht I A J it dyn x2) = 0 then 1 else 0 : Int32) else x3 : Int32)))
def L_X8_come_J (ht : Nat) (I : Nat → Int32) (A : Nat → Nat → Int32) (J : Nat → Nat → Int64) (it : Nat → Option Nat) (dyn : fsH) (x1 : Int32) (x2 : Int64) (x3 : Int32) : Nat → Nat → Int64 := (va_up J 35 (vp_updL (J 35) x1.toNatClampNeg (if ((va_up A 36 (upd (A 36) x1.toNatClampNeg (if x3 = 0 then (if (L_X8_isIn_r ht I A J it dyn x2) = 0 then 1 else 0 : Int32) else x3 : Int32))) 36 x1.toNatClampNeg) = 0 then x2 else 0 : Int64)))
def S_X8_come (ht : Nat) (I : Nat → Int32) (A : Nat → Nat → Int32) (J : Nat → Nat → Int64) (it : Nat → Option Nat) (dyn : fsH) (x1 : Int32) (x2 : Int64) (x3 : Int32) : Prop := ((vp_in x1 32) ∧ ((vp_in x1 32) ∧ (vp_in x1 32)))
set_option maxRecDepth 100000 in
set_option maxHeartbeats 4000000 in
theorem c_X8_come (G : fsG) (l : Launch) (ht : Nat) (I : Nat → Int32) (A : Nat → Nat → Int32) (J : Nat → Nat → Int64) (it : Nat → Option Nat) (dyn : fsH) (x1 : Int32) (x2 : Int64) (x3 : Int32) (hS : S_X8_come ht I A J it dyn x1 x2 x3) : fsFn G l mX8_come 1 0 0 [.inr (.inr (some 14)), .inl x1, .inr (.inl x2), .inl x3] (fs_mk ht I A J it dyn) none (fs_mk ht I (L_X8_come_A ht I A J it dyn x1 x2 x3) (L_X8_come_J ht I A J it dyn x1 x2 x3) it dyn) := by
  refine fsMet_of (by decide) (Nat.le_of_ble_eq_true rfl) ?_
  generalize hQ : (fun (r1 : Option fsV) (h1 : fsH) => r1 = none ∧ h1 = (fs_mk ht I (L_X8_come_A ht I A J it dyn x1 x2 x3) (L_X8_come_J ht I A J it dyn x1 x2 x3) it dyn)) = Q
  have hq : Q none (fs_mk ht I (L_X8_come_A ht I A J it dyn x1 x2 x3) (L_X8_come_J ht I A J it dyn x1 x2 x3) it dyn) := by rw [← hQ]; exact ⟨rfl, rfl⟩
  clear hQ
  have hq : Q none (fs_mk ht I (va_up A 36 (upd (A 36) x1.toNatClampNeg (if x3 = 0 then (if (L_X8_isIn_r ht I A J it dyn x2) = 0 then 1 else 0 : Int32) else x3 : Int32))) (va_up J 35 (vp_updL (J 35) x1.toNatClampNeg (if ((va_up A 36 (upd (A 36) x1.toNatClampNeg (if x3 = 0 then (if (L_X8_isIn_r ht I A J it dyn x2) = 0 then 1 else 0 : Int32) else x3 : Int32))) 36 x1.toNatClampNeg) = 0 then x2 else 0 : Int64))) it dyn) := hq
  have hS : ((vp_in x1 32) ∧ ((vp_in x1 32) ∧ (vp_in x1 32))) := hS
  refine (show fsW G l mX8_come 1 0 0 0 0 Q 0 [(0, .inr (.inr (some 14))), (1, .inl x1), (2, .inr (.inl x2)), (4, .inl x3)] [] (fs_mk ht I A J it dyn) from ?_)
  refine fs_lload_n dX8_come_0 rfl rfl ?_
  refine fs_callS1 dX8_come_1 sv_X8_203 (c_X8_isIn G l ht I A J it dyn x2) rfl rfl (Nat.le_of_ble_eq_true rfl) (Nat.le_of_ble_eq_true rfl) (Nat.le_of_ble_eq_true rfl) (Nat.le_of_ble_eq_true rfl) ?_
  refine fs_istore (L' := [(5, .inl (L_X8_isIn_r ht I A J it dyn x2)), (0, .inr (.inr (some 14))), (1, .inl x1), (2, .inr (.inl x2)), (4, .inl x3)]) dX8_come_4 (by decide) rfl ?_
  refine fs_aload_n dX8_come_6 rfl rfl ?_
  refine fs_getfield (v := .inr (.inr (some 36))) dX8_come_7 sf_X8_83 rfl rfl ?_
  refine fs_iload_n dX8_come_10 rfl rfl ?_
  refine fs_iload dX8_come_11 rfl ?_
  have key_31 : fsW G l mX8_come 1 0 0 0 0 Q 31 [(0, .inr (.inr (some 14))), (1, .inl x1), (2, .inr (.inl x2)), (4, .inl x3), (5, .inl (L_X8_isIn_r ht I A J it dyn x2))] [.inl (if x3 = 0 then (if (L_X8_isIn_r ht I A J it dyn x2) = 0 then 1 else 0 : Int32) else x3 : Int32), .inl x1, .inr (.inr (some 36))] (fs_mk ht I A J it dyn) := by
    obtain ⟨ho1, hS⟩ := hS
    refine fss_36 dX8_come_31 ho1 ?_
    refine fs_aload_n dX8_come_32 rfl rfl ?_
    refine fs_getfield (v := .inr (.inr (some 35))) dX8_come_33 sf_X8_80 rfl rfl ?_
    refine fs_iload_n dX8_come_36 rfl rfl ?_
    refine fs_aload_n dX8_come_37 rfl rfl ?_
    refine fs_getfield (v := .inr (.inr (some 36))) dX8_come_38 sf_X8_83 rfl rfl ?_
    refine fs_iload_n dX8_come_41 rfl rfl ?_
    obtain ⟨ho1, hS⟩ := hS
    refine fs_iaload dX8_come_42 rfl ho1 ?_
    have key_51 : fsW G l mX8_come 1 0 0 0 0 Q 51 [(0, .inr (.inr (some 14))), (1, .inl x1), (2, .inr (.inl x2)), (4, .inl x3), (5, .inl (L_X8_isIn_r ht I A J it dyn x2))] [.inr (.inl (if ((va_up A 36 (upd (A 36) x1.toNatClampNeg (if x3 = 0 then (if (L_X8_isIn_r ht I A J it dyn x2) = 0 then 1 else 0 : Int32) else x3 : Int32))) 36 x1.toNatClampNeg) = 0 then x2 else 0 : Int64)), .inl x1, .inr (.inr (some 35))] (fs_mk ht I (va_up A 36 (upd (A 36) x1.toNatClampNeg (if x3 = 0 then (if (L_X8_isIn_r ht I A J it dyn x2) = 0 then 1 else 0 : Int32) else x3 : Int32))) J it dyn) := by
      have ho1 := hS
      refine fss_35 dX8_come_51 ho1 ?_
      have k9 := hq
      exact fs_ret dX8_come_52 rfl k9
    refine fs_if_ne 50 dX8_come_43 (by decide) (fun c_43 : ¬ ((va_up A 36 (upd (A 36) x1.toNatClampNeg (if x3 = 0 then (if (L_X8_isIn_r ht I A J it dyn x2) = 0 then 1 else 0 : Int32) else x3 : Int32))) 36 x1.toNatClampNeg) = 0 => ?_) (fun c_43 : ((va_up A 36 (upd (A 36) x1.toNatClampNeg (if x3 = 0 then (if (L_X8_isIn_r ht I A J it dyn x2) = 0 then 1 else 0 : Int32) else x3 : Int32))) 36 x1.toNatClampNeg) = 0 => ?_)
    · refine fs_lconst (v := 0) dX8_come_50 rfl ?_
      have k9 := key_51
      try simp only [if_neg c_43] at k9 ⊢
      exact k9
    · refine fs_lload_n dX8_come_46 rfl rfl ?_
      refine fs_goto 51 dX8_come_47 (by decide) ?_
      have k9 := key_51
      try simp only [if_pos c_43] at k9 ⊢
      exact k9
  refine fs_if_eq 21 dX8_come_13 (by decide) (fun c_13 : x3 = 0 => ?_) (fun c_13 : ¬ (x3 = 0) => ?_)
  · refine fs_iload dX8_come_21 rfl ?_
    refine fs_if_eq 30 dX8_come_23 (by decide) (fun c_23 : (L_X8_isIn_r ht I A J it dyn x2) = 0 => ?_) (fun c_23 : ¬ ((L_X8_isIn_r ht I A J it dyn x2) = 0) => ?_)
    · refine fs_iconst (v := 1) dX8_come_30 rfl ?_
      refine fs_reL [1, 2, 3, 4, 0] rfl ?_
      have k9 := key_31
      try simp only [if_pos c_13, if_pos c_23] at k9 ⊢
      exact k9
    · refine fs_iconst (v := 0) dX8_come_26 rfl ?_
      refine fs_goto 31 dX8_come_27 (by decide) ?_
      refine fs_reL [1, 2, 3, 4, 0] rfl ?_
      have k9 := key_31
      try simp only [if_pos c_13, if_neg c_23] at k9 ⊢
      exact k9
  · refine fs_iload dX8_come_16 rfl ?_
    refine fs_goto 31 dX8_come_18 (by decide) ?_
    refine fs_reL [1, 2, 3, 4, 0] rfl ?_
    have k9 := key_31
    try simp only [if_neg c_13] at k9 ⊢
    exact k9
def Lb_X8_sumUp_8_v3 : Nat → Nat → (Nat → Int32) → (Nat → Nat → Int32) → (Nat → Nat → Int64) → (Nat → Option Nat) → fsH → Int32 → Int32 → Int64 → Int32 → Int32 → Int64
  | 0, ht, I, A, J, it, dyn, v1, v2, v3, v5, v6 => v3
  | n + 1, ht, I, A, J, it, dyn, v1, v2, v3, v5, v6 => (if (I 11) ≤ v6 then v3 else (Lb_X8_sumUp_8_v3 n ht I A J it dyn v1 v2 (v3 + (J 30 ((4 * v2) + v6).toNatClampNeg)) (if v5 = 0 then (A 31 ((4 * v2) + v6).toNatClampNeg) else v5 : Int32) (v6 + 1)))
def Lb_X8_sumUp_8_v5 : Nat → Nat → (Nat → Int32) → (Nat → Nat → Int32) → (Nat → Nat → Int64) → (Nat → Option Nat) → fsH → Int32 → Int32 → Int64 → Int32 → Int32 → Int32
  | 0, ht, I, A, J, it, dyn, v1, v2, v3, v5, v6 => v5
  | n + 1, ht, I, A, J, it, dyn, v1, v2, v3, v5, v6 => (if (I 11) ≤ v6 then v5 else (Lb_X8_sumUp_8_v5 n ht I A J it dyn v1 v2 (v3 + (J 30 ((4 * v2) + v6).toNatClampNeg)) (if v5 = 0 then (A 31 ((4 * v2) + v6).toNatClampNeg) else v5 : Int32) (v6 + 1)))
def Lb_X8_sumUp_8_v6 : Nat → Nat → (Nat → Int32) → (Nat → Nat → Int32) → (Nat → Nat → Int64) → (Nat → Option Nat) → fsH → Int32 → Int32 → Int64 → Int32 → Int32 → Int32
  | 0, ht, I, A, J, it, dyn, v1, v2, v3, v5, v6 => v6
  | n + 1, ht, I, A, J, it, dyn, v1, v2, v3, v5, v6 => (if (I 11) ≤ v6 then v6 else (Lb_X8_sumUp_8_v6 n ht I A J it dyn v1 v2 (v3 + (J 30 ((4 * v2) + v6).toNatClampNeg)) (if v5 = 0 then (A 31 ((4 * v2) + v6).toNatClampNeg) else v5 : Int32) (v6 + 1)))
def S_Lb_X8_sumUp_8 : Nat → Nat → (Nat → Int32) → (Nat → Nat → Int32) → (Nat → Nat → Int64) → (Nat → Option Nat) → fsH → Int32 → Int32 → Int64 → Int32 → Int32 → Prop
  | 0, _, _, _, _, _, _, _, _, _, _, _ => False
  | n + 1, ht, I, A, J, it, dyn, v1, v2, v3, v5, v6 => (¬ ((I 11) ≤ v6) → (((v5 = 0) → (vp_in ((4 * v2) + v6) 64)) ∧ ((vp_in ((4 * v2) + v6) 64) ∧ (S_Lb_X8_sumUp_8 n ht I A J it dyn v1 v2 (v3 + (J 30 ((4 * v2) + v6).toNatClampNeg)) (if v5 = 0 then (A 31 ((4 * v2) + v6).toNatClampNeg) else v5 : Int32) (v6 + 1)))))
set_option maxRecDepth 100000 in
set_option maxHeartbeats 4000000 in
theorem lp_Lb_X8_sumUp_8 (G : fsG) (l : Launch) (Q : Option fsV → fsH → Prop) : ∀ (n : Nat) (ht : Nat) (I : Nat → Int32) (A : Nat → Nat → Int32) (J : Nat → Nat → Int64) (it : Nat → Option Nat) (dyn : fsH) (v1 : Int32) (v2 : Int32) (v3 : Int64) (v5 : Int32) (v6 : Int32), S_Lb_X8_sumUp_8 n ht I A J it dyn v1 v2 v3 v5 v6 → (fsW G l mX8_sumUp 2 0 0 0 0 Q 60 [(0, .inr (.inr (some 14))), (1, .inl v1), (2, .inl v2), (3, .inr (.inl (Lb_X8_sumUp_8_v3 n ht I A J it dyn v1 v2 v3 v5 v6))), (5, .inl (Lb_X8_sumUp_8_v5 n ht I A J it dyn v1 v2 v3 v5 v6)), (6, .inl (Lb_X8_sumUp_8_v6 n ht I A J it dyn v1 v2 v3 v5 v6))] [] (fs_mk ht I A J it dyn)) → fsW G l mX8_sumUp 2 0 0 0 0 Q 8 [(0, .inr (.inr (some 14))), (1, .inl v1), (2, .inl v2), (3, .inr (.inl v3)), (5, .inl v5), (6, .inl v6)] [] (fs_mk ht I A J it dyn) := by
  intro n
  induction n with
  | zero =>
    intro ht I A J it dyn v1 v2 v3 v5 v6 hS
    exact hS.elim
  | succ n ih =>
    intro ht I A J it dyn v1 v2 v3 v5 v6 hS hq
    have hS : (¬ ((I 11) ≤ v6) → (((v5 = 0) → (vp_in ((4 * v2) + v6) 64)) ∧ ((vp_in ((4 * v2) + v6) 64) ∧ (S_Lb_X8_sumUp_8 n ht I A J it dyn v1 v2 (v3 + (J 30 ((4 * v2) + v6).toNatClampNeg)) (if v5 = 0 then (A 31 ((4 * v2) + v6).toNatClampNeg) else v5 : Int32) (v6 + 1))))) := hS
    have hq : fsW G l mX8_sumUp 2 0 0 0 0 Q 60 [(0, .inr (.inr (some 14))), (1, .inl v1), (2, .inl v2), (3, .inr (.inl (if (I 11) ≤ v6 then v3 else (Lb_X8_sumUp_8_v3 n ht I A J it dyn v1 v2 (v3 + (J 30 ((4 * v2) + v6).toNatClampNeg)) (if v5 = 0 then (A 31 ((4 * v2) + v6).toNatClampNeg) else v5 : Int32) (v6 + 1))))), (5, .inl (if (I 11) ≤ v6 then v5 else (Lb_X8_sumUp_8_v5 n ht I A J it dyn v1 v2 (v3 + (J 30 ((4 * v2) + v6).toNatClampNeg)) (if v5 = 0 then (A 31 ((4 * v2) + v6).toNatClampNeg) else v5 : Int32) (v6 + 1)))), (6, .inl (if (I 11) ≤ v6 then v6 else (Lb_X8_sumUp_8_v6 n ht I A J it dyn v1 v2 (v3 + (J 30 ((4 * v2) + v6).toNatClampNeg)) (if v5 = 0 then (A 31 ((4 * v2) + v6).toNatClampNeg) else v5 : Int32) (v6 + 1))))] [] (fs_mk ht I A J it dyn) := hq
    refine fs_iload dX8_sumUp_8 rfl ?_
    refine fs_aload_n dX8_sumUp_10 rfl rfl ?_
    refine fs_getfield (v := .inl (I 11)) dX8_sumUp_11 sf_X8_17 rfl rfl ?_
    refine fs_icmp_ge 60 dX8_sumUp_14 (by decide) (fun c_14 : (I 11) ≤ v6 => ?_) (fun c_14 : ¬ ((I 11) ≤ v6) => ?_)
    · have k9 := hq
      try simp only [if_pos c_14] at k9 ⊢
      exact k9
    · have hS := hS c_14
      refine fs_iload dX8_sumUp_17 rfl ?_
      obtain ⟨hR_19, hS⟩ := hS
      have key_38 : fsW G l mX8_sumUp 2 0 0 0 0 Q 38 [(0, .inr (.inr (some 14))), (1, .inl v1), (2, .inl v2), (3, .inr (.inl v3)), (5, .inl v5), (6, .inl v6)] [.inl (if v5 = 0 then (A 31 ((4 * v2) + v6).toNatClampNeg) else v5 : Int32)] (fs_mk ht I A J it dyn) := by
        refine fs_istore (L' := [(5, .inl (if v5 = 0 then (A 31 ((4 * v2) + v6).toNatClampNeg) else v5 : Int32)), (0, .inr (.inr (some 14))), (1, .inl v1), (2, .inl v2), (3, .inr (.inl v3)), (6, .inl v6)]) dX8_sumUp_38 (by decide) rfl ?_
        refine fs_lload_n dX8_sumUp_40 rfl rfl ?_
        refine fs_aload_n dX8_sumUp_41 rfl rfl ?_
        refine fs_getfield (v := .inr (.inr (some 30))) dX8_sumUp_42 sf_X8_65 rfl rfl ?_
        refine fs_iconst (v := 4) dX8_sumUp_45 rfl ?_
        refine fs_iload_n dX8_sumUp_46 rfl rfl ?_
        refine fs_imul dX8_sumUp_47 ?_
        refine fs_iload dX8_sumUp_48 rfl ?_
        refine fs_iadd dX8_sumUp_50 ?_
        obtain ⟨ho1, hS⟩ := hS
        refine fs_laload dX8_sumUp_51 rfl ho1 ?_
        refine fs_ladd dX8_sumUp_52 ?_
        refine fs_lstore_n (L' := [(3, .inr (.inl (v3 + (J 30 ((4 * v2) + v6).toNatClampNeg)))), (5, .inl (if v5 = 0 then (A 31 ((4 * v2) + v6).toNatClampNeg) else v5 : Int32)), (0, .inr (.inr (some 14))), (1, .inl v1), (2, .inl v2), (6, .inl v6)]) dX8_sumUp_53 rfl (by decide) rfl ?_
        refine fs_iinc (v := (v6 + 1)) (L' := [(6, .inl (v6 + 1)), (3, .inr (.inl (v3 + (J 30 ((4 * v2) + v6).toNatClampNeg)))), (5, .inl (if v5 = 0 then (A 31 ((4 * v2) + v6).toNatClampNeg) else v5 : Int32)), (0, .inr (.inr (some 14))), (1, .inl v1), (2, .inl v2)]) dX8_sumUp_54 rfl rfl (by decide) rfl ?_
        refine fs_goto 8 dX8_sumUp_57 (by decide) ?_
        refine fs_reL [3, 4, 5, 1, 2, 0] rfl ?_
        have k9 := hq
        try simp only [if_neg c_14] at hS k9 ⊢
        exact ih _ _ _ _ _ _ _ _ _ _ _ hS k9
      refine fs_if_ne 36 dX8_sumUp_19 (by decide) (fun c_19 : ¬ v5 = 0 => ?_) (fun c_19 : v5 = 0 => ?_)
      · refine fs_iload dX8_sumUp_36 rfl ?_
        have k9 := key_38
        try simp only [if_neg c_14, if_neg c_19] at k9 ⊢
        exact k9
      · have hS := hR_19 c_19
        refine fs_aload_n dX8_sumUp_22 rfl rfl ?_
        refine fs_getfield (v := .inr (.inr (some 31))) dX8_sumUp_23 sf_X8_68 rfl rfl ?_
        refine fs_iconst (v := 4) dX8_sumUp_26 rfl ?_
        refine fs_iload_n dX8_sumUp_27 rfl rfl ?_
        refine fs_imul dX8_sumUp_28 ?_
        refine fs_iload dX8_sumUp_29 rfl ?_
        refine fs_iadd dX8_sumUp_31 ?_
        have ho1 := hS
        refine fs_iaload dX8_sumUp_32 rfl ho1 ?_
        refine fs_goto 38 dX8_sumUp_33 (by decide) ?_
        have k9 := key_38
        try simp only [if_neg c_14, if_pos c_19] at k9 ⊢
        exact k9
def L_X8_sumUp_A (ht : Nat) (I : Nat → Int32) (A : Nat → Nat → Int32) (J : Nat → Nat → Int64) (it : Nat → Option Nat) (dyn : fsH) (x1 : Int32) (x2 : Int32) : Nat → Nat → Int32 := (L_X8_come_A ht I A J it dyn x1 (Lb_X8_sumUp_8_v3 70 ht I A J it dyn x1 x2 0 0 0) (Lb_X8_sumUp_8_v5 70 ht I A J it dyn x1 x2 0 0 0))
def L_X8_sumUp_J (ht : Nat) (I : Nat → Int32) (A : Nat → Nat → Int32) (J : Nat → Nat → Int64) (it : Nat → Option Nat) (dyn : fsH) (x1 : Int32) (x2 : Int32) : Nat → Nat → Int64 := (L_X8_come_J ht I A J it dyn x1 (Lb_X8_sumUp_8_v3 70 ht I A J it dyn x1 x2 0 0 0) (Lb_X8_sumUp_8_v5 70 ht I A J it dyn x1 x2 0 0 0))
def S_X8_sumUp (ht : Nat) (I : Nat → Int32) (A : Nat → Nat → Int32) (J : Nat → Nat → Int64) (it : Nat → Option Nat) (dyn : fsH) (x1 : Int32) (x2 : Int32) : Prop := ((S_Lb_X8_sumUp_8 70 ht I A J it dyn x1 x2 0 0 0) ∧ (S_X8_come ht I A J it dyn x1 (Lb_X8_sumUp_8_v3 70 ht I A J it dyn x1 x2 0 0 0) (Lb_X8_sumUp_8_v5 70 ht I A J it dyn x1 x2 0 0 0)))
set_option maxRecDepth 100000 in
set_option maxHeartbeats 4000000 in
theorem c_X8_sumUp (G : fsG) (l : Launch) (ht : Nat) (I : Nat → Int32) (A : Nat → Nat → Int32) (J : Nat → Nat → Int64) (it : Nat → Option Nat) (dyn : fsH) (x1 : Int32) (x2 : Int32) (hS : S_X8_sumUp ht I A J it dyn x1 x2) : fsFn G l mX8_sumUp 2 0 0 [.inr (.inr (some 14)), .inl x1, .inl x2] (fs_mk ht I A J it dyn) none (fs_mk ht I (L_X8_sumUp_A ht I A J it dyn x1 x2) (L_X8_sumUp_J ht I A J it dyn x1 x2) it dyn) := by
  refine fsMet_of (by decide) (Nat.le_of_ble_eq_true rfl) ?_
  generalize hQ : (fun (r1 : Option fsV) (h1 : fsH) => r1 = none ∧ h1 = (fs_mk ht I (L_X8_sumUp_A ht I A J it dyn x1 x2) (L_X8_sumUp_J ht I A J it dyn x1 x2) it dyn)) = Q
  have hq : Q none (fs_mk ht I (L_X8_sumUp_A ht I A J it dyn x1 x2) (L_X8_sumUp_J ht I A J it dyn x1 x2) it dyn) := by rw [← hQ]; exact ⟨rfl, rfl⟩
  clear hQ
  have hq : Q none (fs_mk ht I (L_X8_come_A ht I A J it dyn x1 (Lb_X8_sumUp_8_v3 70 ht I A J it dyn x1 x2 0 0 0) (Lb_X8_sumUp_8_v5 70 ht I A J it dyn x1 x2 0 0 0)) (L_X8_come_J ht I A J it dyn x1 (Lb_X8_sumUp_8_v3 70 ht I A J it dyn x1 x2 0 0 0) (Lb_X8_sumUp_8_v5 70 ht I A J it dyn x1 x2 0 0 0)) it dyn) := hq
  have hS : ((S_Lb_X8_sumUp_8 70 ht I A J it dyn x1 x2 0 0 0) ∧ (S_X8_come ht I A J it dyn x1 (Lb_X8_sumUp_8_v3 70 ht I A J it dyn x1 x2 0 0 0) (Lb_X8_sumUp_8_v5 70 ht I A J it dyn x1 x2 0 0 0))) := hS
  refine (show fsW G l mX8_sumUp 2 0 0 0 0 Q 0 [(0, .inr (.inr (some 14))), (1, .inl x1), (2, .inl x2)] [] (fs_mk ht I A J it dyn) from ?_)
  refine fs_lconst (v := 0) dX8_sumUp_0 rfl ?_
  refine fs_lstore_n (L' := [(3, .inr (.inl 0)), (0, .inr (.inr (some 14))), (1, .inl x1), (2, .inl x2)]) dX8_sumUp_1 rfl (by decide) rfl ?_
  refine fs_iconst (v := 0) dX8_sumUp_2 rfl ?_
  refine fs_istore (L' := [(5, .inl 0), (3, .inr (.inl 0)), (0, .inr (.inr (some 14))), (1, .inl x1), (2, .inl x2)]) dX8_sumUp_3 (by decide) rfl ?_
  refine fs_iconst (v := 0) dX8_sumUp_5 rfl ?_
  refine fs_istore (L' := [(6, .inl 0), (5, .inl 0), (3, .inr (.inl 0)), (0, .inr (.inr (some 14))), (1, .inl x1), (2, .inl x2)]) dX8_sumUp_6 (by decide) rfl ?_
  refine fs_reL [3, 4, 5, 2, 1, 0] rfl ?_
  obtain ⟨ho1, hS⟩ := hS
  refine lp_Lb_X8_sumUp_8 G l Q 70 ht I A J it dyn x1 x2 0 0 0 ho1 ?_
  refine fs_aload_n dX8_sumUp_60 rfl rfl ?_
  refine fs_iload_n dX8_sumUp_61 rfl rfl ?_
  refine fs_lload_n dX8_sumUp_62 rfl rfl ?_
  refine fs_iload dX8_sumUp_63 rfl ?_
  have ho1 := hS
  refine fs_callV0 dX8_sumUp_65 sv_X8_207 rfl ⟨_, rfl, rfl⟩ (c_X8_come G l ht I A J it dyn x1 (Lb_X8_sumUp_8_v3 70 ht I A J it dyn x1 x2 0 0 0) (Lb_X8_sumUp_8_v5 70 ht I A J it dyn x1 x2 0 0 0) ho1) rfl rfl (Nat.le_of_ble_eq_true rfl) (Nat.le_of_ble_eq_true rfl) (Nat.le_of_ble_eq_true rfl) (Nat.le_of_ble_eq_true rfl) ?_
  have k9 := hq
  exact fs_ret dX8_sumUp_68 rfl k9
def L_X8_isWorked_r (ht : Nat) (I : Nat → Int32) (A : Nat → Nat → Int32) (J : Nat → Nat → Int64) (it : Nat → Option Nat) (dyn : fsH) (x1 : Int32) : Int32 := (if (A 16 x1.toNatClampNeg) = 0 then (if (A 20 x1.toNatClampNeg) ≤ 0 then 0 else 1 : Int32) else 0 : Int32)
def S_X8_isWorked (ht : Nat) (I : Nat → Int32) (A : Nat → Nat → Int32) (J : Nat → Nat → Int64) (it : Nat → Option Nat) (dyn : fsH) (x1 : Int32) : Prop := ((vp_in x1 17) ∧ (((A 16 x1.toNatClampNeg) = 0) → (vp_in x1 17)))
set_option maxRecDepth 100000 in
set_option maxHeartbeats 4000000 in
theorem c_X8_isWorked (G : fsG) (l : Launch) (ht : Nat) (I : Nat → Int32) (A : Nat → Nat → Int32) (J : Nat → Nat → Int64) (it : Nat → Option Nat) (dyn : fsH) (x1 : Int32) (hS : S_X8_isWorked ht I A J it dyn x1) : fsFn G l mX8_isWorked 0 0 0 [.inr (.inr (some 14)), .inl x1] (fs_mk ht I A J it dyn) (some (.inl (L_X8_isWorked_r ht I A J it dyn x1))) (fs_mk ht I A J it dyn) := by
  refine fsMet_of (by decide) (Nat.le_of_ble_eq_true rfl) ?_
  generalize hQ : (fun (r1 : Option fsV) (h1 : fsH) => r1 = (some (.inl (L_X8_isWorked_r ht I A J it dyn x1))) ∧ h1 = (fs_mk ht I A J it dyn)) = Q
  have hq : Q (some (.inl (L_X8_isWorked_r ht I A J it dyn x1))) (fs_mk ht I A J it dyn) := by rw [← hQ]; exact ⟨rfl, rfl⟩
  clear hQ
  have hq : Q (some (.inl (if (A 16 x1.toNatClampNeg) = 0 then (if (A 20 x1.toNatClampNeg) ≤ 0 then 0 else 1 : Int32) else 0 : Int32))) (fs_mk ht I A J it dyn) := hq
  have hS : ((vp_in x1 17) ∧ (((A 16 x1.toNatClampNeg) = 0) → (vp_in x1 17))) := hS
  refine (show fsW G l mX8_isWorked 0 0 0 0 0 Q 0 [(0, .inr (.inr (some 14))), (1, .inl x1)] [] (fs_mk ht I A J it dyn) from ?_)
  refine fs_aload_n dX8_isWorked_0 rfl rfl ?_
  refine fs_getfield (v := .inr (.inr (some 16))) dX8_isWorked_1 sf_X8_20 rfl rfl ?_
  refine fs_iload_n dX8_isWorked_4 rfl rfl ?_
  obtain ⟨ho1, hS⟩ := hS
  refine fs_iaload dX8_isWorked_5 rfl ho1 ?_
  have hR_6 := hS
  have key_23 : fsW G l mX8_isWorked 0 0 0 0 0 Q 23 [(0, .inr (.inr (some 14))), (1, .inl x1)] [.inl (if (A 16 x1.toNatClampNeg) = 0 then (if (A 20 x1.toNatClampNeg) ≤ 0 then 0 else 1 : Int32) else 0 : Int32)] (fs_mk ht I A J it dyn) := by
    have k9 := hq
    exact fs_iret dX8_isWorked_23 rfl (by (repeat' split) <;> first | rfl) k9
  refine fs_if_ne 22 dX8_isWorked_6 (by decide) (fun c_6 : ¬ (A 16 x1.toNatClampNeg) = 0 => ?_) (fun c_6 : (A 16 x1.toNatClampNeg) = 0 => ?_)
  · refine fs_iconst (v := 0) dX8_isWorked_22 rfl ?_
    have k9 := key_23
    try simp only [if_neg c_6] at k9 ⊢
    exact k9
  · have hS := hR_6 c_6
    refine fs_aload_n dX8_isWorked_9 rfl rfl ?_
    refine fs_getfield (v := .inr (.inr (some 20))) dX8_isWorked_10 sf_X8_34 rfl rfl ?_
    refine fs_iload_n dX8_isWorked_13 rfl rfl ?_
    have ho1 := hS
    refine fs_iaload dX8_isWorked_14 rfl ho1 ?_
    refine fs_if_le 22 dX8_isWorked_15 (by decide) (fun c_15 : (A 20 x1.toNatClampNeg) ≤ 0 => ?_) (fun c_15 : ¬ ((A 20 x1.toNatClampNeg) ≤ 0) => ?_)
    · refine fs_iconst (v := 0) dX8_isWorked_22 rfl ?_
      have k9 := key_23
      try simp only [if_pos c_6, if_pos c_15] at k9 ⊢
      exact k9
    · refine fs_iconst (v := 1) dX8_isWorked_18 rfl ?_
      refine fs_goto 23 dX8_isWorked_19 (by decide) ?_
      have k9 := key_23
      try simp only [if_pos c_6, if_neg c_15] at k9 ⊢
      exact k9
theorem nb_X8_isWorked (ht : Nat) (I : Nat → Int32) (A : Nat → Nat → Int32) (J : Nat → Nat → Int64) (it : Nat → Option Nat) (dyn : fsH) (x1 : Int32) : narrow .boolean (.int (L_X8_isWorked_r ht I A J it dyn x1)) = .int (L_X8_isWorked_r ht I A J it dyn x1) := by
  unfold L_X8_isWorked_r
  exact (by (repeat' split) <;> first | rfl)
def Lb_X8_follow_2_J : Nat → Nat → (Nat → Int32) → (Nat → Nat → Int32) → (Nat → Nat → Int64) → (Nat → Option Nat) → fsH → Int32 → (Nat → Nat → Int64)
  | 0, ht, I, A, J, it, dyn, v1 => J
  | n + 1, ht, I, A, J, it, dyn, v1 => (if 64 ≤ v1 then J else (Lb_X8_follow_2_J n ht I A (va_up J 33 (vp_updL (J 33) v1.toNatClampNeg (J 32 v1.toNatClampNeg))) it dyn (v1 + 1)))
def Lb_X8_follow_2_v1 : Nat → Nat → (Nat → Int32) → (Nat → Nat → Int32) → (Nat → Nat → Int64) → (Nat → Option Nat) → fsH → Int32 → Int32
  | 0, ht, I, A, J, it, dyn, v1 => v1
  | n + 1, ht, I, A, J, it, dyn, v1 => (if 64 ≤ v1 then v1 else (Lb_X8_follow_2_v1 n ht I A (va_up J 33 (vp_updL (J 33) v1.toNatClampNeg (J 32 v1.toNatClampNeg))) it dyn (v1 + 1)))
def S_Lb_X8_follow_2 : Nat → Nat → (Nat → Int32) → (Nat → Nat → Int32) → (Nat → Nat → Int64) → (Nat → Option Nat) → fsH → Int32 → Prop
  | 0, _, _, _, _, _, _, _ => False
  | n + 1, ht, I, A, J, it, dyn, v1 => (¬ (64 ≤ v1) → ((vp_in v1 64) ∧ ((vp_in v1 64) ∧ (S_Lb_X8_follow_2 n ht I A (va_up J 33 (vp_updL (J 33) v1.toNatClampNeg (J 32 v1.toNatClampNeg))) it dyn (v1 + 1)))))
set_option maxRecDepth 100000 in
set_option maxHeartbeats 4000000 in
theorem lp_Lb_X8_follow_2 (G : fsG) (l : Launch) (Q : Option fsV → fsH → Prop) : ∀ (n : Nat) (ht : Nat) (I : Nat → Int32) (A : Nat → Nat → Int32) (J : Nat → Nat → Int64) (it : Nat → Option Nat) (dyn : fsH) (v1 : Int32), S_Lb_X8_follow_2 n ht I A J it dyn v1 → (fsW G l mX8_follow 0 0 0 0 0 Q 26 [(0, .inr (.inr (some 14))), (1, .inl (Lb_X8_follow_2_v1 n ht I A J it dyn v1))] [] (fs_mk ht I A (Lb_X8_follow_2_J n ht I A J it dyn v1) it dyn)) → fsW G l mX8_follow 0 0 0 0 0 Q 2 [(0, .inr (.inr (some 14))), (1, .inl v1)] [] (fs_mk ht I A J it dyn) := by
  intro n
  induction n with
  | zero =>
    intro ht I A J it dyn v1 hS
    exact hS.elim
  | succ n ih =>
    intro ht I A J it dyn v1 hS hq
    have hS : (¬ (64 ≤ v1) → ((vp_in v1 64) ∧ ((vp_in v1 64) ∧ (S_Lb_X8_follow_2 n ht I A (va_up J 33 (vp_updL (J 33) v1.toNatClampNeg (J 32 v1.toNatClampNeg))) it dyn (v1 + 1))))) := hS
    have hq : fsW G l mX8_follow 0 0 0 0 0 Q 26 [(0, .inr (.inr (some 14))), (1, .inl (if 64 ≤ v1 then v1 else (Lb_X8_follow_2_v1 n ht I A (va_up J 33 (vp_updL (J 33) v1.toNatClampNeg (J 32 v1.toNatClampNeg))) it dyn (v1 + 1))))] [] (fs_mk ht I A (if 64 ≤ v1 then J else (Lb_X8_follow_2_J n ht I A (va_up J 33 (vp_updL (J 33) v1.toNatClampNeg (J 32 v1.toNatClampNeg))) it dyn (v1 + 1))) it dyn) := hq
    refine fs_iload_n dX8_follow_2 rfl rfl ?_
    refine fs_bipush (v := 64) dX8_follow_3 rfl ?_
    refine fs_icmp_ge 26 dX8_follow_5 (by decide) (fun c_5 : 64 ≤ v1 => ?_) (fun c_5 : ¬ (64 ≤ v1) => ?_)
    · have k9 := hq
      try simp only [if_pos c_5] at k9 ⊢
      exact k9
    · have hS := hS c_5
      refine fs_aload_n dX8_follow_8 rfl rfl ?_
      refine fs_getfield (v := .inr (.inr (some 33))) dX8_follow_9 sf_X8_74 rfl rfl ?_
      refine fs_iload_n dX8_follow_12 rfl rfl ?_
      refine fs_aload_n dX8_follow_13 rfl rfl ?_
      refine fs_getfield (v := .inr (.inr (some 32))) dX8_follow_14 sf_X8_71 rfl rfl ?_
      refine fs_iload_n dX8_follow_17 rfl rfl ?_
      obtain ⟨ho1, hS⟩ := hS
      refine fs_laload dX8_follow_18 rfl ho1 ?_
      obtain ⟨ho1, hS⟩ := hS
      refine fss_33 dX8_follow_19 ho1 ?_
      refine fs_iinc (v := (v1 + 1)) (L' := [(1, .inl (v1 + 1)), (0, .inr (.inr (some 14)))]) dX8_follow_20 rfl rfl (by decide) rfl ?_
      refine fs_goto 2 dX8_follow_23 (by decide) ?_
      refine fs_reL [1, 0] rfl ?_
      have k9 := hq
      try simp only [if_neg c_5] at hS k9 ⊢
      exact ih _ _ _ _ _ _ _ hS k9
def Lb_X8_follow_52_v3 : Nat → Nat → (Nat → Int32) → (Nat → Nat → Int32) → (Nat → Nat → Int64) → (Nat → Option Nat) → fsH → Int32 → Int32 → Int64 → Int32 → Int64
  | 0, ht, I, A, J, it, dyn, v1, v2, v3, v5 => v3
  | n + 1, ht, I, A, J, it, dyn, v1, v2, v3, v5 => (if 64 ≤ v5 then v3 else (Lb_X8_follow_52_v3 n ht I A J it dyn v1 v2 (if (lg_cmp (((J 32 v2.toNatClampNeg) >>> (v5.toInt64 &&& 63)) &&& 1) 1) = 0 then (v3 ||| (J 32 v5.toNatClampNeg)) else v3 : Int64) (v5 + 1)))
def Lb_X8_follow_52_v5 : Nat → Nat → (Nat → Int32) → (Nat → Nat → Int32) → (Nat → Nat → Int64) → (Nat → Option Nat) → fsH → Int32 → Int32 → Int64 → Int32 → Int32
  | 0, ht, I, A, J, it, dyn, v1, v2, v3, v5 => v5
  | n + 1, ht, I, A, J, it, dyn, v1, v2, v3, v5 => (if 64 ≤ v5 then v5 else (Lb_X8_follow_52_v5 n ht I A J it dyn v1 v2 (if (lg_cmp (((J 32 v2.toNatClampNeg) >>> (v5.toInt64 &&& 63)) &&& 1) 1) = 0 then (v3 ||| (J 32 v5.toNatClampNeg)) else v3 : Int64) (v5 + 1)))
def S_Lb_X8_follow_52 : Nat → Nat → (Nat → Int32) → (Nat → Nat → Int32) → (Nat → Nat → Int64) → (Nat → Option Nat) → fsH → Int32 → Int32 → Int64 → Int32 → Prop
  | 0, _, _, _, _, _, _, _, _, _, _ => False
  | n + 1, ht, I, A, J, it, dyn, v1, v2, v3, v5 => (¬ (64 ≤ v5) → ((vp_in v2 64) ∧ ((((lg_cmp (((J 32 v2.toNatClampNeg) >>> (v5.toInt64 &&& 63)) &&& 1) 1) = 0) → (vp_in v5 64)) ∧ (S_Lb_X8_follow_52 n ht I A J it dyn v1 v2 (if (lg_cmp (((J 32 v2.toNatClampNeg) >>> (v5.toInt64 &&& 63)) &&& 1) 1) = 0 then (v3 ||| (J 32 v5.toNatClampNeg)) else v3 : Int64) (v5 + 1)))))
set_option maxRecDepth 100000 in
set_option maxHeartbeats 4000000 in
theorem lp_Lb_X8_follow_52 (G : fsG) (l : Launch) (Q : Option fsV → fsH → Prop) : ∀ (n : Nat) (ht : Nat) (I : Nat → Int32) (A : Nat → Nat → Int32) (J : Nat → Nat → Int64) (it : Nat → Option Nat) (dyn : fsH) (v1 : Int32) (v2 : Int32) (v3 : Int64) (v5 : Int32), S_Lb_X8_follow_52 n ht I A J it dyn v1 v2 v3 v5 → (fsW G l mX8_follow 0 0 0 0 0 Q 95 [(0, .inr (.inr (some 14))), (1, .inl v1), (2, .inl v2), (3, .inr (.inl (Lb_X8_follow_52_v3 n ht I A J it dyn v1 v2 v3 v5))), (5, .inl (Lb_X8_follow_52_v5 n ht I A J it dyn v1 v2 v3 v5))] [] (fs_mk ht I A J it dyn)) → fsW G l mX8_follow 0 0 0 0 0 Q 52 [(0, .inr (.inr (some 14))), (1, .inl v1), (2, .inl v2), (3, .inr (.inl v3)), (5, .inl v5)] [] (fs_mk ht I A J it dyn) := by
  intro n
  induction n with
  | zero =>
    intro ht I A J it dyn v1 v2 v3 v5 hS
    exact hS.elim
  | succ n ih =>
    intro ht I A J it dyn v1 v2 v3 v5 hS hq
    have hS : (¬ (64 ≤ v5) → ((vp_in v2 64) ∧ ((((lg_cmp (((J 32 v2.toNatClampNeg) >>> (v5.toInt64 &&& 63)) &&& 1) 1) = 0) → (vp_in v5 64)) ∧ (S_Lb_X8_follow_52 n ht I A J it dyn v1 v2 (if (lg_cmp (((J 32 v2.toNatClampNeg) >>> (v5.toInt64 &&& 63)) &&& 1) 1) = 0 then (v3 ||| (J 32 v5.toNatClampNeg)) else v3 : Int64) (v5 + 1))))) := hS
    have hq : fsW G l mX8_follow 0 0 0 0 0 Q 95 [(0, .inr (.inr (some 14))), (1, .inl v1), (2, .inl v2), (3, .inr (.inl (if 64 ≤ v5 then v3 else (Lb_X8_follow_52_v3 n ht I A J it dyn v1 v2 (if (lg_cmp (((J 32 v2.toNatClampNeg) >>> (v5.toInt64 &&& 63)) &&& 1) 1) = 0 then (v3 ||| (J 32 v5.toNatClampNeg)) else v3 : Int64) (v5 + 1))))), (5, .inl (if 64 ≤ v5 then v5 else (Lb_X8_follow_52_v5 n ht I A J it dyn v1 v2 (if (lg_cmp (((J 32 v2.toNatClampNeg) >>> (v5.toInt64 &&& 63)) &&& 1) 1) = 0 then (v3 ||| (J 32 v5.toNatClampNeg)) else v3 : Int64) (v5 + 1))))] [] (fs_mk ht I A J it dyn) := hq
    refine fs_iload dX8_follow_52 rfl ?_
    refine fs_bipush (v := 64) dX8_follow_54 rfl ?_
    refine fs_icmp_ge 95 dX8_follow_56 (by decide) (fun c_56 : 64 ≤ v5 => ?_) (fun c_56 : ¬ (64 ≤ v5) => ?_)
    · have k9 := hq
      try simp only [if_pos c_56] at k9 ⊢
      exact k9
    · have hS := hS c_56
      refine fs_aload_n dX8_follow_59 rfl rfl ?_
      refine fs_getfield (v := .inr (.inr (some 32))) dX8_follow_60 sf_X8_71 rfl rfl ?_
      refine fs_iload_n dX8_follow_63 rfl rfl ?_
      obtain ⟨ho1, hS⟩ := hS
      refine fs_laload dX8_follow_64 rfl ho1 ?_
      refine fs_iload dX8_follow_65 rfl ?_
      refine fs_lshr dX8_follow_67 ?_
      refine fs_lconst (v := 1) dX8_follow_68 rfl ?_
      refine fs_land dX8_follow_69 ?_
      refine fs_lconst (v := 1) dX8_follow_70 rfl ?_
      refine fs_lcmp dX8_follow_71 ?_
      obtain ⟨hR_72, hS⟩ := hS
      have key_88 : fsW G l mX8_follow 0 0 0 0 0 Q 88 [(0, .inr (.inr (some 14))), (1, .inl v1), (2, .inl v2), (3, .inr (.inl v3)), (5, .inl v5)] [.inr (.inl (if (lg_cmp (((J 32 v2.toNatClampNeg) >>> (v5.toInt64 &&& 63)) &&& 1) 1) = 0 then (v3 ||| (J 32 v5.toNatClampNeg)) else v3 : Int64))] (fs_mk ht I A J it dyn) := by
        refine fs_lstore_n (L' := [(3, .inr (.inl (if (lg_cmp (((J 32 v2.toNatClampNeg) >>> (v5.toInt64 &&& 63)) &&& 1) 1) = 0 then (v3 ||| (J 32 v5.toNatClampNeg)) else v3 : Int64))), (0, .inr (.inr (some 14))), (1, .inl v1), (2, .inl v2), (5, .inl v5)]) dX8_follow_88 rfl (by decide) rfl ?_
        refine fs_iinc (v := (v5 + 1)) (L' := [(5, .inl (v5 + 1)), (3, .inr (.inl (if (lg_cmp (((J 32 v2.toNatClampNeg) >>> (v5.toInt64 &&& 63)) &&& 1) 1) = 0 then (v3 ||| (J 32 v5.toNatClampNeg)) else v3 : Int64))), (0, .inr (.inr (some 14))), (1, .inl v1), (2, .inl v2)]) dX8_follow_89 rfl rfl (by decide) rfl ?_
        refine fs_goto 52 dX8_follow_92 (by decide) ?_
        refine fs_reL [2, 3, 4, 1, 0] rfl ?_
        have k9 := hq
        try simp only [if_neg c_56] at hS k9 ⊢
        exact ih _ _ _ _ _ _ _ _ _ _ hS k9
      refine fs_if_ne 87 dX8_follow_72 (by decide) (fun c_72 : ¬ (lg_cmp (((J 32 v2.toNatClampNeg) >>> (v5.toInt64 &&& 63)) &&& 1) 1) = 0 => ?_) (fun c_72 : (lg_cmp (((J 32 v2.toNatClampNeg) >>> (v5.toInt64 &&& 63)) &&& 1) 1) = 0 => ?_)
      · refine fs_lload_n dX8_follow_87 rfl rfl ?_
        have k9 := key_88
        try simp only [if_neg c_56, if_neg c_72] at k9 ⊢
        exact k9
      · have hS := hR_72 c_72
        refine fs_lload_n dX8_follow_75 rfl rfl ?_
        refine fs_aload_n dX8_follow_76 rfl rfl ?_
        refine fs_getfield (v := .inr (.inr (some 32))) dX8_follow_77 sf_X8_71 rfl rfl ?_
        refine fs_iload dX8_follow_80 rfl ?_
        have ho1 := hS
        refine fs_laload dX8_follow_82 rfl ho1 ?_
        refine fs_lor dX8_follow_83 ?_
        refine fs_goto 88 dX8_follow_84 (by decide) ?_
        have k9 := key_88
        try simp only [if_neg c_56, if_pos c_72] at k9 ⊢
        exact k9
def Lb_X8_follow_36_J : Nat → Nat → (Nat → Int32) → (Nat → Nat → Int32) → (Nat → Nat → Int64) → (Nat → Option Nat) → fsH → Int32 → Int32 → (Nat → Nat → Int64)
  | 0, ht, I, A, J, it, dyn, v1, v2 => J
  | n + 1, ht, I, A, J, it, dyn, v1, v2 => (if 64 ≤ v2 then J else (Lb_X8_follow_36_J n ht I A (va_up J 32 (vp_updL (J 32) v2.toNatClampNeg (Lb_X8_follow_52_v3 70 ht I A J it dyn v1 v2 (J 32 v2.toNatClampNeg) 0))) it dyn v1 (v2 + 1)))
def Lb_X8_follow_36_v2 : Nat → Nat → (Nat → Int32) → (Nat → Nat → Int32) → (Nat → Nat → Int64) → (Nat → Option Nat) → fsH → Int32 → Int32 → Int32
  | 0, ht, I, A, J, it, dyn, v1, v2 => v2
  | n + 1, ht, I, A, J, it, dyn, v1, v2 => (if 64 ≤ v2 then v2 else (Lb_X8_follow_36_v2 n ht I A (va_up J 32 (vp_updL (J 32) v2.toNatClampNeg (Lb_X8_follow_52_v3 70 ht I A J it dyn v1 v2 (J 32 v2.toNatClampNeg) 0))) it dyn v1 (v2 + 1)))
def S_Lb_X8_follow_36 : Nat → Nat → (Nat → Int32) → (Nat → Nat → Int32) → (Nat → Nat → Int64) → (Nat → Option Nat) → fsH → Int32 → Int32 → Prop
  | 0, _, _, _, _, _, _, _, _ => False
  | n + 1, ht, I, A, J, it, dyn, v1, v2 => (¬ (64 ≤ v2) → ((vp_in v2 64) ∧ ((S_Lb_X8_follow_52 70 ht I A J it dyn v1 v2 (J 32 v2.toNatClampNeg) 0) ∧ ((vp_in v2 64) ∧ (S_Lb_X8_follow_36 n ht I A (va_up J 32 (vp_updL (J 32) v2.toNatClampNeg (Lb_X8_follow_52_v3 70 ht I A J it dyn v1 v2 (J 32 v2.toNatClampNeg) 0))) it dyn v1 (v2 + 1))))))
set_option maxRecDepth 100000 in
set_option maxHeartbeats 4000000 in
theorem lp_Lb_X8_follow_36 (G : fsG) (l : Launch) (Q : Option fsV → fsH → Prop) : ∀ (n : Nat) (ht : Nat) (I : Nat → Int32) (A : Nat → Nat → Int32) (J : Nat → Nat → Int64) (it : Nat → Option Nat) (dyn : fsH) (v1 : Int32) (v2 : Int32), S_Lb_X8_follow_36 n ht I A J it dyn v1 v2 → (fsW G l mX8_follow 0 0 0 0 0 Q 108 [(0, .inr (.inr (some 14))), (1, .inl v1), (2, .inl (Lb_X8_follow_36_v2 n ht I A J it dyn v1 v2))] [] (fs_mk ht I A (Lb_X8_follow_36_J n ht I A J it dyn v1 v2) it dyn)) → fsW G l mX8_follow 0 0 0 0 0 Q 36 [(0, .inr (.inr (some 14))), (1, .inl v1), (2, .inl v2)] [] (fs_mk ht I A J it dyn) := by
  intro n
  induction n with
  | zero =>
    intro ht I A J it dyn v1 v2 hS
    exact hS.elim
  | succ n ih =>
    intro ht I A J it dyn v1 v2 hS hq
    have hS : (¬ (64 ≤ v2) → ((vp_in v2 64) ∧ ((S_Lb_X8_follow_52 70 ht I A J it dyn v1 v2 (J 32 v2.toNatClampNeg) 0) ∧ ((vp_in v2 64) ∧ (S_Lb_X8_follow_36 n ht I A (va_up J 32 (vp_updL (J 32) v2.toNatClampNeg (Lb_X8_follow_52_v3 70 ht I A J it dyn v1 v2 (J 32 v2.toNatClampNeg) 0))) it dyn v1 (v2 + 1)))))) := hS
    have hq : fsW G l mX8_follow 0 0 0 0 0 Q 108 [(0, .inr (.inr (some 14))), (1, .inl v1), (2, .inl (if 64 ≤ v2 then v2 else (Lb_X8_follow_36_v2 n ht I A (va_up J 32 (vp_updL (J 32) v2.toNatClampNeg (Lb_X8_follow_52_v3 70 ht I A J it dyn v1 v2 (J 32 v2.toNatClampNeg) 0))) it dyn v1 (v2 + 1))))] [] (fs_mk ht I A (if 64 ≤ v2 then J else (Lb_X8_follow_36_J n ht I A (va_up J 32 (vp_updL (J 32) v2.toNatClampNeg (Lb_X8_follow_52_v3 70 ht I A J it dyn v1 v2 (J 32 v2.toNatClampNeg) 0))) it dyn v1 (v2 + 1))) it dyn) := hq
    refine fs_iload_n dX8_follow_36 rfl rfl ?_
    refine fs_bipush (v := 64) dX8_follow_37 rfl ?_
    refine fs_icmp_ge 108 dX8_follow_39 (by decide) (fun c_39 : 64 ≤ v2 => ?_) (fun c_39 : ¬ (64 ≤ v2) => ?_)
    · have k9 := hq
      try simp only [if_pos c_39] at k9 ⊢
      exact k9
    · have hS := hS c_39
      refine fs_aload_n dX8_follow_42 rfl rfl ?_
      refine fs_getfield (v := .inr (.inr (some 32))) dX8_follow_43 sf_X8_71 rfl rfl ?_
      refine fs_iload_n dX8_follow_46 rfl rfl ?_
      obtain ⟨ho1, hS⟩ := hS
      refine fs_laload dX8_follow_47 rfl ho1 ?_
      refine fs_lstore_n (L' := [(3, .inr (.inl (J 32 v2.toNatClampNeg))), (0, .inr (.inr (some 14))), (1, .inl v1), (2, .inl v2)]) dX8_follow_48 rfl (by decide) rfl ?_
      refine fs_iconst (v := 0) dX8_follow_49 rfl ?_
      refine fs_istore (L' := [(5, .inl 0), (3, .inr (.inl (J 32 v2.toNatClampNeg))), (0, .inr (.inr (some 14))), (1, .inl v1), (2, .inl v2)]) dX8_follow_50 (by decide) rfl ?_
      refine fs_reL [2, 3, 4, 1, 0] rfl ?_
      obtain ⟨ho1, hS⟩ := hS
      refine lp_Lb_X8_follow_52 G l Q 70 ht I A J it dyn v1 v2 (J 32 v2.toNatClampNeg) 0 ho1 ?_
      refine fs_aload_n dX8_follow_95 rfl rfl ?_
      refine fs_getfield (v := .inr (.inr (some 32))) dX8_follow_96 sf_X8_71 rfl rfl ?_
      refine fs_iload_n dX8_follow_99 rfl rfl ?_
      refine fs_lload_n dX8_follow_100 rfl rfl ?_
      obtain ⟨ho1, hS⟩ := hS
      refine fss_32 dX8_follow_101 ho1 ?_
      refine fs_iinc (v := (v2 + 1)) (L' := [(2, .inl (v2 + 1)), (0, .inr (.inr (some 14))), (1, .inl v1), (3, .inr (.inl (Lb_X8_follow_52_v3 70 ht I A J it dyn v1 v2 (J 32 v2.toNatClampNeg) 0))), (5, .inl (Lb_X8_follow_52_v5 70 ht I A J it dyn v1 v2 (J 32 v2.toNatClampNeg) 0))]) dX8_follow_102 rfl rfl (by decide) rfl ?_
      refine fs_goto 36 dX8_follow_105 (by decide) ?_
      refine fs_reL [1, 2, 0] rfl ?_
      have k9 := hq
      try simp only [if_neg c_39] at hS k9 ⊢
      exact ih _ _ _ _ _ _ _ _ hS k9
def Lb_X8_follow_28_J : Nat → Nat → (Nat → Int32) → (Nat → Nat → Int32) → (Nat → Nat → Int64) → (Nat → Option Nat) → fsH → Int32 → (Nat → Nat → Int64)
  | 0, ht, I, A, J, it, dyn, v1 => J
  | n + 1, ht, I, A, J, it, dyn, v1 => (if 64 ≤ v1 then J else (Lb_X8_follow_28_J n ht I A (Lb_X8_follow_36_J 70 ht I A J it dyn v1 0) it dyn (v1 + 1)))
def Lb_X8_follow_28_v1 : Nat → Nat → (Nat → Int32) → (Nat → Nat → Int32) → (Nat → Nat → Int64) → (Nat → Option Nat) → fsH → Int32 → Int32
  | 0, ht, I, A, J, it, dyn, v1 => v1
  | n + 1, ht, I, A, J, it, dyn, v1 => (if 64 ≤ v1 then v1 else (Lb_X8_follow_28_v1 n ht I A (Lb_X8_follow_36_J 70 ht I A J it dyn v1 0) it dyn (v1 + 1)))
def S_Lb_X8_follow_28 : Nat → Nat → (Nat → Int32) → (Nat → Nat → Int32) → (Nat → Nat → Int64) → (Nat → Option Nat) → fsH → Int32 → Prop
  | 0, _, _, _, _, _, _, _ => False
  | n + 1, ht, I, A, J, it, dyn, v1 => (¬ (64 ≤ v1) → ((S_Lb_X8_follow_36 70 ht I A J it dyn v1 0) ∧ (S_Lb_X8_follow_28 n ht I A (Lb_X8_follow_36_J 70 ht I A J it dyn v1 0) it dyn (v1 + 1))))
set_option maxRecDepth 100000 in
set_option maxHeartbeats 4000000 in
theorem lp_Lb_X8_follow_28 (G : fsG) (l : Launch) (Q : Option fsV → fsH → Prop) : ∀ (n : Nat) (ht : Nat) (I : Nat → Int32) (A : Nat → Nat → Int32) (J : Nat → Nat → Int64) (it : Nat → Option Nat) (dyn : fsH) (v1 : Int32), S_Lb_X8_follow_28 n ht I A J it dyn v1 → (fsW G l mX8_follow 0 0 0 0 0 Q 114 [(0, .inr (.inr (some 14))), (1, .inl (Lb_X8_follow_28_v1 n ht I A J it dyn v1))] [] (fs_mk ht I A (Lb_X8_follow_28_J n ht I A J it dyn v1) it dyn)) → fsW G l mX8_follow 0 0 0 0 0 Q 28 [(0, .inr (.inr (some 14))), (1, .inl v1)] [] (fs_mk ht I A J it dyn) := by
  intro n
  induction n with
  | zero =>
    intro ht I A J it dyn v1 hS
    exact hS.elim
  | succ n ih =>
    intro ht I A J it dyn v1 hS hq
    have hS : (¬ (64 ≤ v1) → ((S_Lb_X8_follow_36 70 ht I A J it dyn v1 0) ∧ (S_Lb_X8_follow_28 n ht I A (Lb_X8_follow_36_J 70 ht I A J it dyn v1 0) it dyn (v1 + 1)))) := hS
    have hq : fsW G l mX8_follow 0 0 0 0 0 Q 114 [(0, .inr (.inr (some 14))), (1, .inl (if 64 ≤ v1 then v1 else (Lb_X8_follow_28_v1 n ht I A (Lb_X8_follow_36_J 70 ht I A J it dyn v1 0) it dyn (v1 + 1))))] [] (fs_mk ht I A (if 64 ≤ v1 then J else (Lb_X8_follow_28_J n ht I A (Lb_X8_follow_36_J 70 ht I A J it dyn v1 0) it dyn (v1 + 1))) it dyn) := hq
    refine fs_iload_n dX8_follow_28 rfl rfl ?_
    refine fs_bipush (v := 64) dX8_follow_29 rfl ?_
    refine fs_icmp_ge 114 dX8_follow_31 (by decide) (fun c_31 : 64 ≤ v1 => ?_) (fun c_31 : ¬ (64 ≤ v1) => ?_)
    · have k9 := hq
      try simp only [if_pos c_31] at k9 ⊢
      exact k9
    · have hS := hS c_31
      refine fs_iconst (v := 0) dX8_follow_34 rfl ?_
      refine fs_istore_n (L' := [(2, .inl 0), (0, .inr (.inr (some 14))), (1, .inl v1)]) dX8_follow_35 rfl (by decide) rfl ?_
      refine fs_reL [1, 2, 0] rfl ?_
      obtain ⟨ho1, hS⟩ := hS
      refine lp_Lb_X8_follow_36 G l Q 70 ht I A J it dyn v1 0 ho1 ?_
      refine fs_iinc (v := (v1 + 1)) (L' := [(1, .inl (v1 + 1)), (0, .inr (.inr (some 14))), (2, .inl (Lb_X8_follow_36_v2 70 ht I A J it dyn v1 0))]) dX8_follow_108 rfl rfl (by decide) rfl ?_
      refine fs_goto 28 dX8_follow_111 (by decide) ?_
      refine fs_reL [1, 0] rfl ?_
      have k9 := hq
      try simp only [if_neg c_31] at hS k9 ⊢
      exact ih _ _ _ _ _ _ _ hS k9
def L_X8_follow_J (ht : Nat) (I : Nat → Int32) (A : Nat → Nat → Int32) (J : Nat → Nat → Int64) (it : Nat → Option Nat) (dyn : fsH)  : Nat → Nat → Int64 := (Lb_X8_follow_28_J 70 ht I A (Lb_X8_follow_2_J 70 ht I A J it dyn 0) it dyn 0)
def S_X8_follow (ht : Nat) (I : Nat → Int32) (A : Nat → Nat → Int32) (J : Nat → Nat → Int64) (it : Nat → Option Nat) (dyn : fsH)  : Prop := ((S_Lb_X8_follow_2 70 ht I A J it dyn 0) ∧ (S_Lb_X8_follow_28 70 ht I A (Lb_X8_follow_2_J 70 ht I A J it dyn 0) it dyn 0))
set_option maxRecDepth 100000 in
set_option maxHeartbeats 4000000 in
theorem c_X8_follow (G : fsG) (l : Launch) (ht : Nat) (I : Nat → Int32) (A : Nat → Nat → Int32) (J : Nat → Nat → Int64) (it : Nat → Option Nat) (dyn : fsH)  (hS : S_X8_follow ht I A J it dyn ) : fsFn G l mX8_follow 0 0 0 [.inr (.inr (some 14))] (fs_mk ht I A J it dyn) none (fs_mk ht I A (L_X8_follow_J ht I A J it dyn ) it dyn) := by
  refine fsMet_of (by decide) (Nat.le_of_ble_eq_true rfl) ?_
  generalize hQ : (fun (r1 : Option fsV) (h1 : fsH) => r1 = none ∧ h1 = (fs_mk ht I A (L_X8_follow_J ht I A J it dyn ) it dyn)) = Q
  have hq : Q none (fs_mk ht I A (L_X8_follow_J ht I A J it dyn ) it dyn) := by rw [← hQ]; exact ⟨rfl, rfl⟩
  clear hQ
  have hq : Q none (fs_mk ht I A (Lb_X8_follow_28_J 70 ht I A (Lb_X8_follow_2_J 70 ht I A J it dyn 0) it dyn 0) it dyn) := hq
  have hS : ((S_Lb_X8_follow_2 70 ht I A J it dyn 0) ∧ (S_Lb_X8_follow_28 70 ht I A (Lb_X8_follow_2_J 70 ht I A J it dyn 0) it dyn 0)) := hS
  refine (show fsW G l mX8_follow 0 0 0 0 0 Q 0 [(0, .inr (.inr (some 14)))] [] (fs_mk ht I A J it dyn) from ?_)
  refine fs_iconst (v := 0) dX8_follow_0 rfl ?_
  refine fs_istore_n (L' := [(1, .inl 0), (0, .inr (.inr (some 14)))]) dX8_follow_1 rfl (by decide) rfl ?_
  refine fs_reL [1, 0] rfl ?_
  obtain ⟨ho1, hS⟩ := hS
  refine lp_Lb_X8_follow_2 G l Q 70 ht I A J it dyn 0 ho1 ?_
  refine fs_iconst (v := 0) dX8_follow_26 rfl ?_
  refine fs_istore_n (L' := [(1, .inl 0), (0, .inr (.inr (some 14)))]) dX8_follow_27 rfl (by decide) rfl ?_
  refine fs_reL [1, 0] rfl ?_
  have ho1 := hS
  refine lp_Lb_X8_follow_28 G l Q 70 ht I A (Lb_X8_follow_2_J 70 ht I A J it dyn 0) it dyn 0 ho1 ?_
  have k9 := hq
  exact fs_ret dX8_follow_114 rfl k9
def Lb_X8_allKnown_5_v3 : Nat → Nat → (Nat → Int32) → (Nat → Nat → Int32) → (Nat → Nat → Int64) → (Nat → Option Nat) → fsH → Int64 → Int32 → Int32 → Int32
  | 0, ht, I, A, J, it, dyn, v1, v3, v4 => v3
  | n + 1, ht, I, A, J, it, dyn, v1, v3, v4 => (if 64 ≤ v4 then v3 else (Lb_X8_allKnown_5_v3 n ht I A J it dyn v1 (if v3 = 0 then 0 else (if (lg_cmp ((v1 >>> (v4.toInt64 &&& 63)) &&& 1) 0) = 0 then 1 else (if (A 34 v4.toNatClampNeg) = 0 then 0 else 1 : Int32) : Int32) : Int32) (v4 + 1)))
def Lb_X8_allKnown_5_v4 : Nat → Nat → (Nat → Int32) → (Nat → Nat → Int32) → (Nat → Nat → Int64) → (Nat → Option Nat) → fsH → Int64 → Int32 → Int32 → Int32
  | 0, ht, I, A, J, it, dyn, v1, v3, v4 => v4
  | n + 1, ht, I, A, J, it, dyn, v1, v3, v4 => (if 64 ≤ v4 then v4 else (Lb_X8_allKnown_5_v4 n ht I A J it dyn v1 (if v3 = 0 then 0 else (if (lg_cmp ((v1 >>> (v4.toInt64 &&& 63)) &&& 1) 0) = 0 then 1 else (if (A 34 v4.toNatClampNeg) = 0 then 0 else 1 : Int32) : Int32) : Int32) (v4 + 1)))
def S_Lb_X8_allKnown_5 : Nat → Nat → (Nat → Int32) → (Nat → Nat → Int32) → (Nat → Nat → Int64) → (Nat → Option Nat) → fsH → Int64 → Int32 → Int32 → Prop
  | 0, _, _, _, _, _, _, _, _, _ => False
  | n + 1, ht, I, A, J, it, dyn, v1, v3, v4 => (¬ (64 ≤ v4) → ((¬ (v3 = 0) → (¬ ((lg_cmp ((v1 >>> (v4.toInt64 &&& 63)) &&& 1) 0) = 0) → (vp_in v4 64))) ∧ (S_Lb_X8_allKnown_5 n ht I A J it dyn v1 (if v3 = 0 then 0 else (if (lg_cmp ((v1 >>> (v4.toInt64 &&& 63)) &&& 1) 0) = 0 then 1 else (if (A 34 v4.toNatClampNeg) = 0 then 0 else 1 : Int32) : Int32) : Int32) (v4 + 1))))
set_option maxRecDepth 100000 in
set_option maxHeartbeats 4000000 in
theorem lp_Lb_X8_allKnown_5 (G : fsG) (l : Launch) (Q : Option fsV → fsH → Prop) : ∀ (n : Nat) (ht : Nat) (I : Nat → Int32) (A : Nat → Nat → Int32) (J : Nat → Nat → Int64) (it : Nat → Option Nat) (dyn : fsH) (v1 : Int64) (v3 : Int32) (v4 : Int32), S_Lb_X8_allKnown_5 n ht I A J it dyn v1 v3 v4 → (fsW G l mX8_allKnown 0 0 0 0 0 Q 49 [(0, .inr (.inr (some 14))), (1, .inr (.inl v1)), (3, .inl (Lb_X8_allKnown_5_v3 n ht I A J it dyn v1 v3 v4)), (4, .inl (Lb_X8_allKnown_5_v4 n ht I A J it dyn v1 v3 v4))] [] (fs_mk ht I A J it dyn)) → fsW G l mX8_allKnown 0 0 0 0 0 Q 5 [(0, .inr (.inr (some 14))), (1, .inr (.inl v1)), (3, .inl v3), (4, .inl v4)] [] (fs_mk ht I A J it dyn) := by
  intro n
  induction n with
  | zero =>
    intro ht I A J it dyn v1 v3 v4 hS
    exact hS.elim
  | succ n ih =>
    intro ht I A J it dyn v1 v3 v4 hS hq
    have hS : (¬ (64 ≤ v4) → ((¬ (v3 = 0) → (¬ ((lg_cmp ((v1 >>> (v4.toInt64 &&& 63)) &&& 1) 0) = 0) → (vp_in v4 64))) ∧ (S_Lb_X8_allKnown_5 n ht I A J it dyn v1 (if v3 = 0 then 0 else (if (lg_cmp ((v1 >>> (v4.toInt64 &&& 63)) &&& 1) 0) = 0 then 1 else (if (A 34 v4.toNatClampNeg) = 0 then 0 else 1 : Int32) : Int32) : Int32) (v4 + 1)))) := hS
    have hq : fsW G l mX8_allKnown 0 0 0 0 0 Q 49 [(0, .inr (.inr (some 14))), (1, .inr (.inl v1)), (3, .inl (if 64 ≤ v4 then v3 else (Lb_X8_allKnown_5_v3 n ht I A J it dyn v1 (if v3 = 0 then 0 else (if (lg_cmp ((v1 >>> (v4.toInt64 &&& 63)) &&& 1) 0) = 0 then 1 else (if (A 34 v4.toNatClampNeg) = 0 then 0 else 1 : Int32) : Int32) : Int32) (v4 + 1)))), (4, .inl (if 64 ≤ v4 then v4 else (Lb_X8_allKnown_5_v4 n ht I A J it dyn v1 (if v3 = 0 then 0 else (if (lg_cmp ((v1 >>> (v4.toInt64 &&& 63)) &&& 1) 0) = 0 then 1 else (if (A 34 v4.toNatClampNeg) = 0 then 0 else 1 : Int32) : Int32) : Int32) (v4 + 1))))] [] (fs_mk ht I A J it dyn) := hq
    refine fs_iload dX8_allKnown_5 rfl ?_
    refine fs_bipush (v := 64) dX8_allKnown_7 rfl ?_
    refine fs_icmp_ge 49 dX8_allKnown_9 (by decide) (fun c_9 : 64 ≤ v4 => ?_) (fun c_9 : ¬ (64 ≤ v4) => ?_)
    · have k9 := hq
      try simp only [if_pos c_9] at k9 ⊢
      exact k9
    · have hS := hS c_9
      refine fs_iload_n dX8_allKnown_12 rfl rfl ?_
      obtain ⟨hR_13, hS⟩ := hS
      have key_42 : fsW G l mX8_allKnown 0 0 0 0 0 Q 42 [(0, .inr (.inr (some 14))), (1, .inr (.inl v1)), (3, .inl v3), (4, .inl v4)] [.inl (if v3 = 0 then 0 else (if (lg_cmp ((v1 >>> (v4.toInt64 &&& 63)) &&& 1) 0) = 0 then 1 else (if (A 34 v4.toNatClampNeg) = 0 then 0 else 1 : Int32) : Int32) : Int32)] (fs_mk ht I A J it dyn) := by
        refine fs_istore_n (L' := [(3, .inl (if v3 = 0 then 0 else (if (lg_cmp ((v1 >>> (v4.toInt64 &&& 63)) &&& 1) 0) = 0 then 1 else (if (A 34 v4.toNatClampNeg) = 0 then 0 else 1 : Int32) : Int32) : Int32)), (0, .inr (.inr (some 14))), (1, .inr (.inl v1)), (4, .inl v4)]) dX8_allKnown_42 rfl (by decide) rfl ?_
        refine fs_iinc (v := (v4 + 1)) (L' := [(4, .inl (v4 + 1)), (3, .inl (if v3 = 0 then 0 else (if (lg_cmp ((v1 >>> (v4.toInt64 &&& 63)) &&& 1) 0) = 0 then 1 else (if (A 34 v4.toNatClampNeg) = 0 then 0 else 1 : Int32) : Int32) : Int32)), (0, .inr (.inr (some 14))), (1, .inr (.inl v1))]) dX8_allKnown_43 rfl rfl (by decide) rfl ?_
        refine fs_goto 5 dX8_allKnown_46 (by decide) ?_
        refine fs_reL [2, 3, 1, 0] rfl ?_
        have k9 := hq
        try simp only [if_neg c_9] at hS k9 ⊢
        exact ih _ _ _ _ _ _ _ _ _ hS k9
      refine fs_if_eq 41 dX8_allKnown_13 (by decide) (fun c_13 : v3 = 0 => ?_) (fun c_13 : ¬ (v3 = 0) => ?_)
      · refine fs_iconst (v := 0) dX8_allKnown_41 rfl ?_
        have k9 := key_42
        try simp only [if_neg c_9, if_pos c_13] at k9 ⊢
        exact k9
      · have hS := hR_13 c_13
        refine fs_lload_n dX8_allKnown_16 rfl rfl ?_
        refine fs_iload dX8_allKnown_17 rfl ?_
        refine fs_lshr dX8_allKnown_19 ?_
        refine fs_lconst (v := 1) dX8_allKnown_20 rfl ?_
        refine fs_land dX8_allKnown_21 ?_
        refine fs_lconst (v := 0) dX8_allKnown_22 rfl ?_
        refine fs_lcmp dX8_allKnown_23 ?_
        refine fs_if_eq 37 dX8_allKnown_24 (by decide) (fun c_24 : (lg_cmp ((v1 >>> (v4.toInt64 &&& 63)) &&& 1) 0) = 0 => ?_) (fun c_24 : ¬ ((lg_cmp ((v1 >>> (v4.toInt64 &&& 63)) &&& 1) 0) = 0) => ?_)
        · refine fs_iconst (v := 1) dX8_allKnown_37 rfl ?_
          refine fs_goto 42 dX8_allKnown_38 (by decide) ?_
          have k9 := key_42
          try simp only [if_neg c_9, if_neg c_13, if_pos c_24] at k9 ⊢
          exact k9
        · have hS := hS c_24
          refine fs_aload_n dX8_allKnown_27 rfl rfl ?_
          refine fs_getfield (v := .inr (.inr (some 34))) dX8_allKnown_28 sf_X8_77 rfl rfl ?_
          refine fs_iload dX8_allKnown_31 rfl ?_
          have ho1 := hS
          refine fs_zaload dX8_allKnown_33 rfl ho1 ?_
          refine fs_if_eq 41 dX8_allKnown_34 (by decide) (fun c_34 : (A 34 v4.toNatClampNeg) = 0 => ?_) (fun c_34 : ¬ ((A 34 v4.toNatClampNeg) = 0) => ?_)
          · refine fs_iconst (v := 0) dX8_allKnown_41 rfl ?_
            have k9 := key_42
            try simp only [if_neg c_9, if_neg c_13, if_neg c_24, if_pos c_34] at k9 ⊢
            exact k9
          · refine fs_iconst (v := 1) dX8_allKnown_37 rfl ?_
            refine fs_goto 42 dX8_allKnown_38 (by decide) ?_
            have k9 := key_42
            try simp only [if_neg c_9, if_neg c_13, if_neg c_24, if_neg c_34] at k9 ⊢
            exact k9
def L_X8_allKnown_r (ht : Nat) (I : Nat → Int32) (A : Nat → Nat → Int32) (J : Nat → Nat → Int64) (it : Nat → Option Nat) (dyn : fsH) (x1 : Int64) : Int32 := (Lb_X8_allKnown_5_v3 70 ht I A J it dyn x1 1 0)
def S_X8_allKnown (ht : Nat) (I : Nat → Int32) (A : Nat → Nat → Int32) (J : Nat → Nat → Int64) (it : Nat → Option Nat) (dyn : fsH) (x1 : Int64) : Prop := ((S_Lb_X8_allKnown_5 70 ht I A J it dyn x1 1 0) ∧ (narrow .boolean (.int (Lb_X8_allKnown_5_v3 70 ht I A J it dyn x1 1 0)) = .int (Lb_X8_allKnown_5_v3 70 ht I A J it dyn x1 1 0)))
set_option maxRecDepth 100000 in
set_option maxHeartbeats 4000000 in
theorem c_X8_allKnown (G : fsG) (l : Launch) (ht : Nat) (I : Nat → Int32) (A : Nat → Nat → Int32) (J : Nat → Nat → Int64) (it : Nat → Option Nat) (dyn : fsH) (x1 : Int64) (hS : S_X8_allKnown ht I A J it dyn x1) : fsFn G l mX8_allKnown 0 0 0 [.inr (.inr (some 14)), .inr (.inl x1)] (fs_mk ht I A J it dyn) (some (.inl (L_X8_allKnown_r ht I A J it dyn x1))) (fs_mk ht I A J it dyn) := by
  refine fsMet_of (by decide) (Nat.le_of_ble_eq_true rfl) ?_
  generalize hQ : (fun (r1 : Option fsV) (h1 : fsH) => r1 = (some (.inl (L_X8_allKnown_r ht I A J it dyn x1))) ∧ h1 = (fs_mk ht I A J it dyn)) = Q
  have hq : Q (some (.inl (L_X8_allKnown_r ht I A J it dyn x1))) (fs_mk ht I A J it dyn) := by rw [← hQ]; exact ⟨rfl, rfl⟩
  clear hQ
  have hq : Q (some (.inl (Lb_X8_allKnown_5_v3 70 ht I A J it dyn x1 1 0))) (fs_mk ht I A J it dyn) := hq
  have hS : ((S_Lb_X8_allKnown_5 70 ht I A J it dyn x1 1 0) ∧ (narrow .boolean (.int (Lb_X8_allKnown_5_v3 70 ht I A J it dyn x1 1 0)) = .int (Lb_X8_allKnown_5_v3 70 ht I A J it dyn x1 1 0))) := hS
  refine (show fsW G l mX8_allKnown 0 0 0 0 0 Q 0 [(0, .inr (.inr (some 14))), (1, .inr (.inl x1))] [] (fs_mk ht I A J it dyn) from ?_)
  refine fs_iconst (v := 1) dX8_allKnown_0 rfl ?_
  refine fs_istore_n (L' := [(3, .inl 1), (0, .inr (.inr (some 14))), (1, .inr (.inl x1))]) dX8_allKnown_1 rfl (by decide) rfl ?_
  refine fs_iconst (v := 0) dX8_allKnown_2 rfl ?_
  refine fs_istore (L' := [(4, .inl 0), (3, .inl 1), (0, .inr (.inr (some 14))), (1, .inr (.inl x1))]) dX8_allKnown_3 (by decide) rfl ?_
  refine fs_reL [2, 3, 1, 0] rfl ?_
  obtain ⟨ho1, hS⟩ := hS
  refine lp_Lb_X8_allKnown_5 G l Q 70 ht I A J it dyn x1 1 0 ho1 ?_
  refine fs_iload_n dX8_allKnown_49 rfl rfl ?_
  have ho1 := hS
  have k9 := hq
  exact fs_iret dX8_allKnown_50 rfl ho1 k9
def L_X8_turn_r (ht : Nat) (I : Nat → Int32) (A : Nat → Nat → Int32) (J : Nat → Nat → Int64) (it : Nat → Option Nat) (dyn : fsH) (x1 : Int32) : Int32 := (if x1 ≤ ((nI ht) - (I 18)) then 0 else (if (I 18) = 0 then 0 else 1))
def L_X8_turn_I (ht : Nat) (I : Nat → Int32) (A : Nat → Nat → Int32) (J : Nat → Nat → Int64) (it : Nat → Option Nat) (dyn : fsH) (x1 : Int32) : Nat → Int32 := (if x1 ≤ ((nI ht) - (I 18)) then I else (if (I 18) = 0 then I else (upd (upd I 17 ((I 17) + 1)) 18 0)))
set_option maxRecDepth 100000 in
set_option maxHeartbeats 4000000 in
theorem c_X8_turn (G : fsG) (l : Launch) (ht : Nat) (I : Nat → Int32) (A : Nat → Nat → Int32) (J : Nat → Nat → Int64) (it : Nat → Option Nat) (dyn : fsH) (x1 : Int32) : fsFn G l mX8_turn 0 0 0 [.inr (.inr (some 14)), .inl x1] (fs_mk ht I A J it dyn) (some (.inl (L_X8_turn_r ht I A J it dyn x1))) (fs_mk ht (L_X8_turn_I ht I A J it dyn x1) A J it dyn) := by
  refine fsMet_of (by decide) (Nat.le_of_ble_eq_true rfl) ?_
  generalize hQ : (fun (r1 : Option fsV) (h1 : fsH) => r1 = (some (.inl (L_X8_turn_r ht I A J it dyn x1))) ∧ h1 = (fs_mk ht (L_X8_turn_I ht I A J it dyn x1) A J it dyn)) = Q
  have hq : Q (some (.inl (L_X8_turn_r ht I A J it dyn x1))) (fs_mk ht (L_X8_turn_I ht I A J it dyn x1) A J it dyn) := by rw [← hQ]; exact ⟨rfl, rfl⟩
  clear hQ
  have hq : Q (some (.inl (if x1 ≤ ((nI ht) - (I 18)) then 0 else (if (I 18) = 0 then 0 else 1)))) (fs_mk ht (if x1 ≤ ((nI ht) - (I 18)) then I else (if (I 18) = 0 then I else (upd (upd I 17 ((I 17) + 1)) 18 0))) A J it dyn) := hq
  refine (show fsW G l mX8_turn 0 0 0 0 0 Q 0 [(0, .inr (.inr (some 14))), (1, .inl x1)] [] (fs_mk ht I A J it dyn) from ?_)
  refine fs_iload_n dX8_turn_0 rfl rfl ?_
  refine fs_aload_n dX8_turn_1 rfl rfl ?_
  refine fs_getfield (v := .inl (nI ht)) dX8_turn_2 sf_X8_95 rfl rfl ?_
  refine fs_aload_n dX8_turn_5 rfl rfl ?_
  refine fs_getfield (v := .inl (I 18)) dX8_turn_6 sf_X8_247 rfl rfl ?_
  refine fs_isub dX8_turn_9 ?_
  refine fs_icmp_le 20 dX8_turn_10 (by decide) (fun c_10 : x1 ≤ ((nI ht) - (I 18)) => ?_) (fun c_10 : ¬ (x1 ≤ ((nI ht) - (I 18))) => ?_)
  · refine fs_iconst (v := 0) dX8_turn_20 rfl ?_
    have k9 := hq
    try simp only [if_pos c_10] at k9 ⊢
    exact fs_iret dX8_turn_21 rfl rfl k9
  · refine fs_aload_n dX8_turn_13 rfl rfl ?_
    refine fs_getfield (v := .inl (I 18)) dX8_turn_14 sf_X8_247 rfl rfl ?_
    refine fs_if_ne 22 dX8_turn_17 (by decide) (fun c_17 : ¬ (I 18) = 0 => ?_) (fun c_17 : (I 18) = 0 => ?_)
    · refine fs_aload_n dX8_turn_22 rfl rfl ?_
      refine fs_dup dX8_turn_23 rfl ?_
      refine fs_getfield (v := .inl (I 17)) dX8_turn_24 sf_X8_244 rfl rfl ?_
      refine fs_iconst (v := 1) dX8_turn_27 rfl ?_
      refine fs_iadd dX8_turn_28 ?_
      refine fsp_17 dX8_turn_29 sp_X8_244 ?_
      refine fs_aload_n dX8_turn_32 rfl rfl ?_
      refine fs_iconst (v := 0) dX8_turn_33 rfl ?_
      refine fsp_18 dX8_turn_34 sp_X8_247 ?_
      refine fs_iconst (v := 1) dX8_turn_37 rfl ?_
      have k9 := hq
      try simp only [if_neg c_10, if_neg c_17] at k9 ⊢
      exact fs_iret dX8_turn_38 rfl rfl k9
    · refine fs_iconst (v := 0) dX8_turn_20 rfl ?_
      have k9 := hq
      try simp only [if_neg c_10, if_pos c_17] at k9 ⊢
      exact fs_iret dX8_turn_21 rfl rfl k9
theorem nb_X8_turn (ht : Nat) (I : Nat → Int32) (A : Nat → Nat → Int32) (J : Nat → Nat → Int64) (it : Nat → Option Nat) (dyn : fsH) (x1 : Int32) : narrow .boolean (.int (L_X8_turn_r ht I A J it dyn x1)) = .int (L_X8_turn_r ht I A J it dyn x1) := by
  unfold L_X8_turn_r
  exact (by (repeat' split) <;> first | rfl)
def Lb_X8_clear_22_J : Nat → Nat → (Nat → Int32) → (Nat → Nat → Int32) → (Nat → Nat → Int64) → (Nat → Option Nat) → fsH → Int32 → (Nat → Nat → Int64)
  | 0, ht, I, A, J, it, dyn, v1 => J
  | n + 1, ht, I, A, J, it, dyn, v1 => (if 64 ≤ v1 then J else (Lb_X8_clear_22_J n ht I A (va_up J 30 (vp_updL (J 30) v1.toNatClampNeg 0)) it dyn (v1 + 1)))
def Lb_X8_clear_22_v1 : Nat → Nat → (Nat → Int32) → (Nat → Nat → Int32) → (Nat → Nat → Int64) → (Nat → Option Nat) → fsH → Int32 → Int32
  | 0, ht, I, A, J, it, dyn, v1 => v1
  | n + 1, ht, I, A, J, it, dyn, v1 => (if 64 ≤ v1 then v1 else (Lb_X8_clear_22_v1 n ht I A (va_up J 30 (vp_updL (J 30) v1.toNatClampNeg 0)) it dyn (v1 + 1)))
def S_Lb_X8_clear_22 : Nat → Nat → (Nat → Int32) → (Nat → Nat → Int32) → (Nat → Nat → Int64) → (Nat → Option Nat) → fsH → Int32 → Prop
  | 0, _, _, _, _, _, _, _ => False
  | n + 1, ht, I, A, J, it, dyn, v1 => (¬ (64 ≤ v1) → ((vp_in v1 64) ∧ (S_Lb_X8_clear_22 n ht I A (va_up J 30 (vp_updL (J 30) v1.toNatClampNeg 0)) it dyn (v1 + 1))))
set_option maxRecDepth 100000 in
set_option maxHeartbeats 4000000 in
theorem lp_Lb_X8_clear_22 (G : fsG) (l : Launch) (Q : Option fsV → fsH → Prop) : ∀ (n : Nat) (ht : Nat) (I : Nat → Int32) (A : Nat → Nat → Int32) (J : Nat → Nat → Int64) (it : Nat → Option Nat) (dyn : fsH) (v1 : Int32), S_Lb_X8_clear_22 n ht I A J it dyn v1 → (fsW G l mX8_clear 0 0 0 0 0 Q 41 [(0, .inr (.inr (some 14))), (1, .inl (Lb_X8_clear_22_v1 n ht I A J it dyn v1))] [] (fs_mk ht I A (Lb_X8_clear_22_J n ht I A J it dyn v1) it dyn)) → fsW G l mX8_clear 0 0 0 0 0 Q 22 [(0, .inr (.inr (some 14))), (1, .inl v1)] [] (fs_mk ht I A J it dyn) := by
  intro n
  induction n with
  | zero =>
    intro ht I A J it dyn v1 hS
    exact hS.elim
  | succ n ih =>
    intro ht I A J it dyn v1 hS hq
    have hS : (¬ (64 ≤ v1) → ((vp_in v1 64) ∧ (S_Lb_X8_clear_22 n ht I A (va_up J 30 (vp_updL (J 30) v1.toNatClampNeg 0)) it dyn (v1 + 1)))) := hS
    have hq : fsW G l mX8_clear 0 0 0 0 0 Q 41 [(0, .inr (.inr (some 14))), (1, .inl (if 64 ≤ v1 then v1 else (Lb_X8_clear_22_v1 n ht I A (va_up J 30 (vp_updL (J 30) v1.toNatClampNeg 0)) it dyn (v1 + 1))))] [] (fs_mk ht I A (if 64 ≤ v1 then J else (Lb_X8_clear_22_J n ht I A (va_up J 30 (vp_updL (J 30) v1.toNatClampNeg 0)) it dyn (v1 + 1))) it dyn) := hq
    refine fs_iload_n dX8_clear_22 rfl rfl ?_
    refine fs_bipush (v := 64) dX8_clear_23 rfl ?_
    refine fs_icmp_ge 41 dX8_clear_25 (by decide) (fun c_25 : 64 ≤ v1 => ?_) (fun c_25 : ¬ (64 ≤ v1) => ?_)
    · have k9 := hq
      try simp only [if_pos c_25] at k9 ⊢
      exact k9
    · have hS := hS c_25
      refine fs_aload_n dX8_clear_28 rfl rfl ?_
      refine fs_getfield (v := .inr (.inr (some 30))) dX8_clear_29 sf_X8_65 rfl rfl ?_
      refine fs_iload_n dX8_clear_32 rfl rfl ?_
      refine fs_lconst (v := 0) dX8_clear_33 rfl ?_
      obtain ⟨ho1, hS⟩ := hS
      refine fss_30 dX8_clear_34 ho1 ?_
      refine fs_iinc (v := (v1 + 1)) (L' := [(1, .inl (v1 + 1)), (0, .inr (.inr (some 14)))]) dX8_clear_35 rfl rfl (by decide) rfl ?_
      refine fs_goto 22 dX8_clear_38 (by decide) ?_
      refine fs_reL [1, 0] rfl ?_
      have k9 := hq
      try simp only [if_neg c_25] at hS k9 ⊢
      exact ih _ _ _ _ _ _ _ hS k9
def L_X8_clear_I (ht : Nat) (I : Nat → Int32) (A : Nat → Nat → Int32) (J : Nat → Nat → Int64) (it : Nat → Option Nat) (dyn : fsH)  : Nat → Int32 := (upd (upd (upd (upd I 8 0) 13 0) 12 0) 11 1)
def L_X8_clear_J (ht : Nat) (I : Nat → Int32) (A : Nat → Nat → Int32) (J : Nat → Nat → Int64) (it : Nat → Option Nat) (dyn : fsH)  : Nat → Nat → Int64 := (Lb_X8_clear_22_J 70 ht (upd (upd (upd (upd I 8 0) 13 0) 12 0) 11 1) A J it dyn 0)
def S_X8_clear (ht : Nat) (I : Nat → Int32) (A : Nat → Nat → Int32) (J : Nat → Nat → Int64) (it : Nat → Option Nat) (dyn : fsH)  : Prop := (S_Lb_X8_clear_22 70 ht (upd (upd (upd (upd I 8 0) 13 0) 12 0) 11 1) A J it dyn 0)
set_option maxRecDepth 100000 in
set_option maxHeartbeats 4000000 in
theorem c_X8_clear (G : fsG) (l : Launch) (ht : Nat) (I : Nat → Int32) (A : Nat → Nat → Int32) (J : Nat → Nat → Int64) (it : Nat → Option Nat) (dyn : fsH)  (hS : S_X8_clear ht I A J it dyn ) : fsFn G l mX8_clear 0 0 0 [.inr (.inr (some 14))] (fs_mk ht I A J it dyn) none (fs_mk ht (L_X8_clear_I ht I A J it dyn ) A (L_X8_clear_J ht I A J it dyn ) it dyn) := by
  refine fsMet_of (by decide) (Nat.le_of_ble_eq_true rfl) ?_
  generalize hQ : (fun (r1 : Option fsV) (h1 : fsH) => r1 = none ∧ h1 = (fs_mk ht (L_X8_clear_I ht I A J it dyn ) A (L_X8_clear_J ht I A J it dyn ) it dyn)) = Q
  have hq : Q none (fs_mk ht (L_X8_clear_I ht I A J it dyn ) A (L_X8_clear_J ht I A J it dyn ) it dyn) := by rw [← hQ]; exact ⟨rfl, rfl⟩
  clear hQ
  have hq : Q none (fs_mk ht (upd (upd (upd (upd I 8 0) 13 0) 12 0) 11 1) A (Lb_X8_clear_22_J 70 ht (upd (upd (upd (upd I 8 0) 13 0) 12 0) 11 1) A J it dyn 0) it dyn) := hq
  have hS : (S_Lb_X8_clear_22 70 ht (upd (upd (upd (upd I 8 0) 13 0) 12 0) 11 1) A J it dyn 0) := hS
  refine (show fsW G l mX8_clear 0 0 0 0 0 Q 0 [(0, .inr (.inr (some 14)))] [] (fs_mk ht I A J it dyn) from ?_)
  refine fs_aload_n dX8_clear_0 rfl rfl ?_
  refine fs_iconst (v := 0) dX8_clear_1 rfl ?_
  refine fsp_8 dX8_clear_2 sp_X8_98 ?_
  refine fs_aload_n dX8_clear_5 rfl rfl ?_
  refine fs_iconst (v := 0) dX8_clear_6 rfl ?_
  refine fsp_13 dX8_clear_7 sp_X8_115 ?_
  refine fs_aload_n dX8_clear_10 rfl rfl ?_
  refine fs_iconst (v := 0) dX8_clear_11 rfl ?_
  refine fsp_12 dX8_clear_12 sp_X8_164 (by decide) ?_
  refine fs_aload_n dX8_clear_15 rfl rfl ?_
  refine fs_iconst (v := 1) dX8_clear_16 rfl ?_
  refine fsp_11 dX8_clear_17 sp_X8_17 ?_
  refine fs_iconst (v := 0) dX8_clear_20 rfl ?_
  refine fs_istore_n (L' := [(1, .inl 0), (0, .inr (.inr (some 14)))]) dX8_clear_21 rfl (by decide) rfl ?_
  refine fs_reL [1, 0] rfl ?_
  have ho1 := hS
  refine lp_Lb_X8_clear_22 G l Q 70 ht (upd (upd (upd (upd I 8 0) 13 0) 12 0) 11 1) A J it dyn 0 ho1 ?_
  have k9 := hq
  exact fs_ret dX8_clear_41 rfl k9
def L_X8_there_r (ht : Nat) (I : Nat → Int32) (A : Nat → Nat → Int32) (J : Nat → Nat → Int64) (it : Nat → Option Nat) (dyn : fsH) (x1 : Int32) (x2 : Int32) : Int32 := (if (I 12) = 0 then 0 else (if x1 < 0 then 0 else (if (I 13) ≤ x1 then 0 else (if x2 < 0 then 0 else (if (L_X8_rowsOf_r ht I A J it dyn x1) ≤ x2 then 0 else 1 : Int32) : Int32) : Int32) : Int32) : Int32)
def S_X8_there (ht : Nat) (I : Nat → Int32) (A : Nat → Nat → Int32) (J : Nat → Nat → Int64) (it : Nat → Option Nat) (dyn : fsH) (x1 : Int32) (x2 : Int32) : Prop := (¬ ((I 12) = 0) → (¬ (x1 < 0) → (¬ ((I 13) ≤ x1) → (¬ (x2 < 0) → (S_X8_rowsOf ht I A J it dyn x1)))))
set_option maxRecDepth 100000 in
set_option maxHeartbeats 4000000 in
theorem c_X8_there (G : fsG) (l : Launch) (ht : Nat) (I : Nat → Int32) (A : Nat → Nat → Int32) (J : Nat → Nat → Int64) (it : Nat → Option Nat) (dyn : fsH) (x1 : Int32) (x2 : Int32) (hS : S_X8_there ht I A J it dyn x1 x2) : fsFn G l mX8_there 1 0 0 [.inr (.inr (some 14)), .inl x1, .inl x2] (fs_mk ht I A J it dyn) (some (.inl (L_X8_there_r ht I A J it dyn x1 x2))) (fs_mk ht I A J it dyn) := by
  refine fsMet_of (by decide) (Nat.le_of_ble_eq_true rfl) ?_
  generalize hQ : (fun (r1 : Option fsV) (h1 : fsH) => r1 = (some (.inl (L_X8_there_r ht I A J it dyn x1 x2))) ∧ h1 = (fs_mk ht I A J it dyn)) = Q
  have hq : Q (some (.inl (L_X8_there_r ht I A J it dyn x1 x2))) (fs_mk ht I A J it dyn) := by rw [← hQ]; exact ⟨rfl, rfl⟩
  clear hQ
  have hq : Q (some (.inl (if (I 12) = 0 then 0 else (if x1 < 0 then 0 else (if (I 13) ≤ x1 then 0 else (if x2 < 0 then 0 else (if (L_X8_rowsOf_r ht I A J it dyn x1) ≤ x2 then 0 else 1 : Int32) : Int32) : Int32) : Int32) : Int32))) (fs_mk ht I A J it dyn) := hq
  have hS : (¬ ((I 12) = 0) → (¬ (x1 < 0) → (¬ ((I 13) ≤ x1) → (¬ (x2 < 0) → (S_X8_rowsOf ht I A J it dyn x1))))) := hS
  refine (show fsW G l mX8_there 1 0 0 0 0 Q 0 [(0, .inr (.inr (some 14))), (1, .inl x1), (2, .inl x2)] [] (fs_mk ht I A J it dyn) from ?_)
  refine fs_aload_n dX8_there_0 rfl rfl ?_
  refine fs_getfield (v := .inl (I 12)) dX8_there_1 sf_X8_164 rfl rfl ?_
  have hR_4 := hS
  have key_37 : fsW G l mX8_there 1 0 0 0 0 Q 37 [(0, .inr (.inr (some 14))), (1, .inl x1), (2, .inl x2)] [.inl (if (I 12) = 0 then 0 else (if x1 < 0 then 0 else (if (I 13) ≤ x1 then 0 else (if x2 < 0 then 0 else (if (L_X8_rowsOf_r ht I A J it dyn x1) ≤ x2 then 0 else 1 : Int32) : Int32) : Int32) : Int32) : Int32)] (fs_mk ht I A J it dyn) := by
    have k9 := hq
    exact fs_iret dX8_there_37 rfl (by (repeat' split) <;> first | rfl) k9
  refine fs_if_eq 36 dX8_there_4 (by decide) (fun c_4 : (I 12) = 0 => ?_) (fun c_4 : ¬ ((I 12) = 0) => ?_)
  · refine fs_iconst (v := 0) dX8_there_36 rfl ?_
    have k9 := key_37
    try simp only [if_pos c_4] at k9 ⊢
    exact k9
  · have hS := hR_4 c_4
    refine fs_iload_n dX8_there_7 rfl rfl ?_
    refine fs_if_lt 36 dX8_there_8 (by decide) (fun c_8 : x1 < 0 => ?_) (fun c_8 : ¬ (x1 < 0) => ?_)
    · refine fs_iconst (v := 0) dX8_there_36 rfl ?_
      have k9 := key_37
      try simp only [if_neg c_4, if_pos c_8] at k9 ⊢
      exact k9
    · have hS := hS c_8
      refine fs_iload_n dX8_there_11 rfl rfl ?_
      refine fs_aload_n dX8_there_12 rfl rfl ?_
      refine fs_getfield (v := .inl (I 13)) dX8_there_13 sf_X8_115 rfl rfl ?_
      refine fs_icmp_ge 36 dX8_there_16 (by decide) (fun c_16 : (I 13) ≤ x1 => ?_) (fun c_16 : ¬ ((I 13) ≤ x1) => ?_)
      · refine fs_iconst (v := 0) dX8_there_36 rfl ?_
        have k9 := key_37
        try simp only [if_neg c_4, if_neg c_8, if_pos c_16] at k9 ⊢
        exact k9
      · have hS := hS c_16
        refine fs_iload_n dX8_there_19 rfl rfl ?_
        refine fs_if_lt 36 dX8_there_20 (by decide) (fun c_20 : x2 < 0 => ?_) (fun c_20 : ¬ (x2 < 0) => ?_)
        · refine fs_iconst (v := 0) dX8_there_36 rfl ?_
          have k9 := key_37
          try simp only [if_neg c_4, if_neg c_8, if_neg c_16, if_pos c_20] at k9 ⊢
          exact k9
        · have hS := hS c_20
          refine fs_iload_n dX8_there_23 rfl rfl ?_
          refine fs_aload_n dX8_there_24 rfl rfl ?_
          refine fs_iload_n dX8_there_25 rfl rfl ?_
          have ho1 := hS
          refine fs_callV1 dX8_there_26 sv_X8_172 rfl ⟨_, rfl, rfl⟩ (c_X8_rowsOf G l ht I A J it dyn x1 ho1) rfl rfl (Nat.le_of_ble_eq_true rfl) (Nat.le_of_ble_eq_true rfl) (Nat.le_of_ble_eq_true rfl) (Nat.le_of_ble_eq_true rfl) ?_
          refine fs_icmp_ge 36 dX8_there_29 (by decide) (fun c_29 : (L_X8_rowsOf_r ht I A J it dyn x1) ≤ x2 => ?_) (fun c_29 : ¬ ((L_X8_rowsOf_r ht I A J it dyn x1) ≤ x2) => ?_)
          · refine fs_iconst (v := 0) dX8_there_36 rfl ?_
            have k9 := key_37
            try simp only [if_neg c_4, if_neg c_8, if_neg c_16, if_neg c_20, if_pos c_29] at k9 ⊢
            exact k9
          · refine fs_iconst (v := 1) dX8_there_32 rfl ?_
            refine fs_goto 37 dX8_there_33 (by decide) ?_
            have k9 := key_37
            try simp only [if_neg c_4, if_neg c_8, if_neg c_16, if_neg c_20, if_neg c_29] at k9 ⊢
            exact k9
theorem nb_X8_there (ht : Nat) (I : Nat → Int32) (A : Nat → Nat → Int32) (J : Nat → Nat → Int64) (it : Nat → Option Nat) (dyn : fsH) (x1 : Int32) (x2 : Int32) : narrow .boolean (.int (L_X8_there_r ht I A J it dyn x1 x2)) = .int (L_X8_there_r ht I A J it dyn x1 x2) := by
  unfold L_X8_there_r
  exact (by (repeat' split) <;> first | rfl)
def L_X8_get_r (ht : Nat) (I : Nat → Int32) (A : Nat → Nat → Int32) (J : Nat → Nat → Int64) (it : Nat → Option Nat) (dyn : fsH) (x1 : Int32) (x2 : Int32) : Int64 := (if (L_X8_there_r ht (upd I 8 0) A J it dyn x1 x2) = 0 then 0 else (if (A 16 x1.toNatClampNeg) = 0 then (if (A 31 ((4 * x1) + x2).toNatClampNeg) = 0 then (J 30 ((4 * x1) + x2).toNatClampNeg) else 0 : Int64) else 0 : Int64) : Int64)
def L_X8_get_I (ht : Nat) (I : Nat → Int32) (A : Nat → Nat → Int32) (J : Nat → Nat → Int64) (it : Nat → Option Nat) (dyn : fsH) (x1 : Int32) (x2 : Int32) : Nat → Int32 := (upd I 8 0)
def S_X8_get (ht : Nat) (I : Nat → Int32) (A : Nat → Nat → Int32) (J : Nat → Nat → Int64) (it : Nat → Option Nat) (dyn : fsH) (x1 : Int32) (x2 : Int32) : Prop := ((S_X8_there ht (upd I 8 0) A J it dyn x1 x2) ∧ (¬ ((L_X8_there_r ht (upd I 8 0) A J it dyn x1 x2) = 0) → ((vp_in x1 17) ∧ (((A 16 x1.toNatClampNeg) = 0) → ((vp_in ((4 * x1) + x2) 64) ∧ (((A 31 ((4 * x1) + x2).toNatClampNeg) = 0) → (vp_in ((4 * x1) + x2) 64)))))))
set_option maxRecDepth 100000 in
set_option maxHeartbeats 4000000 in
theorem c_X8_get (G : fsG) (l : Launch) (ht : Nat) (I : Nat → Int32) (A : Nat → Nat → Int32) (J : Nat → Nat → Int64) (it : Nat → Option Nat) (dyn : fsH) (x1 : Int32) (x2 : Int32) (hS : S_X8_get ht I A J it dyn x1 x2) : fsFn G l mX8_get 2 0 0 [.inr (.inr (some 14)), .inl x1, .inl x2] (fs_mk ht I A J it dyn) (some (.inr (.inl (L_X8_get_r ht I A J it dyn x1 x2)))) (fs_mk ht (L_X8_get_I ht I A J it dyn x1 x2) A J it dyn) := by
  refine fsMet_of (by decide) (Nat.le_of_ble_eq_true rfl) ?_
  generalize hQ : (fun (r1 : Option fsV) (h1 : fsH) => r1 = (some (.inr (.inl (L_X8_get_r ht I A J it dyn x1 x2)))) ∧ h1 = (fs_mk ht (L_X8_get_I ht I A J it dyn x1 x2) A J it dyn)) = Q
  have hq : Q (some (.inr (.inl (L_X8_get_r ht I A J it dyn x1 x2)))) (fs_mk ht (L_X8_get_I ht I A J it dyn x1 x2) A J it dyn) := by rw [← hQ]; exact ⟨rfl, rfl⟩
  clear hQ
  have hq : Q (some (.inr (.inl (if (L_X8_there_r ht (upd I 8 0) A J it dyn x1 x2) = 0 then 0 else (if (A 16 x1.toNatClampNeg) = 0 then (if (A 31 ((4 * x1) + x2).toNatClampNeg) = 0 then (J 30 ((4 * x1) + x2).toNatClampNeg) else 0 : Int64) else 0 : Int64) : Int64)))) (fs_mk ht (upd I 8 0) A J it dyn) := hq
  have hS : ((S_X8_there ht (upd I 8 0) A J it dyn x1 x2) ∧ (¬ ((L_X8_there_r ht (upd I 8 0) A J it dyn x1 x2) = 0) → ((vp_in x1 17) ∧ (((A 16 x1.toNatClampNeg) = 0) → ((vp_in ((4 * x1) + x2) 64) ∧ (((A 31 ((4 * x1) + x2).toNatClampNeg) = 0) → (vp_in ((4 * x1) + x2) 64))))))) := hS
  refine (show fsW G l mX8_get 2 0 0 0 0 Q 0 [(0, .inr (.inr (some 14))), (1, .inl x1), (2, .inl x2)] [] (fs_mk ht I A J it dyn) from ?_)
  refine fs_aload_n dX8_get_0 rfl rfl ?_
  refine fs_iconst (v := 0) dX8_get_1 rfl ?_
  refine fsp_8 dX8_get_2 sp_X8_98 ?_
  refine fs_aload_n dX8_get_5 rfl rfl ?_
  refine fs_iload_n dX8_get_6 rfl rfl ?_
  refine fs_iload_n dX8_get_7 rfl rfl ?_
  obtain ⟨ho1, hS⟩ := hS
  refine fs_callV1 dX8_get_8 sv_X8_269 rfl ⟨_, rfl, rfl⟩ (c_X8_there G l ht (upd I 8 0) A J it dyn x1 x2 ho1) rfl rfl (Nat.le_of_ble_eq_true rfl) (Nat.le_of_ble_eq_true rfl) (Nat.le_of_ble_eq_true rfl) (Nat.le_of_ble_eq_true rfl) ?_
  have hR_11 := hS
  have key_50 : fsW G l mX8_get 2 0 0 0 0 Q 50 [(0, .inr (.inr (some 14))), (1, .inl x1), (2, .inl x2)] [.inr (.inl (if (L_X8_there_r ht (upd I 8 0) A J it dyn x1 x2) = 0 then 0 else (if (A 16 x1.toNatClampNeg) = 0 then (if (A 31 ((4 * x1) + x2).toNatClampNeg) = 0 then (J 30 ((4 * x1) + x2).toNatClampNeg) else 0 : Int64) else 0 : Int64) : Int64))] (fs_mk ht (upd I 8 0) A J it dyn) := by
    have k9 := hq
    exact fs_lret dX8_get_50 rfl k9
  refine fs_if_eq 49 dX8_get_11 (by decide) (fun c_11 : (L_X8_there_r ht (upd I 8 0) A J it dyn x1 x2) = 0 => ?_) (fun c_11 : ¬ ((L_X8_there_r ht (upd I 8 0) A J it dyn x1 x2) = 0) => ?_)
  · refine fs_lconst (v := 0) dX8_get_49 rfl ?_
    have k9 := key_50
    try simp only [if_pos c_11] at k9 ⊢
    exact k9
  · have hS := hR_11 c_11
    refine fs_aload_n dX8_get_14 rfl rfl ?_
    refine fs_getfield (v := .inr (.inr (some 16))) dX8_get_15 sf_X8_20 rfl rfl ?_
    refine fs_iload_n dX8_get_18 rfl rfl ?_
    obtain ⟨ho1, hS⟩ := hS
    refine fs_iaload dX8_get_19 rfl ho1 ?_
    refine fs_if_ne 49 dX8_get_20 (by decide) (fun c_20 : ¬ (A 16 x1.toNatClampNeg) = 0 => ?_) (fun c_20 : (A 16 x1.toNatClampNeg) = 0 => ?_)
    · refine fs_lconst (v := 0) dX8_get_49 rfl ?_
      have k9 := key_50
      try simp only [if_neg c_11, if_neg c_20] at k9 ⊢
      exact k9
    · have hS := hS c_20
      refine fs_aload_n dX8_get_23 rfl rfl ?_
      refine fs_getfield (v := .inr (.inr (some 31))) dX8_get_24 sf_X8_68 rfl rfl ?_
      refine fs_iconst (v := 4) dX8_get_27 rfl ?_
      refine fs_iload_n dX8_get_28 rfl rfl ?_
      refine fs_imul dX8_get_29 ?_
      refine fs_iload_n dX8_get_30 rfl rfl ?_
      refine fs_iadd dX8_get_31 ?_
      obtain ⟨ho1, hS⟩ := hS
      refine fs_iaload dX8_get_32 rfl ho1 ?_
      refine fs_if_ne 49 dX8_get_33 (by decide) (fun c_33 : ¬ (A 31 ((4 * x1) + x2).toNatClampNeg) = 0 => ?_) (fun c_33 : (A 31 ((4 * x1) + x2).toNatClampNeg) = 0 => ?_)
      · refine fs_lconst (v := 0) dX8_get_49 rfl ?_
        have k9 := key_50
        try simp only [if_neg c_11, if_pos c_20, if_neg c_33] at k9 ⊢
        exact k9
      · have hS := hS c_33
        refine fs_aload_n dX8_get_36 rfl rfl ?_
        refine fs_getfield (v := .inr (.inr (some 30))) dX8_get_37 sf_X8_65 rfl rfl ?_
        refine fs_iconst (v := 4) dX8_get_40 rfl ?_
        refine fs_iload_n dX8_get_41 rfl rfl ?_
        refine fs_imul dX8_get_42 ?_
        refine fs_iload_n dX8_get_43 rfl rfl ?_
        refine fs_iadd dX8_get_44 ?_
        have ho1 := hS
        refine fs_laload dX8_get_45 rfl ho1 ?_
        refine fs_goto 50 dX8_get_46 (by decide) ?_
        have k9 := key_50
        try simp only [if_neg c_11, if_pos c_20, if_pos c_33] at k9 ⊢
        exact k9
def L_X8_message_r (ht : Nat) (I : Nat → Int32) (A : Nat → Nat → Int32) (J : Nat → Nat → Int64) (it : Nat → Option Nat) (dyn : fsH) (x1 : Int32) : Int32 := (if x1 = (-1) then (if (I 12) = 0 then 0 else (I 16) : Int32) else (if x1 < 0 then (-1) else (if (if (I 12) = 0 then 0 else (I 16) : Int32) ≤ x1 then (-1) else (A 37 x1.toNatClampNeg) : Int32) : Int32) : Int32)
def L_X8_message_I (ht : Nat) (I : Nat → Int32) (A : Nat → Nat → Int32) (J : Nat → Nat → Int64) (it : Nat → Option Nat) (dyn : fsH) (x1 : Int32) : Nat → Int32 := (upd I 8 0)
def S_X8_message (ht : Nat) (I : Nat → Int32) (A : Nat → Nat → Int32) (J : Nat → Nat → Int64) (it : Nat → Option Nat) (dyn : fsH) (x1 : Int32) : Prop := (¬ (x1 = (-1)) → (¬ (x1 < 0) → (¬ ((if (I 12) = 0 then 0 else (I 16) : Int32) ≤ x1) → (vp_in x1 64))))
set_option maxRecDepth 100000 in
set_option maxHeartbeats 4000000 in
theorem c_X8_message (G : fsG) (l : Launch) (ht : Nat) (I : Nat → Int32) (A : Nat → Nat → Int32) (J : Nat → Nat → Int64) (it : Nat → Option Nat) (dyn : fsH) (x1 : Int32) (hS : S_X8_message ht I A J it dyn x1) : fsFn G l mX8_message 0 0 0 [.inr (.inr (some 14)), .inl x1] (fs_mk ht I A J it dyn) (some (.inl (L_X8_message_r ht I A J it dyn x1))) (fs_mk ht (L_X8_message_I ht I A J it dyn x1) A J it dyn) := by
  refine fsMet_of (by decide) (Nat.le_of_ble_eq_true rfl) ?_
  generalize hQ : (fun (r1 : Option fsV) (h1 : fsH) => r1 = (some (.inl (L_X8_message_r ht I A J it dyn x1))) ∧ h1 = (fs_mk ht (L_X8_message_I ht I A J it dyn x1) A J it dyn)) = Q
  have hq : Q (some (.inl (L_X8_message_r ht I A J it dyn x1))) (fs_mk ht (L_X8_message_I ht I A J it dyn x1) A J it dyn) := by rw [← hQ]; exact ⟨rfl, rfl⟩
  clear hQ
  have hq : Q (some (.inl (if x1 = (-1) then (if (I 12) = 0 then 0 else (I 16) : Int32) else (if x1 < 0 then (-1) else (if (if (I 12) = 0 then 0 else (I 16) : Int32) ≤ x1 then (-1) else (A 37 x1.toNatClampNeg) : Int32) : Int32) : Int32))) (fs_mk ht (upd I 8 0) A J it dyn) := hq
  have hS : (¬ (x1 = (-1)) → (¬ (x1 < 0) → (¬ ((if (I 12) = 0 then 0 else (I 16) : Int32) ≤ x1) → (vp_in x1 64)))) := hS
  refine (show fsW G l mX8_message 0 0 0 0 0 Q 0 [(0, .inr (.inr (some 14))), (1, .inl x1)] [] (fs_mk ht I A J it dyn) from ?_)
  refine fs_aload_n dX8_message_0 rfl rfl ?_
  refine fs_iconst (v := 0) dX8_message_1 rfl ?_
  refine fsp_8 dX8_message_2 sp_X8_98 ?_
  refine fs_aload_n dX8_message_5 rfl rfl ?_
  refine fs_getfield (v := .inl (I 12)) dX8_message_6 sf_X8_164 rfl rfl ?_
  have key_20 : fsW G l mX8_message 0 0 0 0 0 Q 20 [(0, .inr (.inr (some 14))), (1, .inl x1)] [.inl (if (I 12) = 0 then 0 else (I 16) : Int32)] (fs_mk ht (upd I 8 0) A J it dyn) := by
    refine fs_istore_n (L' := [(2, .inl (if (I 12) = 0 then 0 else (I 16) : Int32)), (0, .inr (.inr (some 14))), (1, .inl x1)]) dX8_message_20 rfl (by decide) rfl ?_
    refine fs_iload_n dX8_message_21 rfl rfl ?_
    refine fs_iconst (v := (-1)) dX8_message_22 rfl ?_
    have hR_23 := hS
    have key_49 : fsW G l mX8_message 0 0 0 0 0 Q 49 [(0, .inr (.inr (some 14))), (1, .inl x1), (2, .inl (if (I 12) = 0 then 0 else (I 16) : Int32))] [.inl (if x1 = (-1) then (if (I 12) = 0 then 0 else (I 16) : Int32) else (if x1 < 0 then (-1) else (if (if (I 12) = 0 then 0 else (I 16) : Int32) ≤ x1 then (-1) else (A 37 x1.toNatClampNeg) : Int32) : Int32) : Int32)] (fs_mk ht (upd I 8 0) A J it dyn) := by
      have k9 := hq
      exact fs_iret dX8_message_49 rfl rfl k9
    refine fs_icmp_ne 30 dX8_message_23 (by decide) (fun c_23 : ¬ x1 = (-1) => ?_) (fun c_23 : x1 = (-1) => ?_)
    · have hS := hR_23 c_23
      refine fs_iload_n dX8_message_30 rfl rfl ?_
      refine fs_if_lt 48 dX8_message_31 (by decide) (fun c_31 : x1 < 0 => ?_) (fun c_31 : ¬ (x1 < 0) => ?_)
      · refine fs_iconst (v := (-1)) dX8_message_48 rfl ?_
        refine fs_reL [1, 2, 0] rfl ?_
        have k9 := key_49
        try simp only [if_neg c_23, if_pos c_31] at k9 ⊢
        exact k9
      · have hS := hS c_31
        refine fs_iload_n dX8_message_34 rfl rfl ?_
        refine fs_iload_n dX8_message_35 rfl rfl ?_
        refine fs_icmp_ge 48 dX8_message_36 (by decide) (fun c_36 : (if (I 12) = 0 then 0 else (I 16) : Int32) ≤ x1 => ?_) (fun c_36 : ¬ ((if (I 12) = 0 then 0 else (I 16) : Int32) ≤ x1) => ?_)
        · refine fs_iconst (v := (-1)) dX8_message_48 rfl ?_
          refine fs_reL [1, 2, 0] rfl ?_
          have k9 := key_49
          try simp only [if_neg c_23, if_neg c_31, if_pos c_36] at k9 ⊢
          exact k9
        · have hS := hS c_36
          refine fs_aload_n dX8_message_39 rfl rfl ?_
          refine fs_getfield (v := .inr (.inr (some 37))) dX8_message_40 sf_X8_86 rfl rfl ?_
          refine fs_iload_n dX8_message_43 rfl rfl ?_
          have ho1 := hS
          refine fs_iaload dX8_message_44 rfl ho1 ?_
          refine fs_goto 49 dX8_message_45 (by decide) ?_
          refine fs_reL [1, 2, 0] rfl ?_
          have k9 := key_49
          try simp only [if_neg c_23, if_neg c_31, if_neg c_36] at k9 ⊢
          exact k9
    · refine fs_iload_n dX8_message_26 rfl rfl ?_
      refine fs_goto 49 dX8_message_27 (by decide) ?_
      refine fs_reL [1, 2, 0] rfl ?_
      have k9 := key_49
      try simp only [if_pos c_23] at k9 ⊢
      exact k9
  refine fs_if_eq 19 dX8_message_9 (by decide) (fun c_9 : (I 12) = 0 => ?_) (fun c_9 : ¬ ((I 12) = 0) => ?_)
  · refine fs_iconst (v := 0) dX8_message_19 rfl ?_
    have k9 := key_20
    try simp only [if_pos c_9] at k9 ⊢
    exact k9
  · refine fs_aload_n dX8_message_12 rfl rfl ?_
    refine fs_getfield (v := .inl (I 16)) dX8_message_13 sf_X8_263 rfl rfl ?_
    refine fs_goto 20 dX8_message_16 (by decide) ?_
    have k9 := key_20
    try simp only [if_neg c_9] at k9 ⊢
    exact k9
def L_X8_place_r (ht : Nat) (I : Nat → Int32) (A : Nat → Nat → Int32) (J : Nat → Nat → Int64) (it : Nat → Option Nat) (dyn : fsH) (x1 : Int32) (x2 : Int32) : Int32 := (if (L_X8_there_r ht (upd I 8 0) A J it dyn x1 x2) = 0 then (-1) else (A 38 ((4 * x1) + x2).toNatClampNeg) : Int32)
def L_X8_place_I (ht : Nat) (I : Nat → Int32) (A : Nat → Nat → Int32) (J : Nat → Nat → Int64) (it : Nat → Option Nat) (dyn : fsH) (x1 : Int32) (x2 : Int32) : Nat → Int32 := (upd I 8 0)
def S_X8_place (ht : Nat) (I : Nat → Int32) (A : Nat → Nat → Int32) (J : Nat → Nat → Int64) (it : Nat → Option Nat) (dyn : fsH) (x1 : Int32) (x2 : Int32) : Prop := ((S_X8_there ht (upd I 8 0) A J it dyn x1 x2) ∧ (¬ ((L_X8_there_r ht (upd I 8 0) A J it dyn x1 x2) = 0) → (vp_in ((4 * x1) + x2) 68)))
set_option maxRecDepth 100000 in
set_option maxHeartbeats 4000000 in
theorem c_X8_place (G : fsG) (l : Launch) (ht : Nat) (I : Nat → Int32) (A : Nat → Nat → Int32) (J : Nat → Nat → Int64) (it : Nat → Option Nat) (dyn : fsH) (x1 : Int32) (x2 : Int32) (hS : S_X8_place ht I A J it dyn x1 x2) : fsFn G l mX8_place 2 0 0 [.inr (.inr (some 14)), .inl x1, .inl x2] (fs_mk ht I A J it dyn) (some (.inl (L_X8_place_r ht I A J it dyn x1 x2))) (fs_mk ht (L_X8_place_I ht I A J it dyn x1 x2) A J it dyn) := by
  refine fsMet_of (by decide) (Nat.le_of_ble_eq_true rfl) ?_
  generalize hQ : (fun (r1 : Option fsV) (h1 : fsH) => r1 = (some (.inl (L_X8_place_r ht I A J it dyn x1 x2))) ∧ h1 = (fs_mk ht (L_X8_place_I ht I A J it dyn x1 x2) A J it dyn)) = Q
  have hq : Q (some (.inl (L_X8_place_r ht I A J it dyn x1 x2))) (fs_mk ht (L_X8_place_I ht I A J it dyn x1 x2) A J it dyn) := by rw [← hQ]; exact ⟨rfl, rfl⟩
  clear hQ
  have hq : Q (some (.inl (if (L_X8_there_r ht (upd I 8 0) A J it dyn x1 x2) = 0 then (-1) else (A 38 ((4 * x1) + x2).toNatClampNeg) : Int32))) (fs_mk ht (upd I 8 0) A J it dyn) := hq
  have hS : ((S_X8_there ht (upd I 8 0) A J it dyn x1 x2) ∧ (¬ ((L_X8_there_r ht (upd I 8 0) A J it dyn x1 x2) = 0) → (vp_in ((4 * x1) + x2) 68))) := hS
  refine (show fsW G l mX8_place 2 0 0 0 0 Q 0 [(0, .inr (.inr (some 14))), (1, .inl x1), (2, .inl x2)] [] (fs_mk ht I A J it dyn) from ?_)
  refine fs_aload_n dX8_place_0 rfl rfl ?_
  refine fs_iconst (v := 0) dX8_place_1 rfl ?_
  refine fsp_8 dX8_place_2 sp_X8_98 ?_
  refine fs_aload_n dX8_place_5 rfl rfl ?_
  refine fs_iload_n dX8_place_6 rfl rfl ?_
  refine fs_iload_n dX8_place_7 rfl rfl ?_
  obtain ⟨ho1, hS⟩ := hS
  refine fs_callV1 dX8_place_8 sv_X8_269 rfl ⟨_, rfl, rfl⟩ (c_X8_there G l ht (upd I 8 0) A J it dyn x1 x2 ho1) rfl rfl (Nat.le_of_ble_eq_true rfl) (Nat.le_of_ble_eq_true rfl) (Nat.le_of_ble_eq_true rfl) (Nat.le_of_ble_eq_true rfl) ?_
  have hR_11 := hS
  have key_28 : fsW G l mX8_place 2 0 0 0 0 Q 28 [(0, .inr (.inr (some 14))), (1, .inl x1), (2, .inl x2)] [.inl (if (L_X8_there_r ht (upd I 8 0) A J it dyn x1 x2) = 0 then (-1) else (A 38 ((4 * x1) + x2).toNatClampNeg) : Int32)] (fs_mk ht (upd I 8 0) A J it dyn) := by
    have k9 := hq
    exact fs_iret dX8_place_28 rfl rfl k9
  refine fs_if_eq 27 dX8_place_11 (by decide) (fun c_11 : (L_X8_there_r ht (upd I 8 0) A J it dyn x1 x2) = 0 => ?_) (fun c_11 : ¬ ((L_X8_there_r ht (upd I 8 0) A J it dyn x1 x2) = 0) => ?_)
  · refine fs_iconst (v := (-1)) dX8_place_27 rfl ?_
    have k9 := key_28
    try simp only [if_pos c_11] at k9 ⊢
    exact k9
  · have hS := hR_11 c_11
    refine fs_aload_n dX8_place_14 rfl rfl ?_
    refine fs_getfield (v := .inr (.inr (some 38))) dX8_place_15 sf_X8_89 rfl rfl ?_
    refine fs_iconst (v := 4) dX8_place_18 rfl ?_
    refine fs_iload_n dX8_place_19 rfl rfl ?_
    refine fs_imul dX8_place_20 ?_
    refine fs_iload_n dX8_place_21 rfl rfl ?_
    refine fs_iadd dX8_place_22 ?_
    have ho1 := hS
    refine fs_iaload dX8_place_23 rfl ho1 ?_
    refine fs_goto 28 dX8_place_24 (by decide) ?_
    have k9 := key_28
    try simp only [if_neg c_11] at k9 ⊢
    exact k9
def L_X8_pages_r (ht : Nat) (I : Nat → Int32) (A : Nat → Nat → Int32) (J : Nat → Nat → Int64) (it : Nat → Option Nat) (dyn : fsH)  : Int32 := (if (I 12) = 0 then 0 else (I 19) : Int32)
def L_X8_pages_I (ht : Nat) (I : Nat → Int32) (A : Nat → Nat → Int32) (J : Nat → Nat → Int64) (it : Nat → Option Nat) (dyn : fsH)  : Nat → Int32 := (upd I 8 0)
set_option maxRecDepth 100000 in
set_option maxHeartbeats 4000000 in
theorem c_X8_pages (G : fsG) (l : Launch) (ht : Nat) (I : Nat → Int32) (A : Nat → Nat → Int32) (J : Nat → Nat → Int64) (it : Nat → Option Nat) (dyn : fsH)  : fsFn G l mX8_pages 0 0 0 [.inr (.inr (some 14))] (fs_mk ht I A J it dyn) (some (.inl (L_X8_pages_r ht I A J it dyn ))) (fs_mk ht (L_X8_pages_I ht I A J it dyn ) A J it dyn) := by
  refine fsMet_of (by decide) (Nat.le_of_ble_eq_true rfl) ?_
  generalize hQ : (fun (r1 : Option fsV) (h1 : fsH) => r1 = (some (.inl (L_X8_pages_r ht I A J it dyn ))) ∧ h1 = (fs_mk ht (L_X8_pages_I ht I A J it dyn ) A J it dyn)) = Q
  have hq : Q (some (.inl (L_X8_pages_r ht I A J it dyn ))) (fs_mk ht (L_X8_pages_I ht I A J it dyn ) A J it dyn) := by rw [← hQ]; exact ⟨rfl, rfl⟩
  clear hQ
  have hq : Q (some (.inl (if (I 12) = 0 then 0 else (I 19) : Int32))) (fs_mk ht (upd I 8 0) A J it dyn) := hq
  refine (show fsW G l mX8_pages 0 0 0 0 0 Q 0 [(0, .inr (.inr (some 14)))] [] (fs_mk ht I A J it dyn) from ?_)
  refine fs_aload_n dX8_pages_0 rfl rfl ?_
  refine fs_iconst (v := 0) dX8_pages_1 rfl ?_
  refine fsp_8 dX8_pages_2 sp_X8_98 ?_
  refine fs_aload_n dX8_pages_5 rfl rfl ?_
  refine fs_getfield (v := .inl (I 12)) dX8_pages_6 sf_X8_164 rfl rfl ?_
  have key_20 : fsW G l mX8_pages 0 0 0 0 0 Q 20 [(0, .inr (.inr (some 14)))] [.inl (if (I 12) = 0 then 0 else (I 19) : Int32)] (fs_mk ht (upd I 8 0) A J it dyn) := by
    have k9 := hq
    exact fs_iret dX8_pages_20 rfl rfl k9
  refine fs_if_eq 19 dX8_pages_9 (by decide) (fun c_9 : (I 12) = 0 => ?_) (fun c_9 : ¬ ((I 12) = 0) => ?_)
  · refine fs_iconst (v := 0) dX8_pages_19 rfl ?_
    have k9 := key_20
    try simp only [if_pos c_9] at k9 ⊢
    exact k9
  · refine fs_aload_n dX8_pages_12 rfl rfl ?_
    refine fs_getfield (v := .inl (I 19)) dX8_pages_13 sf_X8_250 rfl rfl ?_
    refine fs_goto 20 dX8_pages_16 (by decide) ?_
    have k9 := key_20
    try simp only [if_neg c_9] at k9 ⊢
    exact k9
def L_X8_line_r (ht : Nat) (I : Nat → Int32) (A : Nat → Nat → Int32) (J : Nat → Nat → Int64) (it : Nat → Option Nat) (dyn : fsH) (x1 : Int32) (x2 : Int32) : Int32 := (if (I 12) = 0 then (-1) else (if x1 < 0 then (-1) else (if 80 ≤ x1 then (-1) else (if x2 < 0 then (-1) else (if (nI ht) ≤ x2 then (-1) else (A 39 ((32 * x1) + x2).toNatClampNeg) : Int32) : Int32) : Int32) : Int32) : Int32)
def L_X8_line_I (ht : Nat) (I : Nat → Int32) (A : Nat → Nat → Int32) (J : Nat → Nat → Int64) (it : Nat → Option Nat) (dyn : fsH) (x1 : Int32) (x2 : Int32) : Nat → Int32 := (upd I 8 0)
def S_X8_line (ht : Nat) (I : Nat → Int32) (A : Nat → Nat → Int32) (J : Nat → Nat → Int64) (it : Nat → Option Nat) (dyn : fsH) (x1 : Int32) (x2 : Int32) : Prop := (¬ ((I 12) = 0) → (¬ (x1 < 0) → (¬ (80 ≤ x1) → (¬ (x2 < 0) → (¬ ((nI ht) ≤ x2) → (vp_in ((32 * x1) + x2) 2560))))))
set_option maxRecDepth 100000 in
set_option maxHeartbeats 4000000 in
theorem c_X8_line (G : fsG) (l : Launch) (ht : Nat) (I : Nat → Int32) (A : Nat → Nat → Int32) (J : Nat → Nat → Int64) (it : Nat → Option Nat) (dyn : fsH) (x1 : Int32) (x2 : Int32) (hS : S_X8_line ht I A J it dyn x1 x2) : fsFn G l mX8_line 0 0 0 [.inr (.inr (some 14)), .inl x1, .inl x2] (fs_mk ht I A J it dyn) (some (.inl (L_X8_line_r ht I A J it dyn x1 x2))) (fs_mk ht (L_X8_line_I ht I A J it dyn x1 x2) A J it dyn) := by
  refine fsMet_of (by decide) (Nat.le_of_ble_eq_true rfl) ?_
  generalize hQ : (fun (r1 : Option fsV) (h1 : fsH) => r1 = (some (.inl (L_X8_line_r ht I A J it dyn x1 x2))) ∧ h1 = (fs_mk ht (L_X8_line_I ht I A J it dyn x1 x2) A J it dyn)) = Q
  have hq : Q (some (.inl (L_X8_line_r ht I A J it dyn x1 x2))) (fs_mk ht (L_X8_line_I ht I A J it dyn x1 x2) A J it dyn) := by rw [← hQ]; exact ⟨rfl, rfl⟩
  clear hQ
  have hq : Q (some (.inl (if (I 12) = 0 then (-1) else (if x1 < 0 then (-1) else (if 80 ≤ x1 then (-1) else (if x2 < 0 then (-1) else (if (nI ht) ≤ x2 then (-1) else (A 39 ((32 * x1) + x2).toNatClampNeg) : Int32) : Int32) : Int32) : Int32) : Int32))) (fs_mk ht (upd I 8 0) A J it dyn) := hq
  have hS : (¬ ((I 12) = 0) → (¬ (x1 < 0) → (¬ (80 ≤ x1) → (¬ (x2 < 0) → (¬ ((nI ht) ≤ x2) → (vp_in ((32 * x1) + x2) 2560)))))) := hS
  refine (show fsW G l mX8_line 0 0 0 0 0 Q 0 [(0, .inr (.inr (some 14))), (1, .inl x1), (2, .inl x2)] [] (fs_mk ht I A J it dyn) from ?_)
  refine fs_aload_n dX8_line_0 rfl rfl ?_
  refine fs_iconst (v := 0) dX8_line_1 rfl ?_
  refine fsp_8 dX8_line_2 sp_X8_98 ?_
  refine fs_aload_n dX8_line_5 rfl rfl ?_
  refine fs_getfield (v := .inl (I 12)) dX8_line_6 sf_X8_164 rfl rfl ?_
  have hR_9 := hS
  have key_49 : fsW G l mX8_line 0 0 0 0 0 Q 49 [(0, .inr (.inr (some 14))), (1, .inl x1), (2, .inl x2)] [.inl (if (I 12) = 0 then (-1) else (if x1 < 0 then (-1) else (if 80 ≤ x1 then (-1) else (if x2 < 0 then (-1) else (if (nI ht) ≤ x2 then (-1) else (A 39 ((32 * x1) + x2).toNatClampNeg) : Int32) : Int32) : Int32) : Int32) : Int32)] (fs_mk ht (upd I 8 0) A J it dyn) := by
    have k9 := hq
    exact fs_iret dX8_line_49 rfl rfl k9
  refine fs_if_eq 48 dX8_line_9 (by decide) (fun c_9 : (I 12) = 0 => ?_) (fun c_9 : ¬ ((I 12) = 0) => ?_)
  · refine fs_iconst (v := (-1)) dX8_line_48 rfl ?_
    have k9 := key_49
    try simp only [if_pos c_9] at k9 ⊢
    exact k9
  · have hS := hR_9 c_9
    refine fs_iload_n dX8_line_12 rfl rfl ?_
    refine fs_if_lt 48 dX8_line_13 (by decide) (fun c_13 : x1 < 0 => ?_) (fun c_13 : ¬ (x1 < 0) => ?_)
    · refine fs_iconst (v := (-1)) dX8_line_48 rfl ?_
      have k9 := key_49
      try simp only [if_neg c_9, if_pos c_13] at k9 ⊢
      exact k9
    · have hS := hS c_13
      refine fs_iload_n dX8_line_16 rfl rfl ?_
      refine fs_bipush (v := 80) dX8_line_17 rfl ?_
      refine fs_icmp_ge 48 dX8_line_19 (by decide) (fun c_19 : 80 ≤ x1 => ?_) (fun c_19 : ¬ (80 ≤ x1) => ?_)
      · refine fs_iconst (v := (-1)) dX8_line_48 rfl ?_
        have k9 := key_49
        try simp only [if_neg c_9, if_neg c_13, if_pos c_19] at k9 ⊢
        exact k9
      · have hS := hS c_19
        refine fs_iload_n dX8_line_22 rfl rfl ?_
        refine fs_if_lt 48 dX8_line_23 (by decide) (fun c_23 : x2 < 0 => ?_) (fun c_23 : ¬ (x2 < 0) => ?_)
        · refine fs_iconst (v := (-1)) dX8_line_48 rfl ?_
          have k9 := key_49
          try simp only [if_neg c_9, if_neg c_13, if_neg c_19, if_pos c_23] at k9 ⊢
          exact k9
        · have hS := hS c_23
          refine fs_iload_n dX8_line_26 rfl rfl ?_
          refine fs_aload_n dX8_line_27 rfl rfl ?_
          refine fs_getfield (v := .inl (nI ht)) dX8_line_28 sf_X8_95 rfl rfl ?_
          refine fs_icmp_ge 48 dX8_line_31 (by decide) (fun c_31 : (nI ht) ≤ x2 => ?_) (fun c_31 : ¬ ((nI ht) ≤ x2) => ?_)
          · refine fs_iconst (v := (-1)) dX8_line_48 rfl ?_
            have k9 := key_49
            try simp only [if_neg c_9, if_neg c_13, if_neg c_19, if_neg c_23, if_pos c_31] at k9 ⊢
            exact k9
          · have hS := hS c_31
            refine fs_aload_n dX8_line_34 rfl rfl ?_
            refine fs_getfield (v := .inr (.inr (some 39))) dX8_line_35 sf_X8_92 rfl rfl ?_
            refine fs_bipush (v := 32) dX8_line_38 rfl ?_
            refine fs_iload_n dX8_line_40 rfl rfl ?_
            refine fs_imul dX8_line_41 ?_
            refine fs_iload_n dX8_line_42 rfl rfl ?_
            refine fs_iadd dX8_line_43 ?_
            have ho1 := hS
            refine fs_iaload dX8_line_44 rfl ho1 ?_
            refine fs_goto 49 dX8_line_45 (by decide) ?_
            have k9 := key_49
            try simp only [if_neg c_9, if_neg c_13, if_neg c_19, if_neg c_23, if_neg c_31] at k9 ⊢
            exact k9
def Lb_X8_count_14_v2 : Nat → Nat → (Nat → Int32) → (Nat → Nat → Int32) → (Nat → Nat → Int64) → (Nat → Option Nat) → fsH → Int32 → Int32 → Int32 → Int32
  | 0, ht, I, A, J, it, dyn, v1, v2, v3 => v2
  | n + 1, ht, I, A, J, it, dyn, v1, v2, v3 => (if 64 ≤ v3 then v2 else (if (I 12) = 0 then v2 else (Lb_X8_count_14_v2 n ht I A J it dyn v1 (if (A 31 v3.toNatClampNeg) = 0 then v2 else (v2 + 1) : Int32) (v3 + 1))))
def Lb_X8_count_14_v3 : Nat → Nat → (Nat → Int32) → (Nat → Nat → Int32) → (Nat → Nat → Int64) → (Nat → Option Nat) → fsH → Int32 → Int32 → Int32 → Int32
  | 0, ht, I, A, J, it, dyn, v1, v2, v3 => v3
  | n + 1, ht, I, A, J, it, dyn, v1, v2, v3 => (if 64 ≤ v3 then v3 else (if (I 12) = 0 then v3 else (Lb_X8_count_14_v3 n ht I A J it dyn v1 (if (A 31 v3.toNatClampNeg) = 0 then v2 else (v2 + 1) : Int32) (v3 + 1))))
def S_Lb_X8_count_14 : Nat → Nat → (Nat → Int32) → (Nat → Nat → Int32) → (Nat → Nat → Int64) → (Nat → Option Nat) → fsH → Int32 → Int32 → Int32 → Prop
  | 0, _, _, _, _, _, _, _, _, _ => False
  | n + 1, ht, I, A, J, it, dyn, v1, v2, v3 => (¬ (64 ≤ v3) → (¬ ((I 12) = 0) → ((vp_in v3 64) ∧ (S_Lb_X8_count_14 n ht I A J it dyn v1 (if (A 31 v3.toNatClampNeg) = 0 then v2 else (v2 + 1) : Int32) (v3 + 1)))))
set_option maxRecDepth 100000 in
set_option maxHeartbeats 4000000 in
theorem lp_Lb_X8_count_14 (G : fsG) (l : Launch) (Q : Option fsV → fsH → Prop) : ∀ (n : Nat) (ht : Nat) (I : Nat → Int32) (A : Nat → Nat → Int32) (J : Nat → Nat → Int64) (it : Nat → Option Nat) (dyn : fsH) (v1 : Int32) (v2 : Int32) (v3 : Int32), S_Lb_X8_count_14 n ht I A J it dyn v1 v2 v3 → (fsW G l mX8_count 0 0 0 0 0 Q 50 [(0, .inr (.inr (some 14))), (1, .inl v1), (2, .inl (Lb_X8_count_14_v2 n ht I A J it dyn v1 v2 v3)), (3, .inl (Lb_X8_count_14_v3 n ht I A J it dyn v1 v2 v3))] [] (fs_mk ht I A J it dyn)) → fsW G l mX8_count 0 0 0 0 0 Q 14 [(0, .inr (.inr (some 14))), (1, .inl v1), (2, .inl v2), (3, .inl v3)] [] (fs_mk ht I A J it dyn) := by
  intro n
  induction n with
  | zero =>
    intro ht I A J it dyn v1 v2 v3 hS
    exact hS.elim
  | succ n ih =>
    intro ht I A J it dyn v1 v2 v3 hS hq
    have hS : (¬ (64 ≤ v3) → (¬ ((I 12) = 0) → ((vp_in v3 64) ∧ (S_Lb_X8_count_14 n ht I A J it dyn v1 (if (A 31 v3.toNatClampNeg) = 0 then v2 else (v2 + 1) : Int32) (v3 + 1))))) := hS
    have hq : fsW G l mX8_count 0 0 0 0 0 Q 50 [(0, .inr (.inr (some 14))), (1, .inl v1), (2, .inl (if 64 ≤ v3 then v2 else (if (I 12) = 0 then v2 else (Lb_X8_count_14_v2 n ht I A J it dyn v1 (if (A 31 v3.toNatClampNeg) = 0 then v2 else (v2 + 1) : Int32) (v3 + 1))))), (3, .inl (if 64 ≤ v3 then v3 else (if (I 12) = 0 then v3 else (Lb_X8_count_14_v3 n ht I A J it dyn v1 (if (A 31 v3.toNatClampNeg) = 0 then v2 else (v2 + 1) : Int32) (v3 + 1)))))] [] (fs_mk ht I A J it dyn) := hq
    refine fs_iload_n dX8_count_14 rfl rfl ?_
    refine fs_bipush (v := 64) dX8_count_15 rfl ?_
    refine fs_icmp_ge 50 dX8_count_17 (by decide) (fun c_17 : 64 ≤ v3 => ?_) (fun c_17 : ¬ (64 ≤ v3) => ?_)
    · have k9 := hq
      try simp only [if_pos c_17] at k9 ⊢
      exact k9
    · have hS := hS c_17
      refine fs_aload_n dX8_count_20 rfl rfl ?_
      refine fs_getfield (v := .inl (I 12)) dX8_count_21 sf_X8_164 rfl rfl ?_
      refine fs_if_eq 50 dX8_count_24 (by decide) (fun c_24 : (I 12) = 0 => ?_) (fun c_24 : ¬ ((I 12) = 0) => ?_)
      · have k9 := hq
        try simp only [if_neg c_17, if_pos c_24] at k9 ⊢
        exact k9
      · have hS := hS c_24
        refine fs_aload_n dX8_count_27 rfl rfl ?_
        refine fs_getfield (v := .inr (.inr (some 31))) dX8_count_28 sf_X8_68 rfl rfl ?_
        refine fs_iload_n dX8_count_31 rfl rfl ?_
        obtain ⟨ho1, hS⟩ := hS
        refine fs_iaload dX8_count_32 rfl ho1 ?_
        have key_43 : fsW G l mX8_count 0 0 0 0 0 Q 43 [(0, .inr (.inr (some 14))), (1, .inl v1), (2, .inl v2), (3, .inl v3)] [.inl (if (A 31 v3.toNatClampNeg) = 0 then v2 else (v2 + 1) : Int32)] (fs_mk ht I A J it dyn) := by
          refine fs_istore_n (L' := [(2, .inl (if (A 31 v3.toNatClampNeg) = 0 then v2 else (v2 + 1) : Int32)), (0, .inr (.inr (some 14))), (1, .inl v1), (3, .inl v3)]) dX8_count_43 rfl (by decide) rfl ?_
          refine fs_iinc (v := (v3 + 1)) (L' := [(3, .inl (v3 + 1)), (2, .inl (if (A 31 v3.toNatClampNeg) = 0 then v2 else (v2 + 1) : Int32)), (0, .inr (.inr (some 14))), (1, .inl v1)]) dX8_count_44 rfl rfl (by decide) rfl ?_
          refine fs_goto 14 dX8_count_47 (by decide) ?_
          refine fs_reL [2, 3, 1, 0] rfl ?_
          have k9 := hq
          try simp only [if_neg c_17, if_neg c_24] at hS k9 ⊢
          exact ih _ _ _ _ _ _ _ _ _ hS k9
        refine fs_if_eq 42 dX8_count_33 (by decide) (fun c_33 : (A 31 v3.toNatClampNeg) = 0 => ?_) (fun c_33 : ¬ ((A 31 v3.toNatClampNeg) = 0) => ?_)
        · refine fs_iload_n dX8_count_42 rfl rfl ?_
          have k9 := key_43
          try simp only [if_neg c_17, if_neg c_24, if_pos c_33] at k9 ⊢
          exact k9
        · refine fs_iload_n dX8_count_36 rfl rfl ?_
          refine fs_iconst (v := 1) dX8_count_37 rfl ?_
          refine fs_iadd dX8_count_38 ?_
          refine fs_goto 43 dX8_count_39 (by decide) ?_
          have k9 := key_43
          try simp only [if_neg c_17, if_neg c_24, if_neg c_33] at k9 ⊢
          exact k9
def L_X8_count_r (ht : Nat) (I : Nat → Int32) (A : Nat → Nat → Int32) (J : Nat → Nat → Int64) (it : Nat → Option Nat) (dyn : fsH) (x1 : Int32) : Int32 := (if x1 = 4 then (Lb_X8_count_14_v2 70 ht (upd I 8 0) A J it dyn x1 0 0) else (if x1 = 0 then (I 13) else (if x1 = 1 then (I 11) else (if x1 = 2 then (nI ht) else (if x1 = 3 then (if (I 12) = 0 then 0 else 1 : Int32) else (-1) : Int32) : Int32) : Int32) : Int32))
def L_X8_count_I (ht : Nat) (I : Nat → Int32) (A : Nat → Nat → Int32) (J : Nat → Nat → Int64) (it : Nat → Option Nat) (dyn : fsH) (x1 : Int32) : Nat → Int32 := (upd I 8 0)
def S_X8_count (ht : Nat) (I : Nat → Int32) (A : Nat → Nat → Int32) (J : Nat → Nat → Int64) (it : Nat → Option Nat) (dyn : fsH) (x1 : Int32) : Prop := ((x1 = 4) → (S_Lb_X8_count_14 70 ht (upd I 8 0) A J it dyn x1 0 0))
set_option maxRecDepth 100000 in
set_option maxHeartbeats 4000000 in
theorem c_X8_count (G : fsG) (l : Launch) (ht : Nat) (I : Nat → Int32) (A : Nat → Nat → Int32) (J : Nat → Nat → Int64) (it : Nat → Option Nat) (dyn : fsH) (x1 : Int32) (hS : S_X8_count ht I A J it dyn x1) : fsFn G l mX8_count 0 0 0 [.inr (.inr (some 14)), .inl x1] (fs_mk ht I A J it dyn) (some (.inl (L_X8_count_r ht I A J it dyn x1))) (fs_mk ht (L_X8_count_I ht I A J it dyn x1) A J it dyn) := by
  refine fsMet_of (by decide) (Nat.le_of_ble_eq_true rfl) ?_
  generalize hQ : (fun (r1 : Option fsV) (h1 : fsH) => r1 = (some (.inl (L_X8_count_r ht I A J it dyn x1))) ∧ h1 = (fs_mk ht (L_X8_count_I ht I A J it dyn x1) A J it dyn)) = Q
  have hq : Q (some (.inl (L_X8_count_r ht I A J it dyn x1))) (fs_mk ht (L_X8_count_I ht I A J it dyn x1) A J it dyn) := by rw [← hQ]; exact ⟨rfl, rfl⟩
  clear hQ
  have hq : Q (some (.inl (if x1 = 4 then (Lb_X8_count_14_v2 70 ht (upd I 8 0) A J it dyn x1 0 0) else (if x1 = 0 then (I 13) else (if x1 = 1 then (I 11) else (if x1 = 2 then (nI ht) else (if x1 = 3 then (if (I 12) = 0 then 0 else 1 : Int32) else (-1) : Int32) : Int32) : Int32) : Int32)))) (fs_mk ht (upd I 8 0) A J it dyn) := hq
  have hS : ((x1 = 4) → (S_Lb_X8_count_14 70 ht (upd I 8 0) A J it dyn x1 0 0)) := hS
  refine (show fsW G l mX8_count 0 0 0 0 0 Q 0 [(0, .inr (.inr (some 14))), (1, .inl x1)] [] (fs_mk ht I A J it dyn) from ?_)
  refine fs_aload_n dX8_count_0 rfl rfl ?_
  refine fs_iconst (v := 0) dX8_count_1 rfl ?_
  refine fsp_8 dX8_count_2 sp_X8_98 ?_
  refine fs_iload_n dX8_count_5 rfl rfl ?_
  refine fs_iconst (v := 4) dX8_count_6 rfl ?_
  refine fs_icmp_ne 52 dX8_count_7 (by decide) (fun c_7 : ¬ x1 = 4 => ?_) (fun c_7 : x1 = 4 => ?_)
  · refine fs_iload_n dX8_count_52 rfl rfl ?_
    have key_108 : fsW G l mX8_count 0 0 0 0 0 Q 108 [(0, .inr (.inr (some 14))), (1, .inl x1)] [.inl (if x1 = 0 then (I 13) else (if x1 = 1 then (I 11) else (if x1 = 2 then (nI ht) else (if x1 = 3 then (if (I 12) = 0 then 0 else 1 : Int32) else (-1) : Int32) : Int32) : Int32) : Int32)] (fs_mk ht (upd I 8 0) A J it dyn) := by
      have k9 := hq
      try simp only [if_neg c_7] at k9 ⊢
      exact fs_iret dX8_count_108 rfl rfl k9
    refine fs_if_ne 63 dX8_count_53 (by decide) (fun c_53 : ¬ x1 = 0 => ?_) (fun c_53 : x1 = 0 => ?_)
    · refine fs_iload_n dX8_count_63 rfl rfl ?_
      refine fs_iconst (v := 1) dX8_count_64 rfl ?_
      refine fs_icmp_ne 75 dX8_count_65 (by decide) (fun c_65 : ¬ x1 = 1 => ?_) (fun c_65 : x1 = 1 => ?_)
      · refine fs_iload_n dX8_count_75 rfl rfl ?_
        refine fs_iconst (v := 2) dX8_count_76 rfl ?_
        refine fs_icmp_ne 87 dX8_count_77 (by decide) (fun c_77 : ¬ x1 = 2 => ?_) (fun c_77 : x1 = 2 => ?_)
        · refine fs_iload_n dX8_count_87 rfl rfl ?_
          refine fs_iconst (v := 3) dX8_count_88 rfl ?_
          refine fs_icmp_ne 107 dX8_count_89 (by decide) (fun c_89 : ¬ x1 = 3 => ?_) (fun c_89 : x1 = 3 => ?_)
          · refine fs_iconst (v := (-1)) dX8_count_107 rfl ?_
            have k9 := key_108
            try simp only [if_neg c_7, if_neg c_53, if_neg c_65, if_neg c_77, if_neg c_89] at k9 ⊢
            exact k9
          · refine fs_aload_n dX8_count_92 rfl rfl ?_
            refine fs_getfield (v := .inl (I 12)) dX8_count_93 sf_X8_164 rfl rfl ?_
            refine fs_if_eq 103 dX8_count_96 (by decide) (fun c_96 : (I 12) = 0 => ?_) (fun c_96 : ¬ ((I 12) = 0) => ?_)
            · refine fs_iconst (v := 0) dX8_count_103 rfl ?_
              refine fs_goto 108 dX8_count_104 (by decide) ?_
              have k9 := key_108
              try simp only [if_neg c_7, if_neg c_53, if_neg c_65, if_neg c_77, if_pos c_89, if_pos c_96] at k9 ⊢
              exact k9
            · refine fs_iconst (v := 1) dX8_count_99 rfl ?_
              refine fs_goto 108 dX8_count_100 (by decide) ?_
              have k9 := key_108
              try simp only [if_neg c_7, if_neg c_53, if_neg c_65, if_neg c_77, if_pos c_89, if_neg c_96] at k9 ⊢
              exact k9
        · refine fs_aload_n dX8_count_80 rfl rfl ?_
          refine fs_getfield (v := .inl (nI ht)) dX8_count_81 sf_X8_95 rfl rfl ?_
          refine fs_goto 108 dX8_count_84 (by decide) ?_
          have k9 := key_108
          try simp only [if_neg c_7, if_neg c_53, if_neg c_65, if_pos c_77] at k9 ⊢
          exact k9
      · refine fs_aload_n dX8_count_68 rfl rfl ?_
        refine fs_getfield (v := .inl (I 11)) dX8_count_69 sf_X8_17 rfl rfl ?_
        refine fs_goto 108 dX8_count_72 (by decide) ?_
        have k9 := key_108
        try simp only [if_neg c_7, if_neg c_53, if_pos c_65] at k9 ⊢
        exact k9
    · refine fs_aload_n dX8_count_56 rfl rfl ?_
      refine fs_getfield (v := .inl (I 13)) dX8_count_57 sf_X8_115 rfl rfl ?_
      refine fs_goto 108 dX8_count_60 (by decide) ?_
      have k9 := key_108
      try simp only [if_neg c_7, if_pos c_53] at k9 ⊢
      exact k9
  · have hS := hS c_7
    refine fs_iconst (v := 0) dX8_count_10 rfl ?_
    refine fs_istore_n (L' := [(2, .inl 0), (0, .inr (.inr (some 14))), (1, .inl x1)]) dX8_count_11 rfl (by decide) rfl ?_
    refine fs_iconst (v := 0) dX8_count_12 rfl ?_
    refine fs_istore_n (L' := [(3, .inl 0), (2, .inl 0), (0, .inr (.inr (some 14))), (1, .inl x1)]) dX8_count_13 rfl (by decide) rfl ?_
    refine fs_reL [2, 3, 1, 0] rfl ?_
    have ho1 := hS
    refine lp_Lb_X8_count_14 G l Q 70 ht (upd I 8 0) A J it dyn x1 0 0 ho1 ?_
    refine fs_iload_n dX8_count_50 rfl rfl ?_
    have k9 := hq
    try simp only [if_pos c_7] at k9 ⊢
    exact fs_iret dX8_count_51 rfl rfl k9
