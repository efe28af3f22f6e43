/-! 09.lifta: methods as pure functions (L_), their safety (S_), their contracts (c_): by program, wip/whole/walk.py -/
def Lb_J7_fillI_10_5_A : Nat → Nat → (Nat → Int32) → (Nat → Nat → Int32) → (Nat → Nat → Int64) → (Nat → Option Nat) → fsH → Int32 → Int32 → Int32 → (Nat → Nat → Int32)
  | 0, ht, I, A, J, it, dyn, v1, v2, v3 => A
  | n + 1, ht, I, A, J, it, dyn, v1, v2, v3 => (if v3 ≤ v2 then A else (Lb_J7_fillI_10_5_A n ht I (va_up A 10 (upd (A 10) v2.toNatClampNeg v1)) J it dyn v1 (v2 + 1) v3))
def Lb_J7_fillI_10_5_v2 : Nat → Nat → (Nat → Int32) → (Nat → Nat → Int32) → (Nat → Nat → Int64) → (Nat → Option Nat) → fsH → Int32 → Int32 → Int32 → Int32
  | 0, ht, I, A, J, it, dyn, v1, v2, v3 => v2
  | n + 1, ht, I, A, J, it, dyn, v1, v2, v3 => (if v3 ≤ v2 then v2 else (Lb_J7_fillI_10_5_v2 n ht I (va_up A 10 (upd (A 10) v2.toNatClampNeg v1)) J it dyn v1 (v2 + 1) v3))
def S_Lb_J7_fillI_10_5 : Nat → Nat → (Nat → Int32) → (Nat → Nat → Int32) → (Nat → Nat → Int64) → (Nat → Option Nat) → fsH → Int32 → Int32 → Int32 → Prop
  | 0, _, _, _, _, _, _, _, _, _ => False
  | n + 1, ht, I, A, J, it, dyn, v1, v2, v3 => (¬ (v3 ≤ v2) → ((vp_in v2 64) ∧ (S_Lb_J7_fillI_10_5 n ht I (va_up A 10 (upd (A 10) v2.toNatClampNeg v1)) J it dyn v1 (v2 + 1) v3)))
set_option maxRecDepth 100000 in
set_option maxHeartbeats 4000000 in
theorem lp_Lb_J7_fillI_10_5 (G : fsG) (l : Launch) (Q : Option fsV → fsH → Prop) : ∀ (n : Nat) (ht : Nat) (I : Nat → Int32) (A : Nat → Nat → Int32) (J : Nat → Nat → Int64) (it : Nat → Option Nat) (dyn : fsH) (v1 : Int32) (v2 : Int32) (v3 : Int32), S_Lb_J7_fillI_10_5 n ht I A J it dyn v1 v2 v3 → (fsW G l mJ7_fillI 0 0 0 0 0 Q 20 [(0, .inr (.inr (some 10))), (1, .inl v1), (2, .inl (Lb_J7_fillI_10_5_v2 n ht I A J it dyn v1 v2 v3)), (3, .inl v3)] [] (fs_mk ht I (Lb_J7_fillI_10_5_A n ht I A J it dyn v1 v2 v3) J it dyn)) → fsW G l mJ7_fillI 0 0 0 0 0 Q 5 [(0, .inr (.inr (some 10))), (1, .inl v1), (2, .inl v2), (3, .inl v3)] [] (fs_mk ht I A J it dyn) := by
  intro n
  induction n with
  | zero =>
    intro ht I A J it dyn v1 v2 v3 hS
    exact hS.elim
  | succ n ih =>
    intro ht I A J it dyn v1 v2 v3 hS hq
    have hS : (¬ (v3 ≤ v2) → ((vp_in v2 64) ∧ (S_Lb_J7_fillI_10_5 n ht I (va_up A 10 (upd (A 10) v2.toNatClampNeg v1)) J it dyn v1 (v2 + 1) v3))) := hS
    have hq : fsW G l mJ7_fillI 0 0 0 0 0 Q 20 [(0, .inr (.inr (some 10))), (1, .inl v1), (2, .inl (if v3 ≤ v2 then v2 else (Lb_J7_fillI_10_5_v2 n ht I (va_up A 10 (upd (A 10) v2.toNatClampNeg v1)) J it dyn v1 (v2 + 1) v3))), (3, .inl v3)] [] (fs_mk ht I (if v3 ≤ v2 then A else (Lb_J7_fillI_10_5_A n ht I (va_up A 10 (upd (A 10) v2.toNatClampNeg v1)) J it dyn v1 (v2 + 1) v3)) J it dyn) := hq
    refine fs_iload_n dJ7_fill_53178_5 rfl rfl ?_
    refine fs_iload_n dJ7_fill_53178_6 rfl rfl ?_
    refine fs_icmp_ge 20 dJ7_fill_53178_7 (by decide) (fun c_7 : v3 ≤ v2 => ?_) (fun c_7 : ¬ (v3 ≤ v2) => ?_)
    · have k9 := hq
      try simp only [if_pos c_7] at k9 ⊢
      exact k9
    · have hS := hS c_7
      refine fs_aload_n dJ7_fill_53178_10 rfl rfl ?_
      refine fs_iload_n dJ7_fill_53178_11 rfl rfl ?_
      refine fs_iload_n dJ7_fill_53178_12 rfl rfl ?_
      obtain ⟨ho1, hS⟩ := hS
      refine fss_10 dJ7_fill_53178_13 ho1 ?_
      refine fs_iinc (v := (v2 + 1)) (L' := [(2, .inl (v2 + 1)), (0, .inr (.inr (some 10))), (1, .inl v1), (3, .inl v3)]) dJ7_fill_53178_14 rfl rfl (by decide) rfl ?_
      refine fs_goto 5 dJ7_fill_53178_17 (by decide) ?_
      refine fs_reL [1, 2, 0, 3] rfl ?_
      have k9 := hq
      try simp only [if_neg c_7] at hS k9 ⊢
      exact ih _ _ _ _ _ _ _ _ _ hS k9
def L_J7_fillI_10_A (ht : Nat) (I : Nat → Int32) (A : Nat → Nat → Int32) (J : Nat → Nat → Int64) (it : Nat → Option Nat) (dyn : fsH) (x2 : Int32) : Nat → Nat → Int32 := (Lb_J7_fillI_10_5_A 70 ht I A J it dyn x2 0 (64 : Int32))
def S_J7_fillI_10 (ht : Nat) (I : Nat → Int32) (A : Nat → Nat → Int32) (J : Nat → Nat → Int64) (it : Nat → Option Nat) (dyn : fsH) (x2 : Int32) : Prop := (S_Lb_J7_fillI_10_5 70 ht I A J it dyn x2 0 (64 : Int32))
set_option maxRecDepth 100000 in
set_option maxHeartbeats 4000000 in
theorem c_J7_fillI_10 (G : fsG) (l : Launch) (ht : Nat) (I : Nat → Int32) (A : Nat → Nat → Int32) (J : Nat → Nat → Int64) (it : Nat → Option Nat) (dyn : fsH) (x2 : Int32) (hS : S_J7_fillI_10 ht I A J it dyn x2) : fsFn G l mJ7_fillI 0 0 0 [.inr (.inr (some 10)), .inl x2] (fs_mk ht I A J it dyn) none (fs_mk ht I (L_J7_fillI_10_A ht I A J it dyn x2) J it dyn) := by
  refine fsMet_of (by decide) (Nat.le_of_ble_eq_true rfl) ?_
  generalize hQ : (fun (r1 : Option fsV) (h1 : fsH) => r1 = none ∧ h1 = (fs_mk ht I (L_J7_fillI_10_A ht I A J it dyn x2) J it dyn)) = Q
  have hq : Q none (fs_mk ht I (L_J7_fillI_10_A ht I A J it dyn x2) J it dyn) := by rw [← hQ]; exact ⟨rfl, rfl⟩
  clear hQ
  have hq : Q none (fs_mk ht I (Lb_J7_fillI_10_5_A 70 ht I A J it dyn x2 0 (64 : Int32)) J it dyn) := hq
  have hS : (S_Lb_J7_fillI_10_5 70 ht I A J it dyn x2 0 (64 : Int32)) := hS
  refine (show fsW G l mJ7_fillI 0 0 0 0 0 Q 0 [(0, .inr (.inr (some 10))), (1, .inl x2)] [] (fs_mk ht I A J it dyn) from ?_)
  refine fs_iconst (v := 0) dJ7_fill_53178_0 rfl ?_
  refine fs_istore_n (L' := [(2, .inl 0), (0, .inr (.inr (some 10))), (1, .inl x2)]) dJ7_fill_53178_1 rfl (by decide) rfl ?_
  refine fs_aload_n dJ7_fill_53178_2 rfl rfl ?_
  refine fs_alen dJ7_fill_53178_3 rfl (ty := .int) (fun _ => rfl) ?_
  refine fs_istore_n (L' := [(3, .inl (64 : Int32)), (2, .inl 0), (0, .inr (.inr (some 10))), (1, .inl x2)]) dJ7_fill_53178_4 rfl (by decide) rfl ?_
  refine fs_reL [2, 3, 1, 0] rfl ?_
  have ho1 := hS
  refine lp_Lb_J7_fillI_10_5 G l Q 70 ht I A J it dyn x2 0 (64 : Int32) ho1 ?_
  have k9 := hq
  exact fs_ret dJ7_fill_53178_20 rfl k9
def Lb_J7_fillI_11_5_A : Nat → Nat → (Nat → Int32) → (Nat → Nat → Int32) → (Nat → Nat → Int64) → (Nat → Option Nat) → fsH → Int32 → Int32 → Int32 → (Nat → Nat → Int32)
  | 0, ht, I, A, J, it, dyn, v1, v2, v3 => A
  | n + 1, ht, I, A, J, it, dyn, v1, v2, v3 => (if v3 ≤ v2 then A else (Lb_J7_fillI_11_5_A n ht I (va_up A 11 (upd (A 11) v2.toNatClampNeg v1)) J it dyn v1 (v2 + 1) v3))
def Lb_J7_fillI_11_5_v2 : Nat → Nat → (Nat → Int32) → (Nat → Nat → Int32) → (Nat → Nat → Int64) → (Nat → Option Nat) → fsH → Int32 → Int32 → Int32 → Int32
  | 0, ht, I, A, J, it, dyn, v1, v2, v3 => v2
  | n + 1, ht, I, A, J, it, dyn, v1, v2, v3 => (if v3 ≤ v2 then v2 else (Lb_J7_fillI_11_5_v2 n ht I (va_up A 11 (upd (A 11) v2.toNatClampNeg v1)) J it dyn v1 (v2 + 1) v3))
def S_Lb_J7_fillI_11_5 : Nat → Nat → (Nat → Int32) → (Nat → Nat → Int32) → (Nat → Nat → Int64) → (Nat → Option Nat) → fsH → Int32 → Int32 → Int32 → Prop
  | 0, _, _, _, _, _, _, _, _, _ => False
  | n + 1, ht, I, A, J, it, dyn, v1, v2, v3 => (¬ (v3 ≤ v2) → ((vp_in v2 64) ∧ (S_Lb_J7_fillI_11_5 n ht I (va_up A 11 (upd (A 11) v2.toNatClampNeg v1)) J it dyn v1 (v2 + 1) v3)))
set_option maxRecDepth 100000 in
set_option maxHeartbeats 4000000 in
theorem lp_Lb_J7_fillI_11_5 (G : fsG) (l : Launch) (Q : Option fsV → fsH → Prop) : ∀ (n : Nat) (ht : Nat) (I : Nat → Int32) (A : Nat → Nat → Int32) (J : Nat → Nat → Int64) (it : Nat → Option Nat) (dyn : fsH) (v1 : Int32) (v2 : Int32) (v3 : Int32), S_Lb_J7_fillI_11_5 n ht I A J it dyn v1 v2 v3 → (fsW G l mJ7_fillI 0 0 0 0 0 Q 20 [(0, .inr (.inr (some 11))), (1, .inl v1), (2, .inl (Lb_J7_fillI_11_5_v2 n ht I A J it dyn v1 v2 v3)), (3, .inl v3)] [] (fs_mk ht I (Lb_J7_fillI_11_5_A n ht I A J it dyn v1 v2 v3) J it dyn)) → fsW G l mJ7_fillI 0 0 0 0 0 Q 5 [(0, .inr (.inr (some 11))), (1, .inl v1), (2, .inl v2), (3, .inl v3)] [] (fs_mk ht I A J it dyn) := by
  intro n
  induction n with
  | zero =>
    intro ht I A J it dyn v1 v2 v3 hS
    exact hS.elim
  | succ n ih =>
    intro ht I A J it dyn v1 v2 v3 hS hq
    have hS : (¬ (v3 ≤ v2) → ((vp_in v2 64) ∧ (S_Lb_J7_fillI_11_5 n ht I (va_up A 11 (upd (A 11) v2.toNatClampNeg v1)) J it dyn v1 (v2 + 1) v3))) := hS
    have hq : fsW G l mJ7_fillI 0 0 0 0 0 Q 20 [(0, .inr (.inr (some 11))), (1, .inl v1), (2, .inl (if v3 ≤ v2 then v2 else (Lb_J7_fillI_11_5_v2 n ht I (va_up A 11 (upd (A 11) v2.toNatClampNeg v1)) J it dyn v1 (v2 + 1) v3))), (3, .inl v3)] [] (fs_mk ht I (if v3 ≤ v2 then A else (Lb_J7_fillI_11_5_A n ht I (va_up A 11 (upd (A 11) v2.toNatClampNeg v1)) J it dyn v1 (v2 + 1) v3)) J it dyn) := hq
    refine fs_iload_n dJ7_fill_53178_5 rfl rfl ?_
    refine fs_iload_n dJ7_fill_53178_6 rfl rfl ?_
    refine fs_icmp_ge 20 dJ7_fill_53178_7 (by decide) (fun c_7 : v3 ≤ v2 => ?_) (fun c_7 : ¬ (v3 ≤ v2) => ?_)
    · have k9 := hq
      try simp only [if_pos c_7] at k9 ⊢
      exact k9
    · have hS := hS c_7
      refine fs_aload_n dJ7_fill_53178_10 rfl rfl ?_
      refine fs_iload_n dJ7_fill_53178_11 rfl rfl ?_
      refine fs_iload_n dJ7_fill_53178_12 rfl rfl ?_
      obtain ⟨ho1, hS⟩ := hS
      refine fss_11 dJ7_fill_53178_13 ho1 ?_
      refine fs_iinc (v := (v2 + 1)) (L' := [(2, .inl (v2 + 1)), (0, .inr (.inr (some 11))), (1, .inl v1), (3, .inl v3)]) dJ7_fill_53178_14 rfl rfl (by decide) rfl ?_
      refine fs_goto 5 dJ7_fill_53178_17 (by decide) ?_
      refine fs_reL [1, 2, 0, 3] rfl ?_
      have k9 := hq
      try simp only [if_neg c_7] at hS k9 ⊢
      exact ih _ _ _ _ _ _ _ _ _ hS k9
def L_J7_fillI_11_A (ht : Nat) (I : Nat → Int32) (A : Nat → Nat → Int32) (J : Nat → Nat → Int64) (it : Nat → Option Nat) (dyn : fsH) (x2 : Int32) : Nat → Nat → Int32 := (Lb_J7_fillI_11_5_A 70 ht I A J it dyn x2 0 (64 : Int32))
def S_J7_fillI_11 (ht : Nat) (I : Nat → Int32) (A : Nat → Nat → Int32) (J : Nat → Nat → Int64) (it : Nat → Option Nat) (dyn : fsH) (x2 : Int32) : Prop := (S_Lb_J7_fillI_11_5 70 ht I A J it dyn x2 0 (64 : Int32))
set_option maxRecDepth 100000 in
set_option maxHeartbeats 4000000 in
theorem c_J7_fillI_11 (G : fsG) (l : Launch) (ht : Nat) (I : Nat → Int32) (A : Nat → Nat → Int32) (J : Nat → Nat → Int64) (it : Nat → Option Nat) (dyn : fsH) (x2 : Int32) (hS : S_J7_fillI_11 ht I A J it dyn x2) : fsFn G l mJ7_fillI 0 0 0 [.inr (.inr (some 11)), .inl x2] (fs_mk ht I A J it dyn) none (fs_mk ht I (L_J7_fillI_11_A ht I A J it dyn x2) J it dyn) := by
  refine fsMet_of (by decide) (Nat.le_of_ble_eq_true rfl) ?_
  generalize hQ : (fun (r1 : Option fsV) (h1 : fsH) => r1 = none ∧ h1 = (fs_mk ht I (L_J7_fillI_11_A ht I A J it dyn x2) J it dyn)) = Q
  have hq : Q none (fs_mk ht I (L_J7_fillI_11_A ht I A J it dyn x2) J it dyn) := by rw [← hQ]; exact ⟨rfl, rfl⟩
  clear hQ
  have hq : Q none (fs_mk ht I (Lb_J7_fillI_11_5_A 70 ht I A J it dyn x2 0 (64 : Int32)) J it dyn) := hq
  have hS : (S_Lb_J7_fillI_11_5 70 ht I A J it dyn x2 0 (64 : Int32)) := hS
  refine (show fsW G l mJ7_fillI 0 0 0 0 0 Q 0 [(0, .inr (.inr (some 11))), (1, .inl x2)] [] (fs_mk ht I A J it dyn) from ?_)
  refine fs_iconst (v := 0) dJ7_fill_53178_0 rfl ?_
  refine fs_istore_n (L' := [(2, .inl 0), (0, .inr (.inr (some 11))), (1, .inl x2)]) dJ7_fill_53178_1 rfl (by decide) rfl ?_
  refine fs_aload_n dJ7_fill_53178_2 rfl rfl ?_
  refine fs_alen dJ7_fill_53178_3 rfl (ty := .int) (fun _ => rfl) ?_
  refine fs_istore_n (L' := [(3, .inl (64 : Int32)), (2, .inl 0), (0, .inr (.inr (some 11))), (1, .inl x2)]) dJ7_fill_53178_4 rfl (by decide) rfl ?_
  refine fs_reL [2, 3, 1, 0] rfl ?_
  have ho1 := hS
  refine lp_Lb_J7_fillI_11_5 G l Q 70 ht I A J it dyn x2 0 (64 : Int32) ho1 ?_
  have k9 := hq
  exact fs_ret dJ7_fill_53178_20 rfl k9
def Lb_J7_fillJ_6_6_J : Nat → Nat → (Nat → Int32) → (Nat → Nat → Int32) → (Nat → Nat → Int64) → (Nat → Option Nat) → fsH → Int64 → Int32 → Int32 → (Nat → Nat → Int64)
  | 0, ht, I, A, J, it, dyn, v1, v3, v4 => J
  | n + 1, ht, I, A, J, it, dyn, v1, v3, v4 => (if v4 ≤ v3 then J else (Lb_J7_fillJ_6_6_J n ht I A (va_up J 6 (vp_updL (J 6) v3.toNatClampNeg v1)) it dyn v1 (v3 + 1) v4))
def Lb_J7_fillJ_6_6_v3 : Nat → Nat → (Nat → Int32) → (Nat → Nat → Int32) → (Nat → Nat → Int64) → (Nat → Option Nat) → fsH → Int64 → Int32 → Int32 → Int32
  | 0, ht, I, A, J, it, dyn, v1, v3, v4 => v3
  | n + 1, ht, I, A, J, it, dyn, v1, v3, v4 => (if v4 ≤ v3 then v3 else (Lb_J7_fillJ_6_6_v3 n ht I A (va_up J 6 (vp_updL (J 6) v3.toNatClampNeg v1)) it dyn v1 (v3 + 1) v4))
def S_Lb_J7_fillJ_6_6 : Nat → Nat → (Nat → Int32) → (Nat → Nat → Int32) → (Nat → Nat → Int64) → (Nat → Option Nat) → fsH → Int64 → Int32 → Int32 → Prop
  | 0, _, _, _, _, _, _, _, _, _ => False
  | n + 1, ht, I, A, J, it, dyn, v1, v3, v4 => (¬ (v4 ≤ v3) → ((vp_in v3 64) ∧ (S_Lb_J7_fillJ_6_6 n ht I A (va_up J 6 (vp_updL (J 6) v3.toNatClampNeg v1)) it dyn v1 (v3 + 1) v4)))
set_option maxRecDepth 100000 in
set_option maxHeartbeats 4000000 in
theorem lp_Lb_J7_fillJ_6_6 (G : fsG) (l : Launch) (Q : Option fsV → fsH → Prop) : ∀ (n : Nat) (ht : Nat) (I : Nat → Int32) (A : Nat → Nat → Int32) (J : Nat → Nat → Int64) (it : Nat → Option Nat) (dyn : fsH) (v1 : Int64) (v3 : Int32) (v4 : Int32), S_Lb_J7_fillJ_6_6 n ht I A J it dyn v1 v3 v4 → (fsW G l mJ7_fillJ 0 0 0 0 0 Q 22 [(0, .inr (.inr (some 6))), (1, .inr (.inl v1)), (3, .inl (Lb_J7_fillJ_6_6_v3 n ht I A J it dyn v1 v3 v4)), (4, .inl v4)] [] (fs_mk ht I A (Lb_J7_fillJ_6_6_J n ht I A J it dyn v1 v3 v4) it dyn)) → fsW G l mJ7_fillJ 0 0 0 0 0 Q 6 [(0, .inr (.inr (some 6))), (1, .inr (.inl v1)), (3, .inl v3), (4, .inl v4)] [] (fs_mk ht I A J it dyn) := by
  intro n
  induction n with
  | zero =>
    intro ht I A J it dyn v1 v3 v4 hS
    exact hS.elim
  | succ n ih =>
    intro ht I A J it dyn v1 v3 v4 hS hq
    have hS : (¬ (v4 ≤ v3) → ((vp_in v3 64) ∧ (S_Lb_J7_fillJ_6_6 n ht I A (va_up J 6 (vp_updL (J 6) v3.toNatClampNeg v1)) it dyn v1 (v3 + 1) v4))) := hS
    have hq : fsW G l mJ7_fillJ 0 0 0 0 0 Q 22 [(0, .inr (.inr (some 6))), (1, .inr (.inl v1)), (3, .inl (if v4 ≤ v3 then v3 else (Lb_J7_fillJ_6_6_v3 n ht I A (va_up J 6 (vp_updL (J 6) v3.toNatClampNeg v1)) it dyn v1 (v3 + 1) v4))), (4, .inl v4)] [] (fs_mk ht I A (if v4 ≤ v3 then J else (Lb_J7_fillJ_6_6_J n ht I A (va_up J 6 (vp_updL (J 6) v3.toNatClampNeg v1)) it dyn v1 (v3 + 1) v4)) it dyn) := hq
    refine fs_iload_n dJ7_fill_d0a16_6 rfl rfl ?_
    refine fs_iload dJ7_fill_d0a16_7 rfl ?_
    refine fs_icmp_ge 22 dJ7_fill_d0a16_9 (by decide) (fun c_9 : v4 ≤ v3 => ?_) (fun c_9 : ¬ (v4 ≤ v3) => ?_)
    · have k9 := hq
      try simp only [if_pos c_9] at k9 ⊢
      exact k9
    · have hS := hS c_9
      refine fs_aload_n dJ7_fill_d0a16_12 rfl rfl ?_
      refine fs_iload_n dJ7_fill_d0a16_13 rfl rfl ?_
      refine fs_lload_n dJ7_fill_d0a16_14 rfl rfl ?_
      obtain ⟨ho1, hS⟩ := hS
      refine fss_6 dJ7_fill_d0a16_15 ho1 ?_
      refine fs_iinc (v := (v3 + 1)) (L' := [(3, .inl (v3 + 1)), (0, .inr (.inr (some 6))), (1, .inr (.inl v1)), (4, .inl v4)]) dJ7_fill_d0a16_16 rfl rfl (by decide) rfl ?_
      refine fs_goto 6 dJ7_fill_d0a16_19 (by decide) ?_
      refine fs_reL [1, 2, 0, 3] rfl ?_
      have k9 := hq
      try simp only [if_neg c_9] at hS k9 ⊢
      exact ih _ _ _ _ _ _ _ _ _ hS k9
def L_J7_fillJ_6_J (ht : Nat) (I : Nat → Int32) (A : Nat → Nat → Int32) (J : Nat → Nat → Int64) (it : Nat → Option Nat) (dyn : fsH) (x2 : Int64) : Nat → Nat → Int64 := (Lb_J7_fillJ_6_6_J 70 ht I A J it dyn x2 0 (64 : Int32))
def S_J7_fillJ_6 (ht : Nat) (I : Nat → Int32) (A : Nat → Nat → Int32) (J : Nat → Nat → Int64) (it : Nat → Option Nat) (dyn : fsH) (x2 : Int64) : Prop := (S_Lb_J7_fillJ_6_6 70 ht I A J it dyn x2 0 (64 : Int32))
set_option maxRecDepth 100000 in
set_option maxHeartbeats 4000000 in
theorem c_J7_fillJ_6 (G : fsG) (l : Launch) (ht : Nat) (I : Nat → Int32) (A : Nat → Nat → Int32) (J : Nat → Nat → Int64) (it : Nat → Option Nat) (dyn : fsH) (x2 : Int64) (hS : S_J7_fillJ_6 ht I A J it dyn x2) : fsFn G l mJ7_fillJ 0 0 0 [.inr (.inr (some 6)), .inr (.inl x2)] (fs_mk ht I A J it dyn) none (fs_mk ht I A (L_J7_fillJ_6_J ht I A J it dyn x2) it dyn) := by
  refine fsMet_of (by decide) (Nat.le_of_ble_eq_true rfl) ?_
  generalize hQ : (fun (r1 : Option fsV) (h1 : fsH) => r1 = none ∧ h1 = (fs_mk ht I A (L_J7_fillJ_6_J ht I A J it dyn x2) it dyn)) = Q
  have hq : Q none (fs_mk ht I A (L_J7_fillJ_6_J ht I A J it dyn x2) it dyn) := by rw [← hQ]; exact ⟨rfl, rfl⟩
  clear hQ
  have hq : Q none (fs_mk ht I A (Lb_J7_fillJ_6_6_J 70 ht I A J it dyn x2 0 (64 : Int32)) it dyn) := hq
  have hS : (S_Lb_J7_fillJ_6_6 70 ht I A J it dyn x2 0 (64 : Int32)) := hS
  refine (show fsW G l mJ7_fillJ 0 0 0 0 0 Q 0 [(0, .inr (.inr (some 6))), (1, .inr (.inl x2))] [] (fs_mk ht I A J it dyn) from ?_)
  refine fs_iconst (v := 0) dJ7_fill_d0a16_0 rfl ?_
  refine fs_istore_n (L' := [(3, .inl 0), (0, .inr (.inr (some 6))), (1, .inr (.inl x2))]) dJ7_fill_d0a16_1 rfl (by decide) rfl ?_
  refine fs_aload_n dJ7_fill_d0a16_2 rfl rfl ?_
  refine fs_alen dJ7_fill_d0a16_3 rfl (ty := .long) (fun _ => rfl) ?_
  refine fs_istore (L' := [(4, .inl (64 : Int32)), (3, .inl 0), (0, .inr (.inr (some 6))), (1, .inr (.inl x2))]) dJ7_fill_d0a16_4 (by decide) rfl ?_
  refine fs_reL [2, 3, 1, 0] rfl ?_
  have ho1 := hS
  refine lp_Lb_J7_fillJ_6_6 G l Q 70 ht I A J it dyn x2 0 (64 : Int32) ho1 ?_
  have k9 := hq
  exact fs_ret dJ7_fill_d0a16_22 rfl k9
def Lb_J7_fillJ_7_6_J : Nat → Nat → (Nat → Int32) → (Nat → Nat → Int32) → (Nat → Nat → Int64) → (Nat → Option Nat) → fsH → Int64 → Int32 → Int32 → (Nat → Nat → Int64)
  | 0, ht, I, A, J, it, dyn, v1, v3, v4 => J
  | n + 1, ht, I, A, J, it, dyn, v1, v3, v4 => (if v4 ≤ v3 then J else (Lb_J7_fillJ_7_6_J n ht I A (va_up J 7 (vp_updL (J 7) v3.toNatClampNeg v1)) it dyn v1 (v3 + 1) v4))
def Lb_J7_fillJ_7_6_v3 : Nat → Nat → (Nat → Int32) → (Nat → Nat → Int32) → (Nat → Nat → Int64) → (Nat → Option Nat) → fsH → Int64 → Int32 → Int32 → Int32
  | 0, ht, I, A, J, it, dyn, v1, v3, v4 => v3
  | n + 1, ht, I, A, J, it, dyn, v1, v3, v4 => (if v4 ≤ v3 then v3 else (Lb_J7_fillJ_7_6_v3 n ht I A (va_up J 7 (vp_updL (J 7) v3.toNatClampNeg v1)) it dyn v1 (v3 + 1) v4))
def S_Lb_J7_fillJ_7_6 : Nat → Nat → (Nat → Int32) → (Nat → Nat → Int32) → (Nat → Nat → Int64) → (Nat → Option Nat) → fsH → Int64 → Int32 → Int32 → Prop
  | 0, _, _, _, _, _, _, _, _, _ => False
  | n + 1, ht, I, A, J, it, dyn, v1, v3, v4 => (¬ (v4 ≤ v3) → ((vp_in v3 64) ∧ (S_Lb_J7_fillJ_7_6 n ht I A (va_up J 7 (vp_updL (J 7) v3.toNatClampNeg v1)) it dyn v1 (v3 + 1) v4)))
set_option maxRecDepth 100000 in
set_option maxHeartbeats 4000000 in
theorem lp_Lb_J7_fillJ_7_6 (G : fsG) (l : Launch) (Q : Option fsV → fsH → Prop) : ∀ (n : Nat) (ht : Nat) (I : Nat → Int32) (A : Nat → Nat → Int32) (J : Nat → Nat → Int64) (it : Nat → Option Nat) (dyn : fsH) (v1 : Int64) (v3 : Int32) (v4 : Int32), S_Lb_J7_fillJ_7_6 n ht I A J it dyn v1 v3 v4 → (fsW G l mJ7_fillJ 0 0 0 0 0 Q 22 [(0, .inr (.inr (some 7))), (1, .inr (.inl v1)), (3, .inl (Lb_J7_fillJ_7_6_v3 n ht I A J it dyn v1 v3 v4)), (4, .inl v4)] [] (fs_mk ht I A (Lb_J7_fillJ_7_6_J n ht I A J it dyn v1 v3 v4) it dyn)) → fsW G l mJ7_fillJ 0 0 0 0 0 Q 6 [(0, .inr (.inr (some 7))), (1, .inr (.inl v1)), (3, .inl v3), (4, .inl v4)] [] (fs_mk ht I A J it dyn) := by
  intro n
  induction n with
  | zero =>
    intro ht I A J it dyn v1 v3 v4 hS
    exact hS.elim
  | succ n ih =>
    intro ht I A J it dyn v1 v3 v4 hS hq
    have hS : (¬ (v4 ≤ v3) → ((vp_in v3 64) ∧ (S_Lb_J7_fillJ_7_6 n ht I A (va_up J 7 (vp_updL (J 7) v3.toNatClampNeg v1)) it dyn v1 (v3 + 1) v4))) := hS
    have hq : fsW G l mJ7_fillJ 0 0 0 0 0 Q 22 [(0, .inr (.inr (some 7))), (1, .inr (.inl v1)), (3, .inl (if v4 ≤ v3 then v3 else (Lb_J7_fillJ_7_6_v3 n ht I A (va_up J 7 (vp_updL (J 7) v3.toNatClampNeg v1)) it dyn v1 (v3 + 1) v4))), (4, .inl v4)] [] (fs_mk ht I A (if v4 ≤ v3 then J else (Lb_J7_fillJ_7_6_J n ht I A (va_up J 7 (vp_updL (J 7) v3.toNatClampNeg v1)) it dyn v1 (v3 + 1) v4)) it dyn) := hq
    refine fs_iload_n dJ7_fill_d0a16_6 rfl rfl ?_
    refine fs_iload dJ7_fill_d0a16_7 rfl ?_
    refine fs_icmp_ge 22 dJ7_fill_d0a16_9 (by decide) (fun c_9 : v4 ≤ v3 => ?_) (fun c_9 : ¬ (v4 ≤ v3) => ?_)
    · have k9 := hq
      try simp only [if_pos c_9] at k9 ⊢
      exact k9
    · have hS := hS c_9
      refine fs_aload_n dJ7_fill_d0a16_12 rfl rfl ?_
      refine fs_iload_n dJ7_fill_d0a16_13 rfl rfl ?_
      refine fs_lload_n dJ7_fill_d0a16_14 rfl rfl ?_
      obtain ⟨ho1, hS⟩ := hS
      refine fss_7 dJ7_fill_d0a16_15 ho1 ?_
      refine fs_iinc (v := (v3 + 1)) (L' := [(3, .inl (v3 + 1)), (0, .inr (.inr (some 7))), (1, .inr (.inl v1)), (4, .inl v4)]) dJ7_fill_d0a16_16 rfl rfl (by decide) rfl ?_
      refine fs_goto 6 dJ7_fill_d0a16_19 (by decide) ?_
      refine fs_reL [1, 2, 0, 3] rfl ?_
      have k9 := hq
      try simp only [if_neg c_9] at hS k9 ⊢
      exact ih _ _ _ _ _ _ _ _ _ hS k9
def L_J7_fillJ_7_J (ht : Nat) (I : Nat → Int32) (A : Nat → Nat → Int32) (J : Nat → Nat → Int64) (it : Nat → Option Nat) (dyn : fsH) (x2 : Int64) : Nat → Nat → Int64 := (Lb_J7_fillJ_7_6_J 70 ht I A J it dyn x2 0 (64 : Int32))
def S_J7_fillJ_7 (ht : Nat) (I : Nat → Int32) (A : Nat → Nat → Int32) (J : Nat → Nat → Int64) (it : Nat → Option Nat) (dyn : fsH) (x2 : Int64) : Prop := (S_Lb_J7_fillJ_7_6 70 ht I A J it dyn x2 0 (64 : Int32))
set_option maxRecDepth 100000 in
set_option maxHeartbeats 4000000 in
theorem c_J7_fillJ_7 (G : fsG) (l : Launch) (ht : Nat) (I : Nat → Int32) (A : Nat → Nat → Int32) (J : Nat → Nat → Int64) (it : Nat → Option Nat) (dyn : fsH) (x2 : Int64) (hS : S_J7_fillJ_7 ht I A J it dyn x2) : fsFn G l mJ7_fillJ 0 0 0 [.inr (.inr (some 7)), .inr (.inl x2)] (fs_mk ht I A J it dyn) none (fs_mk ht I A (L_J7_fillJ_7_J ht I A J it dyn x2) it dyn) := by
  refine fsMet_of (by decide) (Nat.le_of_ble_eq_true rfl) ?_
  generalize hQ : (fun (r1 : Option fsV) (h1 : fsH) => r1 = none ∧ h1 = (fs_mk ht I A (L_J7_fillJ_7_J ht I A J it dyn x2) it dyn)) = Q
  have hq : Q none (fs_mk ht I A (L_J7_fillJ_7_J ht I A J it dyn x2) it dyn) := by rw [← hQ]; exact ⟨rfl, rfl⟩
  clear hQ
  have hq : Q none (fs_mk ht I A (Lb_J7_fillJ_7_6_J 70 ht I A J it dyn x2 0 (64 : Int32)) it dyn) := hq
  have hS : (S_Lb_J7_fillJ_7_6 70 ht I A J it dyn x2 0 (64 : Int32)) := hS
  refine (show fsW G l mJ7_fillJ 0 0 0 0 0 Q 0 [(0, .inr (.inr (some 7))), (1, .inr (.inl x2))] [] (fs_mk ht I A J it dyn) from ?_)
  refine fs_iconst (v := 0) dJ7_fill_d0a16_0 rfl ?_
  refine fs_istore_n (L' := [(3, .inl 0), (0, .inr (.inr (some 7))), (1, .inr (.inl x2))]) dJ7_fill_d0a16_1 rfl (by decide) rfl ?_
  refine fs_aload_n dJ7_fill_d0a16_2 rfl rfl ?_
  refine fs_alen dJ7_fill_d0a16_3 rfl (ty := .long) (fun _ => rfl) ?_
  refine fs_istore (L' := [(4, .inl (64 : Int32)), (3, .inl 0), (0, .inr (.inr (some 7))), (1, .inr (.inl x2))]) dJ7_fill_d0a16_4 (by decide) rfl ?_
  refine fs_reL [2, 3, 1, 0] rfl ?_
  have ho1 := hS
  refine lp_Lb_J7_fillJ_7_6 G l Q 70 ht I A J it dyn x2 0 (64 : Int32) ho1 ?_
  have k9 := hq
  exact fs_ret dJ7_fill_d0a16_22 rfl k9
def L_X7_isLetter_r (ht : Nat) (I : Nat → Int32) (A : Nat → Nat → Int32) (J : Nat → Nat → Int64) (it : Nat → Option Nat) (dyn : fsH) (x1 : Int32) : Int32 := (if x1 < 97 then 0 else (if 122 < x1 then 0 else 1 : Int32) : Int32)
set_option maxRecDepth 100000 in
set_option maxHeartbeats 4000000 in
theorem c_X7_isLetter (G : fsG) (l : Launch) (ht : Nat) (I : Nat → Int32) (A : Nat → Nat → Int32) (J : Nat → Nat → Int64) (it : Nat → Option Nat) (dyn : fsH) (x1 : Int32) : fsFn G l mX7_isLetter 0 0 0 [.inl x1] (fs_mk ht I A J it dyn) (some (.inl (L_X7_isLetter_r ht I A J it dyn x1))) (fs_mk ht I A J it dyn) := by
  refine fsMet_of (by decide) (Nat.le_of_ble_eq_true rfl) ?_
  generalize hQ : (fun (r1 : Option fsV) (h1 : fsH) => r1 = (some (.inl (L_X7_isLetter_r ht I A J it dyn x1))) ∧ h1 = (fs_mk ht I A J it dyn)) = Q
  have hq : Q (some (.inl (L_X7_isLetter_r ht I A J it dyn x1))) (fs_mk ht I A J it dyn) := by rw [← hQ]; exact ⟨rfl, rfl⟩
  clear hQ
  have hq : Q (some (.inl (if x1 < 97 then 0 else (if 122 < x1 then 0 else 1 : Int32) : Int32))) (fs_mk ht I A J it dyn) := hq
  refine (show fsW G l mX7_isLetter 0 0 0 0 0 Q 0 [(0, .inl x1)] [] (fs_mk ht I A J it dyn) from ?_)
  refine fs_iload_n dX7_isLetter_0 rfl rfl ?_
  refine fs_bipush (v := 97) dX7_isLetter_1 rfl ?_
  have key_17 : fsW G l mX7_isLetter 0 0 0 0 0 Q 17 [(0, .inl x1)] [.inl (if x1 < 97 then 0 else (if 122 < x1 then 0 else 1 : Int32) : Int32)] (fs_mk ht I A J it dyn) := by
    have k9 := hq
    exact fs_iret dX7_isLetter_17 rfl (by (repeat' split) <;> first | rfl) k9
  refine fs_icmp_lt 16 dX7_isLetter_3 (by decide) (fun c_3 : x1 < 97 => ?_) (fun c_3 : ¬ (x1 < 97) => ?_)
  · refine fs_iconst (v := 0) dX7_isLetter_16 rfl ?_
    have k9 := key_17
    try simp only [if_pos c_3] at k9 ⊢
    exact k9
  · refine fs_iload_n dX7_isLetter_6 rfl rfl ?_
    refine fs_bipush (v := 122) dX7_isLetter_7 rfl ?_
    refine fs_icmp_gt 16 dX7_isLetter_9 (by decide) (fun c_9 : 122 < x1 => ?_) (fun c_9 : ¬ (122 < x1) => ?_)
    · refine fs_iconst (v := 0) dX7_isLetter_16 rfl ?_
      have k9 := key_17
      try simp only [if_neg c_3, if_pos c_9] at k9 ⊢
      exact k9
    · refine fs_iconst (v := 1) dX7_isLetter_12 rfl ?_
      refine fs_goto 17 dX7_isLetter_13 (by decide) ?_
      have k9 := key_17
      try simp only [if_neg c_3, if_neg c_9] at k9 ⊢
      exact k9
theorem nb_X7_isLetter (ht : Nat) (I : Nat → Int32) (A : Nat → Nat → Int32) (J : Nat → Nat → Int64) (it : Nat → Option Nat) (dyn : fsH) (x1 : Int32) : narrow .boolean (.int (L_X7_isLetter_r ht I A J it dyn x1)) = .int (L_X7_isLetter_r ht I A J it dyn x1) := by
  unfold L_X7_isLetter_r
  exact (by (repeat' split) <;> first | rfl)
def L_X7_isDigit_r (ht : Nat) (I : Nat → Int32) (A : Nat → Nat → Int32) (J : Nat → Nat → Int64) (it : Nat → Option Nat) (dyn : fsH) (x1 : Int32) : Int32 := (if x1 < 48 then 0 else (if 57 < x1 then 0 else 1 : Int32) : Int32)
set_option maxRecDepth 100000 in
set_option maxHeartbeats 4000000 in
theorem c_X7_isDigit (G : fsG) (l : Launch) (ht : Nat) (I : Nat → Int32) (A : Nat → Nat → Int32) (J : Nat → Nat → Int64) (it : Nat → Option Nat) (dyn : fsH) (x1 : Int32) : fsFn G l mX7_isDigit 0 0 0 [.inl x1] (fs_mk ht I A J it dyn) (some (.inl (L_X7_isDigit_r ht I A J it dyn x1))) (fs_mk ht I A J it dyn) := by
  refine fsMet_of (by decide) (Nat.le_of_ble_eq_true rfl) ?_
  generalize hQ : (fun (r1 : Option fsV) (h1 : fsH) => r1 = (some (.inl (L_X7_isDigit_r ht I A J it dyn x1))) ∧ h1 = (fs_mk ht I A J it dyn)) = Q
  have hq : Q (some (.inl (L_X7_isDigit_r ht I A J it dyn x1))) (fs_mk ht I A J it dyn) := by rw [← hQ]; exact ⟨rfl, rfl⟩
  clear hQ
  have hq : Q (some (.inl (if x1 < 48 then 0 else (if 57 < x1 then 0 else 1 : Int32) : Int32))) (fs_mk ht I A J it dyn) := hq
  refine (show fsW G l mX7_isDigit 0 0 0 0 0 Q 0 [(0, .inl x1)] [] (fs_mk ht I A J it dyn) from ?_)
  refine fs_iload_n dX7_isDigit_0 rfl rfl ?_
  refine fs_bipush (v := 48) dX7_isDigit_1 rfl ?_
  have key_17 : fsW G l mX7_isDigit 0 0 0 0 0 Q 17 [(0, .inl x1)] [.inl (if x1 < 48 then 0 else (if 57 < x1 then 0 else 1 : Int32) : Int32)] (fs_mk ht I A J it dyn) := by
    have k9 := hq
    exact fs_iret dX7_isDigit_17 rfl (by (repeat' split) <;> first | rfl) k9
  refine fs_icmp_lt 16 dX7_isDigit_3 (by decide) (fun c_3 : x1 < 48 => ?_) (fun c_3 : ¬ (x1 < 48) => ?_)
  · refine fs_iconst (v := 0) dX7_isDigit_16 rfl ?_
    have k9 := key_17
    try simp only [if_pos c_3] at k9 ⊢
    exact k9
  · refine fs_iload_n dX7_isDigit_6 rfl rfl ?_
    refine fs_bipush (v := 57) dX7_isDigit_7 rfl ?_
    refine fs_icmp_gt 16 dX7_isDigit_9 (by decide) (fun c_9 : 57 < x1 => ?_) (fun c_9 : ¬ (57 < x1) => ?_)
    · refine fs_iconst (v := 0) dX7_isDigit_16 rfl ?_
      have k9 := key_17
      try simp only [if_neg c_3, if_pos c_9] at k9 ⊢
      exact k9
    · refine fs_iconst (v := 1) dX7_isDigit_12 rfl ?_
      refine fs_goto 17 dX7_isDigit_13 (by decide) ?_
      have k9 := key_17
      try simp only [if_neg c_3, if_neg c_9] at k9 ⊢
      exact k9
theorem nb_X7_isDigit (ht : Nat) (I : Nat → Int32) (A : Nat → Nat → Int32) (J : Nat → Nat → Int64) (it : Nat → Option Nat) (dyn : fsH) (x1 : Int32) : narrow .boolean (.int (L_X7_isDigit_r ht I A J it dyn x1)) = .int (L_X7_isDigit_r ht I A J it dyn x1) := by
  unfold L_X7_isDigit_r
  exact (by (repeat' split) <;> first | rfl)
def L_X7_isFault_r (ht : Nat) (I : Nat → Int32) (A : Nat → Nat → Int32) (J : Nat → Nat → Int64) (it : Nat → Option Nat) (dyn : fsH) (x1 : Int64) : Int32 := (if (lg_cmp x1 (1000000000000000)) ≤ 0 then 0 else 1 : Int32)
set_option maxRecDepth 100000 in
set_option maxHeartbeats 4000000 in
theorem c_X7_isFault (G : fsG) (l : Launch) (ht : Nat) (I : Nat → Int32) (A : Nat → Nat → Int32) (J : Nat → Nat → Int64) (it : Nat → Option Nat) (dyn : fsH) (x1 : Int64) : fsFn G l mX7_isFault 0 0 0 [.inr (.inl x1)] (fs_mk ht I A J it dyn) (some (.inl (L_X7_isFault_r ht I A J it dyn x1))) (fs_mk ht I A J it dyn) := by
  refine fsMet_of (by decide) (Nat.le_of_ble_eq_true rfl) ?_
  generalize hQ : (fun (r1 : Option fsV) (h1 : fsH) => r1 = (some (.inl (L_X7_isFault_r ht I A J it dyn x1))) ∧ h1 = (fs_mk ht I A J it dyn)) = Q
  have hq : Q (some (.inl (L_X7_isFault_r ht I A J it dyn x1))) (fs_mk ht I A J it dyn) := by rw [← hQ]; exact ⟨rfl, rfl⟩
  clear hQ
  have hq : Q (some (.inl (if (lg_cmp x1 (1000000000000000)) ≤ 0 then 0 else 1 : Int32))) (fs_mk ht I A J it dyn) := hq
  refine (show fsW G l mX7_isFault 0 0 0 0 0 Q 0 [(0, .inr (.inl x1))] [] (fs_mk ht I A J it dyn) from ?_)
  refine fs_lload_n dX7_isFault_0 rfl rfl ?_
  refine fs_ldc2 (v := (1000000000000000)) dX7_isFault_1 sk_X7_130 ?_
  refine fs_lcmp dX7_isFault_4 ?_
  have key_13 : fsW G l mX7_isFault 0 0 0 0 0 Q 13 [(0, .inr (.inl x1))] [.inl (if (lg_cmp x1 (1000000000000000)) ≤ 0 then 0 else 1 : Int32)] (fs_mk ht I A J it dyn) := by
    have k9 := hq
    exact fs_iret dX7_isFault_13 rfl (by (repeat' split) <;> first | rfl) k9
  refine fs_if_le 12 dX7_isFault_5 (by decide) (fun c_5 : (lg_cmp x1 (1000000000000000)) ≤ 0 => ?_) (fun c_5 : ¬ ((lg_cmp x1 (1000000000000000)) ≤ 0) => ?_)
  · refine fs_iconst (v := 0) dX7_isFault_12 rfl ?_
    have k9 := key_13
    try simp only [if_pos c_5] at k9 ⊢
    exact k9
  · refine fs_iconst (v := 1) dX7_isFault_8 rfl ?_
    refine fs_goto 13 dX7_isFault_9 (by decide) ?_
    have k9 := key_13
    try simp only [if_neg c_5] at k9 ⊢
    exact k9
theorem nb_X7_isFault (ht : Nat) (I : Nat → Int32) (A : Nat → Nat → Int32) (J : Nat → Nat → Int64) (it : Nat → Option Nat) (dyn : fsH) (x1 : Int64) : narrow .boolean (.int (L_X7_isFault_r ht I A J it dyn x1)) = .int (L_X7_isFault_r ht I A J it dyn x1) := by
  unfold L_X7_isFault_r
  exact (by (repeat' split) <;> first | rfl)
def L_X7_cellOf_r (ht : Nat) (I : Nat → Int32) (A : Nat → Nat → Int32) (J : Nat → Nat → Int64) (it : Nat → Option Nat) (dyn : fsH) (x1 : Int32) (x2 : Int32) : Int32 := ((x1 * 4) + x2)
set_option maxRecDepth 100000 in
set_option maxHeartbeats 4000000 in
theorem c_X7_cellOf (G : fsG) (l : Launch) (ht : Nat) (I : Nat → Int32) (A : Nat → Nat → Int32) (J : Nat → Nat → Int64) (it : Nat → Option Nat) (dyn : fsH) (x1 : Int32) (x2 : Int32) : fsFn G l mX7_cellOf 0 0 0 [.inl x1, .inl x2] (fs_mk ht I A J it dyn) (some (.inl (L_X7_cellOf_r ht I A J it dyn x1 x2))) (fs_mk ht I A J it dyn) := by
  refine fsMet_of (by decide) (Nat.le_of_ble_eq_true rfl) ?_
  generalize hQ : (fun (r1 : Option fsV) (h1 : fsH) => r1 = (some (.inl (L_X7_cellOf_r ht I A J it dyn x1 x2))) ∧ h1 = (fs_mk ht I A J it dyn)) = Q
  have hq : Q (some (.inl (L_X7_cellOf_r ht I A J it dyn x1 x2))) (fs_mk ht I A J it dyn) := by rw [← hQ]; exact ⟨rfl, rfl⟩
  clear hQ
  have hq : Q (some (.inl ((x1 * 4) + x2))) (fs_mk ht I A J it dyn) := hq
  refine (show fsW G l mX7_cellOf 0 0 0 0 0 Q 0 [(0, .inl x1), (1, .inl x2)] [] (fs_mk ht I A J it dyn) from ?_)
  refine fs_iload_n dX7_cellOf_0 rfl rfl ?_
  refine fs_iconst (v := 4) dX7_cellOf_1 rfl ?_
  refine fs_imul dX7_cellOf_2 ?_
  refine fs_iload_n dX7_cellOf_3 rfl rfl ?_
  refine fs_iadd dX7_cellOf_4 ?_
  have k9 := hq
  exact fs_iret dX7_cellOf_5 rfl rfl k9
def L_X5_next_r (ht : Nat) (I : Nat → Int32) (A : Nat → Nat → Int32) (J : Nat → Nat → Int64) (it : Nat → Option Nat) (dyn : fsH)  : Int32 := (if (I 2) ≤ (I 3) then 0 else (A 2 (I 3).toNatClampNeg) : Int32)
def S_X5_next (ht : Nat) (I : Nat → Int32) (A : Nat → Nat → Int32) (J : Nat → Nat → Int64) (it : Nat → Option Nat) (dyn : fsH)  : Prop := ((¬ ((I 2) ≤ (I 3)) → (vp_in (I 3) 60)) ∧ (narrow .char (.int (if (I 2) ≤ (I 3) then 0 else (A 2 (I 3).toNatClampNeg) : Int32)) = .int (if (I 2) ≤ (I 3) then 0 else (A 2 (I 3).toNatClampNeg) : Int32)))
set_option maxRecDepth 100000 in
set_option maxHeartbeats 4000000 in
theorem c_X5_next (G : fsG) (l : Launch) (ht : Nat) (I : Nat → Int32) (A : Nat → Nat → Int32) (J : Nat → Nat → Int64) (it : Nat → Option Nat) (dyn : fsH)  (hS : S_X5_next ht I A J it dyn ) : fsFn G l mX5_next 0 0 0 [.inr (.inr (some 1))] (fs_mk ht I A J it dyn) (some (.inl (L_X5_next_r ht I A J it dyn ))) (fs_mk ht I A J it dyn) := by
  refine fsMet_of (by decide) (Nat.le_of_ble_eq_true rfl) ?_
  generalize hQ : (fun (r1 : Option fsV) (h1 : fsH) => r1 = (some (.inl (L_X5_next_r ht I A J it dyn ))) ∧ h1 = (fs_mk ht I A J it dyn)) = Q
  have hq : Q (some (.inl (L_X5_next_r ht I A J it dyn ))) (fs_mk ht I A J it dyn) := by rw [← hQ]; exact ⟨rfl, rfl⟩
  clear hQ
  have hq : Q (some (.inl (if (I 2) ≤ (I 3) then 0 else (A 2 (I 3).toNatClampNeg) : Int32))) (fs_mk ht I A J it dyn) := hq
  have hS : ((¬ ((I 2) ≤ (I 3)) → (vp_in (I 3) 60)) ∧ (narrow .char (.int (if (I 2) ≤ (I 3) then 0 else (A 2 (I 3).toNatClampNeg) : Int32)) = .int (if (I 2) ≤ (I 3) then 0 else (A 2 (I 3).toNatClampNeg) : Int32))) := hS
  refine (show fsW G l mX5_next 0 0 0 0 0 Q 0 [(0, .inr (.inr (some 1)))] [] (fs_mk ht I A J it dyn) from ?_)
  refine fs_aload_n dX5_next_0 rfl rfl ?_
  refine fs_getfield (v := .inl (I 3)) dX5_next_1 sf_X5_19 rfl rfl ?_
  refine fs_aload_n dX5_next_4 rfl rfl ?_
  refine fs_getfield (v := .inl (I 2)) dX5_next_5 sf_X5_15 rfl rfl ?_
  obtain ⟨hR_8, hS⟩ := hS
  have key_24 : fsW G l mX5_next 0 0 0 0 0 Q 24 [(0, .inr (.inr (some 1)))] [.inl (if (I 2) ≤ (I 3) then 0 else (A 2 (I 3).toNatClampNeg) : Int32)] (fs_mk ht I A J it dyn) := by
    have ho1 := hS
    have k9 := hq
    exact fs_iret dX5_next_24 rfl ho1 k9
  refine fs_icmp_ge 23 dX5_next_8 (by decide) (fun c_8 : (I 2) ≤ (I 3) => ?_) (fun c_8 : ¬ ((I 2) ≤ (I 3)) => ?_)
  · refine fs_iconst (v := 0) dX5_next_23 rfl ?_
    have k9 := key_24
    try simp only [if_pos c_8] at k9 ⊢
    exact k9
  · have hS := hR_8 c_8
    refine fs_aload_n dX5_next_11 rfl rfl ?_
    refine fs_getfield (v := .inr (.inr (some 2))) dX5_next_12 sf_X5_9 rfl rfl ?_
    refine fs_aload_n dX5_next_15 rfl rfl ?_
    refine fs_getfield (v := .inl (I 3)) dX5_next_16 sf_X5_19 rfl rfl ?_
    have ho1 := hS
    refine fs_caload dX5_next_19 rfl ho1 ?_
    refine fs_goto 24 dX5_next_20 (by decide) ?_
    have k9 := key_24
    try simp only [if_neg c_8] at k9 ⊢
    exact k9
def L_X5_skip_r (ht : Nat) (I : Nat → Int32) (A : Nat → Nat → Int32) (J : Nat → Nat → Int64) (it : Nat → Option Nat) (dyn : fsH) (x1 : Int32) : Int32 := (if (L_X5_next_r ht I A J it dyn) = x1 then 1 else 0)
def L_X5_skip_I (ht : Nat) (I : Nat → Int32) (A : Nat → Nat → Int32) (J : Nat → Nat → Int64) (it : Nat → Option Nat) (dyn : fsH) (x1 : Int32) : Nat → Int32 := (if (L_X5_next_r ht I A J it dyn) = x1 then (upd I 3 ((I 3) + 1)) else I)
def S_X5_skip (ht : Nat) (I : Nat → Int32) (A : Nat → Nat → Int32) (J : Nat → Nat → Int64) (it : Nat → Option Nat) (dyn : fsH) (x1 : Int32) : Prop := (S_X5_next ht I A J it dyn)
set_option maxRecDepth 100000 in
set_option maxHeartbeats 4000000 in
theorem c_X5_skip (G : fsG) (l : Launch) (ht : Nat) (I : Nat → Int32) (A : Nat → Nat → Int32) (J : Nat → Nat → Int64) (it : Nat → Option Nat) (dyn : fsH) (x1 : Int32) (hS : S_X5_skip ht I A J it dyn x1) : fsFn G l mX5_skip 1 0 0 [.inr (.inr (some 1)), .inl x1] (fs_mk ht I A J it dyn) (some (.inl (L_X5_skip_r ht I A J it dyn x1))) (fs_mk ht (L_X5_skip_I ht I A J it dyn x1) A J it dyn) := by
  refine fsMet_of (by decide) (Nat.le_of_ble_eq_true rfl) ?_
  generalize hQ : (fun (r1 : Option fsV) (h1 : fsH) => r1 = (some (.inl (L_X5_skip_r ht I A J it dyn x1))) ∧ h1 = (fs_mk ht (L_X5_skip_I ht I A J it dyn x1) A J it dyn)) = Q
  have hq : Q (some (.inl (L_X5_skip_r ht I A J it dyn x1))) (fs_mk ht (L_X5_skip_I ht I A J it dyn x1) A J it dyn) := by rw [← hQ]; exact ⟨rfl, rfl⟩
  clear hQ
  have hq : Q (some (.inl (if (L_X5_next_r ht I A J it dyn) = x1 then 1 else 0 : Int32))) (fs_mk ht (if (L_X5_next_r ht I A J it dyn) = x1 then (upd I 3 ((I 3) + 1)) else I) A J it dyn) := hq
  have hS : (S_X5_next ht I A J it dyn) := hS
  refine (show fsW G l mX5_skip 1 0 0 0 0 Q 0 [(0, .inr (.inr (some 1))), (1, .inl x1)] [] (fs_mk ht I A J it dyn) from ?_)
  refine fs_aload_n dX5_skip_0 rfl rfl ?_
  have ho1 := hS
  refine fs_callV1 dX5_skip_1 sv_X5_26 rfl ⟨_, rfl, rfl⟩ (c_X5_next G l ht I A J it dyn ho1) rfl rfl (Nat.le_of_ble_eq_true rfl) (Nat.le_of_ble_eq_true rfl) (Nat.le_of_ble_eq_true rfl) (Nat.le_of_ble_eq_true rfl) ?_
  refine fs_iload_n dX5_skip_4 rfl rfl ?_
  refine fs_icmp_eq 10 dX5_skip_5 (by decide) (fun c_5 : (L_X5_next_r ht I A J it dyn) = x1 => ?_) (fun c_5 : ¬ ((L_X5_next_r ht I A J it dyn) = x1) => ?_)
  · refine fs_aload_n dX5_skip_10 rfl rfl ?_
    refine fs_dup dX5_skip_11 rfl ?_
    refine fs_getfield (v := .inl (I 3)) dX5_skip_12 sf_X5_19 rfl rfl ?_
    refine fs_iconst (v := 1) dX5_skip_15 rfl ?_
    refine fs_iadd dX5_skip_16 ?_
    refine fsp_3 dX5_skip_17 sp_X5_19 ?_
    refine fs_iconst (v := 1) dX5_skip_20 rfl ?_
    have k9 := hq
    try simp only [if_pos c_5] at k9 ⊢
    exact fs_iret dX5_skip_21 rfl rfl k9
  · refine fs_iconst (v := 0) dX5_skip_8 rfl ?_
    have k9 := hq
    try simp only [if_neg c_5] at k9 ⊢
    exact fs_iret dX5_skip_9 rfl rfl k9
theorem nb_X5_skip (ht : Nat) (I : Nat → Int32) (A : Nat → Nat → Int32) (J : Nat → Nat → Int64) (it : Nat → Option Nat) (dyn : fsH) (x1 : Int32) : narrow .boolean (.int (L_X5_skip_r ht I A J it dyn x1)) = .int (L_X5_skip_r ht I A J it dyn x1) := by
  unfold L_X5_skip_r
  exact (by (repeat' split) <;> first | rfl)
def L_X5_reached_r (ht : Nat) (I : Nat → Int32) (A : Nat → Nat → Int32) (J : Nat → Nat → Int64) (it : Nat → Option Nat) (dyn : fsH)  : Int32 := (I 3)
set_option maxRecDepth 100000 in
set_option maxHeartbeats 4000000 in
theorem c_X5_reached (G : fsG) (l : Launch) (ht : Nat) (I : Nat → Int32) (A : Nat → Nat → Int32) (J : Nat → Nat → Int64) (it : Nat → Option Nat) (dyn : fsH)  : fsFn G l mX5_reached 0 0 0 [.inr (.inr (some 1))] (fs_mk ht I A J it dyn) (some (.inl (L_X5_reached_r ht I A J it dyn ))) (fs_mk ht I A J it dyn) := by
  refine fsMet_of (by decide) (Nat.le_of_ble_eq_true rfl) ?_
  generalize hQ : (fun (r1 : Option fsV) (h1 : fsH) => r1 = (some (.inl (L_X5_reached_r ht I A J it dyn ))) ∧ h1 = (fs_mk ht I A J it dyn)) = Q
  have hq : Q (some (.inl (L_X5_reached_r ht I A J it dyn ))) (fs_mk ht I A J it dyn) := by rw [← hQ]; exact ⟨rfl, rfl⟩
  clear hQ
  have hq : Q (some (.inl (I 3))) (fs_mk ht I A J it dyn) := hq
  refine (show fsW G l mX5_reached 0 0 0 0 0 Q 0 [(0, .inr (.inr (some 1)))] [] (fs_mk ht I A J it dyn) from ?_)
  refine fs_aload_n dX5_reached_0 rfl rfl ?_
  refine fs_getfield (v := .inl (I 3)) dX5_reached_1 sf_X5_19 rfl rfl ?_
  have k9 := hq
  exact fs_iret dX5_reached_4 rfl rfl k9
def L_X5_codeIn_r (ht : Nat) (I : Nat → Int32) (A : Nat → Nat → Int32) (J : Nat → Nat → Int64) (it : Nat → Option Nat) (dyn : fsH) (x1 : Int64) (x2 : Int32) : Int32 := ((x1.toUInt64 >>> (x2.toInt64.toUInt64 &&& Int64.toUInt64 63)).toInt64 &&& (255)).toInt32
set_option maxRecDepth 100000 in
set_option maxHeartbeats 4000000 in
theorem c_X5_codeIn (G : fsG) (l : Launch) (ht : Nat) (I : Nat → Int32) (A : Nat → Nat → Int32) (J : Nat → Nat → Int64) (it : Nat → Option Nat) (dyn : fsH) (x1 : Int64) (x2 : Int32) : fsFn G l mX5_codeIn 0 0 0 [.inr (.inl x1), .inl x2] (fs_mk ht I A J it dyn) (some (.inl (L_X5_codeIn_r ht I A J it dyn x1 x2))) (fs_mk ht I A J it dyn) := by
  refine fsMet_of (by decide) (Nat.le_of_ble_eq_true rfl) ?_
  generalize hQ : (fun (r1 : Option fsV) (h1 : fsH) => r1 = (some (.inl (L_X5_codeIn_r ht I A J it dyn x1 x2))) ∧ h1 = (fs_mk ht I A J it dyn)) = Q
  have hq : Q (some (.inl (L_X5_codeIn_r ht I A J it dyn x1 x2))) (fs_mk ht I A J it dyn) := by rw [← hQ]; exact ⟨rfl, rfl⟩
  clear hQ
  have hq : Q (some (.inl (((x1.toUInt64 >>> (x2.toInt64.toUInt64 &&& Int64.toUInt64 63)).toInt64 &&& (255)).toInt32))) (fs_mk ht I A J it dyn) := hq
  refine (show fsW G l mX5_codeIn 0 0 0 0 0 Q 0 [(0, .inr (.inl x1)), (2, .inl x2)] [] (fs_mk ht I A J it dyn) from ?_)
  refine fs_lload_n dX5_codeIn_0 rfl rfl ?_
  refine fs_iload_n dX5_codeIn_1 rfl rfl ?_
  refine fs_lushr dX5_codeIn_2 ?_
  refine fs_ldc2 (v := (255)) dX5_codeIn_3 sk_X5_47 ?_
  refine fs_land dX5_codeIn_6 ?_
  refine fs_l2i dX5_codeIn_7 ?_
  have k9 := hq
  exact fs_iret dX5_codeIn_8 rfl rfl k9
def L_X5_isSign_r (ht : Nat) (I : Nat → Int32) (A : Nat → Nat → Int32) (J : Nat → Nat → Int64) (it : Nat → Option Nat) (dyn : fsH) (x1 : Int32) : Int32 := (if x1 = 43 then 1 else (if x1 = 45 then 1 else (if x1 = 42 then 1 else (if x1 = 47 then 1 else (if x1 = 60 then 1 else (if x1 = 61 then 1 else (if x1 = 63 then 1 else 0 : Int32) : Int32) : Int32) : Int32) : Int32) : Int32) : Int32)
set_option maxRecDepth 100000 in
set_option maxHeartbeats 4000000 in
theorem c_X5_isSign (G : fsG) (l : Launch) (ht : Nat) (I : Nat → Int32) (A : Nat → Nat → Int32) (J : Nat → Nat → Int64) (it : Nat → Option Nat) (dyn : fsH) (x1 : Int32) : fsFn G l mX5_isSign 0 0 0 [.inl x1] (fs_mk ht I A J it dyn) (some (.inl (L_X5_isSign_r ht I A J it dyn x1))) (fs_mk ht I A J it dyn) := by
  refine fsMet_of (by decide) (Nat.le_of_ble_eq_true rfl) ?_
  generalize hQ : (fun (r1 : Option fsV) (h1 : fsH) => r1 = (some (.inl (L_X5_isSign_r ht I A J it dyn x1))) ∧ h1 = (fs_mk ht I A J it dyn)) = Q
  have hq : Q (some (.inl (L_X5_isSign_r ht I A J it dyn x1))) (fs_mk ht I A J it dyn) := by rw [← hQ]; exact ⟨rfl, rfl⟩
  clear hQ
  have hq : Q (some (.inl (if x1 = 43 then 1 else (if x1 = 45 then 1 else (if x1 = 42 then 1 else (if x1 = 47 then 1 else (if x1 = 60 then 1 else (if x1 = 61 then 1 else (if x1 = 63 then 1 else 0 : Int32) : Int32) : Int32) : Int32) : Int32) : Int32) : Int32))) (fs_mk ht I A J it dyn) := hq
  refine (show fsW G l mX5_isSign 0 0 0 0 0 Q 0 [(0, .inl x1)] [] (fs_mk ht I A J it dyn) from ?_)
  refine fs_iload_n dX5_isSign_0 rfl rfl ?_
  refine fs_bipush (v := 43) dX5_isSign_1 rfl ?_
  have key_47 : fsW G l mX5_isSign 0 0 0 0 0 Q 47 [(0, .inl x1)] [.inl (if x1 = 43 then 1 else (if x1 = 45 then 1 else (if x1 = 42 then 1 else (if x1 = 47 then 1 else (if x1 = 60 then 1 else (if x1 = 61 then 1 else (if x1 = 63 then 1 else 0 : Int32) : Int32) : Int32) : Int32) : Int32) : Int32) : Int32)] (fs_mk ht I A J it dyn) := by
    have k9 := hq
    exact fs_iret dX5_isSign_47 rfl (by (repeat' split) <;> first | rfl) k9
  refine fs_icmp_eq 42 dX5_isSign_3 (by decide) (fun c_3 : x1 = 43 => ?_) (fun c_3 : ¬ (x1 = 43) => ?_)
  · refine fs_iconst (v := 1) dX5_isSign_42 rfl ?_
    refine fs_goto 47 dX5_isSign_43 (by decide) ?_
    have k9 := key_47
    try simp only [if_pos c_3] at k9 ⊢
    exact k9
  · refine fs_iload_n dX5_isSign_6 rfl rfl ?_
    refine fs_bipush (v := 45) dX5_isSign_7 rfl ?_
    refine fs_icmp_eq 42 dX5_isSign_9 (by decide) (fun c_9 : x1 = 45 => ?_) (fun c_9 : ¬ (x1 = 45) => ?_)
    · refine fs_iconst (v := 1) dX5_isSign_42 rfl ?_
      refine fs_goto 47 dX5_isSign_43 (by decide) ?_
      have k9 := key_47
      try simp only [if_neg c_3, if_pos c_9] at k9 ⊢
      exact k9
    · refine fs_iload_n dX5_isSign_12 rfl rfl ?_
      refine fs_bipush (v := 42) dX5_isSign_13 rfl ?_
      refine fs_icmp_eq 42 dX5_isSign_15 (by decide) (fun c_15 : x1 = 42 => ?_) (fun c_15 : ¬ (x1 = 42) => ?_)
      · refine fs_iconst (v := 1) dX5_isSign_42 rfl ?_
        refine fs_goto 47 dX5_isSign_43 (by decide) ?_
        have k9 := key_47
        try simp only [if_neg c_3, if_neg c_9, if_pos c_15] at k9 ⊢
        exact k9
      · refine fs_iload_n dX5_isSign_18 rfl rfl ?_
        refine fs_bipush (v := 47) dX5_isSign_19 rfl ?_
        refine fs_icmp_eq 42 dX5_isSign_21 (by decide) (fun c_21 : x1 = 47 => ?_) (fun c_21 : ¬ (x1 = 47) => ?_)
        · refine fs_iconst (v := 1) dX5_isSign_42 rfl ?_
          refine fs_goto 47 dX5_isSign_43 (by decide) ?_
          have k9 := key_47
          try simp only [if_neg c_3, if_neg c_9, if_neg c_15, if_pos c_21] at k9 ⊢
          exact k9
        · refine fs_iload_n dX5_isSign_24 rfl rfl ?_
          refine fs_bipush (v := 60) dX5_isSign_25 rfl ?_
          refine fs_icmp_eq 42 dX5_isSign_27 (by decide) (fun c_27 : x1 = 60 => ?_) (fun c_27 : ¬ (x1 = 60) => ?_)
          · refine fs_iconst (v := 1) dX5_isSign_42 rfl ?_
            refine fs_goto 47 dX5_isSign_43 (by decide) ?_
            have k9 := key_47
            try simp only [if_neg c_3, if_neg c_9, if_neg c_15, if_neg c_21, if_pos c_27] at k9 ⊢
            exact k9
          · refine fs_iload_n dX5_isSign_30 rfl rfl ?_
            refine fs_bipush (v := 61) dX5_isSign_31 rfl ?_
            refine fs_icmp_eq 42 dX5_isSign_33 (by decide) (fun c_33 : x1 = 61 => ?_) (fun c_33 : ¬ (x1 = 61) => ?_)
            · refine fs_iconst (v := 1) dX5_isSign_42 rfl ?_
              refine fs_goto 47 dX5_isSign_43 (by decide) ?_
              have k9 := key_47
              try simp only [if_neg c_3, if_neg c_9, if_neg c_15, if_neg c_21, if_neg c_27, if_pos c_33] at k9 ⊢
              exact k9
            · refine fs_iload_n dX5_isSign_36 rfl rfl ?_
              refine fs_bipush (v := 63) dX5_isSign_37 rfl ?_
              refine fs_icmp_ne 46 dX5_isSign_39 (by decide) (fun c_39 : ¬ x1 = 63 => ?_) (fun c_39 : x1 = 63 => ?_)
              · refine fs_iconst (v := 0) dX5_isSign_46 rfl ?_
                have k9 := key_47
                try simp only [if_neg c_3, if_neg c_9, if_neg c_15, if_neg c_21, if_neg c_27, if_neg c_33, if_neg c_39] at k9 ⊢
                exact k9
              · refine fs_iconst (v := 1) dX5_isSign_42 rfl ?_
                refine fs_goto 47 dX5_isSign_43 (by decide) ?_
                have k9 := key_47
                try simp only [if_neg c_3, if_neg c_9, if_neg c_15, if_neg c_21, if_neg c_27, if_neg c_33, if_pos c_39] at k9 ⊢
                exact k9
theorem nb_X5_isSign (ht : Nat) (I : Nat → Int32) (A : Nat → Nat → Int32) (J : Nat → Nat → Int64) (it : Nat → Option Nat) (dyn : fsH) (x1 : Int32) : narrow .boolean (.int (L_X5_isSign_r ht I A J it dyn x1)) = .int (L_X5_isSign_r ht I A J it dyn x1) := by
  unfold L_X5_isSign_r
  exact (by (repeat' split) <;> first | rfl)
def Lb_X5_nameCode_4_I : Nat → Nat → (Nat → Int32) → (Nat → Nat → Int32) → (Nat → Nat → Int64) → (Nat → Option Nat) → fsH → Int32 → Int32 → (Nat → Int32)
  | 0, ht, I, A, J, it, dyn, v1, v2 => I
  | n + 1, ht, I, A, J, it, dyn, v1, v2 => (if 2 ≤ v2 then I else (if (L_X7_isLetter_r ht I A J it dyn (L_X5_next_r ht I A J it dyn)) = 0 then I else (Lb_X5_nameCode_4_I n ht (upd I 3 ((I 3) + 1)) A J it dyn ((128 * v1) + (L_X5_next_r ht I A J it dyn)) (v2 + 1))))
def Lb_X5_nameCode_4_v1 : Nat → Nat → (Nat → Int32) → (Nat → Nat → Int32) → (Nat → Nat → Int64) → (Nat → Option Nat) → fsH → Int32 → Int32 → Int32
  | 0, ht, I, A, J, it, dyn, v1, v2 => v1
  | n + 1, ht, I, A, J, it, dyn, v1, v2 => (if 2 ≤ v2 then v1 else (if (L_X7_isLetter_r ht I A J it dyn (L_X5_next_r ht I A J it dyn)) = 0 then v1 else (Lb_X5_nameCode_4_v1 n ht (upd I 3 ((I 3) + 1)) A J it dyn ((128 * v1) + (L_X5_next_r ht I A J it dyn)) (v2 + 1))))
def Lb_X5_nameCode_4_v2 : Nat → Nat → (Nat → Int32) → (Nat → Nat → Int32) → (Nat → Nat → Int64) → (Nat → Option Nat) → fsH → Int32 → Int32 → Int32
  | 0, ht, I, A, J, it, dyn, v1, v2 => v2
  | n + 1, ht, I, A, J, it, dyn, v1, v2 => (if 2 ≤ v2 then v2 else (if (L_X7_isLetter_r ht I A J it dyn (L_X5_next_r ht I A J it dyn)) = 0 then v2 else (Lb_X5_nameCode_4_v2 n ht (upd I 3 ((I 3) + 1)) A J it dyn ((128 * v1) + (L_X5_next_r ht I A J it dyn)) (v2 + 1))))
def S_Lb_X5_nameCode_4 : Nat → Nat → (Nat → Int32) → (Nat → Nat → Int32) → (Nat → Nat → Int64) → (Nat → Option Nat) → fsH → Int32 → Int32 → Prop
  | 0, _, _, _, _, _, _, _, _ => False
  | n + 1, ht, I, A, J, it, dyn, v1, v2 => (¬ (2 ≤ v2) → ((S_X5_next ht I A J it dyn) ∧ (¬ ((L_X7_isLetter_r ht I A J it dyn (L_X5_next_r ht I A J it dyn)) = 0) → ((S_X5_next ht I A J it dyn) ∧ (S_Lb_X5_nameCode_4 n ht (upd I 3 ((I 3) + 1)) A J it dyn ((128 * v1) + (L_X5_next_r ht I A J it dyn)) (v2 + 1))))))
set_option maxRecDepth 100000 in
set_option maxHeartbeats 4000000 in
theorem lp_Lb_X5_nameCode_4 (G : fsG) (l : Launch) (Q : Option fsV → fsH → Prop) : ∀ (n : Nat) (ht : Nat) (I : Nat → Int32) (A : Nat → Nat → Int32) (J : Nat → Nat → Int64) (it : Nat → Option Nat) (dyn : fsH) (v1 : Int32) (v2 : Int32), S_Lb_X5_nameCode_4 n ht I A J it dyn v1 v2 → (fsW G l mX5_nameCode 1 0 0 0 0 Q 46 [(0, .inr (.inr (some 1))), (1, .inl (Lb_X5_nameCode_4_v1 n ht I A J it dyn v1 v2)), (2, .inl (Lb_X5_nameCode_4_v2 n ht I A J it dyn v1 v2))] [] (fs_mk ht (Lb_X5_nameCode_4_I n ht I A J it dyn v1 v2) A J it dyn)) → fsW G l mX5_nameCode 1 0 0 0 0 Q 4 [(0, .inr (.inr (some 1))), (1, .inl v1), (2, .inl v2)] [] (fs_mk ht I A J it dyn) := by
  intro n
  induction n with
  | zero =>
    intro ht I A J it dyn v1 v2 hS
    exact hS.elim
  | succ n ih =>
    intro ht I A J it dyn v1 v2 hS hq
    have hS : (¬ (2 ≤ v2) → ((S_X5_next ht I A J it dyn) ∧ (¬ ((L_X7_isLetter_r ht I A J it dyn (L_X5_next_r ht I A J it dyn)) = 0) → ((S_X5_next ht I A J it dyn) ∧ (S_Lb_X5_nameCode_4 n ht (upd I 3 ((I 3) + 1)) A J it dyn ((128 * v1) + (L_X5_next_r ht I A J it dyn)) (v2 + 1)))))) := hS
    have hq : fsW G l mX5_nameCode 1 0 0 0 0 Q 46 [(0, .inr (.inr (some 1))), (1, .inl (if 2 ≤ v2 then v1 else (if (L_X7_isLetter_r ht I A J it dyn (L_X5_next_r ht I A J it dyn)) = 0 then v1 else (Lb_X5_nameCode_4_v1 n ht (upd I 3 ((I 3) + 1)) A J it dyn ((128 * v1) + (L_X5_next_r ht I A J it dyn)) (v2 + 1))))), (2, .inl (if 2 ≤ v2 then v2 else (if (L_X7_isLetter_r ht I A J it dyn (L_X5_next_r ht I A J it dyn)) = 0 then v2 else (Lb_X5_nameCode_4_v2 n ht (upd I 3 ((I 3) + 1)) A J it dyn ((128 * v1) + (L_X5_next_r ht I A J it dyn)) (v2 + 1)))))] [] (fs_mk ht (if 2 ≤ v2 then I else (if (L_X7_isLetter_r ht I A J it dyn (L_X5_next_r ht I A J it dyn)) = 0 then I else (Lb_X5_nameCode_4_I n ht (upd I 3 ((I 3) + 1)) A J it dyn ((128 * v1) + (L_X5_next_r ht I A J it dyn)) (v2 + 1)))) A J it dyn) := hq
    refine fs_iload_n dX5_nameCode_4 rfl rfl ?_
    refine fs_iconst (v := 2) dX5_nameCode_5 rfl ?_
    refine fs_icmp_ge 46 dX5_nameCode_6 (by decide) (fun c_6 : 2 ≤ v2 => ?_) (fun c_6 : ¬ (2 ≤ v2) => ?_)
    · have k9 := hq
      try simp only [if_pos c_6] at k9 ⊢
      exact k9
    · have hS := hS c_6
      refine fs_aload_n dX5_nameCode_9 rfl rfl ?_
      obtain ⟨ho1, hS⟩ := hS
      refine fs_callV1 dX5_nameCode_10 sv_X5_26 rfl ⟨_, rfl, rfl⟩ (c_X5_next G l ht I A J it dyn ho1) rfl rfl (Nat.le_of_ble_eq_true rfl) (Nat.le_of_ble_eq_true rfl) (Nat.le_of_ble_eq_true rfl) (Nat.le_of_ble_eq_true rfl) ?_
      refine fs_callSN1 dX5_nameCode_13 sv_X5_30 (c_X7_isLetter G l ht I A J it dyn (L_X5_next_r ht I A J it dyn)) rfl rfl (Nat.le_of_ble_eq_true rfl) (Nat.le_of_ble_eq_true rfl) (Nat.le_of_ble_eq_true rfl) (Nat.le_of_ble_eq_true rfl) ?_
      refine fs_if_eq 46 dX5_nameCode_16 (by decide) (fun c_16 : (L_X7_isLetter_r ht I A J it dyn (L_X5_next_r ht I A J it dyn)) = 0 => ?_) (fun c_16 : ¬ ((L_X7_isLetter_r ht I A J it dyn (L_X5_next_r ht I A J it dyn)) = 0) => ?_)
      · have k9 := hq
        try simp only [if_neg c_6, if_pos c_16] at k9 ⊢
        exact k9
      · have hS := hS c_16
        refine fs_sipush (v := 128) dX5_nameCode_19 rfl ?_
        refine fs_iload_n dX5_nameCode_22 rfl rfl ?_
        refine fs_imul dX5_nameCode_23 ?_
        refine fs_aload_n dX5_nameCode_24 rfl rfl ?_
        obtain ⟨ho1, hS⟩ := hS
        refine fs_callV1 dX5_nameCode_25 sv_X5_26 rfl ⟨_, rfl, rfl⟩ (c_X5_next G l ht I A J it dyn ho1) rfl rfl (Nat.le_of_ble_eq_true rfl) (Nat.le_of_ble_eq_true rfl) (Nat.le_of_ble_eq_true rfl) (Nat.le_of_ble_eq_true rfl) ?_
        refine fs_iadd dX5_nameCode_28 ?_
        refine fs_istore_n (L' := [(1, .inl ((128 * v1) + (L_X5_next_r ht I A J it dyn))), (0, .inr (.inr (some 1))), (2, .inl v2)]) dX5_nameCode_29 rfl (by decide) rfl ?_
        refine fs_aload_n dX5_nameCode_30 rfl rfl ?_
        refine fs_dup dX5_nameCode_31 rfl ?_
        refine fs_getfield (v := .inl (I 3)) dX5_nameCode_32 sf_X5_19 rfl rfl ?_
        refine fs_iconst (v := 1) dX5_nameCode_35 rfl ?_
        refine fs_iadd dX5_nameCode_36 ?_
        refine fsp_3 dX5_nameCode_37 sp_X5_19 ?_
        refine fs_iinc (v := (v2 + 1)) (L' := [(2, .inl (v2 + 1)), (1, .inl ((128 * v1) + (L_X5_next_r ht I A J it dyn))), (0, .inr (.inr (some 1)))]) dX5_nameCode_40 rfl rfl (by decide) rfl ?_
        refine fs_goto 4 dX5_nameCode_43 (by decide) ?_
        refine fs_reL [2, 1, 0] rfl ?_
        have k9 := hq
        try simp only [if_neg c_6, if_neg c_16] at hS k9 ⊢
        exact ih _ _ _ _ _ _ _ _ hS k9
def L_X5_nameCode_r (ht : Nat) (I : Nat → Int32) (A : Nat → Nat → Int32) (J : Nat → Nat → Int64) (it : Nat → Option Nat) (dyn : fsH)  : Int32 := (Lb_X5_nameCode_4_v1 70 ht I A J it dyn 0 0)
def L_X5_nameCode_I (ht : Nat) (I : Nat → Int32) (A : Nat → Nat → Int32) (J : Nat → Nat → Int64) (it : Nat → Option Nat) (dyn : fsH)  : Nat → Int32 := (Lb_X5_nameCode_4_I 70 ht I A J it dyn 0 0)
def S_X5_nameCode (ht : Nat) (I : Nat → Int32) (A : Nat → Nat → Int32) (J : Nat → Nat → Int64) (it : Nat → Option Nat) (dyn : fsH)  : Prop := (S_Lb_X5_nameCode_4 70 ht I A J it dyn 0 0)
set_option maxRecDepth 100000 in
set_option maxHeartbeats 4000000 in
theorem c_X5_nameCode (G : fsG) (l : Launch) (ht : Nat) (I : Nat → Int32) (A : Nat → Nat → Int32) (J : Nat → Nat → Int64) (it : Nat → Option Nat) (dyn : fsH)  (hS : S_X5_nameCode ht I A J it dyn ) : fsFn G l mX5_nameCode 1 0 0 [.inr (.inr (some 1))] (fs_mk ht I A J it dyn) (some (.inl (L_X5_nameCode_r ht I A J it dyn ))) (fs_mk ht (L_X5_nameCode_I ht I A J it dyn ) A J it dyn) := by
  refine fsMet_of (by decide) (Nat.le_of_ble_eq_true rfl) ?_
  generalize hQ : (fun (r1 : Option fsV) (h1 : fsH) => r1 = (some (.inl (L_X5_nameCode_r ht I A J it dyn ))) ∧ h1 = (fs_mk ht (L_X5_nameCode_I ht I A J it dyn ) A J it dyn)) = Q
  have hq : Q (some (.inl (L_X5_nameCode_r ht I A J it dyn ))) (fs_mk ht (L_X5_nameCode_I ht I A J it dyn ) A J it dyn) := by rw [← hQ]; exact ⟨rfl, rfl⟩
  clear hQ
  have hq : Q (some (.inl (Lb_X5_nameCode_4_v1 70 ht I A J it dyn 0 0))) (fs_mk ht (Lb_X5_nameCode_4_I 70 ht I A J it dyn 0 0) A J it dyn) := hq
  have hS : (S_Lb_X5_nameCode_4 70 ht I A J it dyn 0 0) := hS
  refine (show fsW G l mX5_nameCode 1 0 0 0 0 Q 0 [(0, .inr (.inr (some 1)))] [] (fs_mk ht I A J it dyn) from ?_)
  refine fs_iconst (v := 0) dX5_nameCode_0 rfl ?_
  refine fs_istore_n (L' := [(1, .inl 0), (0, .inr (.inr (some 1)))]) dX5_nameCode_1 rfl (by decide) rfl ?_
  refine fs_iconst (v := 0) dX5_nameCode_2 rfl ?_
  refine fs_istore_n (L' := [(2, .inl 0), (1, .inl 0), (0, .inr (.inr (some 1)))]) dX5_nameCode_3 rfl (by decide) rfl ?_
  refine fs_reL [2, 1, 0] rfl ?_
  have ho1 := hS
  refine lp_Lb_X5_nameCode_4 G l Q 70 ht I A J it dyn 0 0 ho1 ?_
  refine fs_iload_n dX5_nameCode_46 rfl rfl ?_
  have k9 := hq
  exact fs_iret dX5_nameCode_47 rfl rfl k9
def Lb_X5_digits_5_I : Nat → Nat → (Nat → Int32) → (Nat → Nat → Int32) → (Nat → Nat → Int64) → (Nat → Option Nat) → fsH → Int32 → Int64 → Int32 → (Nat → Int32)
  | 0, ht, I, A, J, it, dyn, v1, v2, v4 => I
  | n + 1, ht, I, A, J, it, dyn, v1, v2, v4 => (if v1 ≤ v4 then I else (if (L_X7_isDigit_r ht I A J it dyn (L_X5_next_r ht I A J it dyn)) = 0 then I else (Lb_X5_digits_5_I n ht (upd I 3 ((I 3) + 1)) A J it dyn v1 (((10) * v2) + ((L_X5_next_r ht I A J it dyn) - 48).toInt64) (v4 + 1))))
def Lb_X5_digits_5_v2 : Nat → Nat → (Nat → Int32) → (Nat → Nat → Int32) → (Nat → Nat → Int64) → (Nat → Option Nat) → fsH → Int32 → Int64 → Int32 → Int64
  | 0, ht, I, A, J, it, dyn, v1, v2, v4 => v2
  | n + 1, ht, I, A, J, it, dyn, v1, v2, v4 => (if v1 ≤ v4 then v2 else (if (L_X7_isDigit_r ht I A J it dyn (L_X5_next_r ht I A J it dyn)) = 0 then v2 else (Lb_X5_digits_5_v2 n ht (upd I 3 ((I 3) + 1)) A J it dyn v1 (((10) * v2) + ((L_X5_next_r ht I A J it dyn) - 48).toInt64) (v4 + 1))))
def Lb_X5_digits_5_v4 : Nat → Nat → (Nat → Int32) → (Nat → Nat → Int32) → (Nat → Nat → Int64) → (Nat → Option Nat) → fsH → Int32 → Int64 → Int32 → Int32
  | 0, ht, I, A, J, it, dyn, v1, v2, v4 => v4
  | n + 1, ht, I, A, J, it, dyn, v1, v2, v4 => (if v1 ≤ v4 then v4 else (if (L_X7_isDigit_r ht I A J it dyn (L_X5_next_r ht I A J it dyn)) = 0 then v4 else (Lb_X5_digits_5_v4 n ht (upd I 3 ((I 3) + 1)) A J it dyn v1 (((10) * v2) + ((L_X5_next_r ht I A J it dyn) - 48).toInt64) (v4 + 1))))
def S_Lb_X5_digits_5 : Nat → Nat → (Nat → Int32) → (Nat → Nat → Int32) → (Nat → Nat → Int64) → (Nat → Option Nat) → fsH → Int32 → Int64 → Int32 → Prop
  | 0, _, _, _, _, _, _, _, _, _ => False
  | n + 1, ht, I, A, J, it, dyn, v1, v2, v4 => (¬ (v1 ≤ v4) → ((S_X5_next ht I A J it dyn) ∧ (¬ ((L_X7_isDigit_r ht I A J it dyn (L_X5_next_r ht I A J it dyn)) = 0) → ((S_X5_next ht I A J it dyn) ∧ (S_Lb_X5_digits_5 n ht (upd I 3 ((I 3) + 1)) A J it dyn v1 (((10) * v2) + ((L_X5_next_r ht I A J it dyn) - 48).toInt64) (v4 + 1))))))
set_option maxRecDepth 100000 in
set_option maxHeartbeats 4000000 in
theorem lp_Lb_X5_digits_5 (G : fsG) (l : Launch) (Q : Option fsV → fsH → Prop) : ∀ (n : Nat) (ht : Nat) (I : Nat → Int32) (A : Nat → Nat → Int32) (J : Nat → Nat → Int64) (it : Nat → Option Nat) (dyn : fsH) (v1 : Int32) (v2 : Int64) (v4 : Int32), S_Lb_X5_digits_5 n ht I A J it dyn v1 v2 v4 → (fsW G l mX5_digits 1 0 0 0 0 Q 52 [(0, .inr (.inr (some 1))), (1, .inl v1), (2, .inr (.inl (Lb_X5_digits_5_v2 n ht I A J it dyn v1 v2 v4))), (4, .inl (Lb_X5_digits_5_v4 n ht I A J it dyn v1 v2 v4))] [] (fs_mk ht (Lb_X5_digits_5_I n ht I A J it dyn v1 v2 v4) A J it dyn)) → fsW G l mX5_digits 1 0 0 0 0 Q 5 [(0, .inr (.inr (some 1))), (1, .inl v1), (2, .inr (.inl v2)), (4, .inl v4)] [] (fs_mk ht I A J it dyn) := by
  intro n
  induction n with
  | zero =>
    intro ht I A J it dyn v1 v2 v4 hS
    exact hS.elim
  | succ n ih =>
    intro ht I A J it dyn v1 v2 v4 hS hq
    have hS : (¬ (v1 ≤ v4) → ((S_X5_next ht I A J it dyn) ∧ (¬ ((L_X7_isDigit_r ht I A J it dyn (L_X5_next_r ht I A J it dyn)) = 0) → ((S_X5_next ht I A J it dyn) ∧ (S_Lb_X5_digits_5 n ht (upd I 3 ((I 3) + 1)) A J it dyn v1 (((10) * v2) + ((L_X5_next_r ht I A J it dyn) - 48).toInt64) (v4 + 1)))))) := hS
    have hq : fsW G l mX5_digits 1 0 0 0 0 Q 52 [(0, .inr (.inr (some 1))), (1, .inl v1), (2, .inr (.inl (if v1 ≤ v4 then v2 else (if (L_X7_isDigit_r ht I A J it dyn (L_X5_next_r ht I A J it dyn)) = 0 then v2 else (Lb_X5_digits_5_v2 n ht (upd I 3 ((I 3) + 1)) A J it dyn v1 (((10) * v2) + ((L_X5_next_r ht I A J it dyn) - 48).toInt64) (v4 + 1)))))), (4, .inl (if v1 ≤ v4 then v4 else (if (L_X7_isDigit_r ht I A J it dyn (L_X5_next_r ht I A J it dyn)) = 0 then v4 else (Lb_X5_digits_5_v4 n ht (upd I 3 ((I 3) + 1)) A J it dyn v1 (((10) * v2) + ((L_X5_next_r ht I A J it dyn) - 48).toInt64) (v4 + 1)))))] [] (fs_mk ht (if v1 ≤ v4 then I else (if (L_X7_isDigit_r ht I A J it dyn (L_X5_next_r ht I A J it dyn)) = 0 then I else (Lb_X5_digits_5_I n ht (upd I 3 ((I 3) + 1)) A J it dyn v1 (((10) * v2) + ((L_X5_next_r ht I A J it dyn) - 48).toInt64) (v4 + 1)))) A J it dyn) := hq
    refine fs_iload dX5_digits_5 rfl ?_
    refine fs_iload_n dX5_digits_7 rfl rfl ?_
    refine fs_icmp_ge 52 dX5_digits_8 (by decide) (fun c_8 : v1 ≤ v4 => ?_) (fun c_8 : ¬ (v1 ≤ v4) => ?_)
    · have k9 := hq
      try simp only [if_pos c_8] at k9 ⊢
      exact k9
    · have hS := hS c_8
      refine fs_aload_n dX5_digits_11 rfl rfl ?_
      obtain ⟨ho1, hS⟩ := hS
      refine fs_callV1 dX5_digits_12 sv_X5_26 rfl ⟨_, rfl, rfl⟩ (c_X5_next G l ht I A J it dyn ho1) rfl rfl (Nat.le_of_ble_eq_true rfl) (Nat.le_of_ble_eq_true rfl) (Nat.le_of_ble_eq_true rfl) (Nat.le_of_ble_eq_true rfl) ?_
      refine fs_callSN1 dX5_digits_15 sv_X5_68 (c_X7_isDigit G l ht I A J it dyn (L_X5_next_r ht I A J it dyn)) rfl rfl (Nat.le_of_ble_eq_true rfl) (Nat.le_of_ble_eq_true rfl) (Nat.le_of_ble_eq_true rfl) (Nat.le_of_ble_eq_true rfl) ?_
      refine fs_if_eq 52 dX5_digits_18 (by decide) (fun c_18 : (L_X7_isDigit_r ht I A J it dyn (L_X5_next_r ht I A J it dyn)) = 0 => ?_) (fun c_18 : ¬ ((L_X7_isDigit_r ht I A J it dyn (L_X5_next_r ht I A J it dyn)) = 0) => ?_)
      · have k9 := hq
        try simp only [if_neg c_8, if_pos c_18] at k9 ⊢
        exact k9
      · have hS := hS c_18
        refine fs_ldc2 (v := (10)) dX5_digits_21 sk_X5_95 ?_
        refine fs_lload_n dX5_digits_24 rfl rfl ?_
        refine fs_lmul dX5_digits_25 ?_
        refine fs_aload_n dX5_digits_26 rfl rfl ?_
        obtain ⟨ho1, hS⟩ := hS
        refine fs_callV1 dX5_digits_27 sv_X5_26 rfl ⟨_, rfl, rfl⟩ (c_X5_next G l ht I A J it dyn ho1) rfl rfl (Nat.le_of_ble_eq_true rfl) (Nat.le_of_ble_eq_true rfl) (Nat.le_of_ble_eq_true rfl) (Nat.le_of_ble_eq_true rfl) ?_
        refine fs_bipush (v := 48) dX5_digits_30 rfl ?_
        refine fs_isub dX5_digits_32 ?_
        refine fs_i2l dX5_digits_33 ?_
        refine fs_ladd dX5_digits_34 ?_
        refine fs_lstore_n (L' := [(2, .inr (.inl (((10) * v2) + ((L_X5_next_r ht I A J it dyn) - 48).toInt64))), (0, .inr (.inr (some 1))), (1, .inl v1), (4, .inl v4)]) dX5_digits_35 rfl (by decide) rfl ?_
        refine fs_aload_n dX5_digits_36 rfl rfl ?_
        refine fs_dup dX5_digits_37 rfl ?_
        refine fs_getfield (v := .inl (I 3)) dX5_digits_38 sf_X5_19 rfl rfl ?_
        refine fs_iconst (v := 1) dX5_digits_41 rfl ?_
        refine fs_iadd dX5_digits_42 ?_
        refine fsp_3 dX5_digits_43 sp_X5_19 ?_
        refine fs_iinc (v := (v4 + 1)) (L' := [(4, .inl (v4 + 1)), (2, .inr (.inl (((10) * v2) + ((L_X5_next_r ht I A J it dyn) - 48).toInt64))), (0, .inr (.inr (some 1))), (1, .inl v1)]) dX5_digits_46 rfl rfl (by decide) rfl ?_
        refine fs_goto 5 dX5_digits_49 (by decide) ?_
        refine fs_reL [2, 3, 1, 0] rfl ?_
        have k9 := hq
        try simp only [if_neg c_8, if_neg c_18] at hS k9 ⊢
        exact ih _ _ _ _ _ _ _ _ _ hS k9
def L_X5_digits_r (ht : Nat) (I : Nat → Int32) (A : Nat → Nat → Int32) (J : Nat → Nat → Int64) (it : Nat → Option Nat) (dyn : fsH) (x1 : Int32) : Int64 := (Lb_X5_digits_5_v2 70 ht I A J it dyn x1 0 0)
def L_X5_digits_I (ht : Nat) (I : Nat → Int32) (A : Nat → Nat → Int32) (J : Nat → Nat → Int64) (it : Nat → Option Nat) (dyn : fsH) (x1 : Int32) : Nat → Int32 := (Lb_X5_digits_5_I 70 ht I A J it dyn x1 0 0)
def S_X5_digits (ht : Nat) (I : Nat → Int32) (A : Nat → Nat → Int32) (J : Nat → Nat → Int64) (it : Nat → Option Nat) (dyn : fsH) (x1 : Int32) : Prop := (S_Lb_X5_digits_5 70 ht I A J it dyn x1 0 0)
set_option maxRecDepth 100000 in
set_option maxHeartbeats 4000000 in
theorem c_X5_digits (G : fsG) (l : Launch) (ht : Nat) (I : Nat → Int32) (A : Nat → Nat → Int32) (J : Nat → Nat → Int64) (it : Nat → Option Nat) (dyn : fsH) (x1 : Int32) (hS : S_X5_digits ht I A J it dyn x1) : fsFn G l mX5_digits 1 0 0 [.inr (.inr (some 1)), .inl x1] (fs_mk ht I A J it dyn) (some (.inr (.inl (L_X5_digits_r ht I A J it dyn x1)))) (fs_mk ht (L_X5_digits_I ht I A J it dyn x1) A J it dyn) := by
  refine fsMet_of (by decide) (Nat.le_of_ble_eq_true rfl) ?_
  generalize hQ : (fun (r1 : Option fsV) (h1 : fsH) => r1 = (some (.inr (.inl (L_X5_digits_r ht I A J it dyn x1)))) ∧ h1 = (fs_mk ht (L_X5_digits_I ht I A J it dyn x1) A J it dyn)) = Q
  have hq : Q (some (.inr (.inl (L_X5_digits_r ht I A J it dyn x1)))) (fs_mk ht (L_X5_digits_I ht I A J it dyn x1) A J it dyn) := by rw [← hQ]; exact ⟨rfl, rfl⟩
  clear hQ
  have hq : Q (some (.inr (.inl (Lb_X5_digits_5_v2 70 ht I A J it dyn x1 0 0)))) (fs_mk ht (Lb_X5_digits_5_I 70 ht I A J it dyn x1 0 0) A J it dyn) := hq
  have hS : (S_Lb_X5_digits_5 70 ht I A J it dyn x1 0 0) := hS
  refine (show fsW G l mX5_digits 1 0 0 0 0 Q 0 [(0, .inr (.inr (some 1))), (1, .inl x1)] [] (fs_mk ht I A J it dyn) from ?_)
  refine fs_lconst (v := 0) dX5_digits_0 rfl ?_
  refine fs_lstore_n (L' := [(2, .inr (.inl 0)), (0, .inr (.inr (some 1))), (1, .inl x1)]) dX5_digits_1 rfl (by decide) rfl ?_
  refine fs_iconst (v := 0) dX5_digits_2 rfl ?_
  refine fs_istore (L' := [(4, .inl 0), (2, .inr (.inl 0)), (0, .inr (.inr (some 1))), (1, .inl x1)]) dX5_digits_3 (by decide) rfl ?_
  refine fs_reL [2, 3, 1, 0] rfl ?_
  have ho1 := hS
  refine lp_Lb_X5_digits_5 G l Q 70 ht I A J it dyn x1 0 0 ho1 ?_
  refine fs_lload_n dX5_digits_52 rfl rfl ?_
  have k9 := hq
  exact fs_lret dX5_digits_53 rfl k9
def Lb_X5_append_76_I : Nat → Nat → (Nat → Int32) → (Nat → Nat → Int32) → (Nat → Nat → Int64) → (Nat → Option Nat) → fsH → Int64 → Int32 → Int32 → (Nat → Int32)
  | 0, ht, I, A, J, it, dyn, v1, v3, v4 => I
  | n + 1, ht, I, A, J, it, dyn, v1, v3, v4 => (if v4 < 0 then I else (Lb_X5_append_76_I n ht (if (L_X5_codeIn_r ht I A J it dyn v1 v4) = 0 then I else (if 60 ≤ (I 2) then I else (upd I 2 ((I 2) + 1)))) (if (L_X5_codeIn_r ht I A J it dyn v1 v4) = 0 then A else (if 60 ≤ (I 2) then A else (va_up A 2 (upd (A 2) (I 2).toNatClampNeg (vp_nar .char (((L_X5_codeIn_r ht I A J it dyn v1 v4).toUInt32 % 65536).toInt32)))))) J it dyn v1 v3 (v4 + (-8))))
def Lb_X5_append_76_A : Nat → Nat → (Nat → Int32) → (Nat → Nat → Int32) → (Nat → Nat → Int64) → (Nat → Option Nat) → fsH → Int64 → Int32 → Int32 → (Nat → Nat → Int32)
  | 0, ht, I, A, J, it, dyn, v1, v3, v4 => A
  | n + 1, ht, I, A, J, it, dyn, v1, v3, v4 => (if v4 < 0 then A else (Lb_X5_append_76_A n ht (if (L_X5_codeIn_r ht I A J it dyn v1 v4) = 0 then I else (if 60 ≤ (I 2) then I else (upd I 2 ((I 2) + 1)))) (if (L_X5_codeIn_r ht I A J it dyn v1 v4) = 0 then A else (if 60 ≤ (I 2) then A else (va_up A 2 (upd (A 2) (I 2).toNatClampNeg (vp_nar .char (((L_X5_codeIn_r ht I A J it dyn v1 v4).toUInt32 % 65536).toInt32)))))) J it dyn v1 v3 (v4 + (-8))))
def Lb_X5_append_76_v4 : Nat → Nat → (Nat → Int32) → (Nat → Nat → Int32) → (Nat → Nat → Int64) → (Nat → Option Nat) → fsH → Int64 → Int32 → Int32 → Int32
  | 0, ht, I, A, J, it, dyn, v1, v3, v4 => v4
  | n + 1, ht, I, A, J, it, dyn, v1, v3, v4 => (if v4 < 0 then v4 else (Lb_X5_append_76_v4 n ht (if (L_X5_codeIn_r ht I A J it dyn v1 v4) = 0 then I else (if 60 ≤ (I 2) then I else (upd I 2 ((I 2) + 1)))) (if (L_X5_codeIn_r ht I A J it dyn v1 v4) = 0 then A else (if 60 ≤ (I 2) then A else (va_up A 2 (upd (A 2) (I 2).toNatClampNeg (vp_nar .char (((L_X5_codeIn_r ht I A J it dyn v1 v4).toUInt32 % 65536).toInt32)))))) J it dyn v1 v3 (v4 + (-8))))
def S_Lb_X5_append_76 : Nat → Nat → (Nat → Int32) → (Nat → Nat → Int32) → (Nat → Nat → Int64) → (Nat → Option Nat) → fsH → Int64 → Int32 → Int32 → Prop
  | 0, _, _, _, _, _, _, _, _, _ => False
  | n + 1, ht, I, A, J, it, dyn, v1, v3, v4 => (¬ (v4 < 0) → ((¬ ((L_X5_codeIn_r ht I A J it dyn v1 v4) = 0) → (¬ (60 ≤ (I 2)) → (vp_in (I 2) 60))) ∧ (S_Lb_X5_append_76 n ht (if (L_X5_codeIn_r ht I A J it dyn v1 v4) = 0 then I else (if 60 ≤ (I 2) then I else (upd I 2 ((I 2) + 1)))) (if (L_X5_codeIn_r ht I A J it dyn v1 v4) = 0 then A else (if 60 ≤ (I 2) then A else (va_up A 2 (upd (A 2) (I 2).toNatClampNeg (vp_nar .char (((L_X5_codeIn_r ht I A J it dyn v1 v4).toUInt32 % 65536).toInt32)))))) J it dyn v1 v3 (v4 + (-8)))))
set_option maxRecDepth 100000 in
set_option maxHeartbeats 4000000 in
theorem lp_Lb_X5_append_76 (G : fsG) (l : Launch) (Q : Option fsV → fsH → Prop) : ∀ (n : Nat) (ht : Nat) (I : Nat → Int32) (A : Nat → Nat → Int32) (J : Nat → Nat → Int64) (it : Nat → Option Nat) (dyn : fsH) (v1 : Int64) (v3 : Int32) (v4 : Int32), S_Lb_X5_append_76 n ht I A J it dyn v1 v3 v4 → (fsW G l mX5_append 1 0 0 0 0 Q 131 [(0, .inr (.inr (some 1))), (1, .inr (.inl v1)), (3, .inl v3), (4, .inl (Lb_X5_append_76_v4 n ht I A J it dyn v1 v3 v4))] [] (fs_mk ht (Lb_X5_append_76_I n ht I A J it dyn v1 v3 v4) (Lb_X5_append_76_A n ht I A J it dyn v1 v3 v4) J it dyn)) → fsW G l mX5_append 1 0 0 0 0 Q 76 [(0, .inr (.inr (some 1))), (1, .inr (.inl v1)), (3, .inl v3), (4, .inl v4)] [] (fs_mk ht I A J it dyn) := by
  intro n
  induction n with
  | zero =>
    intro ht I A J it dyn v1 v3 v4 hS
    exact hS.elim
  | succ n ih =>
    intro ht I A J it dyn v1 v3 v4 hS hq
    have hS : (¬ (v4 < 0) → ((¬ ((L_X5_codeIn_r ht I A J it dyn v1 v4) = 0) → (¬ (60 ≤ (I 2)) → (vp_in (I 2) 60))) ∧ (S_Lb_X5_append_76 n ht (if (L_X5_codeIn_r ht I A J it dyn v1 v4) = 0 then I else (if 60 ≤ (I 2) then I else (upd I 2 ((I 2) + 1)))) (if (L_X5_codeIn_r ht I A J it dyn v1 v4) = 0 then A else (if 60 ≤ (I 2) then A else (va_up A 2 (upd (A 2) (I 2).toNatClampNeg (vp_nar .char (((L_X5_codeIn_r ht I A J it dyn v1 v4).toUInt32 % 65536).toInt32)))))) J it dyn v1 v3 (v4 + (-8))))) := hS
    have hq : fsW G l mX5_append 1 0 0 0 0 Q 131 [(0, .inr (.inr (some 1))), (1, .inr (.inl v1)), (3, .inl v3), (4, .inl (if v4 < 0 then v4 else (Lb_X5_append_76_v4 n ht (if (L_X5_codeIn_r ht I A J it dyn v1 v4) = 0 then I else (if 60 ≤ (I 2) then I else (upd I 2 ((I 2) + 1)))) (if (L_X5_codeIn_r ht I A J it dyn v1 v4) = 0 then A else (if 60 ≤ (I 2) then A else (va_up A 2 (upd (A 2) (I 2).toNatClampNeg (vp_nar .char (((L_X5_codeIn_r ht I A J it dyn v1 v4).toUInt32 % 65536).toInt32)))))) J it dyn v1 v3 (v4 + (-8)))))] [] (fs_mk ht (if v4 < 0 then I else (Lb_X5_append_76_I n ht (if (L_X5_codeIn_r ht I A J it dyn v1 v4) = 0 then I else (if 60 ≤ (I 2) then I else (upd I 2 ((I 2) + 1)))) (if (L_X5_codeIn_r ht I A J it dyn v1 v4) = 0 then A else (if 60 ≤ (I 2) then A else (va_up A 2 (upd (A 2) (I 2).toNatClampNeg (vp_nar .char (((L_X5_codeIn_r ht I A J it dyn v1 v4).toUInt32 % 65536).toInt32)))))) J it dyn v1 v3 (v4 + (-8)))) (if v4 < 0 then A else (Lb_X5_append_76_A n ht (if (L_X5_codeIn_r ht I A J it dyn v1 v4) = 0 then I else (if 60 ≤ (I 2) then I else (upd I 2 ((I 2) + 1)))) (if (L_X5_codeIn_r ht I A J it dyn v1 v4) = 0 then A else (if 60 ≤ (I 2) then A else (va_up A 2 (upd (A 2) (I 2).toNatClampNeg (vp_nar .char (((L_X5_codeIn_r ht I A J it dyn v1 v4).toUInt32 % 65536).toInt32)))))) J it dyn v1 v3 (v4 + (-8)))) J it dyn) := hq
    refine fs_iload dX5_append_76 rfl ?_
    refine fs_if_lt 131 dX5_append_78 (by decide) (fun c_78 : v4 < 0 => ?_) (fun c_78 : ¬ (v4 < 0) => ?_)
    · have k9 := hq
      try simp only [if_pos c_78] at k9 ⊢
      exact k9
    · have hS := hS c_78
      refine fs_lload_n dX5_append_81 rfl rfl ?_
      refine fs_iload dX5_append_82 rfl ?_
      refine fs_callS1 dX5_append_84 sv_X5_22 (c_X5_codeIn G l ht I A J it dyn v1 v4) rfl rfl (Nat.le_of_ble_eq_true rfl) (Nat.le_of_ble_eq_true rfl) (Nat.le_of_ble_eq_true rfl) (Nat.le_of_ble_eq_true rfl) ?_
      refine fs_istore (L' := [(5, .inl (L_X5_codeIn_r ht I A J it dyn v1 v4)), (0, .inr (.inr (some 1))), (1, .inr (.inl v1)), (3, .inl v3), (4, .inl v4)]) dX5_append_87 (by decide) rfl ?_
      refine fs_iload dX5_append_89 rfl ?_
      obtain ⟨hR_91, hS⟩ := hS
      have key_125 : fsW G l mX5_append 1 0 0 0 0 Q 125 [(0, .inr (.inr (some 1))), (1, .inr (.inl v1)), (3, .inl v3), (4, .inl v4), (5, .inl (L_X5_codeIn_r ht I A J it dyn v1 v4))] [] (fs_mk ht (if (L_X5_codeIn_r ht I A J it dyn v1 v4) = 0 then I else (if 60 ≤ (I 2) then I else (upd I 2 ((I 2) + 1)))) (if (L_X5_codeIn_r ht I A J it dyn v1 v4) = 0 then A else (if 60 ≤ (I 2) then A else (va_up A 2 (upd (A 2) (I 2).toNatClampNeg (vp_nar .char (((L_X5_codeIn_r ht I A J it dyn v1 v4).toUInt32 % 65536).toInt32)))))) J it dyn) := by
        refine fs_iinc (v := (v4 + (-8))) (L' := [(4, .inl (v4 + (-8))), (0, .inr (.inr (some 1))), (1, .inr (.inl v1)), (3, .inl v3), (5, .inl (L_X5_codeIn_r ht I A J it dyn v1 v4))]) dX5_append_125 rfl rfl (by decide) rfl ?_
        refine fs_goto 76 dX5_append_128 (by decide) ?_
        refine fs_reL [1, 2, 3, 0] rfl ?_
        have k9 := hq
        try simp only [if_neg c_78] at hS k9 ⊢
        exact ih _ _ _ _ _ _ _ _ _ hS k9
      refine fs_if_eq 125 dX5_append_91 (by decide) (fun c_91 : (L_X5_codeIn_r ht I A J it dyn v1 v4) = 0 => ?_) (fun c_91 : ¬ ((L_X5_codeIn_r ht I A J it dyn v1 v4) = 0) => ?_)
      · refine fs_reL [1, 2, 3, 4, 0] rfl ?_
        have k9 := key_125
        try simp only [if_neg c_78, if_pos c_91] at k9 ⊢
        exact k9
      · have hS := hR_91 c_91
        refine fs_aload_n dX5_append_94 rfl rfl ?_
        refine fs_getfield (v := .inl (I 2)) dX5_append_95 sf_X5_15 rfl rfl ?_
        refine fs_bipush (v := 60) dX5_append_98 rfl ?_
        refine fs_icmp_ge 125 dX5_append_100 (by decide) (fun c_100 : 60 ≤ (I 2) => ?_) (fun c_100 : ¬ (60 ≤ (I 2)) => ?_)
        · refine fs_reL [1, 2, 3, 4, 0] rfl ?_
          have k9 := key_125
          try simp only [if_neg c_78, if_neg c_91, if_pos c_100] at k9 ⊢
          exact k9
        · have hS := hS c_100
          refine fs_aload_n dX5_append_103 rfl rfl ?_
          refine fs_getfield (v := .inr (.inr (some 2))) dX5_append_104 sf_X5_9 rfl rfl ?_
          refine fs_aload_n dX5_append_107 rfl rfl ?_
          refine fs_getfield (v := .inl (I 2)) dX5_append_108 sf_X5_15 rfl rfl ?_
          refine fs_iload dX5_append_111 rfl ?_
          refine fs_i2c dX5_append_113 ?_
          have ho1 := hS
          refine fss_2 dX5_append_114 ho1 ?_
          refine fs_aload_n dX5_append_115 rfl rfl ?_
          refine fs_dup dX5_append_116 rfl ?_
          refine fs_getfield (v := .inl (I 2)) dX5_append_117 sf_X5_15 rfl rfl ?_
          refine fs_iconst (v := 1) dX5_append_120 rfl ?_
          refine fs_iadd dX5_append_121 ?_
          refine fsp_2 dX5_append_122 sp_X5_15 ?_
          refine fs_reL [1, 2, 3, 4, 0] rfl ?_
          have k9 := key_125
          try simp only [if_neg c_78, if_neg c_91, if_neg c_100] at k9 ⊢
          exact k9
def La_X5_append_6_r : Nat → Nat → (Nat → Int32) → (Nat → Nat → Int32) → (Nat → Nat → Int64) → (Nat → Option Nat) → fsH → Int64 → Int32 → Int32 → Int32
  | 0, ht, I, A, J, it, dyn, v1, v3, v4 => 0
  | n + 1, ht, I, A, J, it, dyn, v1, v3, v4 => (if v4 < 0 then (if v3 ≤ (60 - (I 2)) then 1 else 0) else (if (L_X5_codeIn_r ht I A J it dyn v1 v4) = 0 then (La_X5_append_6_r n ht I A J it dyn v1 (v3 + 0) (v4 + (-8))) else (if (L_X5_codeIn_r ht I A J it dyn v1 v4) < 32 then 0 else (if (L_X5_codeIn_r ht I A J it dyn v1 v4) ≤ 126 then (La_X5_append_6_r n ht I A J it dyn v1 (v3 + 1) (v4 + (-8))) else 0))))
def La_X5_append_6_I : Nat → Nat → (Nat → Int32) → (Nat → Nat → Int32) → (Nat → Nat → Int64) → (Nat → Option Nat) → fsH → Int64 → Int32 → Int32 → (Nat → Int32)
  | 0, ht, I, A, J, it, dyn, v1, v3, v4 => I
  | n + 1, ht, I, A, J, it, dyn, v1, v3, v4 => (if v4 < 0 then (if v3 ≤ (60 - (I 2)) then (Lb_X5_append_76_I 70 ht I A J it dyn v1 v3 56) else I) else (if (L_X5_codeIn_r ht I A J it dyn v1 v4) = 0 then (La_X5_append_6_I n ht I A J it dyn v1 (v3 + 0) (v4 + (-8))) else (if (L_X5_codeIn_r ht I A J it dyn v1 v4) < 32 then I else (if (L_X5_codeIn_r ht I A J it dyn v1 v4) ≤ 126 then (La_X5_append_6_I n ht I A J it dyn v1 (v3 + 1) (v4 + (-8))) else I))))
def La_X5_append_6_A : Nat → Nat → (Nat → Int32) → (Nat → Nat → Int32) → (Nat → Nat → Int64) → (Nat → Option Nat) → fsH → Int64 → Int32 → Int32 → (Nat → Nat → Int32)
  | 0, ht, I, A, J, it, dyn, v1, v3, v4 => A
  | n + 1, ht, I, A, J, it, dyn, v1, v3, v4 => (if v4 < 0 then (if v3 ≤ (60 - (I 2)) then (Lb_X5_append_76_A 70 ht I A J it dyn v1 v3 56) else A) else (if (L_X5_codeIn_r ht I A J it dyn v1 v4) = 0 then (La_X5_append_6_A n ht I A J it dyn v1 (v3 + 0) (v4 + (-8))) else (if (L_X5_codeIn_r ht I A J it dyn v1 v4) < 32 then A else (if (L_X5_codeIn_r ht I A J it dyn v1 v4) ≤ 126 then (La_X5_append_6_A n ht I A J it dyn v1 (v3 + 1) (v4 + (-8))) else A))))
def S_La_X5_append_6 : Nat → Nat → (Nat → Int32) → (Nat → Nat → Int32) → (Nat → Nat → Int64) → (Nat → Option Nat) → fsH → Int64 → Int32 → Int32 → Prop
  | 0, _, _, _, _, _, _, _, _, _ => False
  | n + 1, ht, I, A, J, it, dyn, v1, v3, v4 => (((v4 < 0) → ((v3 ≤ (60 - (I 2))) → (S_Lb_X5_append_76 70 ht I A J it dyn v1 v3 56))) ∧ (¬ (v4 < 0) → ((((L_X5_codeIn_r ht I A J it dyn v1 v4) = 0) → (S_La_X5_append_6 n ht I A J it dyn v1 (v3 + 0) (v4 + (-8)))) ∧ (¬ ((L_X5_codeIn_r ht I A J it dyn v1 v4) = 0) → (¬ ((L_X5_codeIn_r ht I A J it dyn v1 v4) < 32) → (((L_X5_codeIn_r ht I A J it dyn v1 v4) ≤ 126) → (S_La_X5_append_6 n ht I A J it dyn v1 (v3 + 1) (v4 + (-8)))))))))
set_option maxRecDepth 100000 in
set_option maxHeartbeats 4000000 in
theorem lp_La_X5_append_6 (G : fsG) (l : Launch) (Q : Option fsV → fsH → Prop) : ∀ (n : Nat) (ht : Nat) (I : Nat → Int32) (A : Nat → Nat → Int32) (J : Nat → Nat → Int64) (it : Nat → Option Nat) (dyn : fsH) (v1 : Int64) (v3 : Int32) (v4 : Int32), S_La_X5_append_6 n ht I A J it dyn v1 v3 v4 → (Q (some (.inl (La_X5_append_6_r n ht I A J it dyn v1 v3 v4))) (fs_mk ht (La_X5_append_6_I n ht I A J it dyn v1 v3 v4) (La_X5_append_6_A n ht I A J it dyn v1 v3 v4) J it dyn)) → fsW G l mX5_append 1 0 0 0 0 Q 6 [(0, .inr (.inr (some 1))), (1, .inr (.inl v1)), (3, .inl v3), (4, .inl v4)] [] (fs_mk ht I A J it dyn) := by
  intro n
  induction n with
  | zero =>
    intro ht I A J it dyn v1 v3 v4 hS
    exact hS.elim
  | succ n ih =>
    intro ht I A J it dyn v1 v3 v4 hS hq
    have hS : (((v4 < 0) → ((v3 ≤ (60 - (I 2))) → (S_Lb_X5_append_76 70 ht I A J it dyn v1 v3 56))) ∧ (¬ (v4 < 0) → ((((L_X5_codeIn_r ht I A J it dyn v1 v4) = 0) → (S_La_X5_append_6 n ht I A J it dyn v1 (v3 + 0) (v4 + (-8)))) ∧ (¬ ((L_X5_codeIn_r ht I A J it dyn v1 v4) = 0) → (¬ ((L_X5_codeIn_r ht I A J it dyn v1 v4) < 32) → (((L_X5_codeIn_r ht I A J it dyn v1 v4) ≤ 126) → (S_La_X5_append_6 n ht I A J it dyn v1 (v3 + 1) (v4 + (-8))))))))) := hS
    have hq : Q (some (.inl (if v4 < 0 then (if v3 ≤ (60 - (I 2)) then 1 else 0) else (if (L_X5_codeIn_r ht I A J it dyn v1 v4) = 0 then (La_X5_append_6_r n ht I A J it dyn v1 (v3 + 0) (v4 + (-8))) else (if (L_X5_codeIn_r ht I A J it dyn v1 v4) < 32 then 0 else (if (L_X5_codeIn_r ht I A J it dyn v1 v4) ≤ 126 then (La_X5_append_6_r n ht I A J it dyn v1 (v3 + 1) (v4 + (-8))) else 0)))))) (fs_mk ht (if v4 < 0 then (if v3 ≤ (60 - (I 2)) then (Lb_X5_append_76_I 70 ht I A J it dyn v1 v3 56) else I) else (if (L_X5_codeIn_r ht I A J it dyn v1 v4) = 0 then (La_X5_append_6_I n ht I A J it dyn v1 (v3 + 0) (v4 + (-8))) else (if (L_X5_codeIn_r ht I A J it dyn v1 v4) < 32 then I else (if (L_X5_codeIn_r ht I A J it dyn v1 v4) ≤ 126 then (La_X5_append_6_I n ht I A J it dyn v1 (v3 + 1) (v4 + (-8))) else I)))) (if v4 < 0 then (if v3 ≤ (60 - (I 2)) then (Lb_X5_append_76_A 70 ht I A J it dyn v1 v3 56) else A) else (if (L_X5_codeIn_r ht I A J it dyn v1 v4) = 0 then (La_X5_append_6_A n ht I A J it dyn v1 (v3 + 0) (v4 + (-8))) else (if (L_X5_codeIn_r ht I A J it dyn v1 v4) < 32 then A else (if (L_X5_codeIn_r ht I A J it dyn v1 v4) ≤ 126 then (La_X5_append_6_A n ht I A J it dyn v1 (v3 + 1) (v4 + (-8))) else A)))) J it dyn) := hq
    refine fs_iload dX5_append_6 rfl ?_
    refine fs_if_lt 59 dX5_append_8 (by decide) (fun c_8 : v4 < 0 => ?_) (fun c_8 : ¬ (v4 < 0) => ?_)
    · have hS := hS.1 c_8
      refine fs_iload_n dX5_append_59 rfl rfl ?_
      refine fs_bipush (v := 60) dX5_append_60 rfl ?_
      refine fs_aload_n dX5_append_62 rfl rfl ?_
      refine fs_getfield (v := .inl (I 2)) dX5_append_63 sf_X5_15 rfl rfl ?_
      refine fs_isub dX5_append_66 ?_
      refine fs_icmp_le 72 dX5_append_67 (by decide) (fun c_67 : v3 ≤ (60 - (I 2)) => ?_) (fun c_67 : ¬ (v3 ≤ (60 - (I 2))) => ?_)
      · have hS := hS c_67
        refine fs_bipush (v := 56) dX5_append_72 rfl ?_
        refine fs_istore (L' := [(4, .inl 56), (0, .inr (.inr (some 1))), (1, .inr (.inl v1)), (3, .inl v3)]) dX5_append_74 (by decide) rfl ?_
        refine fs_reL [1, 2, 3, 0] rfl ?_
        have ho1 := hS
        refine lp_Lb_X5_append_76 G l Q 70 ht I A J it dyn v1 v3 56 ho1 ?_
        refine fs_iconst (v := 1) dX5_append_131 rfl ?_
        have k9 := hq
        try simp only [if_pos c_8, if_pos c_67] at k9 ⊢
        exact fs_iret dX5_append_132 rfl rfl k9
      · refine fs_iconst (v := 0) dX5_append_70 rfl ?_
        have k9 := hq
        try simp only [if_pos c_8, if_neg c_67] at k9 ⊢
        exact fs_iret dX5_append_71 rfl rfl k9
    · have hS := hS.2 c_8
      refine fs_lload_n dX5_append_11 rfl rfl ?_
      refine fs_iload dX5_append_12 rfl ?_
      refine fs_callS1 dX5_append_14 sv_X5_22 (c_X5_codeIn G l ht I A J it dyn v1 v4) rfl rfl (Nat.le_of_ble_eq_true rfl) (Nat.le_of_ble_eq_true rfl) (Nat.le_of_ble_eq_true rfl) (Nat.le_of_ble_eq_true rfl) ?_
      refine fs_istore (L' := [(5, .inl (L_X5_codeIn_r ht I A J it dyn v1 v4)), (0, .inr (.inr (some 1))), (1, .inr (.inl v1)), (3, .inl v3), (4, .inl v4)]) dX5_append_17 (by decide) rfl ?_
      refine fs_iload dX5_append_19 rfl ?_
      refine fs_if_eq 40 dX5_append_21 (by decide) (fun c_21 : (L_X5_codeIn_r ht I A J it dyn v1 v4) = 0 => ?_) (fun c_21 : ¬ ((L_X5_codeIn_r ht I A J it dyn v1 v4) = 0) => ?_)
      · have hS := hS.1 c_21
        refine fs_iload_n dX5_append_40 rfl rfl ?_
        refine fs_iload dX5_append_41 rfl ?_
        refine fs_if_eq 50 dX5_append_43 (by decide) (fun c_43 : (L_X5_codeIn_r ht I A J it dyn v1 v4) = 0 => ?_) (fun c_43 : ¬ ((L_X5_codeIn_r ht I A J it dyn v1 v4) = 0) => ?_)
        · refine fs_iconst (v := 0) dX5_append_50 rfl ?_
          refine fs_iadd dX5_append_51 ?_
          refine fs_istore_n (L' := [(3, .inl (v3 + 0)), (5, .inl (L_X5_codeIn_r ht I A J it dyn v1 v4)), (0, .inr (.inr (some 1))), (1, .inr (.inl v1)), (4, .inl v4)]) dX5_append_52 rfl (by decide) rfl ?_
          refine fs_iinc (v := (v4 + (-8))) (L' := [(4, .inl (v4 + (-8))), (3, .inl (v3 + 0)), (5, .inl (L_X5_codeIn_r ht I A J it dyn v1 v4)), (0, .inr (.inr (some 1))), (1, .inr (.inl v1))]) dX5_append_53 rfl rfl (by decide) rfl ?_
          refine fs_goto 6 dX5_append_56 (by decide) ?_
          refine fs_reL [3, 4, 1, 0] rfl ?_
          have k9 := hq
          try simp only [if_neg c_8, if_pos c_21] at hS k9 ⊢
          exact ih _ _ _ _ _ _ _ _ _ hS k9
        · exact absurd c_21 c_43
      · have hS := hS.2 c_21
        refine fs_iload dX5_append_24 rfl ?_
        refine fs_bipush (v := 32) dX5_append_26 rfl ?_
        refine fs_icmp_lt 38 dX5_append_28 (by decide) (fun c_28 : (L_X5_codeIn_r ht I A J it dyn v1 v4) < 32 => ?_) (fun c_28 : ¬ ((L_X5_codeIn_r ht I A J it dyn v1 v4) < 32) => ?_)
        · refine fs_iconst (v := 0) dX5_append_38 rfl ?_
          have k9 := hq
          try simp only [if_neg c_8, if_neg c_21, if_pos c_28] at k9 ⊢
          exact fs_iret dX5_append_39 rfl rfl k9
        · have hS := hS c_28
          refine fs_iload dX5_append_31 rfl ?_
          refine fs_bipush (v := 126) dX5_append_33 rfl ?_
          refine fs_icmp_le 40 dX5_append_35 (by decide) (fun c_35 : (L_X5_codeIn_r ht I A J it dyn v1 v4) ≤ 126 => ?_) (fun c_35 : ¬ ((L_X5_codeIn_r ht I A J it dyn v1 v4) ≤ 126) => ?_)
          · have hS := hS c_35
            refine fs_iload_n dX5_append_40 rfl rfl ?_
            refine fs_iload dX5_append_41 rfl ?_
            refine fs_if_eq 50 dX5_append_43 (by decide) (fun c_43 : (L_X5_codeIn_r ht I A J it dyn v1 v4) = 0 => ?_) (fun c_43 : ¬ ((L_X5_codeIn_r ht I A J it dyn v1 v4) = 0) => ?_)
            · exact absurd c_43 c_21
            · refine fs_iconst (v := 1) dX5_append_46 rfl ?_
              refine fs_goto 51 dX5_append_47 (by decide) ?_
              refine fs_iadd dX5_append_51 ?_
              refine fs_istore_n (L' := [(3, .inl (v3 + 1)), (5, .inl (L_X5_codeIn_r ht I A J it dyn v1 v4)), (0, .inr (.inr (some 1))), (1, .inr (.inl v1)), (4, .inl v4)]) dX5_append_52 rfl (by decide) rfl ?_
              refine fs_iinc (v := (v4 + (-8))) (L' := [(4, .inl (v4 + (-8))), (3, .inl (v3 + 1)), (5, .inl (L_X5_codeIn_r ht I A J it dyn v1 v4)), (0, .inr (.inr (some 1))), (1, .inr (.inl v1))]) dX5_append_53 rfl rfl (by decide) rfl ?_
              refine fs_goto 6 dX5_append_56 (by decide) ?_
              refine fs_reL [3, 4, 1, 0] rfl ?_
              have k9 := hq
              try simp only [if_neg c_8, if_neg c_21, if_neg c_28, if_pos c_35] at hS k9 ⊢
              exact ih _ _ _ _ _ _ _ _ _ hS k9
          · refine fs_iconst (v := 0) dX5_append_38 rfl ?_
            have k9 := hq
            try simp only [if_neg c_8, if_neg c_21, if_neg c_28, if_neg c_35] at k9 ⊢
            exact fs_iret dX5_append_39 rfl rfl k9
theorem nb_La_X5_append_6 : ∀ (n : Nat) (ht : Nat) (I : Nat → Int32) (A : Nat → Nat → Int32) (J : Nat → Nat → Int64) (it : Nat → Option Nat) (dyn : fsH) (v1 : Int64) (v3 : Int32) (v4 : Int32), narrow .boolean (.int (La_X5_append_6_r n ht I A J it dyn v1 v3 v4)) = .int (La_X5_append_6_r n ht I A J it dyn v1 v3 v4) := by
  intro n
  induction n with
  | zero =>
    intro ht I A J it dyn v1 v3 v4
    exact (rfl : narrow .boolean (.int 0) = .int 0)
  | succ n ih =>
    intro ht I A J it dyn v1 v3 v4
    unfold La_X5_append_6_r
    (repeat' split) <;> first | rfl | exact ih _ _ _ _ _ _ _ _ _
def L_X5_append_r (ht : Nat) (I : Nat → Int32) (A : Nat → Nat → Int32) (J : Nat → Nat → Int64) (it : Nat → Option Nat) (dyn : fsH) (x1 : Int64) : Int32 := (La_X5_append_6_r 70 ht I A J it dyn x1 0 56)
def L_X5_append_I (ht : Nat) (I : Nat → Int32) (A : Nat → Nat → Int32) (J : Nat → Nat → Int64) (it : Nat → Option Nat) (dyn : fsH) (x1 : Int64) : Nat → Int32 := (La_X5_append_6_I 70 ht I A J it dyn x1 0 56)
def L_X5_append_A (ht : Nat) (I : Nat → Int32) (A : Nat → Nat → Int32) (J : Nat → Nat → Int64) (it : Nat → Option Nat) (dyn : fsH) (x1 : Int64) : Nat → Nat → Int32 := (La_X5_append_6_A 70 ht I A J it dyn x1 0 56)
def S_X5_append (ht : Nat) (I : Nat → Int32) (A : Nat → Nat → Int32) (J : Nat → Nat → Int64) (it : Nat → Option Nat) (dyn : fsH) (x1 : Int64) : Prop := (S_La_X5_append_6 70 ht I A J it dyn x1 0 56)
set_option maxRecDepth 100000 in
set_option maxHeartbeats 4000000 in
theorem c_X5_append (G : fsG) (l : Launch) (ht : Nat) (I : Nat → Int32) (A : Nat → Nat → Int32) (J : Nat → Nat → Int64) (it : Nat → Option Nat) (dyn : fsH) (x1 : Int64) (hS : S_X5_append ht I A J it dyn x1) : fsFn G l mX5_append 1 0 0 [.inr (.inr (some 1)), .inr (.inl x1)] (fs_mk ht I A J it dyn) (some (.inl (L_X5_append_r ht I A J it dyn x1))) (fs_mk ht (L_X5_append_I ht I A J it dyn x1) (L_X5_append_A ht I A J it dyn x1) J it dyn) := by
  refine fsMet_of (by decide) (Nat.le_of_ble_eq_true rfl) ?_
  generalize hQ : (fun (r1 : Option fsV) (h1 : fsH) => r1 = (some (.inl (L_X5_append_r ht I A J it dyn x1))) ∧ h1 = (fs_mk ht (L_X5_append_I ht I A J it dyn x1) (L_X5_append_A ht I A J it dyn x1) J it dyn)) = Q
  have hq : Q (some (.inl (L_X5_append_r ht I A J it dyn x1))) (fs_mk ht (L_X5_append_I ht I A J it dyn x1) (L_X5_append_A ht I A J it dyn x1) J it dyn) := by rw [← hQ]; exact ⟨rfl, rfl⟩
  clear hQ
  have hq : Q (some (.inl (La_X5_append_6_r 70 ht I A J it dyn x1 0 56))) (fs_mk ht (La_X5_append_6_I 70 ht I A J it dyn x1 0 56) (La_X5_append_6_A 70 ht I A J it dyn x1 0 56) J it dyn) := hq
  have hS : (S_La_X5_append_6 70 ht I A J it dyn x1 0 56) := hS
  refine (show fsW G l mX5_append 1 0 0 0 0 Q 0 [(0, .inr (.inr (some 1))), (1, .inr (.inl x1))] [] (fs_mk ht I A J it dyn) from ?_)
  refine fs_iconst (v := 0) dX5_append_0 rfl ?_
  refine fs_istore_n (L' := [(3, .inl 0), (0, .inr (.inr (some 1))), (1, .inr (.inl x1))]) dX5_append_1 rfl (by decide) rfl ?_
  refine fs_bipush (v := 56) dX5_append_2 rfl ?_
  refine fs_istore (L' := [(4, .inl 56), (3, .inl 0), (0, .inr (.inr (some 1))), (1, .inr (.inl x1))]) dX5_append_4 (by decide) rfl ?_
  refine fs_reL [2, 3, 1, 0] rfl ?_
  have ho1 := hS
  have k9 := hq
  exact lp_La_X5_append_6 G l Q 70 _ _ _ _ _ _ _ _ _ ho1 k9
theorem nb_X5_append (ht : Nat) (I : Nat → Int32) (A : Nat → Nat → Int32) (J : Nat → Nat → Int64) (it : Nat → Option Nat) (dyn : fsH) (x1 : Int64) : narrow .boolean (.int (L_X5_append_r ht I A J it dyn x1)) = .int (L_X5_append_r ht I A J it dyn x1) := by
  unfold L_X5_append_r
  exact (by (repeat' split) <;> first | rfl | exact nb_La_X5_append_6 _ _ _ _ _ _ _ _ _ _)
def L_X0_limited_r (ht : Nat) (I : Nat → Int32) (A : Nat → Nat → Int32) (J : Nat → Nat → Int64) (it : Nat → Option Nat) (dyn : fsH) (x1 : Int64) : Int64 := (if (lg_cmp x1 (-1000000000000000)) < 0 then (10000000000000001) else (if (lg_cmp x1 (1000000000000000)) ≤ 0 then x1 else (10000000000000001) : Int64) : Int64)
set_option maxRecDepth 100000 in
set_option maxHeartbeats 4000000 in
theorem c_X0_limited (G : fsG) (l : Launch) (ht : Nat) (I : Nat → Int32) (A : Nat → Nat → Int32) (J : Nat → Nat → Int64) (it : Nat → Option Nat) (dyn : fsH) (x1 : Int64) : fsFn G l mX0_limited 0 0 0 [.inr (.inl x1)] (fs_mk ht I A J it dyn) (some (.inr (.inl (L_X0_limited_r ht I A J it dyn x1)))) (fs_mk ht I A J it dyn) := by
  refine fsMet_of (by decide) (Nat.le_of_ble_eq_true rfl) ?_
  generalize hQ : (fun (r1 : Option fsV) (h1 : fsH) => r1 = (some (.inr (.inl (L_X0_limited_r ht I A J it dyn x1)))) ∧ h1 = (fs_mk ht I A J it dyn)) = Q
  have hq : Q (some (.inr (.inl (L_X0_limited_r ht I A J it dyn x1)))) (fs_mk ht I A J it dyn) := by rw [← hQ]; exact ⟨rfl, rfl⟩
  clear hQ
  have hq : Q (some (.inr (.inl (if (lg_cmp x1 (-1000000000000000)) < 0 then (10000000000000001) else (if (lg_cmp x1 (1000000000000000)) ≤ 0 then x1 else (10000000000000001) : Int64) : Int64)))) (fs_mk ht I A J it dyn) := hq
  refine (show fsW G l mX0_limited 0 0 0 0 0 Q 0 [(0, .inr (.inl x1))] [] (fs_mk ht I A J it dyn) from ?_)
  refine fs_lload_n dX0_limited_0 rfl rfl ?_
  refine fs_ldc2 (v := (-1000000000000000)) dX0_limited_1 sk_X0_9 ?_
  refine fs_lcmp dX0_limited_4 ?_
  have key_23 : fsW G l mX0_limited 0 0 0 0 0 Q 23 [(0, .inr (.inl x1))] [.inr (.inl (if (lg_cmp x1 (-1000000000000000)) < 0 then (10000000000000001) else (if (lg_cmp x1 (1000000000000000)) ≤ 0 then x1 else (10000000000000001) : Int64) : Int64))] (fs_mk ht I A J it dyn) := by
    have k9 := hq
    exact fs_lret dX0_limited_23 rfl k9
  refine fs_if_lt 16 dX0_limited_5 (by decide) (fun c_5 : (lg_cmp x1 (-1000000000000000)) < 0 => ?_) (fun c_5 : ¬ ((lg_cmp x1 (-1000000000000000)) < 0) => ?_)
  · refine fs_ldc2 (v := (10000000000000001)) dX0_limited_16 sk_X0_13 ?_
    refine fs_goto 23 dX0_limited_19 (by decide) ?_
    have k9 := key_23
    try simp only [if_pos c_5] at k9 ⊢
    exact k9
  · refine fs_lload_n dX0_limited_8 rfl rfl ?_
    refine fs_ldc2 (v := (1000000000000000)) dX0_limited_9 sk_X0_11 ?_
    refine fs_lcmp dX0_limited_12 ?_
    refine fs_if_le 22 dX0_limited_13 (by decide) (fun c_13 : (lg_cmp x1 (1000000000000000)) ≤ 0 => ?_) (fun c_13 : ¬ ((lg_cmp x1 (1000000000000000)) ≤ 0) => ?_)
    · refine fs_lload_n dX0_limited_22 rfl rfl ?_
      have k9 := key_23
      try simp only [if_neg c_5, if_pos c_13] at k9 ⊢
      exact k9
    · refine fs_ldc2 (v := (10000000000000001)) dX0_limited_16 sk_X0_13 ?_
      refine fs_goto 23 dX0_limited_19 (by decide) ?_
      have k9 := key_23
      try simp only [if_neg c_5, if_neg c_13] at k9 ⊢
      exact k9
def L_X0_rounded_r (ht : Nat) (I : Nat → Int32) (A : Nat → Nat → Int32) (J : Nat → Nat → Int64) (it : Nat → Option Nat) (dyn : fsH) (x1 : Int64) (x2 : Int64) : Int64 := (if 0 < (lg_cmp x2 0) then (if (if 0 < (lg_cmp ((2) * (x1 - x1 / x2 * x2)) x2) then 1 else (if (lg_cmp ((2) * (x1 - x1 / x2 * x2)) x2) = 0 then (if (lg_cmp ((x1 / x2) &&& 1) 1) = 0 then 1 else 0 : Int32) else 0 : Int32) : Int32) = 0 then (x1 / x2) else ((x1 / x2) + 1) : Int64) else 0)
def S_X0_rounded (ht : Nat) (I : Nat → Int32) (A : Nat → Nat → Int32) (J : Nat → Nat → Int64) (it : Nat → Option Nat) (dyn : fsH) (x1 : Int64) (x2 : Int64) : Prop := ((0 < (lg_cmp x2 0)) → ((¬ x2 = 0) ∧ (¬ x2 = 0)))
set_option maxRecDepth 100000 in
set_option maxHeartbeats 4000000 in
theorem c_X0_rounded (G : fsG) (l : Launch) (ht : Nat) (I : Nat → Int32) (A : Nat → Nat → Int32) (J : Nat → Nat → Int64) (it : Nat → Option Nat) (dyn : fsH) (x1 : Int64) (x2 : Int64) (hS : S_X0_rounded ht I A J it dyn x1 x2) : fsFn G l mX0_rounded 0 0 0 [.inr (.inl x1), .inr (.inl x2)] (fs_mk ht I A J it dyn) (some (.inr (.inl (L_X0_rounded_r ht I A J it dyn x1 x2)))) (fs_mk ht I A J it dyn) := by
  refine fsMet_of (by decide) (Nat.le_of_ble_eq_true rfl) ?_
  generalize hQ : (fun (r1 : Option fsV) (h1 : fsH) => r1 = (some (.inr (.inl (L_X0_rounded_r ht I A J it dyn x1 x2)))) ∧ h1 = (fs_mk ht I A J it dyn)) = Q
  have hq : Q (some (.inr (.inl (L_X0_rounded_r ht I A J it dyn x1 x2)))) (fs_mk ht I A J it dyn) := by rw [← hQ]; exact ⟨rfl, rfl⟩
  clear hQ
  have hq : Q (some (.inr (.inl (if 0 < (lg_cmp x2 0) then (if (if 0 < (lg_cmp ((2) * (x1 - x1 / x2 * x2)) x2) then 1 else (if (lg_cmp ((2) * (x1 - x1 / x2 * x2)) x2) = 0 then (if (lg_cmp ((x1 / x2) &&& 1) 1) = 0 then 1 else 0 : Int32) else 0 : Int32) : Int32) = 0 then (x1 / x2) else ((x1 / x2) + 1) : Int64) else 0 : Int64)))) (fs_mk ht I A J it dyn) := hq
  have hS : ((0 < (lg_cmp x2 0)) → ((¬ x2 = 0) ∧ (¬ x2 = 0))) := hS
  refine (show fsW G l mX0_rounded 0 0 0 0 0 Q 0 [(0, .inr (.inl x1)), (2, .inr (.inl x2))] [] (fs_mk ht I A J it dyn) from ?_)
  refine fs_lload_n dX0_rounded_0 rfl rfl ?_
  refine fs_lconst (v := 0) dX0_rounded_1 rfl ?_
  refine fs_lcmp dX0_rounded_2 ?_
  refine fs_if_gt 8 dX0_rounded_3 (by decide) (fun c_3 : 0 < (lg_cmp x2 0) => ?_) (fun c_3 : ¬ (0 < (lg_cmp x2 0)) => ?_)
  · have hS := hS c_3
    refine fs_lload_n dX0_rounded_8 rfl rfl ?_
    refine fs_lload_n dX0_rounded_9 rfl rfl ?_
    obtain ⟨ho1, hS⟩ := hS
    refine fs_ldiv dX0_rounded_10 ho1 ?_
    refine fs_lstore (L' := [(4, .inr (.inl (x1 / x2))), (0, .inr (.inl x1)), (2, .inr (.inl x2))]) dX0_rounded_11 (by decide) rfl ?_
    refine fs_ldc2 (v := (2)) dX0_rounded_13 sk_X0_36 ?_
    refine fs_lload_n dX0_rounded_16 rfl rfl ?_
    refine fs_lload_n dX0_rounded_17 rfl rfl ?_
    have ho1 := hS
    refine fs_lrem dX0_rounded_18 ho1 ?_
    refine fs_lmul dX0_rounded_19 ?_
    refine fs_lstore (L' := [(6, .inr (.inl ((2) * (x1 - x1 / x2 * x2)))), (4, .inr (.inl (x1 / x2))), (0, .inr (.inl x1)), (2, .inr (.inl x2))]) dX0_rounded_20 (by decide) rfl ?_
    refine fs_lload dX0_rounded_22 rfl ?_
    refine fs_lload_n dX0_rounded_24 rfl rfl ?_
    refine fs_lcmp dX0_rounded_25 ?_
    have key_50 : fsW G l mX0_rounded 0 0 0 0 0 Q 50 [(0, .inr (.inl x1)), (2, .inr (.inl x2)), (4, .inr (.inl (x1 / x2))), (6, .inr (.inl ((2) * (x1 - x1 / x2 * x2))))] [.inl (if 0 < (lg_cmp ((2) * (x1 - x1 / x2 * x2)) x2) then 1 else (if (lg_cmp ((2) * (x1 - x1 / x2 * x2)) x2) = 0 then (if (lg_cmp ((x1 / x2) &&& 1) 1) = 0 then 1 else 0 : Int32) else 0 : Int32) : Int32)] (fs_mk ht I A J it dyn) := by
      refine fs_istore (L' := [(8, .inl (if 0 < (lg_cmp ((2) * (x1 - x1 / x2 * x2)) x2) then 1 else (if (lg_cmp ((2) * (x1 - x1 / x2 * x2)) x2) = 0 then (if (lg_cmp ((x1 / x2) &&& 1) 1) = 0 then 1 else 0 : Int32) else 0 : Int32) : Int32)), (0, .inr (.inl x1)), (2, .inr (.inl x2)), (4, .inr (.inl (x1 / x2))), (6, .inr (.inl ((2) * (x1 - x1 / x2 * x2))))]) dX0_rounded_50 (by decide) rfl ?_
      refine fs_iload dX0_rounded_52 rfl ?_
      have key_66 : fsW G l mX0_rounded 0 0 0 0 0 Q 66 [(0, .inr (.inl x1)), (2, .inr (.inl x2)), (4, .inr (.inl (x1 / x2))), (6, .inr (.inl ((2) * (x1 - x1 / x2 * x2)))), (8, .inl (if 0 < (lg_cmp ((2) * (x1 - x1 / x2 * x2)) x2) then 1 else (if (lg_cmp ((2) * (x1 - x1 / x2 * x2)) x2) = 0 then (if (lg_cmp ((x1 / x2) &&& 1) 1) = 0 then 1 else 0 : Int32) else 0 : Int32) : Int32))] [.inr (.inl (if (if 0 < (lg_cmp ((2) * (x1 - x1 / x2 * x2)) x2) then 1 else (if (lg_cmp ((2) * (x1 - x1 / x2 * x2)) x2) = 0 then (if (lg_cmp ((x1 / x2) &&& 1) 1) = 0 then 1 else 0 : Int32) else 0 : Int32) : Int32) = 0 then (x1 / x2) else ((x1 / x2) + 1) : Int64))] (fs_mk ht I A J it dyn) := by
        have k9 := hq
        try simp only [if_pos c_3] at k9 ⊢
        exact fs_lret dX0_rounded_66 rfl k9
      refine fs_if_eq 64 dX0_rounded_54 (by decide) (fun c_54 : (if 0 < (lg_cmp ((2) * (x1 - x1 / x2 * x2)) x2) then 1 else (if (lg_cmp ((2) * (x1 - x1 / x2 * x2)) x2) = 0 then (if (lg_cmp ((x1 / x2) &&& 1) 1) = 0 then 1 else 0 : Int32) else 0 : Int32) : Int32) = 0 => ?_) (fun c_54 : ¬ ((if 0 < (lg_cmp ((2) * (x1 - x1 / x2 * x2)) x2) then 1 else (if (lg_cmp ((2) * (x1 - x1 / x2 * x2)) x2) = 0 then (if (lg_cmp ((x1 / x2) &&& 1) 1) = 0 then 1 else 0 : Int32) else 0 : Int32) : Int32) = 0) => ?_)
      · refine fs_lload dX0_rounded_64 rfl ?_
        refine fs_reL [1, 2, 3, 4, 0] rfl ?_
        have k9 := key_66
        try simp only [if_pos c_3, if_pos c_54] at k9 ⊢
        exact k9
      · refine fs_lload dX0_rounded_57 rfl ?_
        refine fs_lconst (v := 1) dX0_rounded_59 rfl ?_
        refine fs_ladd dX0_rounded_60 ?_
        refine fs_goto 66 dX0_rounded_61 (by decide) ?_
        refine fs_reL [1, 2, 3, 4, 0] rfl ?_
        have k9 := key_66
        try simp only [if_pos c_3, if_neg c_54] at k9 ⊢
        exact k9
    refine fs_if_gt 45 dX0_rounded_26 (by decide) (fun c_26 : 0 < (lg_cmp ((2) * (x1 - x1 / x2 * x2)) x2) => ?_) (fun c_26 : ¬ (0 < (lg_cmp ((2) * (x1 - x1 / x2 * x2)) x2)) => ?_)
    · refine fs_iconst (v := 1) dX0_rounded_45 rfl ?_
      refine fs_goto 50 dX0_rounded_46 (by decide) ?_
      refine fs_reL [2, 3, 1, 0] rfl ?_
      have k9 := key_50
      try simp only [if_pos c_3, if_pos c_26] at k9 ⊢
      exact k9
    · refine fs_lload dX0_rounded_29 rfl ?_
      refine fs_lload_n dX0_rounded_31 rfl rfl ?_
      refine fs_lcmp dX0_rounded_32 ?_
      refine fs_if_ne 49 dX0_rounded_33 (by decide) (fun c_33 : ¬ (lg_cmp ((2) * (x1 - x1 / x2 * x2)) x2) = 0 => ?_) (fun c_33 : (lg_cmp ((2) * (x1 - x1 / x2 * x2)) x2) = 0 => ?_)
      · refine fs_iconst (v := 0) dX0_rounded_49 rfl ?_
        refine fs_reL [2, 3, 1, 0] rfl ?_
        have k9 := key_50
        try simp only [if_pos c_3, if_neg c_26, if_neg c_33] at k9 ⊢
        exact k9
      · refine fs_lload dX0_rounded_36 rfl ?_
        refine fs_lconst (v := 1) dX0_rounded_38 rfl ?_
        refine fs_land dX0_rounded_39 ?_
        refine fs_lconst (v := 1) dX0_rounded_40 rfl ?_
        refine fs_lcmp dX0_rounded_41 ?_
        refine fs_if_ne 49 dX0_rounded_42 (by decide) (fun c_42 : ¬ (lg_cmp ((x1 / x2) &&& 1) 1) = 0 => ?_) (fun c_42 : (lg_cmp ((x1 / x2) &&& 1) 1) = 0 => ?_)
        · refine fs_iconst (v := 0) dX0_rounded_49 rfl ?_
          refine fs_reL [2, 3, 1, 0] rfl ?_
          have k9 := key_50
          try simp only [if_pos c_3, if_neg c_26, if_pos c_33, if_neg c_42] at k9 ⊢
          exact k9
        · refine fs_iconst (v := 1) dX0_rounded_45 rfl ?_
          refine fs_goto 50 dX0_rounded_46 (by decide) ?_
          refine fs_reL [2, 3, 1, 0] rfl ?_
          have k9 := key_50
          try simp only [if_pos c_3, if_neg c_26, if_pos c_33, if_pos c_42] at k9 ⊢
          exact k9
  · refine fs_lconst (v := 0) dX0_rounded_6 rfl ?_
    have k9 := hq
    try simp only [if_neg c_3] at k9 ⊢
    exact fs_lret dX0_rounded_7 rfl k9
def L_X0_product_r (ht : Nat) (I : Nat → Int32) (A : Nat → Nat → Int32) (J : Nat → Nat → Int64) (it : Nat → Option Nat) (dyn : fsH) (x1 : Int64) (x2 : Int64) : Int64 := (if (lg_cmp (if 0 < x1 then x1 else -x1) 0) = 0 then 0 else (if (lg_cmp (if 0 < x2 then x2 else -x2) ((100000000000000050) / (if 0 < x1 then x1 else -x1))) ≤ 0 then (L_X0_limited_r ht I A J it dyn (if (if 0 ≤ (lg_cmp x1 0) then 0 else 1 : Int32) = (if 0 ≤ (lg_cmp x2 0) then 0 else 1 : Int32) then (L_X0_rounded_r ht I A J it dyn ((if 0 < x1 then x1 else -x1) * (if 0 < x2 then x2 else -x2)) (100)) else (-(L_X0_rounded_r ht I A J it dyn ((if 0 < x1 then x1 else -x1) * (if 0 < x2 then x2 else -x2)) (100))) : Int64)) else (10000000000000001)))
def S_X0_product (ht : Nat) (I : Nat → Int32) (A : Nat → Nat → Int32) (J : Nat → Nat → Int64) (it : Nat → Option Nat) (dyn : fsH) (x1 : Int64) (x2 : Int64) : Prop := (¬ ((lg_cmp (if 0 < x1 then x1 else -x1) 0) = 0) → ((¬ (if 0 < x1 then x1 else -x1) = 0) ∧ (((lg_cmp (if 0 < x2 then x2 else -x2) ((100000000000000050) / (if 0 < x1 then x1 else -x1))) ≤ 0) → (S_X0_rounded ht I A J it dyn ((if 0 < x1 then x1 else -x1) * (if 0 < x2 then x2 else -x2)) (100)))))
set_option maxRecDepth 100000 in
set_option maxHeartbeats 4000000 in
theorem c_X0_product (G : fsG) (l : Launch) (ht : Nat) (I : Nat → Int32) (A : Nat → Nat → Int32) (J : Nat → Nat → Int64) (it : Nat → Option Nat) (dyn : fsH) (x1 : Int64) (x2 : Int64) (hS : S_X0_product ht I A J it dyn x1 x2) : fsFn G l mX0_product 1 0 0 [.inr (.inl x1), .inr (.inl x2)] (fs_mk ht I A J it dyn) (some (.inr (.inl (L_X0_product_r ht I A J it dyn x1 x2)))) (fs_mk ht I A J it dyn) := by
  refine fsMet_of (by decide) (Nat.le_of_ble_eq_true rfl) ?_
  generalize hQ : (fun (r1 : Option fsV) (h1 : fsH) => r1 = (some (.inr (.inl (L_X0_product_r ht I A J it dyn x1 x2)))) ∧ h1 = (fs_mk ht I A J it dyn)) = Q
  have hq : Q (some (.inr (.inl (L_X0_product_r ht I A J it dyn x1 x2)))) (fs_mk ht I A J it dyn) := by rw [← hQ]; exact ⟨rfl, rfl⟩
  clear hQ
  have hq : Q (some (.inr (.inl (if (lg_cmp (if 0 < x1 then x1 else -x1) 0) = 0 then 0 else (if (lg_cmp (if 0 < x2 then x2 else -x2) ((100000000000000050) / (if 0 < x1 then x1 else -x1))) ≤ 0 then (L_X0_limited_r ht I A J it dyn (if (if 0 ≤ (lg_cmp x1 0) then 0 else 1 : Int32) = (if 0 ≤ (lg_cmp x2 0) then 0 else 1 : Int32) then (L_X0_rounded_r ht I A J it dyn ((if 0 < x1 then x1 else -x1) * (if 0 < x2 then x2 else -x2)) (100)) else (-(L_X0_rounded_r ht I A J it dyn ((if 0 < x1 then x1 else -x1) * (if 0 < x2 then x2 else -x2)) (100))) : Int64)) else (10000000000000001) : Int64) : Int64)))) (fs_mk ht I A J it dyn) := hq
  have hS : (¬ ((lg_cmp (if 0 < x1 then x1 else -x1) 0) = 0) → ((¬ (if 0 < x1 then x1 else -x1) = 0) ∧ (((lg_cmp (if 0 < x2 then x2 else -x2) ((100000000000000050) / (if 0 < x1 then x1 else -x1))) ≤ 0) → (S_X0_rounded ht I A J it dyn ((if 0 < x1 then x1 else -x1) * (if 0 < x2 then x2 else -x2)) (100))))) := hS
  refine (show fsW G l mX0_product 1 0 0 0 0 Q 0 [(0, .inr (.inl x1)), (2, .inr (.inl x2))] [] (fs_mk ht I A J it dyn) from ?_)
  refine fs_lload_n dX0_product_0 rfl rfl ?_
  refine fs_absL dX0_product_1 sl_X0_15 w_ms_abs w_mi w_mc_abs (Nat.le_of_ble_eq_true rfl) (Nat.le_of_ble_eq_true rfl) (Nat.le_of_ble_eq_true rfl) (Nat.le_of_ble_eq_true rfl) ?_
  refine fs_lstore (L' := [(4, .inr (.inl (if 0 < x1 then x1 else -x1))), (0, .inr (.inl x1)), (2, .inr (.inl x2))]) dX0_product_4 (by decide) rfl ?_
  refine fs_lload_n dX0_product_6 rfl rfl ?_
  refine fs_absL dX0_product_7 sl_X0_15 w_ms_abs w_mi w_mc_abs (Nat.le_of_ble_eq_true rfl) (Nat.le_of_ble_eq_true rfl) (Nat.le_of_ble_eq_true rfl) (Nat.le_of_ble_eq_true rfl) ?_
  refine fs_lstore (L' := [(6, .inr (.inl (if 0 < x2 then x2 else -x2))), (4, .inr (.inl (if 0 < x1 then x1 else -x1))), (0, .inr (.inl x1)), (2, .inr (.inl x2))]) dX0_product_10 (by decide) rfl ?_
  refine fs_lload dX0_product_12 rfl ?_
  refine fs_lconst (v := 0) dX0_product_14 rfl ?_
  refine fs_lcmp dX0_product_15 ?_
  refine fs_if_ne 21 dX0_product_16 (by decide) (fun c_16 : ¬ (lg_cmp (if 0 < x1 then x1 else -x1) 0) = 0 => ?_) (fun c_16 : (lg_cmp (if 0 < x1 then x1 else -x1) 0) = 0 => ?_)
  · have hS := hS c_16
    refine fs_lload dX0_product_21 rfl ?_
    refine fs_ldc2 (v := (100000000000000050)) dX0_product_23 sk_X0_21 ?_
    refine fs_lload dX0_product_26 rfl ?_
    obtain ⟨ho1, hS⟩ := hS
    refine fs_ldiv dX0_product_28 ho1 ?_
    refine fs_lcmp dX0_product_29 ?_
    refine fs_if_le 37 dX0_product_30 (by decide) (fun c_30 : (lg_cmp (if 0 < x2 then x2 else -x2) ((100000000000000050) / (if 0 < x1 then x1 else -x1))) ≤ 0 => ?_) (fun c_30 : ¬ ((lg_cmp (if 0 < x2 then x2 else -x2) ((100000000000000050) / (if 0 < x1 then x1 else -x1))) ≤ 0) => ?_)
    · have hS := hS c_30
      refine fs_lload dX0_product_37 rfl ?_
      refine fs_lload dX0_product_39 rfl ?_
      refine fs_lmul dX0_product_41 ?_
      refine fs_ldc2 (v := (100)) dX0_product_42 sk_X0_23 ?_
      have ho1 := hS
      refine fs_callS1 dX0_product_45 sv_X0_25 (c_X0_rounded G l ht I A J it dyn ((if 0 < x1 then x1 else -x1) * (if 0 < x2 then x2 else -x2)) (100) ho1) rfl rfl (Nat.le_of_ble_eq_true rfl) (Nat.le_of_ble_eq_true rfl) (Nat.le_of_ble_eq_true rfl) (Nat.le_of_ble_eq_true rfl) ?_
      refine fs_lstore (L' := [(8, .inr (.inl (L_X0_rounded_r ht I A J it dyn ((if 0 < x1 then x1 else -x1) * (if 0 < x2 then x2 else -x2)) (100)))), (6, .inr (.inl (if 0 < x2 then x2 else -x2))), (4, .inr (.inl (if 0 < x1 then x1 else -x1))), (0, .inr (.inl x1)), (2, .inr (.inl x2))]) dX0_product_48 (by decide) rfl ?_
      refine fs_lload_n dX0_product_50 rfl rfl ?_
      refine fs_lconst (v := 0) dX0_product_51 rfl ?_
      refine fs_lcmp dX0_product_52 ?_
      have key_61 : fsW G l mX0_product 1 0 0 0 0 Q 61 [(0, .inr (.inl x1)), (2, .inr (.inl x2)), (4, .inr (.inl (if 0 < x1 then x1 else -x1))), (6, .inr (.inl (if 0 < x2 then x2 else -x2))), (8, .inr (.inl (L_X0_rounded_r ht I A J it dyn ((if 0 < x1 then x1 else -x1) * (if 0 < x2 then x2 else -x2)) (100))))] [.inl (if 0 ≤ (lg_cmp x1 0) then 0 else 1 : Int32)] (fs_mk ht I A J it dyn) := by
        refine fs_lload_n dX0_product_61 rfl rfl ?_
        refine fs_lconst (v := 0) dX0_product_62 rfl ?_
        refine fs_lcmp dX0_product_63 ?_
        have key_72 : fsW G l mX0_product 1 0 0 0 0 Q 72 [(0, .inr (.inl x1)), (2, .inr (.inl x2)), (4, .inr (.inl (if 0 < x1 then x1 else -x1))), (6, .inr (.inl (if 0 < x2 then x2 else -x2))), (8, .inr (.inl (L_X0_rounded_r ht I A J it dyn ((if 0 < x1 then x1 else -x1) * (if 0 < x2 then x2 else -x2)) (100))))] [.inl (if 0 ≤ (lg_cmp x2 0) then 0 else 1 : Int32), .inl (if 0 ≤ (lg_cmp x1 0) then 0 else 1 : Int32)] (fs_mk ht I A J it dyn) := by
          have key_83 : fsW G l mX0_product 1 0 0 0 0 Q 83 [(0, .inr (.inl x1)), (2, .inr (.inl x2)), (4, .inr (.inl (if 0 < x1 then x1 else -x1))), (6, .inr (.inl (if 0 < x2 then x2 else -x2))), (8, .inr (.inl (L_X0_rounded_r ht I A J it dyn ((if 0 < x1 then x1 else -x1) * (if 0 < x2 then x2 else -x2)) (100))))] [.inr (.inl (if (if 0 ≤ (lg_cmp x1 0) then 0 else 1 : Int32) = (if 0 ≤ (lg_cmp x2 0) then 0 else 1 : Int32) then (L_X0_rounded_r ht I A J it dyn ((if 0 < x1 then x1 else -x1) * (if 0 < x2 then x2 else -x2)) (100)) else (-(L_X0_rounded_r ht I A J it dyn ((if 0 < x1 then x1 else -x1) * (if 0 < x2 then x2 else -x2)) (100))) : Int64))] (fs_mk ht I A J it dyn) := by
            refine fs_callS1 dX0_product_83 sv_X0_31 (c_X0_limited G l ht I A J it dyn (if (if 0 ≤ (lg_cmp x1 0) then 0 else 1 : Int32) = (if 0 ≤ (lg_cmp x2 0) then 0 else 1 : Int32) then (L_X0_rounded_r ht I A J it dyn ((if 0 < x1 then x1 else -x1) * (if 0 < x2 then x2 else -x2)) (100)) else (-(L_X0_rounded_r ht I A J it dyn ((if 0 < x1 then x1 else -x1) * (if 0 < x2 then x2 else -x2)) (100))) : Int64)) rfl rfl (Nat.le_of_ble_eq_true rfl) (Nat.le_of_ble_eq_true rfl) (Nat.le_of_ble_eq_true rfl) (Nat.le_of_ble_eq_true rfl) ?_
            have k9 := hq
            try simp only [if_neg c_16, if_pos c_30] at k9 ⊢
            exact fs_lret dX0_product_86 rfl k9
          refine fs_icmp_eq 81 dX0_product_72 (by decide) (fun c_72 : (if 0 ≤ (lg_cmp x1 0) then 0 else 1 : Int32) = (if 0 ≤ (lg_cmp x2 0) then 0 else 1 : Int32) => ?_) (fun c_72 : ¬ ((if 0 ≤ (lg_cmp x1 0) then 0 else 1 : Int32) = (if 0 ≤ (lg_cmp x2 0) then 0 else 1 : Int32)) => ?_)
          · refine fs_lload dX0_product_81 rfl ?_
            have k9 := key_83
            try simp only [if_neg c_16, if_pos c_30, if_pos c_72] at k9 ⊢
            exact k9
          · refine fs_lload dX0_product_75 rfl ?_
            refine fs_lneg dX0_product_77 ?_
            refine fs_goto 83 dX0_product_78 (by decide) ?_
            have k9 := key_83
            try simp only [if_neg c_16, if_pos c_30, if_neg c_72] at k9 ⊢
            exact k9
        refine fs_if_ge 71 dX0_product_64 (by decide) (fun c_64 : 0 ≤ (lg_cmp x2 0) => ?_) (fun c_64 : ¬ (0 ≤ (lg_cmp x2 0)) => ?_)
        · refine fs_iconst (v := 0) dX0_product_71 rfl ?_
          have k9 := key_72
          try simp only [if_neg c_16, if_pos c_30, if_pos c_64] at k9 ⊢
          exact k9
        · refine fs_iconst (v := 1) dX0_product_67 rfl ?_
          refine fs_goto 72 dX0_product_68 (by decide) ?_
          have k9 := key_72
          try simp only [if_neg c_16, if_pos c_30, if_neg c_64] at k9 ⊢
          exact k9
      refine fs_if_ge 60 dX0_product_53 (by decide) (fun c_53 : 0 ≤ (lg_cmp x1 0) => ?_) (fun c_53 : ¬ (0 ≤ (lg_cmp x1 0)) => ?_)
      · refine fs_iconst (v := 0) dX0_product_60 rfl ?_
        refine fs_reL [3, 4, 2, 1, 0] rfl ?_
        have k9 := key_61
        try simp only [if_neg c_16, if_pos c_30, if_pos c_53] at k9 ⊢
        exact k9
      · refine fs_iconst (v := 1) dX0_product_56 rfl ?_
        refine fs_goto 61 dX0_product_57 (by decide) ?_
        refine fs_reL [3, 4, 2, 1, 0] rfl ?_
        have k9 := key_61
        try simp only [if_neg c_16, if_pos c_30, if_neg c_53] at k9 ⊢
        exact k9
    · refine fs_ldc2 (v := (10000000000000001)) dX0_product_33 sk_X0_13 ?_
      have k9 := hq
      try simp only [if_neg c_16, if_neg c_30] at k9 ⊢
      exact fs_lret dX0_product_36 rfl k9
  · refine fs_lconst (v := 0) dX0_product_19 rfl ?_
    have k9 := hq
    try simp only [if_pos c_16] at k9 ⊢
    exact fs_lret dX0_product_20 rfl k9
def L_X0_quotient_r (ht : Nat) (I : Nat → Int32) (A : Nat → Nat → Int32) (J : Nat → Nat → Int64) (it : Nat → Option Nat) (dyn : fsH) (x1 : Int64) (x2 : Int64) : Int64 := (if (lg_cmp x2 0) = 0 then (10000000000000002) else (L_X0_limited_r ht I A J it dyn (if (if 0 ≤ (lg_cmp x1 0) then 0 else 1 : Int32) = (if 0 ≤ (lg_cmp x2 0) then 0 else 1 : Int32) then (L_X0_rounded_r ht I A J it dyn ((100) * (if 0 < x1 then x1 else -x1)) (if 0 < x2 then x2 else -x2)) else (-(L_X0_rounded_r ht I A J it dyn ((100) * (if 0 < x1 then x1 else -x1)) (if 0 < x2 then x2 else -x2))) : Int64)))
def S_X0_quotient (ht : Nat) (I : Nat → Int32) (A : Nat → Nat → Int32) (J : Nat → Nat → Int64) (it : Nat → Option Nat) (dyn : fsH) (x1 : Int64) (x2 : Int64) : Prop := (¬ ((lg_cmp x2 0) = 0) → (S_X0_rounded ht I A J it dyn ((100) * (if 0 < x1 then x1 else -x1)) (if 0 < x2 then x2 else -x2)))
set_option maxRecDepth 100000 in
set_option maxHeartbeats 4000000 in
theorem c_X0_quotient (G : fsG) (l : Launch) (ht : Nat) (I : Nat → Int32) (A : Nat → Nat → Int32) (J : Nat → Nat → Int64) (it : Nat → Option Nat) (dyn : fsH) (x1 : Int64) (x2 : Int64) (hS : S_X0_quotient ht I A J it dyn x1 x2) : fsFn G l mX0_quotient 1 0 0 [.inr (.inl x1), .inr (.inl x2)] (fs_mk ht I A J it dyn) (some (.inr (.inl (L_X0_quotient_r ht I A J it dyn x1 x2)))) (fs_mk ht I A J it dyn) := by
  refine fsMet_of (by decide) (Nat.le_of_ble_eq_true rfl) ?_
  generalize hQ : (fun (r1 : Option fsV) (h1 : fsH) => r1 = (some (.inr (.inl (L_X0_quotient_r ht I A J it dyn x1 x2)))) ∧ h1 = (fs_mk ht I A J it dyn)) = Q
  have hq : Q (some (.inr (.inl (L_X0_quotient_r ht I A J it dyn x1 x2)))) (fs_mk ht I A J it dyn) := by rw [← hQ]; exact ⟨rfl, rfl⟩
  clear hQ
  have hq : Q (some (.inr (.inl (if (lg_cmp x2 0) = 0 then (10000000000000002) else (L_X0_limited_r ht I A J it dyn (if (if 0 ≤ (lg_cmp x1 0) then 0 else 1 : Int32) = (if 0 ≤ (lg_cmp x2 0) then 0 else 1 : Int32) then (L_X0_rounded_r ht I A J it dyn ((100) * (if 0 < x1 then x1 else -x1)) (if 0 < x2 then x2 else -x2)) else (-(L_X0_rounded_r ht I A J it dyn ((100) * (if 0 < x1 then x1 else -x1)) (if 0 < x2 then x2 else -x2))) : Int64)) : Int64)))) (fs_mk ht I A J it dyn) := hq
  have hS : (¬ ((lg_cmp x2 0) = 0) → (S_X0_rounded ht I A J it dyn ((100) * (if 0 < x1 then x1 else -x1)) (if 0 < x2 then x2 else -x2))) := hS
  refine (show fsW G l mX0_quotient 1 0 0 0 0 Q 0 [(0, .inr (.inl x1)), (2, .inr (.inl x2))] [] (fs_mk ht I A J it dyn) from ?_)
  refine fs_lload_n dX0_quotient_0 rfl rfl ?_
  refine fs_lconst (v := 0) dX0_quotient_1 rfl ?_
  refine fs_lcmp dX0_quotient_2 ?_
  refine fs_if_ne 10 dX0_quotient_3 (by decide) (fun c_3 : ¬ (lg_cmp x2 0) = 0 => ?_) (fun c_3 : (lg_cmp x2 0) = 0 => ?_)
  · have hS := hS c_3
    refine fs_ldc2 (v := (100)) dX0_quotient_10 sk_X0_23 ?_
    refine fs_lload_n dX0_quotient_13 rfl rfl ?_
    refine fs_absL dX0_quotient_14 sl_X0_15 w_ms_abs w_mi w_mc_abs (Nat.le_of_ble_eq_true rfl) (Nat.le_of_ble_eq_true rfl) (Nat.le_of_ble_eq_true rfl) (Nat.le_of_ble_eq_true rfl) ?_
    refine fs_lmul dX0_quotient_17 ?_
    refine fs_lload_n dX0_quotient_18 rfl rfl ?_
    refine fs_absL dX0_quotient_19 sl_X0_15 w_ms_abs w_mi w_mc_abs (Nat.le_of_ble_eq_true rfl) (Nat.le_of_ble_eq_true rfl) (Nat.le_of_ble_eq_true rfl) (Nat.le_of_ble_eq_true rfl) ?_
    have ho1 := hS
    refine fs_callS1 dX0_quotient_22 sv_X0_25 (c_X0_rounded G l ht I A J it dyn ((100) * (if 0 < x1 then x1 else -x1)) (if 0 < x2 then x2 else -x2) ho1) rfl rfl (Nat.le_of_ble_eq_true rfl) (Nat.le_of_ble_eq_true rfl) (Nat.le_of_ble_eq_true rfl) (Nat.le_of_ble_eq_true rfl) ?_
    refine fs_lstore (L' := [(4, .inr (.inl (L_X0_rounded_r ht I A J it dyn ((100) * (if 0 < x1 then x1 else -x1)) (if 0 < x2 then x2 else -x2)))), (0, .inr (.inl x1)), (2, .inr (.inl x2))]) dX0_quotient_25 (by decide) rfl ?_
    refine fs_lload_n dX0_quotient_27 rfl rfl ?_
    refine fs_lconst (v := 0) dX0_quotient_28 rfl ?_
    refine fs_lcmp dX0_quotient_29 ?_
    have key_38 : fsW G l mX0_quotient 1 0 0 0 0 Q 38 [(0, .inr (.inl x1)), (2, .inr (.inl x2)), (4, .inr (.inl (L_X0_rounded_r ht I A J it dyn ((100) * (if 0 < x1 then x1 else -x1)) (if 0 < x2 then x2 else -x2))))] [.inl (if 0 ≤ (lg_cmp x1 0) then 0 else 1 : Int32)] (fs_mk ht I A J it dyn) := by
      refine fs_lload_n dX0_quotient_38 rfl rfl ?_
      refine fs_lconst (v := 0) dX0_quotient_39 rfl ?_
      refine fs_lcmp dX0_quotient_40 ?_
      have key_49 : fsW G l mX0_quotient 1 0 0 0 0 Q 49 [(0, .inr (.inl x1)), (2, .inr (.inl x2)), (4, .inr (.inl (L_X0_rounded_r ht I A J it dyn ((100) * (if 0 < x1 then x1 else -x1)) (if 0 < x2 then x2 else -x2))))] [.inl (if 0 ≤ (lg_cmp x2 0) then 0 else 1 : Int32), .inl (if 0 ≤ (lg_cmp x1 0) then 0 else 1 : Int32)] (fs_mk ht I A J it dyn) := by
        have key_60 : fsW G l mX0_quotient 1 0 0 0 0 Q 60 [(0, .inr (.inl x1)), (2, .inr (.inl x2)), (4, .inr (.inl (L_X0_rounded_r ht I A J it dyn ((100) * (if 0 < x1 then x1 else -x1)) (if 0 < x2 then x2 else -x2))))] [.inr (.inl (if (if 0 ≤ (lg_cmp x1 0) then 0 else 1 : Int32) = (if 0 ≤ (lg_cmp x2 0) then 0 else 1 : Int32) then (L_X0_rounded_r ht I A J it dyn ((100) * (if 0 < x1 then x1 else -x1)) (if 0 < x2 then x2 else -x2)) else (-(L_X0_rounded_r ht I A J it dyn ((100) * (if 0 < x1 then x1 else -x1)) (if 0 < x2 then x2 else -x2))) : Int64))] (fs_mk ht I A J it dyn) := by
          refine fs_callS1 dX0_quotient_60 sv_X0_31 (c_X0_limited G l ht I A J it dyn (if (if 0 ≤ (lg_cmp x1 0) then 0 else 1 : Int32) = (if 0 ≤ (lg_cmp x2 0) then 0 else 1 : Int32) then (L_X0_rounded_r ht I A J it dyn ((100) * (if 0 < x1 then x1 else -x1)) (if 0 < x2 then x2 else -x2)) else (-(L_X0_rounded_r ht I A J it dyn ((100) * (if 0 < x1 then x1 else -x1)) (if 0 < x2 then x2 else -x2))) : Int64)) rfl rfl (Nat.le_of_ble_eq_true rfl) (Nat.le_of_ble_eq_true rfl) (Nat.le_of_ble_eq_true rfl) (Nat.le_of_ble_eq_true rfl) ?_
          have k9 := hq
          try simp only [if_neg c_3] at k9 ⊢
          exact fs_lret dX0_quotient_63 rfl k9
        refine fs_icmp_eq 58 dX0_quotient_49 (by decide) (fun c_49 : (if 0 ≤ (lg_cmp x1 0) then 0 else 1 : Int32) = (if 0 ≤ (lg_cmp x2 0) then 0 else 1 : Int32) => ?_) (fun c_49 : ¬ ((if 0 ≤ (lg_cmp x1 0) then 0 else 1 : Int32) = (if 0 ≤ (lg_cmp x2 0) then 0 else 1 : Int32)) => ?_)
        · refine fs_lload dX0_quotient_58 rfl ?_
          have k9 := key_60
          try simp only [if_neg c_3, if_pos c_49] at k9 ⊢
          exact k9
        · refine fs_lload dX0_quotient_52 rfl ?_
          refine fs_lneg dX0_quotient_54 ?_
          refine fs_goto 60 dX0_quotient_55 (by decide) ?_
          have k9 := key_60
          try simp only [if_neg c_3, if_neg c_49] at k9 ⊢
          exact k9
      refine fs_if_ge 48 dX0_quotient_41 (by decide) (fun c_41 : 0 ≤ (lg_cmp x2 0) => ?_) (fun c_41 : ¬ (0 ≤ (lg_cmp x2 0)) => ?_)
      · refine fs_iconst (v := 0) dX0_quotient_48 rfl ?_
        have k9 := key_49
        try simp only [if_neg c_3, if_pos c_41] at k9 ⊢
        exact k9
      · refine fs_iconst (v := 1) dX0_quotient_44 rfl ?_
        refine fs_goto 49 dX0_quotient_45 (by decide) ?_
        have k9 := key_49
        try simp only [if_neg c_3, if_neg c_41] at k9 ⊢
        exact k9
    refine fs_if_ge 37 dX0_quotient_30 (by decide) (fun c_30 : 0 ≤ (lg_cmp x1 0) => ?_) (fun c_30 : ¬ (0 ≤ (lg_cmp x1 0)) => ?_)
    · refine fs_iconst (v := 0) dX0_quotient_37 rfl ?_
      refine fs_reL [1, 2, 0] rfl ?_
      have k9 := key_38
      try simp only [if_neg c_3, if_pos c_30] at k9 ⊢
      exact k9
    · refine fs_iconst (v := 1) dX0_quotient_33 rfl ?_
      refine fs_goto 38 dX0_quotient_34 (by decide) ?_
      refine fs_reL [1, 2, 0] rfl ?_
      have k9 := key_38
      try simp only [if_neg c_3, if_neg c_30] at k9 ⊢
      exact k9
  · refine fs_ldc2 (v := (10000000000000002)) dX0_quotient_6 sk_X0_34 ?_
    have k9 := hq
    try simp only [if_pos c_3] at k9 ⊢
    exact fs_lret dX0_quotient_9 rfl k9
def L_X1_empty_I (ht : Nat) (I : Nat → Int32) (A : Nat → Nat → Int32) (J : Nat → Nat → Int64) (it : Nat → Option Nat) (dyn : fsH)  : Nat → Int32 := (upd (upd I 4 0) 5 1)
set_option maxRecDepth 100000 in
set_option maxHeartbeats 4000000 in
theorem c_X1_empty (G : fsG) (l : Launch) (ht : Nat) (I : Nat → Int32) (A : Nat → Nat → Int32) (J : Nat → Nat → Int64) (it : Nat → Option Nat) (dyn : fsH)  : fsFn G l mX1_empty 0 0 0 [.inr (.inr (some 3))] (fs_mk ht I A J it dyn) none (fs_mk ht (L_X1_empty_I ht I A J it dyn ) A J it dyn) := by
  refine fsMet_of (by decide) (Nat.le_of_ble_eq_true rfl) ?_
  generalize hQ : (fun (r1 : Option fsV) (h1 : fsH) => r1 = none ∧ h1 = (fs_mk ht (L_X1_empty_I ht I A J it dyn ) A J it dyn)) = Q
  have hq : Q none (fs_mk ht (L_X1_empty_I ht I A J it dyn ) A J it dyn) := by rw [← hQ]; exact ⟨rfl, rfl⟩
  clear hQ
  have hq : Q none (fs_mk ht (upd (upd I 4 0) 5 1) A J it dyn) := hq
  refine (show fsW G l mX1_empty 0 0 0 0 0 Q 0 [(0, .inr (.inr (some 3)))] [] (fs_mk ht I A J it dyn) from ?_)
  refine fs_aload_n dX1_empty_0 rfl rfl ?_
  refine fs_iconst (v := 0) dX1_empty_1 rfl ?_
  refine fsp_4 dX1_empty_2 sp_X1_17 ?_
  refine fs_aload_n dX1_empty_5 rfl rfl ?_
  refine fs_iconst (v := 1) dX1_empty_6 rfl ?_
  refine fsp_5 dX1_empty_7 sp_X1_21 ?_
  have k9 := hq
  exact fs_ret dX1_empty_10 rfl k9
def L_X1_isOfKind_r (ht : Nat) (I : Nat → Int32) (A : Nat → Nat → Int32) (J : Nat → Nat → Int64) (it : Nat → Option Nat) (dyn : fsH) (x1 : Int32) (x2 : Int32) : Int32 := (if x1 < 0 then 0 else (if (I 4) ≤ x1 then 0 else (if (fs_dI dyn (it x1.toNatClampNeg) 0) = x2 then 1 else 0 : Int32) : Int32) : Int32)
def S_X1_isOfKind (ht : Nat) (I : Nat → Int32) (A : Nat → Nat → Int32) (J : Nat → Nat → Int64) (it : Nat → Option Nat) (dyn : fsH) (x1 : Int32) (x2 : Int32) : Prop := (¬ (x1 < 0) → (¬ ((I 4) ≤ x1) → ((vp_in x1 16) ∧ (fs_okI dyn (it x1.toNatClampNeg)))))
set_option maxRecDepth 100000 in
set_option maxHeartbeats 4000000 in
theorem c_X1_isOfKind (G : fsG) (l : Launch) (ht : Nat) (I : Nat → Int32) (A : Nat → Nat → Int32) (J : Nat → Nat → Int64) (it : Nat → Option Nat) (dyn : fsH) (x1 : Int32) (x2 : Int32) (hS : S_X1_isOfKind ht I A J it dyn x1 x2) : fsFn G l mX1_isOfKind 0 0 0 [.inr (.inr (some 3)), .inl x1, .inl x2] (fs_mk ht I A J it dyn) (some (.inl (L_X1_isOfKind_r ht I A J it dyn x1 x2))) (fs_mk ht I A J it dyn) := by
  refine fsMet_of (by decide) (Nat.le_of_ble_eq_true rfl) ?_
  generalize hQ : (fun (r1 : Option fsV) (h1 : fsH) => r1 = (some (.inl (L_X1_isOfKind_r ht I A J it dyn x1 x2))) ∧ h1 = (fs_mk ht I A J it dyn)) = Q
  have hq : Q (some (.inl (L_X1_isOfKind_r ht I A J it dyn x1 x2))) (fs_mk ht I A J it dyn) := by rw [← hQ]; exact ⟨rfl, rfl⟩
  clear hQ
  have hq : Q (some (.inl (if x1 < 0 then 0 else (if (I 4) ≤ x1 then 0 else (if (fs_dI dyn (it x1.toNatClampNeg) 0) = x2 then 1 else 0 : Int32) : Int32) : Int32))) (fs_mk ht I A J it dyn) := hq
  have hS : (¬ (x1 < 0) → (¬ ((I 4) ≤ x1) → ((vp_in x1 16) ∧ (fs_okI dyn (it x1.toNatClampNeg))))) := hS
  refine (show fsW G l mX1_isOfKind 0 0 0 0 0 Q 0 [(0, .inr (.inr (some 3))), (1, .inl x1), (2, .inl x2)] [] (fs_mk ht I A J it dyn) from ?_)
  refine fs_iload_n dX1_isOfKind_0 rfl rfl ?_
  have hR_1 := hS
  have key_30 : fsW G l mX1_isOfKind 0 0 0 0 0 Q 30 [(0, .inr (.inr (some 3))), (1, .inl x1), (2, .inl x2)] [.inl (if x1 < 0 then 0 else (if (I 4) ≤ x1 then 0 else (if (fs_dI dyn (it x1.toNatClampNeg) 0) = x2 then 1 else 0 : Int32) : Int32) : Int32)] (fs_mk ht I A J it dyn) := by
    have k9 := hq
    exact fs_iret dX1_isOfKind_30 rfl (by (repeat' split) <;> first | rfl) k9
  refine fs_if_lt 29 dX1_isOfKind_1 (by decide) (fun c_1 : x1 < 0 => ?_) (fun c_1 : ¬ (x1 < 0) => ?_)
  · refine fs_iconst (v := 0) dX1_isOfKind_29 rfl ?_
    have k9 := key_30
    try simp only [if_pos c_1] at k9 ⊢
    exact k9
  · have hS := hR_1 c_1
    refine fs_iload_n dX1_isOfKind_4 rfl rfl ?_
    refine fs_aload_n dX1_isOfKind_5 rfl rfl ?_
    refine fs_getfield (v := .inl (I 4)) dX1_isOfKind_6 sf_X1_17 rfl rfl ?_
    refine fs_icmp_ge 29 dX1_isOfKind_9 (by decide) (fun c_9 : (I 4) ≤ x1 => ?_) (fun c_9 : ¬ ((I 4) ≤ x1) => ?_)
    · refine fs_iconst (v := 0) dX1_isOfKind_29 rfl ?_
      have k9 := key_30
      try simp only [if_neg c_1, if_pos c_9] at k9 ⊢
      exact k9
    · have hS := hS c_9
      refine fs_aload_n dX1_isOfKind_12 rfl rfl ?_
      refine fs_getfield (v := .inr (.inr (some 4))) dX1_isOfKind_13 sf_X1_11 rfl rfl ?_
      refine fs_iload_n dX1_isOfKind_16 rfl rfl ?_
      obtain ⟨ho1, hS⟩ := hS
      refine fs_aaload dX1_isOfKind_17 rfl ho1 ?_
      have ho1 := hS
      refine fsg_I0 dX1_isOfKind_18 sf_X1_24 ho1 ?_
      refine fs_iload_n dX1_isOfKind_21 rfl rfl ?_
      refine fs_icmp_ne 29 dX1_isOfKind_22 (by decide) (fun c_22 : ¬ (fs_dI dyn (it x1.toNatClampNeg) 0) = x2 => ?_) (fun c_22 : (fs_dI dyn (it x1.toNatClampNeg) 0) = x2 => ?_)
      · refine fs_iconst (v := 0) dX1_isOfKind_29 rfl ?_
        have k9 := key_30
        try simp only [if_neg c_1, if_neg c_9, if_neg c_22] at k9 ⊢
        exact k9
      · refine fs_iconst (v := 1) dX1_isOfKind_25 rfl ?_
        refine fs_goto 30 dX1_isOfKind_26 (by decide) ?_
        have k9 := key_30
        try simp only [if_neg c_1, if_neg c_9, if_pos c_22] at k9 ⊢
        exact k9
theorem nb_X1_isOfKind (ht : Nat) (I : Nat → Int32) (A : Nat → Nat → Int32) (J : Nat → Nat → Int64) (it : Nat → Option Nat) (dyn : fsH) (x1 : Int32) (x2 : Int32) : narrow .boolean (.int (L_X1_isOfKind_r ht I A J it dyn x1 x2)) = .int (L_X1_isOfKind_r ht I A J it dyn x1 x2) := by
  unfold L_X1_isOfKind_r
  exact (by (repeat' split) <;> first | rfl)
def L_X1_isField_r (ht : Nat) (I : Nat → Int32) (A : Nat → Nat → Int32) (J : Nat → Nat → Int64) (it : Nat → Option Nat) (dyn : fsH) (x1 : Int32) : Int32 := (L_X1_isOfKind_r ht I A J it dyn x1 102)
def S_X1_isField (ht : Nat) (I : Nat → Int32) (A : Nat → Nat → Int32) (J : Nat → Nat → Int64) (it : Nat → Option Nat) (dyn : fsH) (x1 : Int32) : Prop := (S_X1_isOfKind ht I A J it dyn x1 102)
set_option maxRecDepth 100000 in
set_option maxHeartbeats 4000000 in
theorem c_X1_isField (G : fsG) (l : Launch) (ht : Nat) (I : Nat → Int32) (A : Nat → Nat → Int32) (J : Nat → Nat → Int64) (it : Nat → Option Nat) (dyn : fsH) (x1 : Int32) (hS : S_X1_isField ht I A J it dyn x1) : fsFn G l mX1_isField 1 0 0 [.inr (.inr (some 3)), .inl x1] (fs_mk ht I A J it dyn) (some (.inl (L_X1_isField_r ht I A J it dyn x1))) (fs_mk ht I A J it dyn) := by
  refine fsMet_of (by decide) (Nat.le_of_ble_eq_true rfl) ?_
  generalize hQ : (fun (r1 : Option fsV) (h1 : fsH) => r1 = (some (.inl (L_X1_isField_r ht I A J it dyn x1))) ∧ h1 = (fs_mk ht I A J it dyn)) = Q
  have hq : Q (some (.inl (L_X1_isField_r ht I A J it dyn x1))) (fs_mk ht I A J it dyn) := by rw [← hQ]; exact ⟨rfl, rfl⟩
  clear hQ
  have hq : Q (some (.inl (L_X1_isOfKind_r ht I A J it dyn x1 102))) (fs_mk ht I A J it dyn) := hq
  have hS : (S_X1_isOfKind ht I A J it dyn x1 102) := hS
  refine (show fsW G l mX1_isField 1 0 0 0 0 Q 0 [(0, .inr (.inr (some 3))), (1, .inl x1)] [] (fs_mk ht I A J it dyn) from ?_)
  refine fs_aload_n dX1_isField_0 rfl rfl ?_
  refine fs_iload_n dX1_isField_1 rfl rfl ?_
  refine fs_bipush (v := 102) dX1_isField_2 rfl ?_
  have ho1 := hS
  refine fs_callV1 dX1_isField_4 sv_X1_42 rfl ⟨_, rfl, rfl⟩ (c_X1_isOfKind G l ht I A J it dyn x1 102 ho1) rfl rfl (Nat.le_of_ble_eq_true rfl) (Nat.le_of_ble_eq_true rfl) (Nat.le_of_ble_eq_true rfl) (Nat.le_of_ble_eq_true rfl) ?_
  have k9 := hq
  exact fs_iret dX1_isField_7 rfl (by (repeat' split) <;> first | rfl | exact nb_X1_isOfKind _ _ _ _ _ _ _ _) k9
theorem nb_X1_isField (ht : Nat) (I : Nat → Int32) (A : Nat → Nat → Int32) (J : Nat → Nat → Int64) (it : Nat → Option Nat) (dyn : fsH) (x1 : Int32) : narrow .boolean (.int (L_X1_isField_r ht I A J it dyn x1)) = .int (L_X1_isField_r ht I A J it dyn x1) := by
  unfold L_X1_isField_r
  exact (by (repeat' split) <;> first | rfl | exact nb_X1_isOfKind _ _ _ _ _ _ _ _)
def L_X1_isCheck_r (ht : Nat) (I : Nat → Int32) (A : Nat → Nat → Int32) (J : Nat → Nat → Int64) (it : Nat → Option Nat) (dyn : fsH) (x1 : Int32) : Int32 := (L_X1_isOfKind_r ht I A J it dyn x1 33)
def S_X1_isCheck (ht : Nat) (I : Nat → Int32) (A : Nat → Nat → Int32) (J : Nat → Nat → Int64) (it : Nat → Option Nat) (dyn : fsH) (x1 : Int32) : Prop := (S_X1_isOfKind ht I A J it dyn x1 33)
set_option maxRecDepth 100000 in
set_option maxHeartbeats 4000000 in
theorem c_X1_isCheck (G : fsG) (l : Launch) (ht : Nat) (I : Nat → Int32) (A : Nat → Nat → Int32) (J : Nat → Nat → Int64) (it : Nat → Option Nat) (dyn : fsH) (x1 : Int32) (hS : S_X1_isCheck ht I A J it dyn x1) : fsFn G l mX1_isCheck 1 0 0 [.inr (.inr (some 3)), .inl x1] (fs_mk ht I A J it dyn) (some (.inl (L_X1_isCheck_r ht I A J it dyn x1))) (fs_mk ht I A J it dyn) := by
  refine fsMet_of (by decide) (Nat.le_of_ble_eq_true rfl) ?_
  generalize hQ : (fun (r1 : Option fsV) (h1 : fsH) => r1 = (some (.inl (L_X1_isCheck_r ht I A J it dyn x1))) ∧ h1 = (fs_mk ht I A J it dyn)) = Q
  have hq : Q (some (.inl (L_X1_isCheck_r ht I A J it dyn x1))) (fs_mk ht I A J it dyn) := by rw [← hQ]; exact ⟨rfl, rfl⟩
  clear hQ
  have hq : Q (some (.inl (L_X1_isOfKind_r ht I A J it dyn x1 33))) (fs_mk ht I A J it dyn) := hq
  have hS : (S_X1_isOfKind ht I A J it dyn x1 33) := hS
  refine (show fsW G l mX1_isCheck 1 0 0 0 0 Q 0 [(0, .inr (.inr (some 3))), (1, .inl x1)] [] (fs_mk ht I A J it dyn) from ?_)
  refine fs_aload_n dX1_isCheck_0 rfl rfl ?_
  refine fs_iload_n dX1_isCheck_1 rfl rfl ?_
  refine fs_bipush (v := 33) dX1_isCheck_2 rfl ?_
  have ho1 := hS
  refine fs_callV1 dX1_isCheck_4 sv_X1_42 rfl ⟨_, rfl, rfl⟩ (c_X1_isOfKind G l ht I A J it dyn x1 33 ho1) rfl rfl (Nat.le_of_ble_eq_true rfl) (Nat.le_of_ble_eq_true rfl) (Nat.le_of_ble_eq_true rfl) (Nat.le_of_ble_eq_true rfl) ?_
  have k9 := hq
  exact fs_iret dX1_isCheck_7 rfl (by (repeat' split) <;> first | rfl | exact nb_X1_isOfKind _ _ _ _ _ _ _ _) k9
theorem nb_X1_isCheck (ht : Nat) (I : Nat → Int32) (A : Nat → Nat → Int32) (J : Nat → Nat → Int64) (it : Nat → Option Nat) (dyn : fsH) (x1 : Int32) : narrow .boolean (.int (L_X1_isCheck_r ht I A J it dyn x1)) = .int (L_X1_isCheck_r ht I A J it dyn x1) := by
  unfold L_X1_isCheck_r
  exact (by (repeat' split) <;> first | rfl | exact nb_X1_isOfKind _ _ _ _ _ _ _ _)
def L_X1_isCaption_r (ht : Nat) (I : Nat → Int32) (A : Nat → Nat → Int32) (J : Nat → Nat → Int64) (it : Nat → Option Nat) (dyn : fsH) (x1 : Int32) : Int32 := (L_X1_isOfKind_r ht I A J it dyn x1 34)
def S_X1_isCaption (ht : Nat) (I : Nat → Int32) (A : Nat → Nat → Int32) (J : Nat → Nat → Int64) (it : Nat → Option Nat) (dyn : fsH) (x1 : Int32) : Prop := (S_X1_isOfKind ht I A J it dyn x1 34)
set_option maxRecDepth 100000 in
set_option maxHeartbeats 4000000 in
theorem c_X1_isCaption (G : fsG) (l : Launch) (ht : Nat) (I : Nat → Int32) (A : Nat → Nat → Int32) (J : Nat → Nat → Int64) (it : Nat → Option Nat) (dyn : fsH) (x1 : Int32) (hS : S_X1_isCaption ht I A J it dyn x1) : fsFn G l mX1_isCaption 1 0 0 [.inr (.inr (some 3)), .inl x1] (fs_mk ht I A J it dyn) (some (.inl (L_X1_isCaption_r ht I A J it dyn x1))) (fs_mk ht I A J it dyn) := by
  refine fsMet_of (by decide) (Nat.le_of_ble_eq_true rfl) ?_
  generalize hQ : (fun (r1 : Option fsV) (h1 : fsH) => r1 = (some (.inl (L_X1_isCaption_r ht I A J it dyn x1))) ∧ h1 = (fs_mk ht I A J it dyn)) = Q
  have hq : Q (some (.inl (L_X1_isCaption_r ht I A J it dyn x1))) (fs_mk ht I A J it dyn) := by rw [← hQ]; exact ⟨rfl, rfl⟩
  clear hQ
  have hq : Q (some (.inl (L_X1_isOfKind_r ht I A J it dyn x1 34))) (fs_mk ht I A J it dyn) := hq
  have hS : (S_X1_isOfKind ht I A J it dyn x1 34) := hS
  refine (show fsW G l mX1_isCaption 1 0 0 0 0 Q 0 [(0, .inr (.inr (some 3))), (1, .inl x1)] [] (fs_mk ht I A J it dyn) from ?_)
  refine fs_aload_n dX1_isCaption_0 rfl rfl ?_
  refine fs_iload_n dX1_isCaption_1 rfl rfl ?_
  refine fs_bipush (v := 34) dX1_isCaption_2 rfl ?_
  have ho1 := hS
  refine fs_callV1 dX1_isCaption_4 sv_X1_42 rfl ⟨_, rfl, rfl⟩ (c_X1_isOfKind G l ht I A J it dyn x1 34 ho1) rfl rfl (Nat.le_of_ble_eq_true rfl) (Nat.le_of_ble_eq_true rfl) (Nat.le_of_ble_eq_true rfl) (Nat.le_of_ble_eq_true rfl) ?_
  have k9 := hq
  exact fs_iret dX1_isCaption_7 rfl (by (repeat' split) <;> first | rfl | exact nb_X1_isOfKind _ _ _ _ _ _ _ _) k9
theorem nb_X1_isCaption (ht : Nat) (I : Nat → Int32) (A : Nat → Nat → Int32) (J : Nat → Nat → Int64) (it : Nat → Option Nat) (dyn : fsH) (x1 : Int32) : narrow .boolean (.int (L_X1_isCaption_r ht I A J it dyn x1)) = .int (L_X1_isCaption_r ht I A J it dyn x1) := by
  unfold L_X1_isCaption_r
  exact (by (repeat' split) <;> first | rfl | exact nb_X1_isOfKind _ _ _ _ _ _ _ _)
def L_X1_isTold_r (ht : Nat) (I : Nat → Int32) (A : Nat → Nat → Int32) (J : Nat → Nat → Int64) (it : Nat → Option Nat) (dyn : fsH) (x1 : Int32) : Int32 := (if (L_X1_isField_r ht I A J it dyn x1) = 0 then 0 else (if (fs_dR dyn (it x1.toNatClampNeg) 3) = none then 1 else 0 : Int32) : Int32)
def S_X1_isTold (ht : Nat) (I : Nat → Int32) (A : Nat → Nat → Int32) (J : Nat → Nat → Int64) (it : Nat → Option Nat) (dyn : fsH) (x1 : Int32) : Prop := ((S_X1_isField ht I A J it dyn x1) ∧ (¬ ((L_X1_isField_r ht I A J it dyn x1) = 0) → ((vp_in x1 16) ∧ (fs_okI dyn (it x1.toNatClampNeg)))))
set_option maxRecDepth 100000 in
set_option maxHeartbeats 4000000 in
theorem c_X1_isTold (G : fsG) (l : Launch) (ht : Nat) (I : Nat → Int32) (A : Nat → Nat → Int32) (J : Nat → Nat → Int64) (it : Nat → Option Nat) (dyn : fsH) (x1 : Int32) (hS : S_X1_isTold ht I A J it dyn x1) : fsFn G l mX1_isTold 2 0 0 [.inr (.inr (some 3)), .inl x1] (fs_mk ht I A J it dyn) (some (.inl (L_X1_isTold_r ht I A J it dyn x1))) (fs_mk ht I A J it dyn) := by
  refine fsMet_of (by decide) (Nat.le_of_ble_eq_true rfl) ?_
  generalize hQ : (fun (r1 : Option fsV) (h1 : fsH) => r1 = (some (.inl (L_X1_isTold_r ht I A J it dyn x1))) ∧ h1 = (fs_mk ht I A J it dyn)) = Q
  have hq : Q (some (.inl (L_X1_isTold_r ht I A J it dyn x1))) (fs_mk ht I A J it dyn) := by rw [← hQ]; exact ⟨rfl, rfl⟩
  clear hQ
  have hq : Q (some (.inl (if (L_X1_isField_r ht I A J it dyn x1) = 0 then 0 else (if (fs_dR dyn (it x1.toNatClampNeg) 3) = none then 1 else 0 : Int32) : Int32))) (fs_mk ht I A J it dyn) := hq
  have hS : ((S_X1_isField ht I A J it dyn x1) ∧ (¬ ((L_X1_isField_r ht I A J it dyn x1) = 0) → ((vp_in x1 16) ∧ (fs_okI dyn (it x1.toNatClampNeg))))) := hS
  refine (show fsW G l mX1_isTold 2 0 0 0 0 Q 0 [(0, .inr (.inr (some 3))), (1, .inl x1)] [] (fs_mk ht I A J it dyn) from ?_)
  refine fs_aload_n dX1_isTold_0 rfl rfl ?_
  refine fs_iload_n dX1_isTold_1 rfl rfl ?_
  obtain ⟨ho1, hS⟩ := hS
  refine fs_callV1 dX1_isTold_2 sv_X1_46 rfl ⟨_, rfl, rfl⟩ (c_X1_isField G l ht I A J it dyn x1 ho1) rfl rfl (Nat.le_of_ble_eq_true rfl) (Nat.le_of_ble_eq_true rfl) (Nat.le_of_ble_eq_true rfl) (Nat.le_of_ble_eq_true rfl) ?_
  have hR_5 := hS
  have key_25 : fsW G l mX1_isTold 2 0 0 0 0 Q 25 [(0, .inr (.inr (some 3))), (1, .inl x1)] [.inl (if (L_X1_isField_r ht I A J it dyn x1) = 0 then 0 else (if (fs_dR dyn (it x1.toNatClampNeg) 3) = none then 1 else 0 : Int32) : Int32)] (fs_mk ht I A J it dyn) := by
    have k9 := hq
    exact fs_iret dX1_isTold_25 rfl (by (repeat' split) <;> first | rfl) k9
  refine fs_if_eq 24 dX1_isTold_5 (by decide) (fun c_5 : (L_X1_isField_r ht I A J it dyn x1) = 0 => ?_) (fun c_5 : ¬ ((L_X1_isField_r ht I A J it dyn x1) = 0) => ?_)
  · refine fs_iconst (v := 0) dX1_isTold_24 rfl ?_
    have k9 := key_25
    try simp only [if_pos c_5] at k9 ⊢
    exact k9
  · have hS := hR_5 c_5
    refine fs_aload_n dX1_isTold_8 rfl rfl ?_
    refine fs_getfield (v := .inr (.inr (some 4))) dX1_isTold_9 sf_X1_11 rfl rfl ?_
    refine fs_iload_n dX1_isTold_12 rfl rfl ?_
    obtain ⟨ho1, hS⟩ := hS
    refine fs_aaload dX1_isTold_13 rfl ho1 ?_
    have ho1 := hS
    refine fsg_I3 dX1_isTold_14 sf_X1_50 ho1 ?_
    refine fs_ifnonnull' 24 dX1_isTold_17 (by decide) (fun c_17 : ¬ (fs_dR dyn (it x1.toNatClampNeg) 3) = none => ?_) (fun c_17 : (fs_dR dyn (it x1.toNatClampNeg) 3) = none => ?_)
    · refine fs_iconst (v := 0) dX1_isTold_24 rfl ?_
      have k9 := key_25
      try simp only [if_neg c_5, if_neg c_17] at k9 ⊢
      exact k9
    · refine fs_iconst (v := 1) dX1_isTold_20 rfl ?_
      refine fs_goto 25 dX1_isTold_21 (by decide) ?_
      have k9 := key_25
      try simp only [if_neg c_5, if_pos c_17] at k9 ⊢
      exact k9
theorem nb_X1_isTold (ht : Nat) (I : Nat → Int32) (A : Nat → Nat → Int32) (J : Nat → Nat → Int64) (it : Nat → Option Nat) (dyn : fsH) (x1 : Int32) : narrow .boolean (.int (L_X1_isTold_r ht I A J it dyn x1)) = .int (L_X1_isTold_r ht I A J it dyn x1) := by
  unfold L_X1_isTold_r
  exact (by (repeat' split) <;> first | rfl)
def L_X1_repeats_r (ht : Nat) (I : Nat → Int32) (A : Nat → Nat → Int32) (J : Nat → Nat → Int64) (it : Nat → Option Nat) (dyn : fsH) (x1 : Int32) : Int32 := (if x1 < 0 then 0 else (if (I 4) ≤ x1 then 0 else (if (fs_dI dyn (it x1.toNatClampNeg) 2) = 0 then 0 else 1 : Int32) : Int32) : Int32)
def S_X1_repeats (ht : Nat) (I : Nat → Int32) (A : Nat → Nat → Int32) (J : Nat → Nat → Int64) (it : Nat → Option Nat) (dyn : fsH) (x1 : Int32) : Prop := (¬ (x1 < 0) → (¬ ((I 4) ≤ x1) → ((vp_in x1 16) ∧ (fs_okI dyn (it x1.toNatClampNeg)))))
set_option maxRecDepth 100000 in
set_option maxHeartbeats 4000000 in
theorem c_X1_repeats (G : fsG) (l : Launch) (ht : Nat) (I : Nat → Int32) (A : Nat → Nat → Int32) (J : Nat → Nat → Int64) (it : Nat → Option Nat) (dyn : fsH) (x1 : Int32) (hS : S_X1_repeats ht I A J it dyn x1) : fsFn G l mX1_repeats 0 0 0 [.inr (.inr (some 3)), .inl x1] (fs_mk ht I A J it dyn) (some (.inl (L_X1_repeats_r ht I A J it dyn x1))) (fs_mk ht I A J it dyn) := by
  refine fsMet_of (by decide) (Nat.le_of_ble_eq_true rfl) ?_
  generalize hQ : (fun (r1 : Option fsV) (h1 : fsH) => r1 = (some (.inl (L_X1_repeats_r ht I A J it dyn x1))) ∧ h1 = (fs_mk ht I A J it dyn)) = Q
  have hq : Q (some (.inl (L_X1_repeats_r ht I A J it dyn x1))) (fs_mk ht I A J it dyn) := by rw [← hQ]; exact ⟨rfl, rfl⟩
  clear hQ
  have hq : Q (some (.inl (if x1 < 0 then 0 else (if (I 4) ≤ x1 then 0 else (if (fs_dI dyn (it x1.toNatClampNeg) 2) = 0 then 0 else 1 : Int32) : Int32) : Int32))) (fs_mk ht I A J it dyn) := hq
  have hS : (¬ (x1 < 0) → (¬ ((I 4) ≤ x1) → ((vp_in x1 16) ∧ (fs_okI dyn (it x1.toNatClampNeg))))) := hS
  refine (show fsW G l mX1_repeats 0 0 0 0 0 Q 0 [(0, .inr (.inr (some 3))), (1, .inl x1)] [] (fs_mk ht I A J it dyn) from ?_)
  refine fs_iload_n dX1_repeats_0 rfl rfl ?_
  have hR_1 := hS
  have key_29 : fsW G l mX1_repeats 0 0 0 0 0 Q 29 [(0, .inr (.inr (some 3))), (1, .inl x1)] [.inl (if x1 < 0 then 0 else (if (I 4) ≤ x1 then 0 else (if (fs_dI dyn (it x1.toNatClampNeg) 2) = 0 then 0 else 1 : Int32) : Int32) : Int32)] (fs_mk ht I A J it dyn) := by
    have k9 := hq
    exact fs_iret dX1_repeats_29 rfl (by (repeat' split) <;> first | rfl) k9
  refine fs_if_lt 28 dX1_repeats_1 (by decide) (fun c_1 : x1 < 0 => ?_) (fun c_1 : ¬ (x1 < 0) => ?_)
  · refine fs_iconst (v := 0) dX1_repeats_28 rfl ?_
    have k9 := key_29
    try simp only [if_pos c_1] at k9 ⊢
    exact k9
  · have hS := hR_1 c_1
    refine fs_iload_n dX1_repeats_4 rfl rfl ?_
    refine fs_aload_n dX1_repeats_5 rfl rfl ?_
    refine fs_getfield (v := .inl (I 4)) dX1_repeats_6 sf_X1_17 rfl rfl ?_
    refine fs_icmp_ge 28 dX1_repeats_9 (by decide) (fun c_9 : (I 4) ≤ x1 => ?_) (fun c_9 : ¬ ((I 4) ≤ x1) => ?_)
    · refine fs_iconst (v := 0) dX1_repeats_28 rfl ?_
      have k9 := key_29
      try simp only [if_neg c_1, if_pos c_9] at k9 ⊢
      exact k9
    · have hS := hS c_9
      refine fs_aload_n dX1_repeats_12 rfl rfl ?_
      refine fs_getfield (v := .inr (.inr (some 4))) dX1_repeats_13 sf_X1_11 rfl rfl ?_
      refine fs_iload_n dX1_repeats_16 rfl rfl ?_
      obtain ⟨ho1, hS⟩ := hS
      refine fs_aaload dX1_repeats_17 rfl ho1 ?_
      have ho1 := hS
      refine fsg_I2 dX1_repeats_18 sf_X1_35 ho1 ?_
      refine fs_if_eq 28 dX1_repeats_21 (by decide) (fun c_21 : (fs_dI dyn (it x1.toNatClampNeg) 2) = 0 => ?_) (fun c_21 : ¬ ((fs_dI dyn (it x1.toNatClampNeg) 2) = 0) => ?_)
      · refine fs_iconst (v := 0) dX1_repeats_28 rfl ?_
        have k9 := key_29
        try simp only [if_neg c_1, if_neg c_9, if_pos c_21] at k9 ⊢
        exact k9
      · refine fs_iconst (v := 1) dX1_repeats_24 rfl ?_
        refine fs_goto 29 dX1_repeats_25 (by decide) ?_
        have k9 := key_29
        try simp only [if_neg c_1, if_neg c_9, if_neg c_21] at k9 ⊢
        exact k9
theorem nb_X1_repeats (ht : Nat) (I : Nat → Int32) (A : Nat → Nat → Int32) (J : Nat → Nat → Int64) (it : Nat → Option Nat) (dyn : fsH) (x1 : Int32) : narrow .boolean (.int (L_X1_repeats_r ht I A J it dyn x1)) = .int (L_X1_repeats_r ht I A J it dyn x1) := by
  unfold L_X1_repeats_r
  exact (by (repeat' split) <;> first | rfl)
def L_X1_rowsOf_r (ht : Nat) (I : Nat → Int32) (A : Nat → Nat → Int32) (J : Nat → Nat → Int64) (it : Nat → Option Nat) (dyn : fsH) (x1 : Int32) : Int32 := (if x1 < 0 then 0 else (if x1 < (I 4) then (if (fs_dI dyn (it x1.toNatClampNeg) 2) = 0 then 1 else (I 5) : Int32) else 0))
def S_X1_rowsOf (ht : Nat) (I : Nat → Int32) (A : Nat → Nat → Int32) (J : Nat → Nat → Int64) (it : Nat → Option Nat) (dyn : fsH) (x1 : Int32) : Prop := (¬ (x1 < 0) → ((x1 < (I 4)) → ((vp_in x1 16) ∧ (fs_okI dyn (it x1.toNatClampNeg)))))
set_option maxRecDepth 100000 in
set_option maxHeartbeats 4000000 in
theorem c_X1_rowsOf (G : fsG) (l : Launch) (ht : Nat) (I : Nat → Int32) (A : Nat → Nat → Int32) (J : Nat → Nat → Int64) (it : Nat → Option Nat) (dyn : fsH) (x1 : Int32) (hS : S_X1_rowsOf ht I A J it dyn x1) : fsFn G l mX1_rowsOf 0 0 0 [.inr (.inr (some 3)), .inl x1] (fs_mk ht I A J it dyn) (some (.inl (L_X1_rowsOf_r ht I A J it dyn x1))) (fs_mk ht I A J it dyn) := by
  refine fsMet_of (by decide) (Nat.le_of_ble_eq_true rfl) ?_
  generalize hQ : (fun (r1 : Option fsV) (h1 : fsH) => r1 = (some (.inl (L_X1_rowsOf_r ht I A J it dyn x1))) ∧ h1 = (fs_mk ht I A J it dyn)) = Q
  have hq : Q (some (.inl (L_X1_rowsOf_r ht I A J it dyn x1))) (fs_mk ht I A J it dyn) := by rw [← hQ]; exact ⟨rfl, rfl⟩
  clear hQ
  have hq : Q (some (.inl (if x1 < 0 then 0 else (if x1 < (I 4) then (if (fs_dI dyn (it x1.toNatClampNeg) 2) = 0 then 1 else (I 5) : Int32) else 0 : Int32) : Int32))) (fs_mk ht I A J it dyn) := hq
  have hS : (¬ (x1 < 0) → ((x1 < (I 4)) → ((vp_in x1 16) ∧ (fs_okI dyn (it x1.toNatClampNeg))))) := hS
  refine (show fsW G l mX1_rowsOf 0 0 0 0 0 Q 0 [(0, .inr (.inr (some 3))), (1, .inl x1)] [] (fs_mk ht I A J it dyn) from ?_)
  refine fs_iload_n dX1_rowsOf_0 rfl rfl ?_
  refine fs_if_lt 12 dX1_rowsOf_1 (by decide) (fun c_1 : x1 < 0 => ?_) (fun c_1 : ¬ (x1 < 0) => ?_)
  · refine fs_iconst (v := 0) dX1_rowsOf_12 rfl ?_
    have k9 := hq
    try simp only [if_pos c_1] at k9 ⊢
    exact fs_iret dX1_rowsOf_13 rfl rfl k9
  · have hS := hS c_1
    refine fs_iload_n dX1_rowsOf_4 rfl rfl ?_
    refine fs_aload_n dX1_rowsOf_5 rfl rfl ?_
    refine fs_getfield (v := .inl (I 4)) dX1_rowsOf_6 sf_X1_17 rfl rfl ?_
    refine fs_icmp_lt 14 dX1_rowsOf_9 (by decide) (fun c_9 : x1 < (I 4) => ?_) (fun c_9 : ¬ (x1 < (I 4)) => ?_)
    · have hS := hS c_9
      refine fs_aload_n dX1_rowsOf_14 rfl rfl ?_
      refine fs_getfield (v := .inr (.inr (some 4))) dX1_rowsOf_15 sf_X1_11 rfl rfl ?_
      refine fs_iload_n dX1_rowsOf_18 rfl rfl ?_
      obtain ⟨ho1, hS⟩ := hS
      refine fs_aaload dX1_rowsOf_19 rfl ho1 ?_
      have ho1 := hS
      refine fsg_I2 dX1_rowsOf_20 sf_X1_35 ho1 ?_
      have key_34 : fsW G l mX1_rowsOf 0 0 0 0 0 Q 34 [(0, .inr (.inr (some 3))), (1, .inl x1)] [.inl (if (fs_dI dyn (it x1.toNatClampNeg) 2) = 0 then 1 else (I 5) : Int32)] (fs_mk ht I A J it dyn) := by
        have k9 := hq
        try simp only [if_neg c_1, if_pos c_9] at k9 ⊢
        exact fs_iret dX1_rowsOf_34 rfl rfl k9
      refine fs_if_eq 33 dX1_rowsOf_23 (by decide) (fun c_23 : (fs_dI dyn (it x1.toNatClampNeg) 2) = 0 => ?_) (fun c_23 : ¬ ((fs_dI dyn (it x1.toNatClampNeg) 2) = 0) => ?_)
      · refine fs_iconst (v := 1) dX1_rowsOf_33 rfl ?_
        have k9 := key_34
        try simp only [if_neg c_1, if_pos c_9, if_pos c_23] at k9 ⊢
        exact k9
      · refine fs_aload_n dX1_rowsOf_26 rfl rfl ?_
        refine fs_getfield (v := .inl (I 5)) dX1_rowsOf_27 sf_X1_21 rfl rfl ?_
        refine fs_goto 34 dX1_rowsOf_30 (by decide) ?_
        have k9 := key_34
        try simp only [if_neg c_1, if_pos c_9, if_neg c_23] at k9 ⊢
        exact k9
    · refine fs_iconst (v := 0) dX1_rowsOf_12 rfl ?_
      have k9 := hq
      try simp only [if_neg c_1, if_neg c_9] at k9 ⊢
      exact fs_iret dX1_rowsOf_13 rfl rfl k9
def L_X1_has_r (ht : Nat) (I : Nat → Int32) (A : Nat → Nat → Int32) (J : Nat → Nat → Int64) (it : Nat → Option Nat) (dyn : fsH) (x1 : Int32) (x2 : Int32) : Int32 := (if x2 < 0 then 0 else (if (L_X1_rowsOf_r ht I A J it dyn x1) ≤ x2 then 0 else 1 : Int32) : Int32)
def S_X1_has (ht : Nat) (I : Nat → Int32) (A : Nat → Nat → Int32) (J : Nat → Nat → Int64) (it : Nat → Option Nat) (dyn : fsH) (x1 : Int32) (x2 : Int32) : Prop := (¬ (x2 < 0) → (S_X1_rowsOf ht I A J it dyn x1))
set_option maxRecDepth 100000 in
set_option maxHeartbeats 4000000 in
theorem c_X1_has (G : fsG) (l : Launch) (ht : Nat) (I : Nat → Int32) (A : Nat → Nat → Int32) (J : Nat → Nat → Int64) (it : Nat → Option Nat) (dyn : fsH) (x1 : Int32) (x2 : Int32) (hS : S_X1_has ht I A J it dyn x1 x2) : fsFn G l mX1_has 1 0 0 [.inr (.inr (some 3)), .inl x1, .inl x2] (fs_mk ht I A J it dyn) (some (.inl (L_X1_has_r ht I A J it dyn x1 x2))) (fs_mk ht I A J it dyn) := by
  refine fsMet_of (by decide) (Nat.le_of_ble_eq_true rfl) ?_
  generalize hQ : (fun (r1 : Option fsV) (h1 : fsH) => r1 = (some (.inl (L_X1_has_r ht I A J it dyn x1 x2))) ∧ h1 = (fs_mk ht I A J it dyn)) = Q
  have hq : Q (some (.inl (L_X1_has_r ht I A J it dyn x1 x2))) (fs_mk ht I A J it dyn) := by rw [← hQ]; exact ⟨rfl, rfl⟩
  clear hQ
  have hq : Q (some (.inl (if x2 < 0 then 0 else (if (L_X1_rowsOf_r ht I A J it dyn x1) ≤ x2 then 0 else 1 : Int32) : Int32))) (fs_mk ht I A J it dyn) := hq
  have hS : (¬ (x2 < 0) → (S_X1_rowsOf ht I A J it dyn x1)) := hS
  refine (show fsW G l mX1_has 1 0 0 0 0 Q 0 [(0, .inr (.inr (some 3))), (1, .inl x1), (2, .inl x2)] [] (fs_mk ht I A J it dyn) from ?_)
  refine fs_iload_n dX1_has_0 rfl rfl ?_
  have hR_1 := hS
  have key_18 : fsW G l mX1_has 1 0 0 0 0 Q 18 [(0, .inr (.inr (some 3))), (1, .inl x1), (2, .inl x2)] [.inl (if x2 < 0 then 0 else (if (L_X1_rowsOf_r ht I A J it dyn x1) ≤ x2 then 0 else 1 : Int32) : Int32)] (fs_mk ht I A J it dyn) := by
    have k9 := hq
    exact fs_iret dX1_has_18 rfl (by (repeat' split) <;> first | rfl) k9
  refine fs_if_lt 17 dX1_has_1 (by decide) (fun c_1 : x2 < 0 => ?_) (fun c_1 : ¬ (x2 < 0) => ?_)
  · refine fs_iconst (v := 0) dX1_has_17 rfl ?_
    have k9 := key_18
    try simp only [if_pos c_1] at k9 ⊢
    exact k9
  · have hS := hR_1 c_1
    refine fs_iload_n dX1_has_4 rfl rfl ?_
    refine fs_aload_n dX1_has_5 rfl rfl ?_
    refine fs_iload_n dX1_has_6 rfl rfl ?_
    have ho1 := hS
    refine fs_callV1 dX1_has_7 sv_X1_39 rfl ⟨_, rfl, rfl⟩ (c_X1_rowsOf G l ht I A J it dyn x1 ho1) rfl rfl (Nat.le_of_ble_eq_true rfl) (Nat.le_of_ble_eq_true rfl) (Nat.le_of_ble_eq_true rfl) (Nat.le_of_ble_eq_true rfl) ?_
    refine fs_icmp_ge 17 dX1_has_10 (by decide) (fun c_10 : (L_X1_rowsOf_r ht I A J it dyn x1) ≤ x2 => ?_) (fun c_10 : ¬ ((L_X1_rowsOf_r ht I A J it dyn x1) ≤ x2) => ?_)
    · refine fs_iconst (v := 0) dX1_has_17 rfl ?_
      have k9 := key_18
      try simp only [if_neg c_1, if_pos c_10] at k9 ⊢
      exact k9
    · refine fs_iconst (v := 1) dX1_has_13 rfl ?_
      refine fs_goto 18 dX1_has_14 (by decide) ?_
      have k9 := key_18
      try simp only [if_neg c_1, if_neg c_10] at k9 ⊢
      exact k9
theorem nb_X1_has (ht : Nat) (I : Nat → Int32) (A : Nat → Nat → Int32) (J : Nat → Nat → Int64) (it : Nat → Option Nat) (dyn : fsH) (x1 : Int32) (x2 : Int32) : narrow .boolean (.int (L_X1_has_r ht I A J it dyn x1 x2)) = .int (L_X1_has_r ht I A J it dyn x1 x2) := by
  unfold L_X1_has_r
  exact (by (repeat' split) <;> first | rfl)
def La_X1_fieldNamed_2_r : Nat → Nat → (Nat → Int32) → (Nat → Nat → Int32) → (Nat → Nat → Int64) → (Nat → Option Nat) → fsH → Int32 → Int32 → Int32
  | 0, ht, I, A, J, it, dyn, v1, v2 => 0
  | n + 1, ht, I, A, J, it, dyn, v1, v2 => (if (I 4) ≤ v2 then (-1) else (if (L_X1_isField_r ht I A J it dyn v2) = 0 then (La_X1_fieldNamed_2_r n ht I A J it dyn v1 (v2 + 1)) else (if (fs_dI dyn (it v2.toNatClampNeg) 1) = v1 then v2 else (La_X1_fieldNamed_2_r n ht I A J it dyn v1 (v2 + 1)))))
def S_La_X1_fieldNamed_2 : Nat → Nat → (Nat → Int32) → (Nat → Nat → Int32) → (Nat → Nat → Int64) → (Nat → Option Nat) → fsH → Int32 → Int32 → Prop
  | 0, _, _, _, _, _, _, _, _ => False
  | n + 1, ht, I, A, J, it, dyn, v1, v2 => (¬ ((I 4) ≤ v2) → ((S_X1_isField ht I A J it dyn v2) ∧ ((((L_X1_isField_r ht I A J it dyn v2) = 0) → (S_La_X1_fieldNamed_2 n ht I A J it dyn v1 (v2 + 1))) ∧ (¬ ((L_X1_isField_r ht I A J it dyn v2) = 0) → ((vp_in v2 16) ∧ ((fs_okI dyn (it v2.toNatClampNeg)) ∧ (¬ ((fs_dI dyn (it v2.toNatClampNeg) 1) = v1) → (S_La_X1_fieldNamed_2 n ht I A J it dyn v1 (v2 + 1)))))))))
set_option maxRecDepth 100000 in
set_option maxHeartbeats 4000000 in
theorem lp_La_X1_fieldNamed_2 (G : fsG) (l : Launch) (Q : Option fsV → fsH → Prop) : ∀ (n : Nat) (ht : Nat) (I : Nat → Int32) (A : Nat → Nat → Int32) (J : Nat → Nat → Int64) (it : Nat → Option Nat) (dyn : fsH) (v1 : Int32) (v2 : Int32), S_La_X1_fieldNamed_2 n ht I A J it dyn v1 v2 → (Q (some (.inl (La_X1_fieldNamed_2_r n ht I A J it dyn v1 v2))) (fs_mk ht I A J it dyn)) → fsW G l mX1_fieldNamed 2 0 0 0 0 Q 2 [(0, .inr (.inr (some 3))), (1, .inl v1), (2, .inl v2)] [] (fs_mk ht I A J it dyn) := by
  intro n
  induction n with
  | zero =>
    intro ht I A J it dyn v1 v2 hS
    exact hS.elim
  | succ n ih =>
    intro ht I A J it dyn v1 v2 hS hq
    have hS : (¬ ((I 4) ≤ v2) → ((S_X1_isField ht I A J it dyn v2) ∧ ((((L_X1_isField_r ht I A J it dyn v2) = 0) → (S_La_X1_fieldNamed_2 n ht I A J it dyn v1 (v2 + 1))) ∧ (¬ ((L_X1_isField_r ht I A J it dyn v2) = 0) → ((vp_in v2 16) ∧ ((fs_okI dyn (it v2.toNatClampNeg)) ∧ (¬ ((fs_dI dyn (it v2.toNatClampNeg) 1) = v1) → (S_La_X1_fieldNamed_2 n ht I A J it dyn v1 (v2 + 1))))))))) := hS
    have hq : Q (some (.inl (if (I 4) ≤ v2 then (-1) else (if (L_X1_isField_r ht I A J it dyn v2) = 0 then (La_X1_fieldNamed_2_r n ht I A J it dyn v1 (v2 + 1)) else (if (fs_dI dyn (it v2.toNatClampNeg) 1) = v1 then v2 else (La_X1_fieldNamed_2_r n ht I A J it dyn v1 (v2 + 1))))))) (fs_mk ht I A J it dyn) := hq
    refine fs_iload_n dX1_fieldNamed_2 rfl rfl ?_
    refine fs_aload_n dX1_fieldNamed_3 rfl rfl ?_
    refine fs_getfield (v := .inl (I 4)) dX1_fieldNamed_4 sf_X1_17 rfl rfl ?_
    refine fs_icmp_ge 39 dX1_fieldNamed_7 (by decide) (fun c_7 : (I 4) ≤ v2 => ?_) (fun c_7 : ¬ ((I 4) ≤ v2) => ?_)
    · refine fs_iconst (v := (-1)) dX1_fieldNamed_39 rfl ?_
      have k9 := hq
      try simp only [if_pos c_7] at k9 ⊢
      exact fs_iret dX1_fieldNamed_40 rfl rfl k9
    · have hS := hS c_7
      refine fs_aload_n dX1_fieldNamed_10 rfl rfl ?_
      refine fs_iload_n dX1_fieldNamed_11 rfl rfl ?_
      obtain ⟨ho1, hS⟩ := hS
      refine fs_callV1 dX1_fieldNamed_12 sv_X1_46 rfl ⟨_, rfl, rfl⟩ (c_X1_isField G l ht I A J it dyn v2 ho1) rfl rfl (Nat.le_of_ble_eq_true rfl) (Nat.le_of_ble_eq_true rfl) (Nat.le_of_ble_eq_true rfl) (Nat.le_of_ble_eq_true rfl) ?_
      refine fs_if_eq 33 dX1_fieldNamed_15 (by decide) (fun c_15 : (L_X1_isField_r ht I A J it dyn v2) = 0 => ?_) (fun c_15 : ¬ ((L_X1_isField_r ht I A J it dyn v2) = 0) => ?_)
      · have hS := hS.1 c_15
        refine fs_iinc (v := (v2 + 1)) (L' := [(2, .inl (v2 + 1)), (0, .inr (.inr (some 3))), (1, .inl v1)]) dX1_fieldNamed_33 rfl rfl (by decide) rfl ?_
        refine fs_goto 2 dX1_fieldNamed_36 (by decide) ?_
        refine fs_reL [1, 2, 0] rfl ?_
        have k9 := hq
        try simp only [if_neg c_7, if_pos c_15] at hS k9 ⊢
        exact ih _ _ _ _ _ _ _ _ hS k9
      · have hS := hS.2 c_15
        refine fs_aload_n dX1_fieldNamed_18 rfl rfl ?_
        refine fs_getfield (v := .inr (.inr (some 4))) dX1_fieldNamed_19 sf_X1_11 rfl rfl ?_
        refine fs_iload_n dX1_fieldNamed_22 rfl rfl ?_
        obtain ⟨ho1, hS⟩ := hS
        refine fs_aaload dX1_fieldNamed_23 rfl ho1 ?_
        obtain ⟨ho1, hS⟩ := hS
        refine fsg_I1 dX1_fieldNamed_24 sf_X1_28 ho1 ?_
        refine fs_iload_n dX1_fieldNamed_27 rfl rfl ?_
        refine fs_icmp_ne 33 dX1_fieldNamed_28 (by decide) (fun c_28 : ¬ (fs_dI dyn (it v2.toNatClampNeg) 1) = v1 => ?_) (fun c_28 : (fs_dI dyn (it v2.toNatClampNeg) 1) = v1 => ?_)
        · have hS := hS c_28
          refine fs_iinc (v := (v2 + 1)) (L' := [(2, .inl (v2 + 1)), (0, .inr (.inr (some 3))), (1, .inl v1)]) dX1_fieldNamed_33 rfl rfl (by decide) rfl ?_
          refine fs_goto 2 dX1_fieldNamed_36 (by decide) ?_
          refine fs_reL [1, 2, 0] rfl ?_
          have k9 := hq
          try simp only [if_neg c_7, if_neg c_15, if_neg c_28] at hS k9 ⊢
          exact ih _ _ _ _ _ _ _ _ hS k9
        · refine fs_iload_n dX1_fieldNamed_31 rfl rfl ?_
          have k9 := hq
          try simp only [if_neg c_7, if_neg c_15, if_pos c_28] at k9 ⊢
          exact fs_iret dX1_fieldNamed_32 rfl rfl k9
def L_X1_fieldNamed_r (ht : Nat) (I : Nat → Int32) (A : Nat → Nat → Int32) (J : Nat → Nat → Int64) (it : Nat → Option Nat) (dyn : fsH) (x1 : Int32) : Int32 := (La_X1_fieldNamed_2_r 70 ht I A J it dyn x1 0)
def S_X1_fieldNamed (ht : Nat) (I : Nat → Int32) (A : Nat → Nat → Int32) (J : Nat → Nat → Int64) (it : Nat → Option Nat) (dyn : fsH) (x1 : Int32) : Prop := (S_La_X1_fieldNamed_2 70 ht I A J it dyn x1 0)
set_option maxRecDepth 100000 in
set_option maxHeartbeats 4000000 in
theorem c_X1_fieldNamed (G : fsG) (l : Launch) (ht : Nat) (I : Nat → Int32) (A : Nat → Nat → Int32) (J : Nat → Nat → Int64) (it : Nat → Option Nat) (dyn : fsH) (x1 : Int32) (hS : S_X1_fieldNamed ht I A J it dyn x1) : fsFn G l mX1_fieldNamed 2 0 0 [.inr (.inr (some 3)), .inl x1] (fs_mk ht I A J it dyn) (some (.inl (L_X1_fieldNamed_r ht I A J it dyn x1))) (fs_mk ht I A J it dyn) := by
  refine fsMet_of (by decide) (Nat.le_of_ble_eq_true rfl) ?_
  generalize hQ : (fun (r1 : Option fsV) (h1 : fsH) => r1 = (some (.inl (L_X1_fieldNamed_r ht I A J it dyn x1))) ∧ h1 = (fs_mk ht I A J it dyn)) = Q
  have hq : Q (some (.inl (L_X1_fieldNamed_r ht I A J it dyn x1))) (fs_mk ht I A J it dyn) := by rw [← hQ]; exact ⟨rfl, rfl⟩
  clear hQ
  have hq : Q (some (.inl (La_X1_fieldNamed_2_r 70 ht I A J it dyn x1 0))) (fs_mk ht I A J it dyn) := hq
  have hS : (S_La_X1_fieldNamed_2 70 ht I A J it dyn x1 0) := hS
  refine (show fsW G l mX1_fieldNamed 2 0 0 0 0 Q 0 [(0, .inr (.inr (some 3))), (1, .inl x1)] [] (fs_mk ht I A J it dyn) from ?_)
  refine fs_iconst (v := 0) dX1_fieldNamed_0 rfl ?_
  refine fs_istore_n (L' := [(2, .inl 0), (0, .inr (.inr (some 3))), (1, .inl x1)]) dX1_fieldNamed_1 rfl (by decide) rfl ?_
  refine fs_reL [1, 2, 0] rfl ?_
  have ho1 := hS
  have k9 := hq
  exact lp_La_X1_fieldNamed_2 G l Q 70 _ _ _ _ _ _ _ _ ho1 k9
def Lb_X1_valueCount_4_v1 : Nat → Nat → (Nat → Int32) → (Nat → Nat → Int32) → (Nat → Nat → Int64) → (Nat → Option Nat) → fsH → Int32 → Int32 → Int32
  | 0, ht, I, A, J, it, dyn, v1, v2 => v1
  | n + 1, ht, I, A, J, it, dyn, v1, v2 => (if (I 4) ≤ v2 then v1 else (Lb_X1_valueCount_4_v1 n ht I A J it dyn (if (L_X1_isField_r ht I A J it dyn v2) = 0 then v1 else (v1 + (L_X1_rowsOf_r ht I A J it dyn v2)) : Int32) (v2 + 1)))
def Lb_X1_valueCount_4_v2 : Nat → Nat → (Nat → Int32) → (Nat → Nat → Int32) → (Nat → Nat → Int64) → (Nat → Option Nat) → fsH → Int32 → Int32 → Int32
  | 0, ht, I, A, J, it, dyn, v1, v2 => v2
  | n + 1, ht, I, A, J, it, dyn, v1, v2 => (if (I 4) ≤ v2 then v2 else (Lb_X1_valueCount_4_v2 n ht I A J it dyn (if (L_X1_isField_r ht I A J it dyn v2) = 0 then v1 else (v1 + (L_X1_rowsOf_r ht I A J it dyn v2)) : Int32) (v2 + 1)))
def S_Lb_X1_valueCount_4 : Nat → Nat → (Nat → Int32) → (Nat → Nat → Int32) → (Nat → Nat → Int64) → (Nat → Option Nat) → fsH → Int32 → Int32 → Prop
  | 0, _, _, _, _, _, _, _, _ => False
  | n + 1, ht, I, A, J, it, dyn, v1, v2 => (¬ ((I 4) ≤ v2) → ((S_X1_isField ht I A J it dyn v2) ∧ ((¬ ((L_X1_isField_r ht I A J it dyn v2) = 0) → (S_X1_rowsOf ht I A J it dyn v2)) ∧ (S_Lb_X1_valueCount_4 n ht I A J it dyn (if (L_X1_isField_r ht I A J it dyn v2) = 0 then v1 else (v1 + (L_X1_rowsOf_r ht I A J it dyn v2)) : Int32) (v2 + 1)))))
set_option maxRecDepth 100000 in
set_option maxHeartbeats 4000000 in
theorem lp_Lb_X1_valueCount_4 (G : fsG) (l : Launch) (Q : Option fsV → fsH → Prop) : ∀ (n : Nat) (ht : Nat) (I : Nat → Int32) (A : Nat → Nat → Int32) (J : Nat → Nat → Int64) (it : Nat → Option Nat) (dyn : fsH) (v1 : Int32) (v2 : Int32), S_Lb_X1_valueCount_4 n ht I A J it dyn v1 v2 → (fsW G l mX1_valueCount 2 0 0 0 0 Q 34 [(0, .inr (.inr (some 3))), (1, .inl (Lb_X1_valueCount_4_v1 n ht I A J it dyn v1 v2)), (2, .inl (Lb_X1_valueCount_4_v2 n ht I A J it dyn v1 v2))] [] (fs_mk ht I A J it dyn)) → fsW G l mX1_valueCount 2 0 0 0 0 Q 4 [(0, .inr (.inr (some 3))), (1, .inl v1), (2, .inl v2)] [] (fs_mk ht I A J it dyn) := by
  intro n
  induction n with
  | zero =>
    intro ht I A J it dyn v1 v2 hS
    exact hS.elim
  | succ n ih =>
    intro ht I A J it dyn v1 v2 hS hq
    have hS : (¬ ((I 4) ≤ v2) → ((S_X1_isField ht I A J it dyn v2) ∧ ((¬ ((L_X1_isField_r ht I A J it dyn v2) = 0) → (S_X1_rowsOf ht I A J it dyn v2)) ∧ (S_Lb_X1_valueCount_4 n ht I A J it dyn (if (L_X1_isField_r ht I A J it dyn v2) = 0 then v1 else (v1 + (L_X1_rowsOf_r ht I A J it dyn v2)) : Int32) (v2 + 1))))) := hS
    have hq : fsW G l mX1_valueCount 2 0 0 0 0 Q 34 [(0, .inr (.inr (some 3))), (1, .inl (if (I 4) ≤ v2 then v1 else (Lb_X1_valueCount_4_v1 n ht I A J it dyn (if (L_X1_isField_r ht I A J it dyn v2) = 0 then v1 else (v1 + (L_X1_rowsOf_r ht I A J it dyn v2)) : Int32) (v2 + 1)))), (2, .inl (if (I 4) ≤ v2 then v2 else (Lb_X1_valueCount_4_v2 n ht I A J it dyn (if (L_X1_isField_r ht I A J it dyn v2) = 0 then v1 else (v1 + (L_X1_rowsOf_r ht I A J it dyn v2)) : Int32) (v2 + 1))))] [] (fs_mk ht I A J it dyn) := hq
    refine fs_iload_n dX1_valueCount_4 rfl rfl ?_
    refine fs_aload_n dX1_valueCount_5 rfl rfl ?_
    refine fs_getfield (v := .inl (I 4)) dX1_valueCount_6 sf_X1_17 rfl rfl ?_
    refine fs_icmp_ge 34 dX1_valueCount_9 (by decide) (fun c_9 : (I 4) ≤ v2 => ?_) (fun c_9 : ¬ ((I 4) ≤ v2) => ?_)
    · have k9 := hq
      try simp only [if_pos c_9] at k9 ⊢
      exact k9
    · have hS := hS c_9
      refine fs_aload_n dX1_valueCount_12 rfl rfl ?_
      refine fs_iload_n dX1_valueCount_13 rfl rfl ?_
      obtain ⟨ho1, hS⟩ := hS
      refine fs_callV1 dX1_valueCount_14 sv_X1_46 rfl ⟨_, rfl, rfl⟩ (c_X1_isField G l ht I A J it dyn v2 ho1) rfl rfl (Nat.le_of_ble_eq_true rfl) (Nat.le_of_ble_eq_true rfl) (Nat.le_of_ble_eq_true rfl) (Nat.le_of_ble_eq_true rfl) ?_
      obtain ⟨hR_17, hS⟩ := hS
      have key_28 : fsW G l mX1_valueCount 2 0 0 0 0 Q 28 [(0, .inr (.inr (some 3))), (1, .inl (if (L_X1_isField_r ht I A J it dyn v2) = 0 then v1 else (v1 + (L_X1_rowsOf_r ht I A J it dyn v2)) : Int32)), (2, .inl v2)] [] (fs_mk ht I A J it dyn) := by
        refine fs_iinc (v := (v2 + 1)) (L' := [(2, .inl (v2 + 1)), (0, .inr (.inr (some 3))), (1, .inl (if (L_X1_isField_r ht I A J it dyn v2) = 0 then v1 else (v1 + (L_X1_rowsOf_r ht I A J it dyn v2)) : Int32))]) dX1_valueCount_28 rfl rfl (by decide) rfl ?_
        refine fs_goto 4 dX1_valueCount_31 (by decide) ?_
        refine fs_reL [1, 2, 0] rfl ?_
        have k9 := hq
        try simp only [if_neg c_9] at hS k9 ⊢
        exact ih _ _ _ _ _ _ _ _ hS k9
      refine fs_if_eq 28 dX1_valueCount_17 (by decide) (fun c_17 : (L_X1_isField_r ht I A J it dyn v2) = 0 => ?_) (fun c_17 : ¬ ((L_X1_isField_r ht I A J it dyn v2) = 0) => ?_)
      · have k9 := key_28
        try simp only [if_neg c_9, if_pos c_17] at k9 ⊢
        exact k9
      · have hS := hR_17 c_17
        refine fs_iload_n dX1_valueCount_20 rfl rfl ?_
        refine fs_aload_n dX1_valueCount_21 rfl rfl ?_
        refine fs_iload_n dX1_valueCount_22 rfl rfl ?_
        have ho1 := hS
        refine fs_callV1 dX1_valueCount_23 sv_X1_39 rfl ⟨_, rfl, rfl⟩ (c_X1_rowsOf G l ht I A J it dyn v2 ho1) rfl rfl (Nat.le_of_ble_eq_true rfl) (Nat.le_of_ble_eq_true rfl) (Nat.le_of_ble_eq_true rfl) (Nat.le_of_ble_eq_true rfl) ?_
        refine fs_iadd dX1_valueCount_26 ?_
        refine fs_istore_n (L' := [(1, .inl (v1 + (L_X1_rowsOf_r ht I A J it dyn v2))), (0, .inr (.inr (some 3))), (2, .inl v2)]) dX1_valueCount_27 rfl (by decide) rfl ?_
        refine fs_reL [1, 0, 2] rfl ?_
        have k9 := key_28
        try simp only [if_neg c_9, if_neg c_17] at k9 ⊢
        exact k9
def L_X1_valueCount_r (ht : Nat) (I : Nat → Int32) (A : Nat → Nat → Int32) (J : Nat → Nat → Int64) (it : Nat → Option Nat) (dyn : fsH)  : Int32 := (Lb_X1_valueCount_4_v1 70 ht I A J it dyn 0 0)
def S_X1_valueCount (ht : Nat) (I : Nat → Int32) (A : Nat → Nat → Int32) (J : Nat → Nat → Int64) (it : Nat → Option Nat) (dyn : fsH)  : Prop := (S_Lb_X1_valueCount_4 70 ht I A J it dyn 0 0)
set_option maxRecDepth 100000 in
set_option maxHeartbeats 4000000 in
theorem c_X1_valueCount (G : fsG) (l : Launch) (ht : Nat) (I : Nat → Int32) (A : Nat → Nat → Int32) (J : Nat → Nat → Int64) (it : Nat → Option Nat) (dyn : fsH)  (hS : S_X1_valueCount ht I A J it dyn ) : fsFn G l mX1_valueCount 2 0 0 [.inr (.inr (some 3))] (fs_mk ht I A J it dyn) (some (.inl (L_X1_valueCount_r ht I A J it dyn ))) (fs_mk ht I A J it dyn) := by
  refine fsMet_of (by decide) (Nat.le_of_ble_eq_true rfl) ?_
  generalize hQ : (fun (r1 : Option fsV) (h1 : fsH) => r1 = (some (.inl (L_X1_valueCount_r ht I A J it dyn ))) ∧ h1 = (fs_mk ht I A J it dyn)) = Q
  have hq : Q (some (.inl (L_X1_valueCount_r ht I A J it dyn ))) (fs_mk ht I A J it dyn) := by rw [← hQ]; exact ⟨rfl, rfl⟩
  clear hQ
  have hq : Q (some (.inl (Lb_X1_valueCount_4_v1 70 ht I A J it dyn 0 0))) (fs_mk ht I A J it dyn) := hq
  have hS : (S_Lb_X1_valueCount_4 70 ht I A J it dyn 0 0) := hS
  refine (show fsW G l mX1_valueCount 2 0 0 0 0 Q 0 [(0, .inr (.inr (some 3)))] [] (fs_mk ht I A J it dyn) from ?_)
  refine fs_iconst (v := 0) dX1_valueCount_0 rfl ?_
  refine fs_istore_n (L' := [(1, .inl 0), (0, .inr (.inr (some 3)))]) dX1_valueCount_1 rfl (by decide) rfl ?_
  refine fs_iconst (v := 0) dX1_valueCount_2 rfl ?_
  refine fs_istore_n (L' := [(2, .inl 0), (1, .inl 0), (0, .inr (.inr (some 3)))]) dX1_valueCount_3 rfl (by decide) rfl ?_
  refine fs_reL [2, 1, 0] rfl ?_
  have ho1 := hS
  refine lp_Lb_X1_valueCount_4 G l Q 70 ht I A J it dyn 0 0 ho1 ?_
  refine fs_iload_n dX1_valueCount_34 rfl rfl ?_
  have k9 := hq
  exact fs_iret dX1_valueCount_35 rfl rfl k9
def L_X1_canTake_r (ht : Nat) (I : Nat → Int32) (A : Nat → Nat → Int32) (J : Nat → Nat → Int64) (it : Nat → Option Nat) (dyn : fsH) (x1 : Option Nat) : Int32 := (if 16 ≤ (I 4) then 0 else (if (fs_dI dyn x1 0) = 102 then (if (L_X1_fieldNamed_r ht I A J it dyn (fs_dI dyn x1 1)) = (-1) then 1 else 0 : Int32) else 1 : Int32) : Int32)
def S_X1_canTake (ht : Nat) (I : Nat → Int32) (A : Nat → Nat → Int32) (J : Nat → Nat → Int64) (it : Nat → Option Nat) (dyn : fsH) (x1 : Option Nat) : Prop := (¬ (16 ≤ (I 4)) → ((fs_okI dyn x1) ∧ (((fs_dI dyn x1 0) = 102) → ((fs_okI dyn x1) ∧ (S_X1_fieldNamed ht I A J it dyn (fs_dI dyn x1 1))))))
set_option maxRecDepth 100000 in
set_option maxHeartbeats 4000000 in
theorem c_X1_canTake (G : fsG) (l : Launch) (ht : Nat) (I : Nat → Int32) (A : Nat → Nat → Int32) (J : Nat → Nat → Int64) (it : Nat → Option Nat) (dyn : fsH) (x1 : Option Nat) (hS : S_X1_canTake ht I A J it dyn x1) : fsFn G l mX1_canTake 3 0 0 [.inr (.inr (some 3)), .inr (.inr x1)] (fs_mk ht I A J it dyn) (some (.inl (L_X1_canTake_r ht I A J it dyn x1))) (fs_mk ht I A J it dyn) := by
  refine fsMet_of (by decide) (Nat.le_of_ble_eq_true rfl) ?_
  generalize hQ : (fun (r1 : Option fsV) (h1 : fsH) => r1 = (some (.inl (L_X1_canTake_r ht I A J it dyn x1))) ∧ h1 = (fs_mk ht I A J it dyn)) = Q
  have hq : Q (some (.inl (L_X1_canTake_r ht I A J it dyn x1))) (fs_mk ht I A J it dyn) := by rw [← hQ]; exact ⟨rfl, rfl⟩
  clear hQ
  have hq : Q (some (.inl (if 16 ≤ (I 4) then 0 else (if (fs_dI dyn x1 0) = 102 then (if (L_X1_fieldNamed_r ht I A J it dyn (fs_dI dyn x1 1)) = (-1) then 1 else 0 : Int32) else 1 : Int32) : Int32))) (fs_mk ht I A J it dyn) := hq
  have hS : (¬ (16 ≤ (I 4)) → ((fs_okI dyn x1) ∧ (((fs_dI dyn x1 0) = 102) → ((fs_okI dyn x1) ∧ (S_X1_fieldNamed ht I A J it dyn (fs_dI dyn x1 1)))))) := hS
  refine (show fsW G l mX1_canTake 3 0 0 0 0 Q 0 [(0, .inr (.inr (some 3))), (1, .inr (.inr x1))] [] (fs_mk ht I A J it dyn) from ?_)
  refine fs_aload_n dX1_canTake_0 rfl rfl ?_
  refine fs_getfield (v := .inl (I 4)) dX1_canTake_1 sf_X1_17 rfl rfl ?_
  refine fs_bipush (v := 16) dX1_canTake_4 rfl ?_
  have hR_6 := hS
  have key_35 : fsW G l mX1_canTake 3 0 0 0 0 Q 35 [(0, .inr (.inr (some 3))), (1, .inr (.inr x1))] [.inl (if 16 ≤ (I 4) then 0 else (if (fs_dI dyn x1 0) = 102 then (if (L_X1_fieldNamed_r ht I A J it dyn (fs_dI dyn x1 1)) = (-1) then 1 else 0 : Int32) else 1 : Int32) : Int32)] (fs_mk ht I A J it dyn) := by
    have k9 := hq
    exact fs_iret dX1_canTake_35 rfl (by (repeat' split) <;> first | rfl) k9
  refine fs_icmp_ge 34 dX1_canTake_6 (by decide) (fun c_6 : 16 ≤ (I 4) => ?_) (fun c_6 : ¬ (16 ≤ (I 4)) => ?_)
  · refine fs_iconst (v := 0) dX1_canTake_34 rfl ?_
    have k9 := key_35
    try simp only [if_pos c_6] at k9 ⊢
    exact k9
  · have hS := hR_6 c_6
    refine fs_aload_n dX1_canTake_9 rfl rfl ?_
    obtain ⟨ho1, hS⟩ := hS
    refine fsg_I0 dX1_canTake_10 sf_X1_24 ho1 ?_
    refine fs_bipush (v := 102) dX1_canTake_13 rfl ?_
    refine fs_icmp_ne 30 dX1_canTake_15 (by decide) (fun c_15 : ¬ (fs_dI dyn x1 0) = 102 => ?_) (fun c_15 : (fs_dI dyn x1 0) = 102 => ?_)
    · refine fs_iconst (v := 1) dX1_canTake_30 rfl ?_
      refine fs_goto 35 dX1_canTake_31 (by decide) ?_
      have k9 := key_35
      try simp only [if_neg c_6, if_neg c_15] at k9 ⊢
      exact k9
    · have hS := hS c_15
      refine fs_aload_n dX1_canTake_18 rfl rfl ?_
      refine fs_aload_n dX1_canTake_19 rfl rfl ?_
      obtain ⟨ho1, hS⟩ := hS
      refine fsg_I1 dX1_canTake_20 sf_X1_28 ho1 ?_
      have ho1 := hS
      refine fs_callV1 dX1_canTake_23 sv_X1_31 rfl ⟨_, rfl, rfl⟩ (c_X1_fieldNamed G l ht I A J it dyn (fs_dI dyn x1 1) ho1) rfl rfl (Nat.le_of_ble_eq_true rfl) (Nat.le_of_ble_eq_true rfl) (Nat.le_of_ble_eq_true rfl) (Nat.le_of_ble_eq_true rfl) ?_
      refine fs_iconst (v := (-1)) dX1_canTake_26 rfl ?_
      refine fs_icmp_ne 34 dX1_canTake_27 (by decide) (fun c_27 : ¬ (L_X1_fieldNamed_r ht I A J it dyn (fs_dI dyn x1 1)) = (-1) => ?_) (fun c_27 : (L_X1_fieldNamed_r ht I A J it dyn (fs_dI dyn x1 1)) = (-1) => ?_)
      · refine fs_iconst (v := 0) dX1_canTake_34 rfl ?_
        have k9 := key_35
        try simp only [if_neg c_6, if_pos c_15, if_neg c_27] at k9 ⊢
        exact k9
      · refine fs_iconst (v := 1) dX1_canTake_30 rfl ?_
        refine fs_goto 35 dX1_canTake_31 (by decide) ?_
        have k9 := key_35
        try simp only [if_neg c_6, if_pos c_15, if_pos c_27] at k9 ⊢
        exact k9
theorem nb_X1_canTake (ht : Nat) (I : Nat → Int32) (A : Nat → Nat → Int32) (J : Nat → Nat → Int64) (it : Nat → Option Nat) (dyn : fsH) (x1 : Option Nat) : narrow .boolean (.int (L_X1_canTake_r ht I A J it dyn x1)) = .int (L_X1_canTake_r ht I A J it dyn x1) := by
  unfold L_X1_canTake_r
  exact (by (repeat' split) <;> first | rfl)
def L_X5_number_r (ht : Nat) (I : Nat → Int32) (A : Nat → Nat → Int32) (J : Nat → Nat → Int64) (it : Nat → Option Nat) (dyn : fsH)  : Option Nat := (if (L_X5_skip_r ht (L_X5_digits_I ht I A J it dyn 6) A J it dyn 46) = 0 then (some (dyn.length + 41)) else (if (L_X7_isDigit_r ht (L_X5_skip_I ht (L_X5_digits_I ht I A J it dyn 6) A J it dyn 46) A J it dyn (L_X5_next_r ht (L_X5_skip_I ht (L_X5_digits_I ht I A J it dyn 6) A J it dyn 46) A J it dyn)) = 0 then none else (some (dyn.length + 41))))
def L_X5_number_I (ht : Nat) (I : Nat → Int32) (A : Nat → Nat → Int32) (J : Nat → Nat → Int64) (it : Nat → Option Nat) (dyn : fsH)  : Nat → Int32 := (if (L_X5_skip_r ht (L_X5_digits_I ht I A J it dyn 6) A J it dyn 46) = 0 then (L_X5_skip_I ht (L_X5_digits_I ht I A J it dyn 6) A J it dyn 46) else (if (L_X7_isDigit_r ht (L_X5_skip_I ht (L_X5_digits_I ht I A J it dyn 6) A J it dyn 46) A J it dyn (L_X5_next_r ht (L_X5_skip_I ht (L_X5_digits_I ht I A J it dyn 6) A J it dyn 46) A J it dyn)) = 0 then (L_X5_skip_I ht (L_X5_digits_I ht I A J it dyn 6) A J it dyn 46) else (L_X5_digits_I ht (L_X5_skip_I ht (L_X5_digits_I ht I A J it dyn 6) A J it dyn 46) A J it dyn 2)))
def L_X5_number_dyn (ht : Nat) (I : Nat → Int32) (A : Nat → Nat → Int32) (J : Nat → Nat → Int64) (it : Nat → Option Nat) (dyn : fsH)  : fsH := (if (L_X5_skip_r ht (L_X5_digits_I ht I A J it dyn 6) A J it dyn 46) = 0 then (dyn ++ [some (.inr (3, [fsI 48, fsJ ((100) * (L_X5_digits_r ht I A J it dyn 6)), fsI 0, fsR none, fsR none, fsR none, fsI (-1)]))]) else (if (L_X7_isDigit_r ht (L_X5_skip_I ht (L_X5_digits_I ht I A J it dyn 6) A J it dyn 46) A J it dyn (L_X5_next_r ht (L_X5_skip_I ht (L_X5_digits_I ht I A J it dyn 6) A J it dyn 46) A J it dyn)) = 0 then dyn else (dyn ++ [some (.inr (3, [fsI 48, fsJ (((100) * (L_X5_digits_r ht I A J it dyn 6)) + (if (((L_X5_digits_I ht (L_X5_skip_I ht (L_X5_digits_I ht I A J it dyn 6) A J it dyn 46) A J it dyn 2) 3) - ((L_X5_skip_I ht (L_X5_digits_I ht I A J it dyn 6) A J it dyn 46) 3)) = 1 then ((10) * (L_X5_digits_r ht (L_X5_skip_I ht (L_X5_digits_I ht I A J it dyn 6) A J it dyn 46) A J it dyn 2)) else (L_X5_digits_r ht (L_X5_skip_I ht (L_X5_digits_I ht I A J it dyn 6) A J it dyn 46) A J it dyn 2) : Int64)), fsI 0, fsR none, fsR none, fsR none, fsI (-1)]))])))
def S_X5_number (ht : Nat) (I : Nat → Int32) (A : Nat → Nat → Int32) (J : Nat → Nat → Int64) (it : Nat → Option Nat) (dyn : fsH)  : Prop := ((S_X5_digits ht I A J it dyn 6) ∧ ((S_X5_skip ht (L_X5_digits_I ht I A J it dyn 6) A J it dyn 46) ∧ (¬ ((L_X5_skip_r ht (L_X5_digits_I ht I A J it dyn 6) A J it dyn 46) = 0) → ((S_X5_next ht (L_X5_skip_I ht (L_X5_digits_I ht I A J it dyn 6) A J it dyn 46) A J it dyn) ∧ (¬ ((L_X7_isDigit_r ht (L_X5_skip_I ht (L_X5_digits_I ht I A J it dyn 6) A J it dyn 46) A J it dyn (L_X5_next_r ht (L_X5_skip_I ht (L_X5_digits_I ht I A J it dyn 6) A J it dyn 46) A J it dyn)) = 0) → (S_X5_digits ht (L_X5_skip_I ht (L_X5_digits_I ht I A J it dyn 6) A J it dyn 46) A J it dyn 2))))))
set_option maxRecDepth 100000 in
set_option maxHeartbeats 4000000 in
theorem c_X5_number (G : fsG) (l : Launch) (ht : Nat) (I : Nat → Int32) (A : Nat → Nat → Int32) (J : Nat → Nat → Int64) (it : Nat → Option Nat) (dyn : fsH)  (hS : S_X5_number ht I A J it dyn ) : fsFn G l mX5_number 2 1 7 [.inr (.inr (some 1))] (fs_mk ht I A J it dyn) (some (.inr (.inr (L_X5_number_r ht I A J it dyn )))) (fs_mk ht (L_X5_number_I ht I A J it dyn ) A J it (L_X5_number_dyn ht I A J it dyn )) := by
  refine fsMet_of (by decide) (Nat.le_of_ble_eq_true rfl) ?_
  generalize hQ : (fun (r1 : Option fsV) (h1 : fsH) => r1 = (some (.inr (.inr (L_X5_number_r ht I A J it dyn )))) ∧ h1 = (fs_mk ht (L_X5_number_I ht I A J it dyn ) A J it (L_X5_number_dyn ht I A J it dyn ))) = Q
  have hq : Q (some (.inr (.inr (L_X5_number_r ht I A J it dyn )))) (fs_mk ht (L_X5_number_I ht I A J it dyn ) A J it (L_X5_number_dyn ht I A J it dyn )) := by rw [← hQ]; exact ⟨rfl, rfl⟩
  clear hQ
  have hq : Q (some (.inr (.inr (if (L_X5_skip_r ht (L_X5_digits_I ht I A J it dyn 6) A J it dyn 46) = 0 then (some (dyn.length + 41)) else (if (L_X7_isDigit_r ht (L_X5_skip_I ht (L_X5_digits_I ht I A J it dyn 6) A J it dyn 46) A J it dyn (L_X5_next_r ht (L_X5_skip_I ht (L_X5_digits_I ht I A J it dyn 6) A J it dyn 46) A J it dyn)) = 0 then none else (some (dyn.length + 41)) : Option Nat) : Option Nat)))) (fs_mk ht (if (L_X5_skip_r ht (L_X5_digits_I ht I A J it dyn 6) A J it dyn 46) = 0 then (L_X5_skip_I ht (L_X5_digits_I ht I A J it dyn 6) A J it dyn 46) else (if (L_X7_isDigit_r ht (L_X5_skip_I ht (L_X5_digits_I ht I A J it dyn 6) A J it dyn 46) A J it dyn (L_X5_next_r ht (L_X5_skip_I ht (L_X5_digits_I ht I A J it dyn 6) A J it dyn 46) A J it dyn)) = 0 then (L_X5_skip_I ht (L_X5_digits_I ht I A J it dyn 6) A J it dyn 46) else (L_X5_digits_I ht (L_X5_skip_I ht (L_X5_digits_I ht I A J it dyn 6) A J it dyn 46) A J it dyn 2))) A J it (if (L_X5_skip_r ht (L_X5_digits_I ht I A J it dyn 6) A J it dyn 46) = 0 then (dyn ++ [some (.inr (3, [fsI 48, fsJ ((100) * (L_X5_digits_r ht I A J it dyn 6)), fsI 0, fsR none, fsR none, fsR none, fsI (-1)]))]) else (if (L_X7_isDigit_r ht (L_X5_skip_I ht (L_X5_digits_I ht I A J it dyn 6) A J it dyn 46) A J it dyn (L_X5_next_r ht (L_X5_skip_I ht (L_X5_digits_I ht I A J it dyn 6) A J it dyn 46) A J it dyn)) = 0 then dyn else (dyn ++ [some (.inr (3, [fsI 48, fsJ (((100) * (L_X5_digits_r ht I A J it dyn 6)) + (if (((L_X5_digits_I ht (L_X5_skip_I ht (L_X5_digits_I ht I A J it dyn 6) A J it dyn 46) A J it dyn 2) 3) - ((L_X5_skip_I ht (L_X5_digits_I ht I A J it dyn 6) A J it dyn 46) 3)) = 1 then ((10) * (L_X5_digits_r ht (L_X5_skip_I ht (L_X5_digits_I ht I A J it dyn 6) A J it dyn 46) A J it dyn 2)) else (L_X5_digits_r ht (L_X5_skip_I ht (L_X5_digits_I ht I A J it dyn 6) A J it dyn 46) A J it dyn 2) : Int64)), fsI 0, fsR none, fsR none, fsR none, fsI (-1)]))])))) := hq
  have hS : ((S_X5_digits ht I A J it dyn 6) ∧ ((S_X5_skip ht (L_X5_digits_I ht I A J it dyn 6) A J it dyn 46) ∧ (¬ ((L_X5_skip_r ht (L_X5_digits_I ht I A J it dyn 6) A J it dyn 46) = 0) → ((S_X5_next ht (L_X5_skip_I ht (L_X5_digits_I ht I A J it dyn 6) A J it dyn 46) A J it dyn) ∧ (¬ ((L_X7_isDigit_r ht (L_X5_skip_I ht (L_X5_digits_I ht I A J it dyn 6) A J it dyn 46) A J it dyn (L_X5_next_r ht (L_X5_skip_I ht (L_X5_digits_I ht I A J it dyn 6) A J it dyn 46) A J it dyn)) = 0) → (S_X5_digits ht (L_X5_skip_I ht (L_X5_digits_I ht I A J it dyn 6) A J it dyn 46) A J it dyn 2)))))) := hS
  refine (show fsW G l mX5_number 2 1 7 0 0 Q 0 [(0, .inr (.inr (some 1)))] [] (fs_mk ht I A J it dyn) from ?_)
  refine fs_ldc2 (v := (100)) dX5_number_0 sk_X5_89 ?_
  refine fs_aload_n dX5_number_3 rfl rfl ?_
  refine fs_bipush (v := 6) dX5_number_4 rfl ?_
  obtain ⟨ho1, hS⟩ := hS
  refine fs_callV1 dX5_number_6 sv_X5_91 rfl ⟨_, rfl, rfl⟩ (c_X5_digits G l ht I A J it dyn 6 ho1) rfl rfl (Nat.le_of_ble_eq_true rfl) (by omega) (by omega) (by omega) ?_
  refine fs_lmul dX5_number_9 ?_
  refine fs_lstore_n (L' := [(1, .inr (.inl ((100) * (L_X5_digits_r ht I A J it dyn 6)))), (0, .inr (.inr (some 1)))]) dX5_number_10 rfl (by decide) rfl ?_
  refine fs_aload_n dX5_number_11 rfl rfl ?_
  refine fs_bipush (v := 46) dX5_number_12 rfl ?_
  obtain ⟨ho1, hS⟩ := hS
  refine fs_callV1 dX5_number_14 sv_X5_38 rfl ⟨_, rfl, rfl⟩ (c_X5_skip G l ht (L_X5_digits_I ht I A J it dyn 6) A J it dyn 46 ho1) rfl rfl (Nat.le_of_ble_eq_true rfl) (by omega) (by omega) (by omega) ?_
  refine fs_if_eq 68 dX5_number_17 (by decide) (fun c_17 : (L_X5_skip_r ht (L_X5_digits_I ht I A J it dyn 6) A J it dyn 46) = 0 => ?_) (fun c_17 : ¬ ((L_X5_skip_r ht (L_X5_digits_I ht I A J it dyn 6) A J it dyn 46) = 0) => ?_)
  · refine fsn_new dX5_number_68 sw_X5_75 (by omega) (by omega) ?_
    refine fs_dup dX5_number_71 rfl ?_
    refine fs_bipush (v := 48) dX5_number_72 rfl ?_
    refine fs_lload_n dX5_number_74 rfl rfl ?_
    refine fs_iconst (v := 0) dX5_number_75 rfl ?_
    refine fs_callI0 dX5_number_76 sv_X5_77 (c_X4_init G l ht (L_X5_skip_I ht (L_X5_digits_I ht I A J it dyn 6) A J it dyn 46) A J it dyn 48 ((100) * (L_X5_digits_r ht I A J it dyn 6)) 0 (by unfold fs_chr; decide)) rfl rfl (Nat.le_of_ble_eq_true rfl) (by omega) (by omega) (by omega) ?_
    refine fs_widen (k2 := 1) (n2 := 7) (by omega) (by omega) ?_
    have k9 := hq
    try simp only [if_pos c_17] at k9 ⊢
    exact fs_aret dX5_number_79 rfl k9
  · have hS := hS c_17
    refine fs_aload_n dX5_number_20 rfl rfl ?_
    obtain ⟨ho1, hS⟩ := hS
    refine fs_callV1 dX5_number_21 sv_X5_26 rfl ⟨_, rfl, rfl⟩ (c_X5_next G l ht (L_X5_skip_I ht (L_X5_digits_I ht I A J it dyn 6) A J it dyn 46) A J it dyn ho1) rfl rfl (Nat.le_of_ble_eq_true rfl) (by omega) (by omega) (by omega) ?_
    refine fs_callSN1 dX5_number_24 sv_X5_68 (c_X7_isDigit G l ht (L_X5_skip_I ht (L_X5_digits_I ht I A J it dyn 6) A J it dyn 46) A J it dyn (L_X5_next_r ht (L_X5_skip_I ht (L_X5_digits_I ht I A J it dyn 6) A J it dyn 46) A J it dyn)) rfl rfl (Nat.le_of_ble_eq_true rfl) (by omega) (by omega) (by omega) ?_
    refine fs_if_ne 32 dX5_number_27 (by decide) (fun c_27 : ¬ (L_X7_isDigit_r ht (L_X5_skip_I ht (L_X5_digits_I ht I A J it dyn 6) A J it dyn 46) A J it dyn (L_X5_next_r ht (L_X5_skip_I ht (L_X5_digits_I ht I A J it dyn 6) A J it dyn 46) A J it dyn)) = 0 => ?_) (fun c_27 : (L_X7_isDigit_r ht (L_X5_skip_I ht (L_X5_digits_I ht I A J it dyn 6) A J it dyn 46) A J it dyn (L_X5_next_r ht (L_X5_skip_I ht (L_X5_digits_I ht I A J it dyn 6) A J it dyn 46) A J it dyn)) = 0 => ?_)
    · have hS := hS c_27
      refine fs_aload_n dX5_number_32 rfl rfl ?_
      refine fs_getfield (v := .inl ((L_X5_skip_I ht (L_X5_digits_I ht I A J it dyn 6) A J it dyn 46) 3)) dX5_number_33 sf_X5_19 rfl rfl ?_
      refine fs_istore_n (L' := [(3, .inl ((L_X5_skip_I ht (L_X5_digits_I ht I A J it dyn 6) A J it dyn 46) 3)), (1, .inr (.inl ((100) * (L_X5_digits_r ht I A J it dyn 6)))), (0, .inr (.inr (some 1)))]) dX5_number_36 rfl (by decide) rfl ?_
      refine fs_aload_n dX5_number_37 rfl rfl ?_
      refine fs_iconst (v := 2) dX5_number_38 rfl ?_
      have ho1 := hS
      refine fs_callV1 dX5_number_39 sv_X5_91 rfl ⟨_, rfl, rfl⟩ (c_X5_digits G l ht (L_X5_skip_I ht (L_X5_digits_I ht I A J it dyn 6) A J it dyn 46) A J it dyn 2 ho1) rfl rfl (Nat.le_of_ble_eq_true rfl) (by omega) (by omega) (by omega) ?_
      refine fs_lstore (L' := [(4, .inr (.inl (L_X5_digits_r ht (L_X5_skip_I ht (L_X5_digits_I ht I A J it dyn 6) A J it dyn 46) A J it dyn 2))), (3, .inl ((L_X5_skip_I ht (L_X5_digits_I ht I A J it dyn 6) A J it dyn 46) 3)), (1, .inr (.inl ((100) * (L_X5_digits_r ht I A J it dyn 6)))), (0, .inr (.inr (some 1)))]) dX5_number_42 (by decide) rfl ?_
      refine fs_lload_n dX5_number_44 rfl rfl ?_
      refine fs_aload_n dX5_number_45 rfl rfl ?_
      refine fs_getfield (v := .inl ((L_X5_digits_I ht (L_X5_skip_I ht (L_X5_digits_I ht I A J it dyn 6) A J it dyn 46) A J it dyn 2) 3)) dX5_number_46 sf_X5_19 rfl rfl ?_
      refine fs_iload_n dX5_number_49 rfl rfl ?_
      refine fs_isub dX5_number_50 ?_
      refine fs_iconst (v := 1) dX5_number_51 rfl ?_
      have key_66 : fsW G l mX5_number 2 1 7 0 0 Q 66 [(0, .inr (.inr (some 1))), (1, .inr (.inl ((100) * (L_X5_digits_r ht I A J it dyn 6)))), (3, .inl ((L_X5_skip_I ht (L_X5_digits_I ht I A J it dyn 6) A J it dyn 46) 3)), (4, .inr (.inl (L_X5_digits_r ht (L_X5_skip_I ht (L_X5_digits_I ht I A J it dyn 6) A J it dyn 46) A J it dyn 2)))] [.inr (.inl (if (((L_X5_digits_I ht (L_X5_skip_I ht (L_X5_digits_I ht I A J it dyn 6) A J it dyn 46) A J it dyn 2) 3) - ((L_X5_skip_I ht (L_X5_digits_I ht I A J it dyn 6) A J it dyn 46) 3)) = 1 then ((10) * (L_X5_digits_r ht (L_X5_skip_I ht (L_X5_digits_I ht I A J it dyn 6) A J it dyn 46) A J it dyn 2)) else (L_X5_digits_r ht (L_X5_skip_I ht (L_X5_digits_I ht I A J it dyn 6) A J it dyn 46) A J it dyn 2) : Int64)), .inr (.inl ((100) * (L_X5_digits_r ht I A J it dyn 6)))] (fs_mk ht (L_X5_digits_I ht (L_X5_skip_I ht (L_X5_digits_I ht I A J it dyn 6) A J it dyn 46) A J it dyn 2) A J it dyn) := by
        refine fs_ladd dX5_number_66 ?_
        refine fs_lstore_n (L' := [(1, .inr (.inl (((100) * (L_X5_digits_r ht I A J it dyn 6)) + (if (((L_X5_digits_I ht (L_X5_skip_I ht (L_X5_digits_I ht I A J it dyn 6) A J it dyn 46) A J it dyn 2) 3) - ((L_X5_skip_I ht (L_X5_digits_I ht I A J it dyn 6) A J it dyn 46) 3)) = 1 then ((10) * (L_X5_digits_r ht (L_X5_skip_I ht (L_X5_digits_I ht I A J it dyn 6) A J it dyn 46) A J it dyn 2)) else (L_X5_digits_r ht (L_X5_skip_I ht (L_X5_digits_I ht I A J it dyn 6) A J it dyn 46) A J it dyn 2) : Int64)))), (0, .inr (.inr (some 1))), (3, .inl ((L_X5_skip_I ht (L_X5_digits_I ht I A J it dyn 6) A J it dyn 46) 3)), (4, .inr (.inl (L_X5_digits_r ht (L_X5_skip_I ht (L_X5_digits_I ht I A J it dyn 6) A J it dyn 46) A J it dyn 2)))]) dX5_number_67 rfl (by decide) rfl ?_
        refine fsn_new dX5_number_68 sw_X5_75 (by omega) (by omega) ?_
        refine fs_dup dX5_number_71 rfl ?_
        refine fs_bipush (v := 48) dX5_number_72 rfl ?_
        refine fs_lload_n dX5_number_74 rfl rfl ?_
        refine fs_iconst (v := 0) dX5_number_75 rfl ?_
        refine fs_callI0 dX5_number_76 sv_X5_77 (c_X4_init G l ht (L_X5_digits_I ht (L_X5_skip_I ht (L_X5_digits_I ht I A J it dyn 6) A J it dyn 46) A J it dyn 2) A J it dyn 48 (((100) * (L_X5_digits_r ht I A J it dyn 6)) + (if (((L_X5_digits_I ht (L_X5_skip_I ht (L_X5_digits_I ht I A J it dyn 6) A J it dyn 46) A J it dyn 2) 3) - ((L_X5_skip_I ht (L_X5_digits_I ht I A J it dyn 6) A J it dyn 46) 3)) = 1 then ((10) * (L_X5_digits_r ht (L_X5_skip_I ht (L_X5_digits_I ht I A J it dyn 6) A J it dyn 46) A J it dyn 2)) else (L_X5_digits_r ht (L_X5_skip_I ht (L_X5_digits_I ht I A J it dyn 6) A J it dyn 46) A J it dyn 2) : Int64)) 0 (by unfold fs_chr; decide)) rfl rfl (Nat.le_of_ble_eq_true rfl) (by omega) (by omega) (by omega) ?_
        refine fs_widen (k2 := 1) (n2 := 7) (by omega) (by omega) ?_
        have k9 := hq
        try simp only [if_neg c_17, if_neg c_27] at k9 ⊢
        exact fs_aret dX5_number_79 rfl k9
      refine fs_icmp_ne 64 dX5_number_52 (by decide) (fun c_52 : ¬ (((L_X5_digits_I ht (L_X5_skip_I ht (L_X5_digits_I ht I A J it dyn 6) A J it dyn 46) A J it dyn 2) 3) - ((L_X5_skip_I ht (L_X5_digits_I ht I A J it dyn 6) A J it dyn 46) 3)) = 1 => ?_) (fun c_52 : (((L_X5_digits_I ht (L_X5_skip_I ht (L_X5_digits_I ht I A J it dyn 6) A J it dyn 46) A J it dyn 2) 3) - ((L_X5_skip_I ht (L_X5_digits_I ht I A J it dyn 6) A J it dyn 46) 3)) = 1 => ?_)
      · refine fs_lload dX5_number_64 rfl ?_
        refine fs_reL [3, 2, 1, 0] rfl ?_
        refine fs_widen (k2 := 0) (n2 := 0) (by omega) (by omega) ?_
        have k9 := key_66
        try simp only [if_neg c_17, if_neg c_27, if_neg c_52] at k9 ⊢
        exact k9
      · refine fs_ldc2 (v := (10)) dX5_number_55 sk_X5_95 ?_
        refine fs_lload dX5_number_58 rfl ?_
        refine fs_lmul dX5_number_60 ?_
        refine fs_goto 66 dX5_number_61 (by decide) ?_
        refine fs_reL [3, 2, 1, 0] rfl ?_
        refine fs_widen (k2 := 0) (n2 := 0) (by omega) (by omega) ?_
        have k9 := key_66
        try simp only [if_neg c_17, if_neg c_27, if_pos c_52] at k9 ⊢
        exact k9
    · refine fs_null dX5_number_30 ?_
      refine fs_widen (k2 := 1) (n2 := 7) (by omega) (by omega) ?_
      have k9 := hq
      try simp only [if_neg c_17, if_pos c_27] at k9 ⊢
      exact fs_aret dX5_number_31 rfl k9
def L_X5_inBrackets_r (Er : Nat → (Nat → Int32) → (Nat → Nat → Int32) → (Nat → Nat → Int64) → (Nat → Option Nat) → fsH → Int32 → Option Nat) (EI : Nat → (Nat → Int32) → (Nat → Nat → Int32) → (Nat → Nat → Int64) → (Nat → Option Nat) → fsH → Int32 → Nat → Int32) (Edyn : Nat → (Nat → Int32) → (Nat → Nat → Int32) → (Nat → Nat → Int64) → (Nat → Option Nat) → fsH → Int32 → fsH) (ht : Nat) (I : Nat → Int32) (A : Nat → Nat → Int32) (J : Nat → Nat → Int64) (it : Nat → Option Nat) (dyn : fsH) (x1 : Int32) : Option Nat := (if (Er ht I A J it dyn x1) = none then none else (if (L_X5_isSign_r ht (EI ht I A J it dyn x1) A J it (Edyn ht I A J it dyn x1) (L_X5_next_r ht (EI ht I A J it dyn x1) A J it (Edyn ht I A J it dyn x1))) = 0 then none else (if (L_X5_skip_r ht (EI ht I A J it dyn x1) A J it (Edyn ht I A J it dyn x1) (L_X5_next_r ht (EI ht I A J it dyn x1) A J it (Edyn ht I A J it dyn x1))) = 0 then none else (if (Er ht (L_X5_skip_I ht (EI ht I A J it dyn x1) A J it (Edyn ht I A J it dyn x1) (L_X5_next_r ht (EI ht I A J it dyn x1) A J it (Edyn ht I A J it dyn x1))) A J it (Edyn ht I A J it dyn x1) x1) = none then none else (if (L_X5_next_r ht (EI ht I A J it dyn x1) A J it (Edyn ht I A J it dyn x1)) = 63 then (if (if (L_X5_skip_r ht (EI ht (L_X5_skip_I ht (EI ht I A J it dyn x1) A J it (Edyn ht I A J it dyn x1) (L_X5_next_r ht (EI ht I A J it dyn x1) A J it (Edyn ht I A J it dyn x1))) A J it (Edyn ht I A J it dyn x1) x1) A J it (Edyn ht (L_X5_skip_I ht (EI ht I A J it dyn x1) A J it (Edyn ht I A J it dyn x1) (L_X5_next_r ht (EI ht I A J it dyn x1) A J it (Edyn ht I A J it dyn x1))) A J it (Edyn ht I A J it dyn x1) x1) 58) = 0 then none else (Er ht (L_X5_skip_I ht (EI ht (L_X5_skip_I ht (EI ht I A J it dyn x1) A J it (Edyn ht I A J it dyn x1) (L_X5_next_r ht (EI ht I A J it dyn x1) A J it (Edyn ht I A J it dyn x1))) A J it (Edyn ht I A J it dyn x1) x1) A J it (Edyn ht (L_X5_skip_I ht (EI ht I A J it dyn x1) A J it (Edyn ht I A J it dyn x1) (L_X5_next_r ht (EI ht I A J it dyn x1) A J it (Edyn ht I A J it dyn x1))) A J it (Edyn ht I A J it dyn x1) x1) 58) A J it (Edyn ht (L_X5_skip_I ht (EI ht I A J it dyn x1) A J it (Edyn ht I A J it dyn x1) (L_X5_next_r ht (EI ht I A J it dyn x1) A J it (Edyn ht I A J it dyn x1))) A J it (Edyn ht I A J it dyn x1) x1) x1) : Option Nat) = none then none else (if (L_X5_skip_r ht (if (L_X5_skip_r ht (EI ht (L_X5_skip_I ht (EI ht I A J it dyn x1) A J it (Edyn ht I A J it dyn x1) (L_X5_next_r ht (EI ht I A J it dyn x1) A J it (Edyn ht I A J it dyn x1))) A J it (Edyn ht I A J it dyn x1) x1) A J it (Edyn ht (L_X5_skip_I ht (EI ht I A J it dyn x1) A J it (Edyn ht I A J it dyn x1) (L_X5_next_r ht (EI ht I A J it dyn x1) A J it (Edyn ht I A J it dyn x1))) A J it (Edyn ht I A J it dyn x1) x1) 58) = 0 then (L_X5_skip_I ht (EI ht (L_X5_skip_I ht (EI ht I A J it dyn x1) A J it (Edyn ht I A J it dyn x1) (L_X5_next_r ht (EI ht I A J it dyn x1) A J it (Edyn ht I A J it dyn x1))) A J it (Edyn ht I A J it dyn x1) x1) A J it (Edyn ht (L_X5_skip_I ht (EI ht I A J it dyn x1) A J it (Edyn ht I A J it dyn x1) (L_X5_next_r ht (EI ht I A J it dyn x1) A J it (Edyn ht I A J it dyn x1))) A J it (Edyn ht I A J it dyn x1) x1) 58) else (EI ht (L_X5_skip_I ht (EI ht (L_X5_skip_I ht (EI ht I A J it dyn x1) A J it (Edyn ht I A J it dyn x1) (L_X5_next_r ht (EI ht I A J it dyn x1) A J it (Edyn ht I A J it dyn x1))) A J it (Edyn ht I A J it dyn x1) x1) A J it (Edyn ht (L_X5_skip_I ht (EI ht I A J it dyn x1) A J it (Edyn ht I A J it dyn x1) (L_X5_next_r ht (EI ht I A J it dyn x1) A J it (Edyn ht I A J it dyn x1))) A J it (Edyn ht I A J it dyn x1) x1) 58) A J it (Edyn ht (L_X5_skip_I ht (EI ht I A J it dyn x1) A J it (Edyn ht I A J it dyn x1) (L_X5_next_r ht (EI ht I A J it dyn x1) A J it (Edyn ht I A J it dyn x1))) A J it (Edyn ht I A J it dyn x1) x1) x1)) A J it (if (L_X5_skip_r ht (EI ht (L_X5_skip_I ht (EI ht I A J it dyn x1) A J it (Edyn ht I A J it dyn x1) (L_X5_next_r ht (EI ht I A J it dyn x1) A J it (Edyn ht I A J it dyn x1))) A J it (Edyn ht I A J it dyn x1) x1) A J it (Edyn ht (L_X5_skip_I ht (EI ht I A J it dyn x1) A J it (Edyn ht I A J it dyn x1) (L_X5_next_r ht (EI ht I A J it dyn x1) A J it (Edyn ht I A J it dyn x1))) A J it (Edyn ht I A J it dyn x1) x1) 58) = 0 then (Edyn ht (L_X5_skip_I ht (EI ht I A J it dyn x1) A J it (Edyn ht I A J it dyn x1) (L_X5_next_r ht (EI ht I A J it dyn x1) A J it (Edyn ht I A J it dyn x1))) A J it (Edyn ht I A J it dyn x1) x1) else (Edyn ht (L_X5_skip_I ht (EI ht (L_X5_skip_I ht (EI ht I A J it dyn x1) A J it (Edyn ht I A J it dyn x1) (L_X5_next_r ht (EI ht I A J it dyn x1) A J it (Edyn ht I A J it dyn x1))) A J it (Edyn ht I A J it dyn x1) x1) A J it (Edyn ht (L_X5_skip_I ht (EI ht I A J it dyn x1) A J it (Edyn ht I A J it dyn x1) (L_X5_next_r ht (EI ht I A J it dyn x1) A J it (Edyn ht I A J it dyn x1))) A J it (Edyn ht I A J it dyn x1) x1) 58) A J it (Edyn ht (L_X5_skip_I ht (EI ht I A J it dyn x1) A J it (Edyn ht I A J it dyn x1) (L_X5_next_r ht (EI ht I A J it dyn x1) A J it (Edyn ht I A J it dyn x1))) A J it (Edyn ht I A J it dyn x1) x1) x1)) 41) = 0 then none else (some ((if (L_X5_skip_r ht (EI ht (L_X5_skip_I ht (EI ht I A J it dyn x1) A J it (Edyn ht I A J it dyn x1) (L_X5_next_r ht (EI ht I A J it dyn x1) A J it (Edyn ht I A J it dyn x1))) A J it (Edyn ht I A J it dyn x1) x1) A J it (Edyn ht (L_X5_skip_I ht (EI ht I A J it dyn x1) A J it (Edyn ht I A J it dyn x1) (L_X5_next_r ht (EI ht I A J it dyn x1) A J it (Edyn ht I A J it dyn x1))) A J it (Edyn ht I A J it dyn x1) x1) 58) = 0 then (Edyn ht (L_X5_skip_I ht (EI ht I A J it dyn x1) A J it (Edyn ht I A J it dyn x1) (L_X5_next_r ht (EI ht I A J it dyn x1) A J it (Edyn ht I A J it dyn x1))) A J it (Edyn ht I A J it dyn x1) x1) else (Edyn ht (L_X5_skip_I ht (EI ht (L_X5_skip_I ht (EI ht I A J it dyn x1) A J it (Edyn ht I A J it dyn x1) (L_X5_next_r ht (EI ht I A J it dyn x1) A J it (Edyn ht I A J it dyn x1))) A J it (Edyn ht I A J it dyn x1) x1) A J it (Edyn ht (L_X5_skip_I ht (EI ht I A J it dyn x1) A J it (Edyn ht I A J it dyn x1) (L_X5_next_r ht (EI ht I A J it dyn x1) A J it (Edyn ht I A J it dyn x1))) A J it (Edyn ht I A J it dyn x1) x1) 58) A J it (Edyn ht (L_X5_skip_I ht (EI ht I A J it dyn x1) A J it (Edyn ht I A J it dyn x1) (L_X5_next_r ht (EI ht I A J it dyn x1) A J it (Edyn ht I A J it dyn x1))) A J it (Edyn ht I A J it dyn x1) x1) x1)).length + 41)) : Option Nat)) else (if (L_X5_skip_r ht (EI ht (L_X5_skip_I ht (EI ht I A J it dyn x1) A J it (Edyn ht I A J it dyn x1) (L_X5_next_r ht (EI ht I A J it dyn x1) A J it (Edyn ht I A J it dyn x1))) A J it (Edyn ht I A J it dyn x1) x1) A J it (Edyn ht (L_X5_skip_I ht (EI ht I A J it dyn x1) A J it (Edyn ht I A J it dyn x1) (L_X5_next_r ht (EI ht I A J it dyn x1) A J it (Edyn ht I A J it dyn x1))) A J it (Edyn ht I A J it dyn x1) x1) 41) = 0 then none else (some ((Edyn ht (L_X5_skip_I ht (EI ht I A J it dyn x1) A J it (Edyn ht I A J it dyn x1) (L_X5_next_r ht (EI ht I A J it dyn x1) A J it (Edyn ht I A J it dyn x1))) A J it (Edyn ht I A J it dyn x1) x1).length + 41)) : Option Nat))))))
def L_X5_inBrackets_I (Er : Nat → (Nat → Int32) → (Nat → Nat → Int32) → (Nat → Nat → Int64) → (Nat → Option Nat) → fsH → Int32 → Option Nat) (EI : Nat → (Nat → Int32) → (Nat → Nat → Int32) → (Nat → Nat → Int64) → (Nat → Option Nat) → fsH → Int32 → Nat → Int32) (Edyn : Nat → (Nat → Int32) → (Nat → Nat → Int32) → (Nat → Nat → Int64) → (Nat → Option Nat) → fsH → Int32 → fsH) (ht : Nat) (I : Nat → Int32) (A : Nat → Nat → Int32) (J : Nat → Nat → Int64) (it : Nat → Option Nat) (dyn : fsH) (x1 : Int32) : Nat → Int32 := (if (Er ht I A J it dyn x1) = none then (EI ht I A J it dyn x1) else (if (L_X5_isSign_r ht (EI ht I A J it dyn x1) A J it (Edyn ht I A J it dyn x1) (L_X5_next_r ht (EI ht I A J it dyn x1) A J it (Edyn ht I A J it dyn x1))) = 0 then (EI ht I A J it dyn x1) else (if (L_X5_skip_r ht (EI ht I A J it dyn x1) A J it (Edyn ht I A J it dyn x1) (L_X5_next_r ht (EI ht I A J it dyn x1) A J it (Edyn ht I A J it dyn x1))) = 0 then (L_X5_skip_I ht (EI ht I A J it dyn x1) A J it (Edyn ht I A J it dyn x1) (L_X5_next_r ht (EI ht I A J it dyn x1) A J it (Edyn ht I A J it dyn x1))) else (if (Er ht (L_X5_skip_I ht (EI ht I A J it dyn x1) A J it (Edyn ht I A J it dyn x1) (L_X5_next_r ht (EI ht I A J it dyn x1) A J it (Edyn ht I A J it dyn x1))) A J it (Edyn ht I A J it dyn x1) x1) = none then (EI ht (L_X5_skip_I ht (EI ht I A J it dyn x1) A J it (Edyn ht I A J it dyn x1) (L_X5_next_r ht (EI ht I A J it dyn x1) A J it (Edyn ht I A J it dyn x1))) A J it (Edyn ht I A J it dyn x1) x1) else (if (L_X5_next_r ht (EI ht I A J it dyn x1) A J it (Edyn ht I A J it dyn x1)) = 63 then (if (if (L_X5_skip_r ht (EI ht (L_X5_skip_I ht (EI ht I A J it dyn x1) A J it (Edyn ht I A J it dyn x1) (L_X5_next_r ht (EI ht I A J it dyn x1) A J it (Edyn ht I A J it dyn x1))) A J it (Edyn ht I A J it dyn x1) x1) A J it (Edyn ht (L_X5_skip_I ht (EI ht I A J it dyn x1) A J it (Edyn ht I A J it dyn x1) (L_X5_next_r ht (EI ht I A J it dyn x1) A J it (Edyn ht I A J it dyn x1))) A J it (Edyn ht I A J it dyn x1) x1) 58) = 0 then none else (Er ht (L_X5_skip_I ht (EI ht (L_X5_skip_I ht (EI ht I A J it dyn x1) A J it (Edyn ht I A J it dyn x1) (L_X5_next_r ht (EI ht I A J it dyn x1) A J it (Edyn ht I A J it dyn x1))) A J it (Edyn ht I A J it dyn x1) x1) A J it (Edyn ht (L_X5_skip_I ht (EI ht I A J it dyn x1) A J it (Edyn ht I A J it dyn x1) (L_X5_next_r ht (EI ht I A J it dyn x1) A J it (Edyn ht I A J it dyn x1))) A J it (Edyn ht I A J it dyn x1) x1) 58) A J it (Edyn ht (L_X5_skip_I ht (EI ht I A J it dyn x1) A J it (Edyn ht I A J it dyn x1) (L_X5_next_r ht (EI ht I A J it dyn x1) A J it (Edyn ht I A J it dyn x1))) A J it (Edyn ht I A J it dyn x1) x1) x1) : Option Nat) = none then (if (L_X5_skip_r ht (EI ht (L_X5_skip_I ht (EI ht I A J it dyn x1) A J it (Edyn ht I A J it dyn x1) (L_X5_next_r ht (EI ht I A J it dyn x1) A J it (Edyn ht I A J it dyn x1))) A J it (Edyn ht I A J it dyn x1) x1) A J it (Edyn ht (L_X5_skip_I ht (EI ht I A J it dyn x1) A J it (Edyn ht I A J it dyn x1) (L_X5_next_r ht (EI ht I A J it dyn x1) A J it (Edyn ht I A J it dyn x1))) A J it (Edyn ht I A J it dyn x1) x1) 58) = 0 then (L_X5_skip_I ht (EI ht (L_X5_skip_I ht (EI ht I A J it dyn x1) A J it (Edyn ht I A J it dyn x1) (L_X5_next_r ht (EI ht I A J it dyn x1) A J it (Edyn ht I A J it dyn x1))) A J it (Edyn ht I A J it dyn x1) x1) A J it (Edyn ht (L_X5_skip_I ht (EI ht I A J it dyn x1) A J it (Edyn ht I A J it dyn x1) (L_X5_next_r ht (EI ht I A J it dyn x1) A J it (Edyn ht I A J it dyn x1))) A J it (Edyn ht I A J it dyn x1) x1) 58) else (EI ht (L_X5_skip_I ht (EI ht (L_X5_skip_I ht (EI ht I A J it dyn x1) A J it (Edyn ht I A J it dyn x1) (L_X5_next_r ht (EI ht I A J it dyn x1) A J it (Edyn ht I A J it dyn x1))) A J it (Edyn ht I A J it dyn x1) x1) A J it (Edyn ht (L_X5_skip_I ht (EI ht I A J it dyn x1) A J it (Edyn ht I A J it dyn x1) (L_X5_next_r ht (EI ht I A J it dyn x1) A J it (Edyn ht I A J it dyn x1))) A J it (Edyn ht I A J it dyn x1) x1) 58) A J it (Edyn ht (L_X5_skip_I ht (EI ht I A J it dyn x1) A J it (Edyn ht I A J it dyn x1) (L_X5_next_r ht (EI ht I A J it dyn x1) A J it (Edyn ht I A J it dyn x1))) A J it (Edyn ht I A J it dyn x1) x1) x1)) else (L_X5_skip_I ht (if (L_X5_skip_r ht (EI ht (L_X5_skip_I ht (EI ht I A J it dyn x1) A J it (Edyn ht I A J it dyn x1) (L_X5_next_r ht (EI ht I A J it dyn x1) A J it (Edyn ht I A J it dyn x1))) A J it (Edyn ht I A J it dyn x1) x1) A J it (Edyn ht (L_X5_skip_I ht (EI ht I A J it dyn x1) A J it (Edyn ht I A J it dyn x1) (L_X5_next_r ht (EI ht I A J it dyn x1) A J it (Edyn ht I A J it dyn x1))) A J it (Edyn ht I A J it dyn x1) x1) 58) = 0 then (L_X5_skip_I ht (EI ht (L_X5_skip_I ht (EI ht I A J it dyn x1) A J it (Edyn ht I A J it dyn x1) (L_X5_next_r ht (EI ht I A J it dyn x1) A J it (Edyn ht I A J it dyn x1))) A J it (Edyn ht I A J it dyn x1) x1) A J it (Edyn ht (L_X5_skip_I ht (EI ht I A J it dyn x1) A J it (Edyn ht I A J it dyn x1) (L_X5_next_r ht (EI ht I A J it dyn x1) A J it (Edyn ht I A J it dyn x1))) A J it (Edyn ht I A J it dyn x1) x1) 58) else (EI ht (L_X5_skip_I ht (EI ht (L_X5_skip_I ht (EI ht I A J it dyn x1) A J it (Edyn ht I A J it dyn x1) (L_X5_next_r ht (EI ht I A J it dyn x1) A J it (Edyn ht I A J it dyn x1))) A J it (Edyn ht I A J it dyn x1) x1) A J it (Edyn ht (L_X5_skip_I ht (EI ht I A J it dyn x1) A J it (Edyn ht I A J it dyn x1) (L_X5_next_r ht (EI ht I A J it dyn x1) A J it (Edyn ht I A J it dyn x1))) A J it (Edyn ht I A J it dyn x1) x1) 58) A J it (Edyn ht (L_X5_skip_I ht (EI ht I A J it dyn x1) A J it (Edyn ht I A J it dyn x1) (L_X5_next_r ht (EI ht I A J it dyn x1) A J it (Edyn ht I A J it dyn x1))) A J it (Edyn ht I A J it dyn x1) x1) x1)) A J it (if (L_X5_skip_r ht (EI ht (L_X5_skip_I ht (EI ht I A J it dyn x1) A J it (Edyn ht I A J it dyn x1) (L_X5_next_r ht (EI ht I A J it dyn x1) A J it (Edyn ht I A J it dyn x1))) A J it (Edyn ht I A J it dyn x1) x1) A J it (Edyn ht (L_X5_skip_I ht (EI ht I A J it dyn x1) A J it (Edyn ht I A J it dyn x1) (L_X5_next_r ht (EI ht I A J it dyn x1) A J it (Edyn ht I A J it dyn x1))) A J it (Edyn ht I A J it dyn x1) x1) 58) = 0 then (Edyn ht (L_X5_skip_I ht (EI ht I A J it dyn x1) A J it (Edyn ht I A J it dyn x1) (L_X5_next_r ht (EI ht I A J it dyn x1) A J it (Edyn ht I A J it dyn x1))) A J it (Edyn ht I A J it dyn x1) x1) else (Edyn ht (L_X5_skip_I ht (EI ht (L_X5_skip_I ht (EI ht I A J it dyn x1) A J it (Edyn ht I A J it dyn x1) (L_X5_next_r ht (EI ht I A J it dyn x1) A J it (Edyn ht I A J it dyn x1))) A J it (Edyn ht I A J it dyn x1) x1) A J it (Edyn ht (L_X5_skip_I ht (EI ht I A J it dyn x1) A J it (Edyn ht I A J it dyn x1) (L_X5_next_r ht (EI ht I A J it dyn x1) A J it (Edyn ht I A J it dyn x1))) A J it (Edyn ht I A J it dyn x1) x1) 58) A J it (Edyn ht (L_X5_skip_I ht (EI ht I A J it dyn x1) A J it (Edyn ht I A J it dyn x1) (L_X5_next_r ht (EI ht I A J it dyn x1) A J it (Edyn ht I A J it dyn x1))) A J it (Edyn ht I A J it dyn x1) x1) x1)) 41)) else (L_X5_skip_I ht (EI ht (L_X5_skip_I ht (EI ht I A J it dyn x1) A J it (Edyn ht I A J it dyn x1) (L_X5_next_r ht (EI ht I A J it dyn x1) A J it (Edyn ht I A J it dyn x1))) A J it (Edyn ht I A J it dyn x1) x1) A J it (Edyn ht (L_X5_skip_I ht (EI ht I A J it dyn x1) A J it (Edyn ht I A J it dyn x1) (L_X5_next_r ht (EI ht I A J it dyn x1) A J it (Edyn ht I A J it dyn x1))) A J it (Edyn ht I A J it dyn x1) x1) 41))))))
def L_X5_inBrackets_dyn (Er : Nat → (Nat → Int32) → (Nat → Nat → Int32) → (Nat → Nat → Int64) → (Nat → Option Nat) → fsH → Int32 → Option Nat) (EI : Nat → (Nat → Int32) → (Nat → Nat → Int32) → (Nat → Nat → Int64) → (Nat → Option Nat) → fsH → Int32 → Nat → Int32) (Edyn : Nat → (Nat → Int32) → (Nat → Nat → Int32) → (Nat → Nat → Int64) → (Nat → Option Nat) → fsH → Int32 → fsH) (ht : Nat) (I : Nat → Int32) (A : Nat → Nat → Int32) (J : Nat → Nat → Int64) (it : Nat → Option Nat) (dyn : fsH) (x1 : Int32) : fsH := (if (Er ht I A J it dyn x1) = none then (Edyn ht I A J it dyn x1) else (if (L_X5_isSign_r ht (EI ht I A J it dyn x1) A J it (Edyn ht I A J it dyn x1) (L_X5_next_r ht (EI ht I A J it dyn x1) A J it (Edyn ht I A J it dyn x1))) = 0 then (Edyn ht I A J it dyn x1) else (if (L_X5_skip_r ht (EI ht I A J it dyn x1) A J it (Edyn ht I A J it dyn x1) (L_X5_next_r ht (EI ht I A J it dyn x1) A J it (Edyn ht I A J it dyn x1))) = 0 then (Edyn ht I A J it dyn x1) else (if (Er ht (L_X5_skip_I ht (EI ht I A J it dyn x1) A J it (Edyn ht I A J it dyn x1) (L_X5_next_r ht (EI ht I A J it dyn x1) A J it (Edyn ht I A J it dyn x1))) A J it (Edyn ht I A J it dyn x1) x1) = none then (Edyn ht (L_X5_skip_I ht (EI ht I A J it dyn x1) A J it (Edyn ht I A J it dyn x1) (L_X5_next_r ht (EI ht I A J it dyn x1) A J it (Edyn ht I A J it dyn x1))) A J it (Edyn ht I A J it dyn x1) x1) else (if (L_X5_next_r ht (EI ht I A J it dyn x1) A J it (Edyn ht I A J it dyn x1)) = 63 then (if (if (L_X5_skip_r ht (EI ht (L_X5_skip_I ht (EI ht I A J it dyn x1) A J it (Edyn ht I A J it dyn x1) (L_X5_next_r ht (EI ht I A J it dyn x1) A J it (Edyn ht I A J it dyn x1))) A J it (Edyn ht I A J it dyn x1) x1) A J it (Edyn ht (L_X5_skip_I ht (EI ht I A J it dyn x1) A J it (Edyn ht I A J it dyn x1) (L_X5_next_r ht (EI ht I A J it dyn x1) A J it (Edyn ht I A J it dyn x1))) A J it (Edyn ht I A J it dyn x1) x1) 58) = 0 then none else (Er ht (L_X5_skip_I ht (EI ht (L_X5_skip_I ht (EI ht I A J it dyn x1) A J it (Edyn ht I A J it dyn x1) (L_X5_next_r ht (EI ht I A J it dyn x1) A J it (Edyn ht I A J it dyn x1))) A J it (Edyn ht I A J it dyn x1) x1) A J it (Edyn ht (L_X5_skip_I ht (EI ht I A J it dyn x1) A J it (Edyn ht I A J it dyn x1) (L_X5_next_r ht (EI ht I A J it dyn x1) A J it (Edyn ht I A J it dyn x1))) A J it (Edyn ht I A J it dyn x1) x1) 58) A J it (Edyn ht (L_X5_skip_I ht (EI ht I A J it dyn x1) A J it (Edyn ht I A J it dyn x1) (L_X5_next_r ht (EI ht I A J it dyn x1) A J it (Edyn ht I A J it dyn x1))) A J it (Edyn ht I A J it dyn x1) x1) x1) : Option Nat) = none then (if (L_X5_skip_r ht (EI ht (L_X5_skip_I ht (EI ht I A J it dyn x1) A J it (Edyn ht I A J it dyn x1) (L_X5_next_r ht (EI ht I A J it dyn x1) A J it (Edyn ht I A J it dyn x1))) A J it (Edyn ht I A J it dyn x1) x1) A J it (Edyn ht (L_X5_skip_I ht (EI ht I A J it dyn x1) A J it (Edyn ht I A J it dyn x1) (L_X5_next_r ht (EI ht I A J it dyn x1) A J it (Edyn ht I A J it dyn x1))) A J it (Edyn ht I A J it dyn x1) x1) 58) = 0 then (Edyn ht (L_X5_skip_I ht (EI ht I A J it dyn x1) A J it (Edyn ht I A J it dyn x1) (L_X5_next_r ht (EI ht I A J it dyn x1) A J it (Edyn ht I A J it dyn x1))) A J it (Edyn ht I A J it dyn x1) x1) else (Edyn ht (L_X5_skip_I ht (EI ht (L_X5_skip_I ht (EI ht I A J it dyn x1) A J it (Edyn ht I A J it dyn x1) (L_X5_next_r ht (EI ht I A J it dyn x1) A J it (Edyn ht I A J it dyn x1))) A J it (Edyn ht I A J it dyn x1) x1) A J it (Edyn ht (L_X5_skip_I ht (EI ht I A J it dyn x1) A J it (Edyn ht I A J it dyn x1) (L_X5_next_r ht (EI ht I A J it dyn x1) A J it (Edyn ht I A J it dyn x1))) A J it (Edyn ht I A J it dyn x1) x1) 58) A J it (Edyn ht (L_X5_skip_I ht (EI ht I A J it dyn x1) A J it (Edyn ht I A J it dyn x1) (L_X5_next_r ht (EI ht I A J it dyn x1) A J it (Edyn ht I A J it dyn x1))) A J it (Edyn ht I A J it dyn x1) x1) x1)) else (if (L_X5_skip_r ht (if (L_X5_skip_r ht (EI ht (L_X5_skip_I ht (EI ht I A J it dyn x1) A J it (Edyn ht I A J it dyn x1) (L_X5_next_r ht (EI ht I A J it dyn x1) A J it (Edyn ht I A J it dyn x1))) A J it (Edyn ht I A J it dyn x1) x1) A J it (Edyn ht (L_X5_skip_I ht (EI ht I A J it dyn x1) A J it (Edyn ht I A J it dyn x1) (L_X5_next_r ht (EI ht I A J it dyn x1) A J it (Edyn ht I A J it dyn x1))) A J it (Edyn ht I A J it dyn x1) x1) 58) = 0 then (L_X5_skip_I ht (EI ht (L_X5_skip_I ht (EI ht I A J it dyn x1) A J it (Edyn ht I A J it dyn x1) (L_X5_next_r ht (EI ht I A J it dyn x1) A J it (Edyn ht I A J it dyn x1))) A J it (Edyn ht I A J it dyn x1) x1) A J it (Edyn ht (L_X5_skip_I ht (EI ht I A J it dyn x1) A J it (Edyn ht I A J it dyn x1) (L_X5_next_r ht (EI ht I A J it dyn x1) A J it (Edyn ht I A J it dyn x1))) A J it (Edyn ht I A J it dyn x1) x1) 58) else (EI ht (L_X5_skip_I ht (EI ht (L_X5_skip_I ht (EI ht I A J it dyn x1) A J it (Edyn ht I A J it dyn x1) (L_X5_next_r ht (EI ht I A J it dyn x1) A J it (Edyn ht I A J it dyn x1))) A J it (Edyn ht I A J it dyn x1) x1) A J it (Edyn ht (L_X5_skip_I ht (EI ht I A J it dyn x1) A J it (Edyn ht I A J it dyn x1) (L_X5_next_r ht (EI ht I A J it dyn x1) A J it (Edyn ht I A J it dyn x1))) A J it (Edyn ht I A J it dyn x1) x1) 58) A J it (Edyn ht (L_X5_skip_I ht (EI ht I A J it dyn x1) A J it (Edyn ht I A J it dyn x1) (L_X5_next_r ht (EI ht I A J it dyn x1) A J it (Edyn ht I A J it dyn x1))) A J it (Edyn ht I A J it dyn x1) x1) x1)) A J it (if (L_X5_skip_r ht (EI ht (L_X5_skip_I ht (EI ht I A J it dyn x1) A J it (Edyn ht I A J it dyn x1) (L_X5_next_r ht (EI ht I A J it dyn x1) A J it (Edyn ht I A J it dyn x1))) A J it (Edyn ht I A J it dyn x1) x1) A J it (Edyn ht (L_X5_skip_I ht (EI ht I A J it dyn x1) A J it (Edyn ht I A J it dyn x1) (L_X5_next_r ht (EI ht I A J it dyn x1) A J it (Edyn ht I A J it dyn x1))) A J it (Edyn ht I A J it dyn x1) x1) 58) = 0 then (Edyn ht (L_X5_skip_I ht (EI ht I A J it dyn x1) A J it (Edyn ht I A J it dyn x1) (L_X5_next_r ht (EI ht I A J it dyn x1) A J it (Edyn ht I A J it dyn x1))) A J it (Edyn ht I A J it dyn x1) x1) else (Edyn ht (L_X5_skip_I ht (EI ht (L_X5_skip_I ht (EI ht I A J it dyn x1) A J it (Edyn ht I A J it dyn x1) (L_X5_next_r ht (EI ht I A J it dyn x1) A J it (Edyn ht I A J it dyn x1))) A J it (Edyn ht I A J it dyn x1) x1) A J it (Edyn ht (L_X5_skip_I ht (EI ht I A J it dyn x1) A J it (Edyn ht I A J it dyn x1) (L_X5_next_r ht (EI ht I A J it dyn x1) A J it (Edyn ht I A J it dyn x1))) A J it (Edyn ht I A J it dyn x1) x1) 58) A J it (Edyn ht (L_X5_skip_I ht (EI ht I A J it dyn x1) A J it (Edyn ht I A J it dyn x1) (L_X5_next_r ht (EI ht I A J it dyn x1) A J it (Edyn ht I A J it dyn x1))) A J it (Edyn ht I A J it dyn x1) x1) x1)) 41) = 0 then (if (L_X5_skip_r ht (EI ht (L_X5_skip_I ht (EI ht I A J it dyn x1) A J it (Edyn ht I A J it dyn x1) (L_X5_next_r ht (EI ht I A J it dyn x1) A J it (Edyn ht I A J it dyn x1))) A J it (Edyn ht I A J it dyn x1) x1) A J it (Edyn ht (L_X5_skip_I ht (EI ht I A J it dyn x1) A J it (Edyn ht I A J it dyn x1) (L_X5_next_r ht (EI ht I A J it dyn x1) A J it (Edyn ht I A J it dyn x1))) A J it (Edyn ht I A J it dyn x1) x1) 58) = 0 then (Edyn ht (L_X5_skip_I ht (EI ht I A J it dyn x1) A J it (Edyn ht I A J it dyn x1) (L_X5_next_r ht (EI ht I A J it dyn x1) A J it (Edyn ht I A J it dyn x1))) A J it (Edyn ht I A J it dyn x1) x1) else (Edyn ht (L_X5_skip_I ht (EI ht (L_X5_skip_I ht (EI ht I A J it dyn x1) A J it (Edyn ht I A J it dyn x1) (L_X5_next_r ht (EI ht I A J it dyn x1) A J it (Edyn ht I A J it dyn x1))) A J it (Edyn ht I A J it dyn x1) x1) A J it (Edyn ht (L_X5_skip_I ht (EI ht I A J it dyn x1) A J it (Edyn ht I A J it dyn x1) (L_X5_next_r ht (EI ht I A J it dyn x1) A J it (Edyn ht I A J it dyn x1))) A J it (Edyn ht I A J it dyn x1) x1) 58) A J it (Edyn ht (L_X5_skip_I ht (EI ht I A J it dyn x1) A J it (Edyn ht I A J it dyn x1) (L_X5_next_r ht (EI ht I A J it dyn x1) A J it (Edyn ht I A J it dyn x1))) A J it (Edyn ht I A J it dyn x1) x1) x1)) else ((if (L_X5_skip_r ht (EI ht (L_X5_skip_I ht (EI ht I A J it dyn x1) A J it (Edyn ht I A J it dyn x1) (L_X5_next_r ht (EI ht I A J it dyn x1) A J it (Edyn ht I A J it dyn x1))) A J it (Edyn ht I A J it dyn x1) x1) A J it (Edyn ht (L_X5_skip_I ht (EI ht I A J it dyn x1) A J it (Edyn ht I A J it dyn x1) (L_X5_next_r ht (EI ht I A J it dyn x1) A J it (Edyn ht I A J it dyn x1))) A J it (Edyn ht I A J it dyn x1) x1) 58) = 0 then (Edyn ht (L_X5_skip_I ht (EI ht I A J it dyn x1) A J it (Edyn ht I A J it dyn x1) (L_X5_next_r ht (EI ht I A J it dyn x1) A J it (Edyn ht I A J it dyn x1))) A J it (Edyn ht I A J it dyn x1) x1) else (Edyn ht (L_X5_skip_I ht (EI ht (L_X5_skip_I ht (EI ht I A J it dyn x1) A J it (Edyn ht I A J it dyn x1) (L_X5_next_r ht (EI ht I A J it dyn x1) A J it (Edyn ht I A J it dyn x1))) A J it (Edyn ht I A J it dyn x1) x1) A J it (Edyn ht (L_X5_skip_I ht (EI ht I A J it dyn x1) A J it (Edyn ht I A J it dyn x1) (L_X5_next_r ht (EI ht I A J it dyn x1) A J it (Edyn ht I A J it dyn x1))) A J it (Edyn ht I A J it dyn x1) x1) 58) A J it (Edyn ht (L_X5_skip_I ht (EI ht I A J it dyn x1) A J it (Edyn ht I A J it dyn x1) (L_X5_next_r ht (EI ht I A J it dyn x1) A J it (Edyn ht I A J it dyn x1))) A J it (Edyn ht I A J it dyn x1) x1) x1)) ++ [some (.inr (3, [fsI (L_X5_next_r ht (EI ht I A J it dyn x1) A J it (Edyn ht I A J it dyn x1)), fsJ 0, fsI 0, fsR (Er ht I A J it dyn x1), fsR (Er ht (L_X5_skip_I ht (EI ht I A J it dyn x1) A J it (Edyn ht I A J it dyn x1) (L_X5_next_r ht (EI ht I A J it dyn x1) A J it (Edyn ht I A J it dyn x1))) A J it (Edyn ht I A J it dyn x1) x1), fsR (if (L_X5_skip_r ht (EI ht (L_X5_skip_I ht (EI ht I A J it dyn x1) A J it (Edyn ht I A J it dyn x1) (L_X5_next_r ht (EI ht I A J it dyn x1) A J it (Edyn ht I A J it dyn x1))) A J it (Edyn ht I A J it dyn x1) x1) A J it (Edyn ht (L_X5_skip_I ht (EI ht I A J it dyn x1) A J it (Edyn ht I A J it dyn x1) (L_X5_next_r ht (EI ht I A J it dyn x1) A J it (Edyn ht I A J it dyn x1))) A J it (Edyn ht I A J it dyn x1) x1) 58) = 0 then none else (Er ht (L_X5_skip_I ht (EI ht (L_X5_skip_I ht (EI ht I A J it dyn x1) A J it (Edyn ht I A J it dyn x1) (L_X5_next_r ht (EI ht I A J it dyn x1) A J it (Edyn ht I A J it dyn x1))) A J it (Edyn ht I A J it dyn x1) x1) A J it (Edyn ht (L_X5_skip_I ht (EI ht I A J it dyn x1) A J it (Edyn ht I A J it dyn x1) (L_X5_next_r ht (EI ht I A J it dyn x1) A J it (Edyn ht I A J it dyn x1))) A J it (Edyn ht I A J it dyn x1) x1) 58) A J it (Edyn ht (L_X5_skip_I ht (EI ht I A J it dyn x1) A J it (Edyn ht I A J it dyn x1) (L_X5_next_r ht (EI ht I A J it dyn x1) A J it (Edyn ht I A J it dyn x1))) A J it (Edyn ht I A J it dyn x1) x1) x1) : Option Nat), fsI (-1)]))]))) else (if (L_X5_skip_r ht (EI ht (L_X5_skip_I ht (EI ht I A J it dyn x1) A J it (Edyn ht I A J it dyn x1) (L_X5_next_r ht (EI ht I A J it dyn x1) A J it (Edyn ht I A J it dyn x1))) A J it (Edyn ht I A J it dyn x1) x1) A J it (Edyn ht (L_X5_skip_I ht (EI ht I A J it dyn x1) A J it (Edyn ht I A J it dyn x1) (L_X5_next_r ht (EI ht I A J it dyn x1) A J it (Edyn ht I A J it dyn x1))) A J it (Edyn ht I A J it dyn x1) x1) 41) = 0 then (Edyn ht (L_X5_skip_I ht (EI ht I A J it dyn x1) A J it (Edyn ht I A J it dyn x1) (L_X5_next_r ht (EI ht I A J it dyn x1) A J it (Edyn ht I A J it dyn x1))) A J it (Edyn ht I A J it dyn x1) x1) else ((Edyn ht (L_X5_skip_I ht (EI ht I A J it dyn x1) A J it (Edyn ht I A J it dyn x1) (L_X5_next_r ht (EI ht I A J it dyn x1) A J it (Edyn ht I A J it dyn x1))) A J it (Edyn ht I A J it dyn x1) x1) ++ [some (.inr (3, [fsI (L_X5_next_r ht (EI ht I A J it dyn x1) A J it (Edyn ht I A J it dyn x1)), fsJ 0, fsI 0, fsR (Er ht I A J it dyn x1), fsR (Er ht (L_X5_skip_I ht (EI ht I A J it dyn x1) A J it (Edyn ht I A J it dyn x1) (L_X5_next_r ht (EI ht I A J it dyn x1) A J it (Edyn ht I A J it dyn x1))) A J it (Edyn ht I A J it dyn x1) x1), fsR none, fsI (-1)]))])))))))
def S_X5_inBrackets (Er : Nat → (Nat → Int32) → (Nat → Nat → Int32) → (Nat → Nat → Int64) → (Nat → Option Nat) → fsH → Int32 → Option Nat) (EI : Nat → (Nat → Int32) → (Nat → Nat → Int32) → (Nat → Nat → Int64) → (Nat → Option Nat) → fsH → Int32 → Nat → Int32) (Edyn : Nat → (Nat → Int32) → (Nat → Nat → Int32) → (Nat → Nat → Int64) → (Nat → Option Nat) → fsH → Int32 → fsH) (ES : Nat → (Nat → Int32) → (Nat → Nat → Int32) → (Nat → Nat → Int64) → (Nat → Option Nat) → fsH → Int32 → Prop) (ht : Nat) (I : Nat → Int32) (A : Nat → Nat → Int32) (J : Nat → Nat → Int64) (it : Nat → Option Nat) (dyn : fsH) (x1 : Int32) : Prop := ((ES ht I A J it dyn x1) ∧ ((S_X5_next ht (EI ht I A J it dyn x1) A J it (Edyn ht I A J it dyn x1)) ∧ (¬ ((Er ht I A J it dyn x1) = none) → (¬ ((L_X5_isSign_r ht (EI ht I A J it dyn x1) A J it (Edyn ht I A J it dyn x1) (L_X5_next_r ht (EI ht I A J it dyn x1) A J it (Edyn ht I A J it dyn x1))) = 0) → ((S_X5_skip ht (EI ht I A J it dyn x1) A J it (Edyn ht I A J it dyn x1) (L_X5_next_r ht (EI ht I A J it dyn x1) A J it (Edyn ht I A J it dyn x1))) ∧ (¬ ((L_X5_skip_r ht (EI ht I A J it dyn x1) A J it (Edyn ht I A J it dyn x1) (L_X5_next_r ht (EI ht I A J it dyn x1) A J it (Edyn ht I A J it dyn x1))) = 0) → ((ES ht (L_X5_skip_I ht (EI ht I A J it dyn x1) A J it (Edyn ht I A J it dyn x1) (L_X5_next_r ht (EI ht I A J it dyn x1) A J it (Edyn ht I A J it dyn x1))) A J it (Edyn ht I A J it dyn x1) x1) ∧ (¬ ((Er ht (L_X5_skip_I ht (EI ht I A J it dyn x1) A J it (Edyn ht I A J it dyn x1) (L_X5_next_r ht (EI ht I A J it dyn x1) A J it (Edyn ht I A J it dyn x1))) A J it (Edyn ht I A J it dyn x1) x1) = none) → ((((L_X5_next_r ht (EI ht I A J it dyn x1) A J it (Edyn ht I A J it dyn x1)) = 63) → ((S_X5_skip ht (EI ht (L_X5_skip_I ht (EI ht I A J it dyn x1) A J it (Edyn ht I A J it dyn x1) (L_X5_next_r ht (EI ht I A J it dyn x1) A J it (Edyn ht I A J it dyn x1))) A J it (Edyn ht I A J it dyn x1) x1) A J it (Edyn ht (L_X5_skip_I ht (EI ht I A J it dyn x1) A J it (Edyn ht I A J it dyn x1) (L_X5_next_r ht (EI ht I A J it dyn x1) A J it (Edyn ht I A J it dyn x1))) A J it (Edyn ht I A J it dyn x1) x1) 58) ∧ ((¬ ((L_X5_skip_r ht (EI ht (L_X5_skip_I ht (EI ht I A J it dyn x1) A J it (Edyn ht I A J it dyn x1) (L_X5_next_r ht (EI ht I A J it dyn x1) A J it (Edyn ht I A J it dyn x1))) A J it (Edyn ht I A J it dyn x1) x1) A J it (Edyn ht (L_X5_skip_I ht (EI ht I A J it dyn x1) A J it (Edyn ht I A J it dyn x1) (L_X5_next_r ht (EI ht I A J it dyn x1) A J it (Edyn ht I A J it dyn x1))) A J it (Edyn ht I A J it dyn x1) x1) 58) = 0) → (ES ht (L_X5_skip_I ht (EI ht (L_X5_skip_I ht (EI ht I A J it dyn x1) A J it (Edyn ht I A J it dyn x1) (L_X5_next_r ht (EI ht I A J it dyn x1) A J it (Edyn ht I A J it dyn x1))) A J it (Edyn ht I A J it dyn x1) x1) A J it (Edyn ht (L_X5_skip_I ht (EI ht I A J it dyn x1) A J it (Edyn ht I A J it dyn x1) (L_X5_next_r ht (EI ht I A J it dyn x1) A J it (Edyn ht I A J it dyn x1))) A J it (Edyn ht I A J it dyn x1) x1) 58) A J it (Edyn ht (L_X5_skip_I ht (EI ht I A J it dyn x1) A J it (Edyn ht I A J it dyn x1) (L_X5_next_r ht (EI ht I A J it dyn x1) A J it (Edyn ht I A J it dyn x1))) A J it (Edyn ht I A J it dyn x1) x1) x1)) ∧ (¬ ((if (L_X5_skip_r ht (EI ht (L_X5_skip_I ht (EI ht I A J it dyn x1) A J it (Edyn ht I A J it dyn x1) (L_X5_next_r ht (EI ht I A J it dyn x1) A J it (Edyn ht I A J it dyn x1))) A J it (Edyn ht I A J it dyn x1) x1) A J it (Edyn ht (L_X5_skip_I ht (EI ht I A J it dyn x1) A J it (Edyn ht I A J it dyn x1) (L_X5_next_r ht (EI ht I A J it dyn x1) A J it (Edyn ht I A J it dyn x1))) A J it (Edyn ht I A J it dyn x1) x1) 58) = 0 then none else (Er ht (L_X5_skip_I ht (EI ht (L_X5_skip_I ht (EI ht I A J it dyn x1) A J it (Edyn ht I A J it dyn x1) (L_X5_next_r ht (EI ht I A J it dyn x1) A J it (Edyn ht I A J it dyn x1))) A J it (Edyn ht I A J it dyn x1) x1) A J it (Edyn ht (L_X5_skip_I ht (EI ht I A J it dyn x1) A J it (Edyn ht I A J it dyn x1) (L_X5_next_r ht (EI ht I A J it dyn x1) A J it (Edyn ht I A J it dyn x1))) A J it (Edyn ht I A J it dyn x1) x1) 58) A J it (Edyn ht (L_X5_skip_I ht (EI ht I A J it dyn x1) A J it (Edyn ht I A J it dyn x1) (L_X5_next_r ht (EI ht I A J it dyn x1) A J it (Edyn ht I A J it dyn x1))) A J it (Edyn ht I A J it dyn x1) x1) x1) : Option Nat) = none) → ((S_X5_skip ht (if (L_X5_skip_r ht (EI ht (L_X5_skip_I ht (EI ht I A J it dyn x1) A J it (Edyn ht I A J it dyn x1) (L_X5_next_r ht (EI ht I A J it dyn x1) A J it (Edyn ht I A J it dyn x1))) A J it (Edyn ht I A J it dyn x1) x1) A J it (Edyn ht (L_X5_skip_I ht (EI ht I A J it dyn x1) A J it (Edyn ht I A J it dyn x1) (L_X5_next_r ht (EI ht I A J it dyn x1) A J it (Edyn ht I A J it dyn x1))) A J it (Edyn ht I A J it dyn x1) x1) 58) = 0 then (L_X5_skip_I ht (EI ht (L_X5_skip_I ht (EI ht I A J it dyn x1) A J it (Edyn ht I A J it dyn x1) (L_X5_next_r ht (EI ht I A J it dyn x1) A J it (Edyn ht I A J it dyn x1))) A J it (Edyn ht I A J it dyn x1) x1) A J it (Edyn ht (L_X5_skip_I ht (EI ht I A J it dyn x1) A J it (Edyn ht I A J it dyn x1) (L_X5_next_r ht (EI ht I A J it dyn x1) A J it (Edyn ht I A J it dyn x1))) A J it (Edyn ht I A J it dyn x1) x1) 58) else (EI ht (L_X5_skip_I ht (EI ht (L_X5_skip_I ht (EI ht I A J it dyn x1) A J it (Edyn ht I A J it dyn x1) (L_X5_next_r ht (EI ht I A J it dyn x1) A J it (Edyn ht I A J it dyn x1))) A J it (Edyn ht I A J it dyn x1) x1) A J it (Edyn ht (L_X5_skip_I ht (EI ht I A J it dyn x1) A J it (Edyn ht I A J it dyn x1) (L_X5_next_r ht (EI ht I A J it dyn x1) A J it (Edyn ht I A J it dyn x1))) A J it (Edyn ht I A J it dyn x1) x1) 58) A J it (Edyn ht (L_X5_skip_I ht (EI ht I A J it dyn x1) A J it (Edyn ht I A J it dyn x1) (L_X5_next_r ht (EI ht I A J it dyn x1) A J it (Edyn ht I A J it dyn x1))) A J it (Edyn ht I A J it dyn x1) x1) x1)) A J it (if (L_X5_skip_r ht (EI ht (L_X5_skip_I ht (EI ht I A J it dyn x1) A J it (Edyn ht I A J it dyn x1) (L_X5_next_r ht (EI ht I A J it dyn x1) A J it (Edyn ht I A J it dyn x1))) A J it (Edyn ht I A J it dyn x1) x1) A J it (Edyn ht (L_X5_skip_I ht (EI ht I A J it dyn x1) A J it (Edyn ht I A J it dyn x1) (L_X5_next_r ht (EI ht I A J it dyn x1) A J it (Edyn ht I A J it dyn x1))) A J it (Edyn ht I A J it dyn x1) x1) 58) = 0 then (Edyn ht (L_X5_skip_I ht (EI ht I A J it dyn x1) A J it (Edyn ht I A J it dyn x1) (L_X5_next_r ht (EI ht I A J it dyn x1) A J it (Edyn ht I A J it dyn x1))) A J it (Edyn ht I A J it dyn x1) x1) else (Edyn ht (L_X5_skip_I ht (EI ht (L_X5_skip_I ht (EI ht I A J it dyn x1) A J it (Edyn ht I A J it dyn x1) (L_X5_next_r ht (EI ht I A J it dyn x1) A J it (Edyn ht I A J it dyn x1))) A J it (Edyn ht I A J it dyn x1) x1) A J it (Edyn ht (L_X5_skip_I ht (EI ht I A J it dyn x1) A J it (Edyn ht I A J it dyn x1) (L_X5_next_r ht (EI ht I A J it dyn x1) A J it (Edyn ht I A J it dyn x1))) A J it (Edyn ht I A J it dyn x1) x1) 58) A J it (Edyn ht (L_X5_skip_I ht (EI ht I A J it dyn x1) A J it (Edyn ht I A J it dyn x1) (L_X5_next_r ht (EI ht I A J it dyn x1) A J it (Edyn ht I A J it dyn x1))) A J it (Edyn ht I A J it dyn x1) x1) x1)) 41) ∧ (¬ ((L_X5_skip_r ht (if (L_X5_skip_r ht (EI ht (L_X5_skip_I ht (EI ht I A J it dyn x1) A J it (Edyn ht I A J it dyn x1) (L_X5_next_r ht (EI ht I A J it dyn x1) A J it (Edyn ht I A J it dyn x1))) A J it (Edyn ht I A J it dyn x1) x1) A J it (Edyn ht (L_X5_skip_I ht (EI ht I A J it dyn x1) A J it (Edyn ht I A J it dyn x1) (L_X5_next_r ht (EI ht I A J it dyn x1) A J it (Edyn ht I A J it dyn x1))) A J it (Edyn ht I A J it dyn x1) x1) 58) = 0 then (L_X5_skip_I ht (EI ht (L_X5_skip_I ht (EI ht I A J it dyn x1) A J it (Edyn ht I A J it dyn x1) (L_X5_next_r ht (EI ht I A J it dyn x1) A J it (Edyn ht I A J it dyn x1))) A J it (Edyn ht I A J it dyn x1) x1) A J it (Edyn ht (L_X5_skip_I ht (EI ht I A J it dyn x1) A J it (Edyn ht I A J it dyn x1) (L_X5_next_r ht (EI ht I A J it dyn x1) A J it (Edyn ht I A J it dyn x1))) A J it (Edyn ht I A J it dyn x1) x1) 58) else (EI ht (L_X5_skip_I ht (EI ht (L_X5_skip_I ht (EI ht I A J it dyn x1) A J it (Edyn ht I A J it dyn x1) (L_X5_next_r ht (EI ht I A J it dyn x1) A J it (Edyn ht I A J it dyn x1))) A J it (Edyn ht I A J it dyn x1) x1) A J it (Edyn ht (L_X5_skip_I ht (EI ht I A J it dyn x1) A J it (Edyn ht I A J it dyn x1) (L_X5_next_r ht (EI ht I A J it dyn x1) A J it (Edyn ht I A J it dyn x1))) A J it (Edyn ht I A J it dyn x1) x1) 58) A J it (Edyn ht (L_X5_skip_I ht (EI ht I A J it dyn x1) A J it (Edyn ht I A J it dyn x1) (L_X5_next_r ht (EI ht I A J it dyn x1) A J it (Edyn ht I A J it dyn x1))) A J it (Edyn ht I A J it dyn x1) x1) x1)) A J it (if (L_X5_skip_r ht (EI ht (L_X5_skip_I ht (EI ht I A J it dyn x1) A J it (Edyn ht I A J it dyn x1) (L_X5_next_r ht (EI ht I A J it dyn x1) A J it (Edyn ht I A J it dyn x1))) A J it (Edyn ht I A J it dyn x1) x1) A J it (Edyn ht (L_X5_skip_I ht (EI ht I A J it dyn x1) A J it (Edyn ht I A J it dyn x1) (L_X5_next_r ht (EI ht I A J it dyn x1) A J it (Edyn ht I A J it dyn x1))) A J it (Edyn ht I A J it dyn x1) x1) 58) = 0 then (Edyn ht (L_X5_skip_I ht (EI ht I A J it dyn x1) A J it (Edyn ht I A J it dyn x1) (L_X5_next_r ht (EI ht I A J it dyn x1) A J it (Edyn ht I A J it dyn x1))) A J it (Edyn ht I A J it dyn x1) x1) else (Edyn ht (L_X5_skip_I ht (EI ht (L_X5_skip_I ht (EI ht I A J it dyn x1) A J it (Edyn ht I A J it dyn x1) (L_X5_next_r ht (EI ht I A J it dyn x1) A J it (Edyn ht I A J it dyn x1))) A J it (Edyn ht I A J it dyn x1) x1) A J it (Edyn ht (L_X5_skip_I ht (EI ht I A J it dyn x1) A J it (Edyn ht I A J it dyn x1) (L_X5_next_r ht (EI ht I A J it dyn x1) A J it (Edyn ht I A J it dyn x1))) A J it (Edyn ht I A J it dyn x1) x1) 58) A J it (Edyn ht (L_X5_skip_I ht (EI ht I A J it dyn x1) A J it (Edyn ht I A J it dyn x1) (L_X5_next_r ht (EI ht I A J it dyn x1) A J it (Edyn ht I A J it dyn x1))) A J it (Edyn ht I A J it dyn x1) x1) x1)) 41) = 0) → (fs_chr (L_X5_next_r ht (EI ht I A J it dyn x1) A J it (Edyn ht I A J it dyn x1))))))))) ∧ (¬ ((L_X5_next_r ht (EI ht I A J it dyn x1) A J it (Edyn ht I A J it dyn x1)) = 63) → ((S_X5_skip ht (EI ht (L_X5_skip_I ht (EI ht I A J it dyn x1) A J it (Edyn ht I A J it dyn x1) (L_X5_next_r ht (EI ht I A J it dyn x1) A J it (Edyn ht I A J it dyn x1))) A J it (Edyn ht I A J it dyn x1) x1) A J it (Edyn ht (L_X5_skip_I ht (EI ht I A J it dyn x1) A J it (Edyn ht I A J it dyn x1) (L_X5_next_r ht (EI ht I A J it dyn x1) A J it (Edyn ht I A J it dyn x1))) A J it (Edyn ht I A J it dyn x1) x1) 41) ∧ (¬ ((L_X5_skip_r ht (EI ht (L_X5_skip_I ht (EI ht I A J it dyn x1) A J it (Edyn ht I A J it dyn x1) (L_X5_next_r ht (EI ht I A J it dyn x1) A J it (Edyn ht I A J it dyn x1))) A J it (Edyn ht I A J it dyn x1) x1) A J it (Edyn ht (L_X5_skip_I ht (EI ht I A J it dyn x1) A J it (Edyn ht I A J it dyn x1) (L_X5_next_r ht (EI ht I A J it dyn x1) A J it (Edyn ht I A J it dyn x1))) A J it (Edyn ht I A J it dyn x1) x1) 41) = 0) → (fs_chr (L_X5_next_r ht (EI ht I A J it dyn x1) A J it (Edyn ht I A J it dyn x1)))))))))))))))
set_option maxRecDepth 100000 in
set_option maxHeartbeats 4000000 in
theorem c_X5_inBrackets (G : fsG) (l : Launch) (Er : Nat → (Nat → Int32) → (Nat → Nat → Int32) → (Nat → Nat → Int64) → (Nat → Option Nat) → fsH → Int32 → Option Nat) (EI : Nat → (Nat → Int32) → (Nat → Nat → Int32) → (Nat → Nat → Int64) → (Nat → Option Nat) → fsH → Int32 → Nat → Int32) (Edyn : Nat → (Nat → Int32) → (Nat → Nat → Int32) → (Nat → Nat → Int64) → (Nat → Option Nat) → fsH → Int32 → fsH) (ES : Nat → (Nat → Int32) → (Nat → Nat → Int32) → (Nat → Nat → Int64) → (Nat → Option Nat) → fsH → Int32 → Prop) (dE mE : Nat) (hE : ∀ (ht : Nat) (I : Nat → Int32) (A : Nat → Nat → Int32) (J : Nat → Nat → Int64) (it : Nat → Option Nat) (dyn : fsH) (y1 : Int32), ES ht I A J it dyn y1 → fsFn G l mX5_expression dE mE (7 * mE) [.inr (.inr (some 1)), .inl y1] (fs_mk ht I A J it dyn) (some (.inr (.inr (Er ht I A J it dyn y1)))) (fs_mk ht (EI ht I A J it dyn y1) A J it (Edyn ht I A J it dyn y1))) (ht : Nat) (I : Nat → Int32) (A : Nat → Nat → Int32) (J : Nat → Nat → Int64) (it : Nat → Option Nat) (dyn : fsH) (x1 : Int32) (hS : S_X5_inBrackets Er EI Edyn ES ht I A J it dyn x1) : fsFn G l mX5_inBrackets (dE + 2) (1 + 3 * mE) (7 + 21 * mE) [.inr (.inr (some 1)), .inl x1] (fs_mk ht I A J it dyn) (some (.inr (.inr (L_X5_inBrackets_r Er EI Edyn ht I A J it dyn x1)))) (fs_mk ht (L_X5_inBrackets_I Er EI Edyn ht I A J it dyn x1) A J it (L_X5_inBrackets_dyn Er EI Edyn ht I A J it dyn x1)) := by
  refine fsMet_of (by decide) (Nat.le_of_ble_eq_true rfl) ?_
  generalize hQ : (fun (r1 : Option fsV) (h1 : fsH) => r1 = (some (.inr (.inr (L_X5_inBrackets_r Er EI Edyn ht I A J it dyn x1)))) ∧ h1 = (fs_mk ht (L_X5_inBrackets_I Er EI Edyn ht I A J it dyn x1) A J it (L_X5_inBrackets_dyn Er EI Edyn ht I A J it dyn x1))) = Q
  have hq : Q (some (.inr (.inr (L_X5_inBrackets_r Er EI Edyn ht I A J it dyn x1)))) (fs_mk ht (L_X5_inBrackets_I Er EI Edyn ht I A J it dyn x1) A J it (L_X5_inBrackets_dyn Er EI Edyn ht I A J it dyn x1)) := by rw [← hQ]; exact ⟨rfl, rfl⟩
  clear hQ
  have hq : Q (some (.inr (.inr (if (Er ht I A J it dyn x1) = none then none else (if (L_X5_isSign_r ht (EI ht I A J it dyn x1) A J it (Edyn ht I A J it dyn x1) (L_X5_next_r ht (EI ht I A J it dyn x1) A J it (Edyn ht I A J it dyn x1))) = 0 then none else (if (L_X5_skip_r ht (EI ht I A J it dyn x1) A J it (Edyn ht I A J it dyn x1) (L_X5_next_r ht (EI ht I A J it dyn x1) A J it (Edyn ht I A J it dyn x1))) = 0 then none else (if (Er ht (L_X5_skip_I ht (EI ht I A J it dyn x1) A J it (Edyn ht I A J it dyn x1) (L_X5_next_r ht (EI ht I A J it dyn x1) A J it (Edyn ht I A J it dyn x1))) A J it (Edyn ht I A J it dyn x1) x1) = none then none else (if (L_X5_next_r ht (EI ht I A J it dyn x1) A J it (Edyn ht I A J it dyn x1)) = 63 then (if (if (L_X5_skip_r ht (EI ht (L_X5_skip_I ht (EI ht I A J it dyn x1) A J it (Edyn ht I A J it dyn x1) (L_X5_next_r ht (EI ht I A J it dyn x1) A J it (Edyn ht I A J it dyn x1))) A J it (Edyn ht I A J it dyn x1) x1) A J it (Edyn ht (L_X5_skip_I ht (EI ht I A J it dyn x1) A J it (Edyn ht I A J it dyn x1) (L_X5_next_r ht (EI ht I A J it dyn x1) A J it (Edyn ht I A J it dyn x1))) A J it (Edyn ht I A J it dyn x1) x1) 58) = 0 then none else (Er ht (L_X5_skip_I ht (EI ht (L_X5_skip_I ht (EI ht I A J it dyn x1) A J it (Edyn ht I A J it dyn x1) (L_X5_next_r ht (EI ht I A J it dyn x1) A J it (Edyn ht I A J it dyn x1))) A J it (Edyn ht I A J it dyn x1) x1) A J it (Edyn ht (L_X5_skip_I ht (EI ht I A J it dyn x1) A J it (Edyn ht I A J it dyn x1) (L_X5_next_r ht (EI ht I A J it dyn x1) A J it (Edyn ht I A J it dyn x1))) A J it (Edyn ht I A J it dyn x1) x1) 58) A J it (Edyn ht (L_X5_skip_I ht (EI ht I A J it dyn x1) A J it (Edyn ht I A J it dyn x1) (L_X5_next_r ht (EI ht I A J it dyn x1) A J it (Edyn ht I A J it dyn x1))) A J it (Edyn ht I A J it dyn x1) x1) x1) : Option Nat) = none then none else (if (L_X5_skip_r ht (if (L_X5_skip_r ht (EI ht (L_X5_skip_I ht (EI ht I A J it dyn x1) A J it (Edyn ht I A J it dyn x1) (L_X5_next_r ht (EI ht I A J it dyn x1) A J it (Edyn ht I A J it dyn x1))) A J it (Edyn ht I A J it dyn x1) x1) A J it (Edyn ht (L_X5_skip_I ht (EI ht I A J it dyn x1) A J it (Edyn ht I A J it dyn x1) (L_X5_next_r ht (EI ht I A J it dyn x1) A J it (Edyn ht I A J it dyn x1))) A J it (Edyn ht I A J it dyn x1) x1) 58) = 0 then (L_X5_skip_I ht (EI ht (L_X5_skip_I ht (EI ht I A J it dyn x1) A J it (Edyn ht I A J it dyn x1) (L_X5_next_r ht (EI ht I A J it dyn x1) A J it (Edyn ht I A J it dyn x1))) A J it (Edyn ht I A J it dyn x1) x1) A J it (Edyn ht (L_X5_skip_I ht (EI ht I A J it dyn x1) A J it (Edyn ht I A J it dyn x1) (L_X5_next_r ht (EI ht I A J it dyn x1) A J it (Edyn ht I A J it dyn x1))) A J it (Edyn ht I A J it dyn x1) x1) 58) else (EI ht (L_X5_skip_I ht (EI ht (L_X5_skip_I ht (EI ht I A J it dyn x1) A J it (Edyn ht I A J it dyn x1) (L_X5_next_r ht (EI ht I A J it dyn x1) A J it (Edyn ht I A J it dyn x1))) A J it (Edyn ht I A J it dyn x1) x1) A J it (Edyn ht (L_X5_skip_I ht (EI ht I A J it dyn x1) A J it (Edyn ht I A J it dyn x1) (L_X5_next_r ht (EI ht I A J it dyn x1) A J it (Edyn ht I A J it dyn x1))) A J it (Edyn ht I A J it dyn x1) x1) 58) A J it (Edyn ht (L_X5_skip_I ht (EI ht I A J it dyn x1) A J it (Edyn ht I A J it dyn x1) (L_X5_next_r ht (EI ht I A J it dyn x1) A J it (Edyn ht I A J it dyn x1))) A J it (Edyn ht I A J it dyn x1) x1) x1)) A J it (if (L_X5_skip_r ht (EI ht (L_X5_skip_I ht (EI ht I A J it dyn x1) A J it (Edyn ht I A J it dyn x1) (L_X5_next_r ht (EI ht I A J it dyn x1) A J it (Edyn ht I A J it dyn x1))) A J it (Edyn ht I A J it dyn x1) x1) A J it (Edyn ht (L_X5_skip_I ht (EI ht I A J it dyn x1) A J it (Edyn ht I A J it dyn x1) (L_X5_next_r ht (EI ht I A J it dyn x1) A J it (Edyn ht I A J it dyn x1))) A J it (Edyn ht I A J it dyn x1) x1) 58) = 0 then (Edyn ht (L_X5_skip_I ht (EI ht I A J it dyn x1) A J it (Edyn ht I A J it dyn x1) (L_X5_next_r ht (EI ht I A J it dyn x1) A J it (Edyn ht I A J it dyn x1))) A J it (Edyn ht I A J it dyn x1) x1) else (Edyn ht (L_X5_skip_I ht (EI ht (L_X5_skip_I ht (EI ht I A J it dyn x1) A J it (Edyn ht I A J it dyn x1) (L_X5_next_r ht (EI ht I A J it dyn x1) A J it (Edyn ht I A J it dyn x1))) A J it (Edyn ht I A J it dyn x1) x1) A J it (Edyn ht (L_X5_skip_I ht (EI ht I A J it dyn x1) A J it (Edyn ht I A J it dyn x1) (L_X5_next_r ht (EI ht I A J it dyn x1) A J it (Edyn ht I A J it dyn x1))) A J it (Edyn ht I A J it dyn x1) x1) 58) A J it (Edyn ht (L_X5_skip_I ht (EI ht I A J it dyn x1) A J it (Edyn ht I A J it dyn x1) (L_X5_next_r ht (EI ht I A J it dyn x1) A J it (Edyn ht I A J it dyn x1))) A J it (Edyn ht I A J it dyn x1) x1) x1)) 41) = 0 then none else (some ((if (L_X5_skip_r ht (EI ht (L_X5_skip_I ht (EI ht I A J it dyn x1) A J it (Edyn ht I A J it dyn x1) (L_X5_next_r ht (EI ht I A J it dyn x1) A J it (Edyn ht I A J it dyn x1))) A J it (Edyn ht I A J it dyn x1) x1) A J it (Edyn ht (L_X5_skip_I ht (EI ht I A J it dyn x1) A J it (Edyn ht I A J it dyn x1) (L_X5_next_r ht (EI ht I A J it dyn x1) A J it (Edyn ht I A J it dyn x1))) A J it (Edyn ht I A J it dyn x1) x1) 58) = 0 then (Edyn ht (L_X5_skip_I ht (EI ht I A J it dyn x1) A J it (Edyn ht I A J it dyn x1) (L_X5_next_r ht (EI ht I A J it dyn x1) A J it (Edyn ht I A J it dyn x1))) A J it (Edyn ht I A J it dyn x1) x1) else (Edyn ht (L_X5_skip_I ht (EI ht (L_X5_skip_I ht (EI ht I A J it dyn x1) A J it (Edyn ht I A J it dyn x1) (L_X5_next_r ht (EI ht I A J it dyn x1) A J it (Edyn ht I A J it dyn x1))) A J it (Edyn ht I A J it dyn x1) x1) A J it (Edyn ht (L_X5_skip_I ht (EI ht I A J it dyn x1) A J it (Edyn ht I A J it dyn x1) (L_X5_next_r ht (EI ht I A J it dyn x1) A J it (Edyn ht I A J it dyn x1))) A J it (Edyn ht I A J it dyn x1) x1) 58) A J it (Edyn ht (L_X5_skip_I ht (EI ht I A J it dyn x1) A J it (Edyn ht I A J it dyn x1) (L_X5_next_r ht (EI ht I A J it dyn x1) A J it (Edyn ht I A J it dyn x1))) A J it (Edyn ht I A J it dyn x1) x1) x1)).length + 41)) : Option Nat) : Option Nat) else (if (L_X5_skip_r ht (EI ht (L_X5_skip_I ht (EI ht I A J it dyn x1) A J it (Edyn ht I A J it dyn x1) (L_X5_next_r ht (EI ht I A J it dyn x1) A J it (Edyn ht I A J it dyn x1))) A J it (Edyn ht I A J it dyn x1) x1) A J it (Edyn ht (L_X5_skip_I ht (EI ht I A J it dyn x1) A J it (Edyn ht I A J it dyn x1) (L_X5_next_r ht (EI ht I A J it dyn x1) A J it (Edyn ht I A J it dyn x1))) A J it (Edyn ht I A J it dyn x1) x1) 41) = 0 then none else (some ((Edyn ht (L_X5_skip_I ht (EI ht I A J it dyn x1) A J it (Edyn ht I A J it dyn x1) (L_X5_next_r ht (EI ht I A J it dyn x1) A J it (Edyn ht I A J it dyn x1))) A J it (Edyn ht I A J it dyn x1) x1).length + 41)) : Option Nat) : Option Nat) : Option Nat) : Option Nat) : Option Nat) : Option Nat)))) (fs_mk ht (if (Er ht I A J it dyn x1) = none then (EI ht I A J it dyn x1) else (if (L_X5_isSign_r ht (EI ht I A J it dyn x1) A J it (Edyn ht I A J it dyn x1) (L_X5_next_r ht (EI ht I A J it dyn x1) A J it (Edyn ht I A J it dyn x1))) = 0 then (EI ht I A J it dyn x1) else (if (L_X5_skip_r ht (EI ht I A J it dyn x1) A J it (Edyn ht I A J it dyn x1) (L_X5_next_r ht (EI ht I A J it dyn x1) A J it (Edyn ht I A J it dyn x1))) = 0 then (L_X5_skip_I ht (EI ht I A J it dyn x1) A J it (Edyn ht I A J it dyn x1) (L_X5_next_r ht (EI ht I A J it dyn x1) A J it (Edyn ht I A J it dyn x1))) else (if (Er ht (L_X5_skip_I ht (EI ht I A J it dyn x1) A J it (Edyn ht I A J it dyn x1) (L_X5_next_r ht (EI ht I A J it dyn x1) A J it (Edyn ht I A J it dyn x1))) A J it (Edyn ht I A J it dyn x1) x1) = none then (EI ht (L_X5_skip_I ht (EI ht I A J it dyn x1) A J it (Edyn ht I A J it dyn x1) (L_X5_next_r ht (EI ht I A J it dyn x1) A J it (Edyn ht I A J it dyn x1))) A J it (Edyn ht I A J it dyn x1) x1) else (if (L_X5_next_r ht (EI ht I A J it dyn x1) A J it (Edyn ht I A J it dyn x1)) = 63 then (if (if (L_X5_skip_r ht (EI ht (L_X5_skip_I ht (EI ht I A J it dyn x1) A J it (Edyn ht I A J it dyn x1) (L_X5_next_r ht (EI ht I A J it dyn x1) A J it (Edyn ht I A J it dyn x1))) A J it (Edyn ht I A J it dyn x1) x1) A J it (Edyn ht (L_X5_skip_I ht (EI ht I A J it dyn x1) A J it (Edyn ht I A J it dyn x1) (L_X5_next_r ht (EI ht I A J it dyn x1) A J it (Edyn ht I A J it dyn x1))) A J it (Edyn ht I A J it dyn x1) x1) 58) = 0 then none else (Er ht (L_X5_skip_I ht (EI ht (L_X5_skip_I ht (EI ht I A J it dyn x1) A J it (Edyn ht I A J it dyn x1) (L_X5_next_r ht (EI ht I A J it dyn x1) A J it (Edyn ht I A J it dyn x1))) A J it (Edyn ht I A J it dyn x1) x1) A J it (Edyn ht (L_X5_skip_I ht (EI ht I A J it dyn x1) A J it (Edyn ht I A J it dyn x1) (L_X5_next_r ht (EI ht I A J it dyn x1) A J it (Edyn ht I A J it dyn x1))) A J it (Edyn ht I A J it dyn x1) x1) 58) A J it (Edyn ht (L_X5_skip_I ht (EI ht I A J it dyn x1) A J it (Edyn ht I A J it dyn x1) (L_X5_next_r ht (EI ht I A J it dyn x1) A J it (Edyn ht I A J it dyn x1))) A J it (Edyn ht I A J it dyn x1) x1) x1) : Option Nat) = none then (if (L_X5_skip_r ht (EI ht (L_X5_skip_I ht (EI ht I A J it dyn x1) A J it (Edyn ht I A J it dyn x1) (L_X5_next_r ht (EI ht I A J it dyn x1) A J it (Edyn ht I A J it dyn x1))) A J it (Edyn ht I A J it dyn x1) x1) A J it (Edyn ht (L_X5_skip_I ht (EI ht I A J it dyn x1) A J it (Edyn ht I A J it dyn x1) (L_X5_next_r ht (EI ht I A J it dyn x1) A J it (Edyn ht I A J it dyn x1))) A J it (Edyn ht I A J it dyn x1) x1) 58) = 0 then (L_X5_skip_I ht (EI ht (L_X5_skip_I ht (EI ht I A J it dyn x1) A J it (Edyn ht I A J it dyn x1) (L_X5_next_r ht (EI ht I A J it dyn x1) A J it (Edyn ht I A J it dyn x1))) A J it (Edyn ht I A J it dyn x1) x1) A J it (Edyn ht (L_X5_skip_I ht (EI ht I A J it dyn x1) A J it (Edyn ht I A J it dyn x1) (L_X5_next_r ht (EI ht I A J it dyn x1) A J it (Edyn ht I A J it dyn x1))) A J it (Edyn ht I A J it dyn x1) x1) 58) else (EI ht (L_X5_skip_I ht (EI ht (L_X5_skip_I ht (EI ht I A J it dyn x1) A J it (Edyn ht I A J it dyn x1) (L_X5_next_r ht (EI ht I A J it dyn x1) A J it (Edyn ht I A J it dyn x1))) A J it (Edyn ht I A J it dyn x1) x1) A J it (Edyn ht (L_X5_skip_I ht (EI ht I A J it dyn x1) A J it (Edyn ht I A J it dyn x1) (L_X5_next_r ht (EI ht I A J it dyn x1) A J it (Edyn ht I A J it dyn x1))) A J it (Edyn ht I A J it dyn x1) x1) 58) A J it (Edyn ht (L_X5_skip_I ht (EI ht I A J it dyn x1) A J it (Edyn ht I A J it dyn x1) (L_X5_next_r ht (EI ht I A J it dyn x1) A J it (Edyn ht I A J it dyn x1))) A J it (Edyn ht I A J it dyn x1) x1) x1)) else (L_X5_skip_I ht (if (L_X5_skip_r ht (EI ht (L_X5_skip_I ht (EI ht I A J it dyn x1) A J it (Edyn ht I A J it dyn x1) (L_X5_next_r ht (EI ht I A J it dyn x1) A J it (Edyn ht I A J it dyn x1))) A J it (Edyn ht I A J it dyn x1) x1) A J it (Edyn ht (L_X5_skip_I ht (EI ht I A J it dyn x1) A J it (Edyn ht I A J it dyn x1) (L_X5_next_r ht (EI ht I A J it dyn x1) A J it (Edyn ht I A J it dyn x1))) A J it (Edyn ht I A J it dyn x1) x1) 58) = 0 then (L_X5_skip_I ht (EI ht (L_X5_skip_I ht (EI ht I A J it dyn x1) A J it (Edyn ht I A J it dyn x1) (L_X5_next_r ht (EI ht I A J it dyn x1) A J it (Edyn ht I A J it dyn x1))) A J it (Edyn ht I A J it dyn x1) x1) A J it (Edyn ht (L_X5_skip_I ht (EI ht I A J it dyn x1) A J it (Edyn ht I A J it dyn x1) (L_X5_next_r ht (EI ht I A J it dyn x1) A J it (Edyn ht I A J it dyn x1))) A J it (Edyn ht I A J it dyn x1) x1) 58) else (EI ht (L_X5_skip_I ht (EI ht (L_X5_skip_I ht (EI ht I A J it dyn x1) A J it (Edyn ht I A J it dyn x1) (L_X5_next_r ht (EI ht I A J it dyn x1) A J it (Edyn ht I A J it dyn x1))) A J it (Edyn ht I A J it dyn x1) x1) A J it (Edyn ht (L_X5_skip_I ht (EI ht I A J it dyn x1) A J it (Edyn ht I A J it dyn x1) (L_X5_next_r ht (EI ht I A J it dyn x1) A J it (Edyn ht I A J it dyn x1))) A J it (Edyn ht I A J it dyn x1) x1) 58) A J it (Edyn ht (L_X5_skip_I ht (EI ht I A J it dyn x1) A J it (Edyn ht I A J it dyn x1) (L_X5_next_r ht (EI ht I A J it dyn x1) A J it (Edyn ht I A J it dyn x1))) A J it (Edyn ht I A J it dyn x1) x1) x1)) A J it (if (L_X5_skip_r ht (EI ht (L_X5_skip_I ht (EI ht I A J it dyn x1) A J it (Edyn ht I A J it dyn x1) (L_X5_next_r ht (EI ht I A J it dyn x1) A J it (Edyn ht I A J it dyn x1))) A J it (Edyn ht I A J it dyn x1) x1) A J it (Edyn ht (L_X5_skip_I ht (EI ht I A J it dyn x1) A J it (Edyn ht I A J it dyn x1) (L_X5_next_r ht (EI ht I A J it dyn x1) A J it (Edyn ht I A J it dyn x1))) A J it (Edyn ht I A J it dyn x1) x1) 58) = 0 then (Edyn ht (L_X5_skip_I ht (EI ht I A J it dyn x1) A J it (Edyn ht I A J it dyn x1) (L_X5_next_r ht (EI ht I A J it dyn x1) A J it (Edyn ht I A J it dyn x1))) A J it (Edyn ht I A J it dyn x1) x1) else (Edyn ht (L_X5_skip_I ht (EI ht (L_X5_skip_I ht (EI ht I A J it dyn x1) A J it (Edyn ht I A J it dyn x1) (L_X5_next_r ht (EI ht I A J it dyn x1) A J it (Edyn ht I A J it dyn x1))) A J it (Edyn ht I A J it dyn x1) x1) A J it (Edyn ht (L_X5_skip_I ht (EI ht I A J it dyn x1) A J it (Edyn ht I A J it dyn x1) (L_X5_next_r ht (EI ht I A J it dyn x1) A J it (Edyn ht I A J it dyn x1))) A J it (Edyn ht I A J it dyn x1) x1) 58) A J it (Edyn ht (L_X5_skip_I ht (EI ht I A J it dyn x1) A J it (Edyn ht I A J it dyn x1) (L_X5_next_r ht (EI ht I A J it dyn x1) A J it (Edyn ht I A J it dyn x1))) A J it (Edyn ht I A J it dyn x1) x1) x1)) 41)) else (L_X5_skip_I ht (EI ht (L_X5_skip_I ht (EI ht I A J it dyn x1) A J it (Edyn ht I A J it dyn x1) (L_X5_next_r ht (EI ht I A J it dyn x1) A J it (Edyn ht I A J it dyn x1))) A J it (Edyn ht I A J it dyn x1) x1) A J it (Edyn ht (L_X5_skip_I ht (EI ht I A J it dyn x1) A J it (Edyn ht I A J it dyn x1) (L_X5_next_r ht (EI ht I A J it dyn x1) A J it (Edyn ht I A J it dyn x1))) A J it (Edyn ht I A J it dyn x1) x1) 41)))))) A J it (if (Er ht I A J it dyn x1) = none then (Edyn ht I A J it dyn x1) else (if (L_X5_isSign_r ht (EI ht I A J it dyn x1) A J it (Edyn ht I A J it dyn x1) (L_X5_next_r ht (EI ht I A J it dyn x1) A J it (Edyn ht I A J it dyn x1))) = 0 then (Edyn ht I A J it dyn x1) else (if (L_X5_skip_r ht (EI ht I A J it dyn x1) A J it (Edyn ht I A J it dyn x1) (L_X5_next_r ht (EI ht I A J it dyn x1) A J it (Edyn ht I A J it dyn x1))) = 0 then (Edyn ht I A J it dyn x1) else (if (Er ht (L_X5_skip_I ht (EI ht I A J it dyn x1) A J it (Edyn ht I A J it dyn x1) (L_X5_next_r ht (EI ht I A J it dyn x1) A J it (Edyn ht I A J it dyn x1))) A J it (Edyn ht I A J it dyn x1) x1) = none then (Edyn ht (L_X5_skip_I ht (EI ht I A J it dyn x1) A J it (Edyn ht I A J it dyn x1) (L_X5_next_r ht (EI ht I A J it dyn x1) A J it (Edyn ht I A J it dyn x1))) A J it (Edyn ht I A J it dyn x1) x1) else (if (L_X5_next_r ht (EI ht I A J it dyn x1) A J it (Edyn ht I A J it dyn x1)) = 63 then (if (if (L_X5_skip_r ht (EI ht (L_X5_skip_I ht (EI ht I A J it dyn x1) A J it (Edyn ht I A J it dyn x1) (L_X5_next_r ht (EI ht I A J it dyn x1) A J it (Edyn ht I A J it dyn x1))) A J it (Edyn ht I A J it dyn x1) x1) A J it (Edyn ht (L_X5_skip_I ht (EI ht I A J it dyn x1) A J it (Edyn ht I A J it dyn x1) (L_X5_next_r ht (EI ht I A J it dyn x1) A J it (Edyn ht I A J it dyn x1))) A J it (Edyn ht I A J it dyn x1) x1) 58) = 0 then none else (Er ht (L_X5_skip_I ht (EI ht (L_X5_skip_I ht (EI ht I A J it dyn x1) A J it (Edyn ht I A J it dyn x1) (L_X5_next_r ht (EI ht I A J it dyn x1) A J it (Edyn ht I A J it dyn x1))) A J it (Edyn ht I A J it dyn x1) x1) A J it (Edyn ht (L_X5_skip_I ht (EI ht I A J it dyn x1) A J it (Edyn ht I A J it dyn x1) (L_X5_next_r ht (EI ht I A J it dyn x1) A J it (Edyn ht I A J it dyn x1))) A J it (Edyn ht I A J it dyn x1) x1) 58) A J it (Edyn ht (L_X5_skip_I ht (EI ht I A J it dyn x1) A J it (Edyn ht I A J it dyn x1) (L_X5_next_r ht (EI ht I A J it dyn x1) A J it (Edyn ht I A J it dyn x1))) A J it (Edyn ht I A J it dyn x1) x1) x1) : Option Nat) = none then (if (L_X5_skip_r ht (EI ht (L_X5_skip_I ht (EI ht I A J it dyn x1) A J it (Edyn ht I A J it dyn x1) (L_X5_next_r ht (EI ht I A J it dyn x1) A J it (Edyn ht I A J it dyn x1))) A J it (Edyn ht I A J it dyn x1) x1) A J it (Edyn ht (L_X5_skip_I ht (EI ht I A J it dyn x1) A J it (Edyn ht I A J it dyn x1) (L_X5_next_r ht (EI ht I A J it dyn x1) A J it (Edyn ht I A J it dyn x1))) A J it (Edyn ht I A J it dyn x1) x1) 58) = 0 then (Edyn ht (L_X5_skip_I ht (EI ht I A J it dyn x1) A J it (Edyn ht I A J it dyn x1) (L_X5_next_r ht (EI ht I A J it dyn x1) A J it (Edyn ht I A J it dyn x1))) A J it (Edyn ht I A J it dyn x1) x1) else (Edyn ht (L_X5_skip_I ht (EI ht (L_X5_skip_I ht (EI ht I A J it dyn x1) A J it (Edyn ht I A J it dyn x1) (L_X5_next_r ht (EI ht I A J it dyn x1) A J it (Edyn ht I A J it dyn x1))) A J it (Edyn ht I A J it dyn x1) x1) A J it (Edyn ht (L_X5_skip_I ht (EI ht I A J it dyn x1) A J it (Edyn ht I A J it dyn x1) (L_X5_next_r ht (EI ht I A J it dyn x1) A J it (Edyn ht I A J it dyn x1))) A J it (Edyn ht I A J it dyn x1) x1) 58) A J it (Edyn ht (L_X5_skip_I ht (EI ht I A J it dyn x1) A J it (Edyn ht I A J it dyn x1) (L_X5_next_r ht (EI ht I A J it dyn x1) A J it (Edyn ht I A J it dyn x1))) A J it (Edyn ht I A J it dyn x1) x1) x1)) else (if (L_X5_skip_r ht (if (L_X5_skip_r ht (EI ht (L_X5_skip_I ht (EI ht I A J it dyn x1) A J it (Edyn ht I A J it dyn x1) (L_X5_next_r ht (EI ht I A J it dyn x1) A J it (Edyn ht I A J it dyn x1))) A J it (Edyn ht I A J it dyn x1) x1) A J it (Edyn ht (L_X5_skip_I ht (EI ht I A J it dyn x1) A J it (Edyn ht I A J it dyn x1) (L_X5_next_r ht (EI ht I A J it dyn x1) A J it (Edyn ht I A J it dyn x1))) A J it (Edyn ht I A J it dyn x1) x1) 58) = 0 then (L_X5_skip_I ht (EI ht (L_X5_skip_I ht (EI ht I A J it dyn x1) A J it (Edyn ht I A J it dyn x1) (L_X5_next_r ht (EI ht I A J it dyn x1) A J it (Edyn ht I A J it dyn x1))) A J it (Edyn ht I A J it dyn x1) x1) A J it (Edyn ht (L_X5_skip_I ht (EI ht I A J it dyn x1) A J it (Edyn ht I A J it dyn x1) (L_X5_next_r ht (EI ht I A J it dyn x1) A J it (Edyn ht I A J it dyn x1))) A J it (Edyn ht I A J it dyn x1) x1) 58) else (EI ht (L_X5_skip_I ht (EI ht (L_X5_skip_I ht (EI ht I A J it dyn x1) A J it (Edyn ht I A J it dyn x1) (L_X5_next_r ht (EI ht I A J it dyn x1) A J it (Edyn ht I A J it dyn x1))) A J it (Edyn ht I A J it dyn x1) x1) A J it (Edyn ht (L_X5_skip_I ht (EI ht I A J it dyn x1) A J it (Edyn ht I A J it dyn x1) (L_X5_next_r ht (EI ht I A J it dyn x1) A J it (Edyn ht I A J it dyn x1))) A J it (Edyn ht I A J it dyn x1) x1) 58) A J it (Edyn ht (L_X5_skip_I ht (EI ht I A J it dyn x1) A J it (Edyn ht I A J it dyn x1) (L_X5_next_r ht (EI ht I A J it dyn x1) A J it (Edyn ht I A J it dyn x1))) A J it (Edyn ht I A J it dyn x1) x1) x1)) A J it (if (L_X5_skip_r ht (EI ht (L_X5_skip_I ht (EI ht I A J it dyn x1) A J it (Edyn ht I A J it dyn x1) (L_X5_next_r ht (EI ht I A J it dyn x1) A J it (Edyn ht I A J it dyn x1))) A J it (Edyn ht I A J it dyn x1) x1) A J it (Edyn ht (L_X5_skip_I ht (EI ht I A J it dyn x1) A J it (Edyn ht I A J it dyn x1) (L_X5_next_r ht (EI ht I A J it dyn x1) A J it (Edyn ht I A J it dyn x1))) A J it (Edyn ht I A J it dyn x1) x1) 58) = 0 then (Edyn ht (L_X5_skip_I ht (EI ht I A J it dyn x1) A J it (Edyn ht I A J it dyn x1) (L_X5_next_r ht (EI ht I A J it dyn x1) A J it (Edyn ht I A J it dyn x1))) A J it (Edyn ht I A J it dyn x1) x1) else (Edyn ht (L_X5_skip_I ht (EI ht (L_X5_skip_I ht (EI ht I A J it dyn x1) A J it (Edyn ht I A J it dyn x1) (L_X5_next_r ht (EI ht I A J it dyn x1) A J it (Edyn ht I A J it dyn x1))) A J it (Edyn ht I A J it dyn x1) x1) A J it (Edyn ht (L_X5_skip_I ht (EI ht I A J it dyn x1) A J it (Edyn ht I A J it dyn x1) (L_X5_next_r ht (EI ht I A J it dyn x1) A J it (Edyn ht I A J it dyn x1))) A J it (Edyn ht I A J it dyn x1) x1) 58) A J it (Edyn ht (L_X5_skip_I ht (EI ht I A J it dyn x1) A J it (Edyn ht I A J it dyn x1) (L_X5_next_r ht (EI ht I A J it dyn x1) A J it (Edyn ht I A J it dyn x1))) A J it (Edyn ht I A J it dyn x1) x1) x1)) 41) = 0 then (if (L_X5_skip_r ht (EI ht (L_X5_skip_I ht (EI ht I A J it dyn x1) A J it (Edyn ht I A J it dyn x1) (L_X5_next_r ht (EI ht I A J it dyn x1) A J it (Edyn ht I A J it dyn x1))) A J it (Edyn ht I A J it dyn x1) x1) A J it (Edyn ht (L_X5_skip_I ht (EI ht I A J it dyn x1) A J it (Edyn ht I A J it dyn x1) (L_X5_next_r ht (EI ht I A J it dyn x1) A J it (Edyn ht I A J it dyn x1))) A J it (Edyn ht I A J it dyn x1) x1) 58) = 0 then (Edyn ht (L_X5_skip_I ht (EI ht I A J it dyn x1) A J it (Edyn ht I A J it dyn x1) (L_X5_next_r ht (EI ht I A J it dyn x1) A J it (Edyn ht I A J it dyn x1))) A J it (Edyn ht I A J it dyn x1) x1) else (Edyn ht (L_X5_skip_I ht (EI ht (L_X5_skip_I ht (EI ht I A J it dyn x1) A J it (Edyn ht I A J it dyn x1) (L_X5_next_r ht (EI ht I A J it dyn x1) A J it (Edyn ht I A J it dyn x1))) A J it (Edyn ht I A J it dyn x1) x1) A J it (Edyn ht (L_X5_skip_I ht (EI ht I A J it dyn x1) A J it (Edyn ht I A J it dyn x1) (L_X5_next_r ht (EI ht I A J it dyn x1) A J it (Edyn ht I A J it dyn x1))) A J it (Edyn ht I A J it dyn x1) x1) 58) A J it (Edyn ht (L_X5_skip_I ht (EI ht I A J it dyn x1) A J it (Edyn ht I A J it dyn x1) (L_X5_next_r ht (EI ht I A J it dyn x1) A J it (Edyn ht I A J it dyn x1))) A J it (Edyn ht I A J it dyn x1) x1) x1)) else ((if (L_X5_skip_r ht (EI ht (L_X5_skip_I ht (EI ht I A J it dyn x1) A J it (Edyn ht I A J it dyn x1) (L_X5_next_r ht (EI ht I A J it dyn x1) A J it (Edyn ht I A J it dyn x1))) A J it (Edyn ht I A J it dyn x1) x1) A J it (Edyn ht (L_X5_skip_I ht (EI ht I A J it dyn x1) A J it (Edyn ht I A J it dyn x1) (L_X5_next_r ht (EI ht I A J it dyn x1) A J it (Edyn ht I A J it dyn x1))) A J it (Edyn ht I A J it dyn x1) x1) 58) = 0 then (Edyn ht (L_X5_skip_I ht (EI ht I A J it dyn x1) A J it (Edyn ht I A J it dyn x1) (L_X5_next_r ht (EI ht I A J it dyn x1) A J it (Edyn ht I A J it dyn x1))) A J it (Edyn ht I A J it dyn x1) x1) else (Edyn ht (L_X5_skip_I ht (EI ht (L_X5_skip_I ht (EI ht I A J it dyn x1) A J it (Edyn ht I A J it dyn x1) (L_X5_next_r ht (EI ht I A J it dyn x1) A J it (Edyn ht I A J it dyn x1))) A J it (Edyn ht I A J it dyn x1) x1) A J it (Edyn ht (L_X5_skip_I ht (EI ht I A J it dyn x1) A J it (Edyn ht I A J it dyn x1) (L_X5_next_r ht (EI ht I A J it dyn x1) A J it (Edyn ht I A J it dyn x1))) A J it (Edyn ht I A J it dyn x1) x1) 58) A J it (Edyn ht (L_X5_skip_I ht (EI ht I A J it dyn x1) A J it (Edyn ht I A J it dyn x1) (L_X5_next_r ht (EI ht I A J it dyn x1) A J it (Edyn ht I A J it dyn x1))) A J it (Edyn ht I A J it dyn x1) x1) x1)) ++ [some (.inr (3, [fsI (L_X5_next_r ht (EI ht I A J it dyn x1) A J it (Edyn ht I A J it dyn x1)), fsJ 0, fsI 0, fsR (Er ht I A J it dyn x1), fsR (Er ht (L_X5_skip_I ht (EI ht I A J it dyn x1) A J it (Edyn ht I A J it dyn x1) (L_X5_next_r ht (EI ht I A J it dyn x1) A J it (Edyn ht I A J it dyn x1))) A J it (Edyn ht I A J it dyn x1) x1), fsR (if (L_X5_skip_r ht (EI ht (L_X5_skip_I ht (EI ht I A J it dyn x1) A J it (Edyn ht I A J it dyn x1) (L_X5_next_r ht (EI ht I A J it dyn x1) A J it (Edyn ht I A J it dyn x1))) A J it (Edyn ht I A J it dyn x1) x1) A J it (Edyn ht (L_X5_skip_I ht (EI ht I A J it dyn x1) A J it (Edyn ht I A J it dyn x1) (L_X5_next_r ht (EI ht I A J it dyn x1) A J it (Edyn ht I A J it dyn x1))) A J it (Edyn ht I A J it dyn x1) x1) 58) = 0 then none else (Er ht (L_X5_skip_I ht (EI ht (L_X5_skip_I ht (EI ht I A J it dyn x1) A J it (Edyn ht I A J it dyn x1) (L_X5_next_r ht (EI ht I A J it dyn x1) A J it (Edyn ht I A J it dyn x1))) A J it (Edyn ht I A J it dyn x1) x1) A J it (Edyn ht (L_X5_skip_I ht (EI ht I A J it dyn x1) A J it (Edyn ht I A J it dyn x1) (L_X5_next_r ht (EI ht I A J it dyn x1) A J it (Edyn ht I A J it dyn x1))) A J it (Edyn ht I A J it dyn x1) x1) 58) A J it (Edyn ht (L_X5_skip_I ht (EI ht I A J it dyn x1) A J it (Edyn ht I A J it dyn x1) (L_X5_next_r ht (EI ht I A J it dyn x1) A J it (Edyn ht I A J it dyn x1))) A J it (Edyn ht I A J it dyn x1) x1) x1) : Option Nat), fsI (-1)]))]))) else (if (L_X5_skip_r ht (EI ht (L_X5_skip_I ht (EI ht I A J it dyn x1) A J it (Edyn ht I A J it dyn x1) (L_X5_next_r ht (EI ht I A J it dyn x1) A J it (Edyn ht I A J it dyn x1))) A J it (Edyn ht I A J it dyn x1) x1) A J it (Edyn ht (L_X5_skip_I ht (EI ht I A J it dyn x1) A J it (Edyn ht I A J it dyn x1) (L_X5_next_r ht (EI ht I A J it dyn x1) A J it (Edyn ht I A J it dyn x1))) A J it (Edyn ht I A J it dyn x1) x1) 41) = 0 then (Edyn ht (L_X5_skip_I ht (EI ht I A J it dyn x1) A J it (Edyn ht I A J it dyn x1) (L_X5_next_r ht (EI ht I A J it dyn x1) A J it (Edyn ht I A J it dyn x1))) A J it (Edyn ht I A J it dyn x1) x1) else ((Edyn ht (L_X5_skip_I ht (EI ht I A J it dyn x1) A J it (Edyn ht I A J it dyn x1) (L_X5_next_r ht (EI ht I A J it dyn x1) A J it (Edyn ht I A J it dyn x1))) A J it (Edyn ht I A J it dyn x1) x1) ++ [some (.inr (3, [fsI (L_X5_next_r ht (EI ht I A J it dyn x1) A J it (Edyn ht I A J it dyn x1)), fsJ 0, fsI 0, fsR (Er ht I A J it dyn x1), fsR (Er ht (L_X5_skip_I ht (EI ht I A J it dyn x1) A J it (Edyn ht I A J it dyn x1) (L_X5_next_r ht (EI ht I A J it dyn x1) A J it (Edyn ht I A J it dyn x1))) A J it (Edyn ht I A J it dyn x1) x1), fsR none, fsI (-1)]))])))))))) := hq
  have hS : ((ES ht I A J it dyn x1) ∧ ((S_X5_next ht (EI ht I A J it dyn x1) A J it (Edyn ht I A J it dyn x1)) ∧ (¬ ((Er ht I A J it dyn x1) = none) → (¬ ((L_X5_isSign_r ht (EI ht I A J it dyn x1) A J it (Edyn ht I A J it dyn x1) (L_X5_next_r ht (EI ht I A J it dyn x1) A J it (Edyn ht I A J it dyn x1))) = 0) → ((S_X5_skip ht (EI ht I A J it dyn x1) A J it (Edyn ht I A J it dyn x1) (L_X5_next_r ht (EI ht I A J it dyn x1) A J it (Edyn ht I A J it dyn x1))) ∧ (¬ ((L_X5_skip_r ht (EI ht I A J it dyn x1) A J it (Edyn ht I A J it dyn x1) (L_X5_next_r ht (EI ht I A J it dyn x1) A J it (Edyn ht I A J it dyn x1))) = 0) → ((ES ht (L_X5_skip_I ht (EI ht I A J it dyn x1) A J it (Edyn ht I A J it dyn x1) (L_X5_next_r ht (EI ht I A J it dyn x1) A J it (Edyn ht I A J it dyn x1))) A J it (Edyn ht I A J it dyn x1) x1) ∧ (¬ ((Er ht (L_X5_skip_I ht (EI ht I A J it dyn x1) A J it (Edyn ht I A J it dyn x1) (L_X5_next_r ht (EI ht I A J it dyn x1) A J it (Edyn ht I A J it dyn x1))) A J it (Edyn ht I A J it dyn x1) x1) = none) → ((((L_X5_next_r ht (EI ht I A J it dyn x1) A J it (Edyn ht I A J it dyn x1)) = 63) → ((S_X5_skip ht (EI ht (L_X5_skip_I ht (EI ht I A J it dyn x1) A J it (Edyn ht I A J it dyn x1) (L_X5_next_r ht (EI ht I A J it dyn x1) A J it (Edyn ht I A J it dyn x1))) A J it (Edyn ht I A J it dyn x1) x1) A J it (Edyn ht (L_X5_skip_I ht (EI ht I A J it dyn x1) A J it (Edyn ht I A J it dyn x1) (L_X5_next_r ht (EI ht I A J it dyn x1) A J it (Edyn ht I A J it dyn x1))) A J it (Edyn ht I A J it dyn x1) x1) 58) ∧ ((¬ ((L_X5_skip_r ht (EI ht (L_X5_skip_I ht (EI ht I A J it dyn x1) A J it (Edyn ht I A J it dyn x1) (L_X5_next_r ht (EI ht I A J it dyn x1) A J it (Edyn ht I A J it dyn x1))) A J it (Edyn ht I A J it dyn x1) x1) A J it (Edyn ht (L_X5_skip_I ht (EI ht I A J it dyn x1) A J it (Edyn ht I A J it dyn x1) (L_X5_next_r ht (EI ht I A J it dyn x1) A J it (Edyn ht I A J it dyn x1))) A J it (Edyn ht I A J it dyn x1) x1) 58) = 0) → (ES ht (L_X5_skip_I ht (EI ht (L_X5_skip_I ht (EI ht I A J it dyn x1) A J it (Edyn ht I A J it dyn x1) (L_X5_next_r ht (EI ht I A J it dyn x1) A J it (Edyn ht I A J it dyn x1))) A J it (Edyn ht I A J it dyn x1) x1) A J it (Edyn ht (L_X5_skip_I ht (EI ht I A J it dyn x1) A J it (Edyn ht I A J it dyn x1) (L_X5_next_r ht (EI ht I A J it dyn x1) A J it (Edyn ht I A J it dyn x1))) A J it (Edyn ht I A J it dyn x1) x1) 58) A J it (Edyn ht (L_X5_skip_I ht (EI ht I A J it dyn x1) A J it (Edyn ht I A J it dyn x1) (L_X5_next_r ht (EI ht I A J it dyn x1) A J it (Edyn ht I A J it dyn x1))) A J it (Edyn ht I A J it dyn x1) x1) x1)) ∧ (¬ ((if (L_X5_skip_r ht (EI ht (L_X5_skip_I ht (EI ht I A J it dyn x1) A J it (Edyn ht I A J it dyn x1) (L_X5_next_r ht (EI ht I A J it dyn x1) A J it (Edyn ht I A J it dyn x1))) A J it (Edyn ht I A J it dyn x1) x1) A J it (Edyn ht (L_X5_skip_I ht (EI ht I A J it dyn x1) A J it (Edyn ht I A J it dyn x1) (L_X5_next_r ht (EI ht I A J it dyn x1) A J it (Edyn ht I A J it dyn x1))) A J it (Edyn ht I A J it dyn x1) x1) 58) = 0 then none else (Er ht (L_X5_skip_I ht (EI ht (L_X5_skip_I ht (EI ht I A J it dyn x1) A J it (Edyn ht I A J it dyn x1) (L_X5_next_r ht (EI ht I A J it dyn x1) A J it (Edyn ht I A J it dyn x1))) A J it (Edyn ht I A J it dyn x1) x1) A J it (Edyn ht (L_X5_skip_I ht (EI ht I A J it dyn x1) A J it (Edyn ht I A J it dyn x1) (L_X5_next_r ht (EI ht I A J it dyn x1) A J it (Edyn ht I A J it dyn x1))) A J it (Edyn ht I A J it dyn x1) x1) 58) A J it (Edyn ht (L_X5_skip_I ht (EI ht I A J it dyn x1) A J it (Edyn ht I A J it dyn x1) (L_X5_next_r ht (EI ht I A J it dyn x1) A J it (Edyn ht I A J it dyn x1))) A J it (Edyn ht I A J it dyn x1) x1) x1) : Option Nat) = none) → ((S_X5_skip ht (if (L_X5_skip_r ht (EI ht (L_X5_skip_I ht (EI ht I A J it dyn x1) A J it (Edyn ht I A J it dyn x1) (L_X5_next_r ht (EI ht I A J it dyn x1) A J it (Edyn ht I A J it dyn x1))) A J it (Edyn ht I A J it dyn x1) x1) A J it (Edyn ht (L_X5_skip_I ht (EI ht I A J it dyn x1) A J it (Edyn ht I A J it dyn x1) (L_X5_next_r ht (EI ht I A J it dyn x1) A J it (Edyn ht I A J it dyn x1))) A J it (Edyn ht I A J it dyn x1) x1) 58) = 0 then (L_X5_skip_I ht (EI ht (L_X5_skip_I ht (EI ht I A J it dyn x1) A J it (Edyn ht I A J it dyn x1) (L_X5_next_r ht (EI ht I A J it dyn x1) A J it (Edyn ht I A J it dyn x1))) A J it (Edyn ht I A J it dyn x1) x1) A J it (Edyn ht (L_X5_skip_I ht (EI ht I A J it dyn x1) A J it (Edyn ht I A J it dyn x1) (L_X5_next_r ht (EI ht I A J it dyn x1) A J it (Edyn ht I A J it dyn x1))) A J it (Edyn ht I A J it dyn x1) x1) 58) else (EI ht (L_X5_skip_I ht (EI ht (L_X5_skip_I ht (EI ht I A J it dyn x1) A J it (Edyn ht I A J it dyn x1) (L_X5_next_r ht (EI ht I A J it dyn x1) A J it (Edyn ht I A J it dyn x1))) A J it (Edyn ht I A J it dyn x1) x1) A J it (Edyn ht (L_X5_skip_I ht (EI ht I A J it dyn x1) A J it (Edyn ht I A J it dyn x1) (L_X5_next_r ht (EI ht I A J it dyn x1) A J it (Edyn ht I A J it dyn x1))) A J it (Edyn ht I A J it dyn x1) x1) 58) A J it (Edyn ht (L_X5_skip_I ht (EI ht I A J it dyn x1) A J it (Edyn ht I A J it dyn x1) (L_X5_next_r ht (EI ht I A J it dyn x1) A J it (Edyn ht I A J it dyn x1))) A J it (Edyn ht I A J it dyn x1) x1) x1)) A J it (if (L_X5_skip_r ht (EI ht (L_X5_skip_I ht (EI ht I A J it dyn x1) A J it (Edyn ht I A J it dyn x1) (L_X5_next_r ht (EI ht I A J it dyn x1) A J it (Edyn ht I A J it dyn x1))) A J it (Edyn ht I A J it dyn x1) x1) A J it (Edyn ht (L_X5_skip_I ht (EI ht I A J it dyn x1) A J it (Edyn ht I A J it dyn x1) (L_X5_next_r ht (EI ht I A J it dyn x1) A J it (Edyn ht I A J it dyn x1))) A J it (Edyn ht I A J it dyn x1) x1) 58) = 0 then (Edyn ht (L_X5_skip_I ht (EI ht I A J it dyn x1) A J it (Edyn ht I A J it dyn x1) (L_X5_next_r ht (EI ht I A J it dyn x1) A J it (Edyn ht I A J it dyn x1))) A J it (Edyn ht I A J it dyn x1) x1) else (Edyn ht (L_X5_skip_I ht (EI ht (L_X5_skip_I ht (EI ht I A J it dyn x1) A J it (Edyn ht I A J it dyn x1) (L_X5_next_r ht (EI ht I A J it dyn x1) A J it (Edyn ht I A J it dyn x1))) A J it (Edyn ht I A J it dyn x1) x1) A J it (Edyn ht (L_X5_skip_I ht (EI ht I A J it dyn x1) A J it (Edyn ht I A J it dyn x1) (L_X5_next_r ht (EI ht I A J it dyn x1) A J it (Edyn ht I A J it dyn x1))) A J it (Edyn ht I A J it dyn x1) x1) 58) A J it (Edyn ht (L_X5_skip_I ht (EI ht I A J it dyn x1) A J it (Edyn ht I A J it dyn x1) (L_X5_next_r ht (EI ht I A J it dyn x1) A J it (Edyn ht I A J it dyn x1))) A J it (Edyn ht I A J it dyn x1) x1) x1)) 41) ∧ (¬ ((L_X5_skip_r ht (if (L_X5_skip_r ht (EI ht (L_X5_skip_I ht (EI ht I A J it dyn x1) A J it (Edyn ht I A J it dyn x1) (L_X5_next_r ht (EI ht I A J it dyn x1) A J it (Edyn ht I A J it dyn x1))) A J it (Edyn ht I A J it dyn x1) x1) A J it (Edyn ht (L_X5_skip_I ht (EI ht I A J it dyn x1) A J it (Edyn ht I A J it dyn x1) (L_X5_next_r ht (EI ht I A J it dyn x1) A J it (Edyn ht I A J it dyn x1))) A J it (Edyn ht I A J it dyn x1) x1) 58) = 0 then (L_X5_skip_I ht (EI ht (L_X5_skip_I ht (EI ht I A J it dyn x1) A J it (Edyn ht I A J it dyn x1) (L_X5_next_r ht (EI ht I A J it dyn x1) A J it (Edyn ht I A J it dyn x1))) A J it (Edyn ht I A J it dyn x1) x1) A J it (Edyn ht (L_X5_skip_I ht (EI ht I A J it dyn x1) A J it (Edyn ht I A J it dyn x1) (L_X5_next_r ht (EI ht I A J it dyn x1) A J it (Edyn ht I A J it dyn x1))) A J it (Edyn ht I A J it dyn x1) x1) 58) else (EI ht (L_X5_skip_I ht (EI ht (L_X5_skip_I ht (EI ht I A J it dyn x1) A J it (Edyn ht I A J it dyn x1) (L_X5_next_r ht (EI ht I A J it dyn x1) A J it (Edyn ht I A J it dyn x1))) A J it (Edyn ht I A J it dyn x1) x1) A J it (Edyn ht (L_X5_skip_I ht (EI ht I A J it dyn x1) A J it (Edyn ht I A J it dyn x1) (L_X5_next_r ht (EI ht I A J it dyn x1) A J it (Edyn ht I A J it dyn x1))) A J it (Edyn ht I A J it dyn x1) x1) 58) A J it (Edyn ht (L_X5_skip_I ht (EI ht I A J it dyn x1) A J it (Edyn ht I A J it dyn x1) (L_X5_next_r ht (EI ht I A J it dyn x1) A J it (Edyn ht I A J it dyn x1))) A J it (Edyn ht I A J it dyn x1) x1) x1)) A J it (if (L_X5_skip_r ht (EI ht (L_X5_skip_I ht (EI ht I A J it dyn x1) A J it (Edyn ht I A J it dyn x1) (L_X5_next_r ht (EI ht I A J it dyn x1) A J it (Edyn ht I A J it dyn x1))) A J it (Edyn ht I A J it dyn x1) x1) A J it (Edyn ht (L_X5_skip_I ht (EI ht I A J it dyn x1) A J it (Edyn ht I A J it dyn x1) (L_X5_next_r ht (EI ht I A J it dyn x1) A J it (Edyn ht I A J it dyn x1))) A J it (Edyn ht I A J it dyn x1) x1) 58) = 0 then (Edyn ht (L_X5_skip_I ht (EI ht I A J it dyn x1) A J it (Edyn ht I A J it dyn x1) (L_X5_next_r ht (EI ht I A J it dyn x1) A J it (Edyn ht I A J it dyn x1))) A J it (Edyn ht I A J it dyn x1) x1) else (Edyn ht (L_X5_skip_I ht (EI ht (L_X5_skip_I ht (EI ht I A J it dyn x1) A J it (Edyn ht I A J it dyn x1) (L_X5_next_r ht (EI ht I A J it dyn x1) A J it (Edyn ht I A J it dyn x1))) A J it (Edyn ht I A J it dyn x1) x1) A J it (Edyn ht (L_X5_skip_I ht (EI ht I A J it dyn x1) A J it (Edyn ht I A J it dyn x1) (L_X5_next_r ht (EI ht I A J it dyn x1) A J it (Edyn ht I A J it dyn x1))) A J it (Edyn ht I A J it dyn x1) x1) 58) A J it (Edyn ht (L_X5_skip_I ht (EI ht I A J it dyn x1) A J it (Edyn ht I A J it dyn x1) (L_X5_next_r ht (EI ht I A J it dyn x1) A J it (Edyn ht I A J it dyn x1))) A J it (Edyn ht I A J it dyn x1) x1) x1)) 41) = 0) → (fs_chr (L_X5_next_r ht (EI ht I A J it dyn x1) A J it (Edyn ht I A J it dyn x1))))))))) ∧ (¬ ((L_X5_next_r ht (EI ht I A J it dyn x1) A J it (Edyn ht I A J it dyn x1)) = 63) → ((S_X5_skip ht (EI ht (L_X5_skip_I ht (EI ht I A J it dyn x1) A J it (Edyn ht I A J it dyn x1) (L_X5_next_r ht (EI ht I A J it dyn x1) A J it (Edyn ht I A J it dyn x1))) A J it (Edyn ht I A J it dyn x1) x1) A J it (Edyn ht (L_X5_skip_I ht (EI ht I A J it dyn x1) A J it (Edyn ht I A J it dyn x1) (L_X5_next_r ht (EI ht I A J it dyn x1) A J it (Edyn ht I A J it dyn x1))) A J it (Edyn ht I A J it dyn x1) x1) 41) ∧ (¬ ((L_X5_skip_r ht (EI ht (L_X5_skip_I ht (EI ht I A J it dyn x1) A J it (Edyn ht I A J it dyn x1) (L_X5_next_r ht (EI ht I A J it dyn x1) A J it (Edyn ht I A J it dyn x1))) A J it (Edyn ht I A J it dyn x1) x1) A J it (Edyn ht (L_X5_skip_I ht (EI ht I A J it dyn x1) A J it (Edyn ht I A J it dyn x1) (L_X5_next_r ht (EI ht I A J it dyn x1) A J it (Edyn ht I A J it dyn x1))) A J it (Edyn ht I A J it dyn x1) x1) 41) = 0) → (fs_chr (L_X5_next_r ht (EI ht I A J it dyn x1) A J it (Edyn ht I A J it dyn x1))))))))))))))) := hS
  refine (show fsW G l mX5_inBrackets (dE + 2) (1 + 3 * mE) (7 + 21 * mE) 0 0 Q 0 [(0, .inr (.inr (some 1))), (1, .inl x1)] [] (fs_mk ht I A J it dyn) from ?_)
  refine fs_aload_n dX5_inBrackets_0 rfl rfl ?_
  refine fs_iload_n dX5_inBrackets_1 rfl rfl ?_
  obtain ⟨ho1, hS⟩ := hS
  refine fs_callV1 dX5_inBrackets_2 sv_X5_58 rfl ⟨_, rfl, rfl⟩ (hE ht I A J it dyn x1 ho1) rfl rfl (Nat.le_of_ble_eq_true rfl) (by omega) (by omega) (by omega) ?_
  refine fs_astore_n (L' := [(2, .inr (.inr (Er ht I A J it dyn x1))), (0, .inr (.inr (some 1))), (1, .inl x1)]) dX5_inBrackets_5 rfl (by decide) rfl ?_
  refine fs_aload_n dX5_inBrackets_6 rfl rfl ?_
  obtain ⟨ho1, hS⟩ := hS
  refine fs_callV1 dX5_inBrackets_7 sv_X5_26 rfl ⟨_, rfl, rfl⟩ (c_X5_next G l ht (EI ht I A J it dyn x1) A J it (Edyn ht I A J it dyn x1) ho1) rfl rfl (Nat.le_of_ble_eq_true rfl) (by omega) (by omega) (by omega) ?_
  refine fs_istore_n (L' := [(3, .inl (L_X5_next_r ht (EI ht I A J it dyn x1) A J it (Edyn ht I A J it dyn x1))), (2, .inr (.inr (Er ht I A J it dyn x1))), (0, .inr (.inr (some 1))), (1, .inl x1)]) dX5_inBrackets_10 rfl (by decide) rfl ?_
  refine fs_aload_n dX5_inBrackets_11 rfl rfl ?_
  refine fs_ifnull' 30 dX5_inBrackets_12 (by decide) (fun c_12 : (Er ht I A J it dyn x1) = none => ?_) (fun c_12 : ¬ ((Er ht I A J it dyn x1) = none) => ?_)
  · refine fs_null dX5_inBrackets_30 ?_
    refine fs_widen (k2 := (1 + 3 * mE)) (n2 := (7 + 21 * mE)) (by omega) (by omega) ?_
    have k9 := hq
    try simp only [if_pos c_12] at k9 ⊢
    exact fs_aret dX5_inBrackets_31 rfl k9
  · have hS := hS c_12
    refine fs_iload_n dX5_inBrackets_15 rfl rfl ?_
    refine fs_callS1 dX5_inBrackets_16 sv_X5_83 (c_X5_isSign G l ht (EI ht I A J it dyn x1) A J it (Edyn ht I A J it dyn x1) (L_X5_next_r ht (EI ht I A J it dyn x1) A J it (Edyn ht I A J it dyn x1))) rfl rfl (Nat.le_of_ble_eq_true rfl) (by omega) (by omega) (by omega) ?_
    refine fs_if_eq 30 dX5_inBrackets_19 (by decide) (fun c_19 : (L_X5_isSign_r ht (EI ht I A J it dyn x1) A J it (Edyn ht I A J it dyn x1) (L_X5_next_r ht (EI ht I A J it dyn x1) A J it (Edyn ht I A J it dyn x1))) = 0 => ?_) (fun c_19 : ¬ ((L_X5_isSign_r ht (EI ht I A J it dyn x1) A J it (Edyn ht I A J it dyn x1) (L_X5_next_r ht (EI ht I A J it dyn x1) A J it (Edyn ht I A J it dyn x1))) = 0) => ?_)
    · refine fs_null dX5_inBrackets_30 ?_
      refine fs_widen (k2 := (1 + 3 * mE)) (n2 := (7 + 21 * mE)) (by omega) (by omega) ?_
      have k9 := hq
      try simp only [if_neg c_12, if_pos c_19] at k9 ⊢
      exact fs_aret dX5_inBrackets_31 rfl k9
    · have hS := hS c_19
      refine fs_aload_n dX5_inBrackets_22 rfl rfl ?_
      refine fs_iload_n dX5_inBrackets_23 rfl rfl ?_
      obtain ⟨ho1, hS⟩ := hS
      refine fs_callV1 dX5_inBrackets_24 sv_X5_38 rfl ⟨_, rfl, rfl⟩ (c_X5_skip G l ht (EI ht I A J it dyn x1) A J it (Edyn ht I A J it dyn x1) (L_X5_next_r ht (EI ht I A J it dyn x1) A J it (Edyn ht I A J it dyn x1)) ho1) rfl rfl (Nat.le_of_ble_eq_true rfl) (by omega) (by omega) (by omega) ?_
      refine fs_if_ne 32 dX5_inBrackets_27 (by decide) (fun c_27 : ¬ (L_X5_skip_r ht (EI ht I A J it dyn x1) A J it (Edyn ht I A J it dyn x1) (L_X5_next_r ht (EI ht I A J it dyn x1) A J it (Edyn ht I A J it dyn x1))) = 0 => ?_) (fun c_27 : (L_X5_skip_r ht (EI ht I A J it dyn x1) A J it (Edyn ht I A J it dyn x1) (L_X5_next_r ht (EI ht I A J it dyn x1) A J it (Edyn ht I A J it dyn x1))) = 0 => ?_)
      · have hS := hS c_27
        refine fs_aload_n dX5_inBrackets_32 rfl rfl ?_
        refine fs_iload_n dX5_inBrackets_33 rfl rfl ?_
        obtain ⟨ho1, hS⟩ := hS
        refine fs_callV1 dX5_inBrackets_34 sv_X5_58 rfl ⟨_, rfl, rfl⟩ (hE ht (L_X5_skip_I ht (EI ht I A J it dyn x1) A J it (Edyn ht I A J it dyn x1) (L_X5_next_r ht (EI ht I A J it dyn x1) A J it (Edyn ht I A J it dyn x1))) A J it (Edyn ht I A J it dyn x1) x1 ho1) rfl rfl (Nat.le_of_ble_eq_true rfl) (by omega) (by omega) (by omega) ?_
        refine fs_astore (L' := [(4, .inr (.inr (Er ht (L_X5_skip_I ht (EI ht I A J it dyn x1) A J it (Edyn ht I A J it dyn x1) (L_X5_next_r ht (EI ht I A J it dyn x1) A J it (Edyn ht I A J it dyn x1))) A J it (Edyn ht I A J it dyn x1) x1))), (3, .inl (L_X5_next_r ht (EI ht I A J it dyn x1) A J it (Edyn ht I A J it dyn x1))), (2, .inr (.inr (Er ht I A J it dyn x1))), (0, .inr (.inr (some 1))), (1, .inl x1)]) dX5_inBrackets_37 (by decide) rfl ?_
        refine fs_aload dX5_inBrackets_39 rfl ?_
        refine fs_ifnonnull' 46 dX5_inBrackets_41 (by decide) (fun c_41 : ¬ (Er ht (L_X5_skip_I ht (EI ht I A J it dyn x1) A J it (Edyn ht I A J it dyn x1) (L_X5_next_r ht (EI ht I A J it dyn x1) A J it (Edyn ht I A J it dyn x1))) A J it (Edyn ht I A J it dyn x1) x1) = none => ?_) (fun c_41 : (Er ht (L_X5_skip_I ht (EI ht I A J it dyn x1) A J it (Edyn ht I A J it dyn x1) (L_X5_next_r ht (EI ht I A J it dyn x1) A J it (Edyn ht I A J it dyn x1))) A J it (Edyn ht I A J it dyn x1) x1) = none => ?_)
        · have hS := hS c_41
          refine fs_null dX5_inBrackets_46 ?_
          refine fs_astore (L' := [(5, .inr (.inr none)), (4, .inr (.inr (Er ht (L_X5_skip_I ht (EI ht I A J it dyn x1) A J it (Edyn ht I A J it dyn x1) (L_X5_next_r ht (EI ht I A J it dyn x1) A J it (Edyn ht I A J it dyn x1))) A J it (Edyn ht I A J it dyn x1) x1))), (3, .inl (L_X5_next_r ht (EI ht I A J it dyn x1) A J it (Edyn ht I A J it dyn x1))), (2, .inr (.inr (Er ht I A J it dyn x1))), (0, .inr (.inr (some 1))), (1, .inl x1)]) dX5_inBrackets_47 (by decide) rfl ?_
          refine fs_iload_n dX5_inBrackets_49 rfl rfl ?_
          refine fs_bipush (v := 63) dX5_inBrackets_50 rfl ?_
          refine fs_icmp_ne 82 dX5_inBrackets_52 (by decide) (fun c_52 : ¬ (L_X5_next_r ht (EI ht I A J it dyn x1) A J it (Edyn ht I A J it dyn x1)) = 63 => ?_) (fun c_52 : (L_X5_next_r ht (EI ht I A J it dyn x1) A J it (Edyn ht I A J it dyn x1)) = 63 => ?_)
          · have hS := hS.2 c_52
            refine fs_aload_n dX5_inBrackets_82 rfl rfl ?_
            refine fs_bipush (v := 41) dX5_inBrackets_83 rfl ?_
            obtain ⟨ho1, hS⟩ := hS
            refine fs_callV1 dX5_inBrackets_85 sv_X5_38 rfl ⟨_, rfl, rfl⟩ (c_X5_skip G l ht (EI ht (L_X5_skip_I ht (EI ht I A J it dyn x1) A J it (Edyn ht I A J it dyn x1) (L_X5_next_r ht (EI ht I A J it dyn x1) A J it (Edyn ht I A J it dyn x1))) A J it (Edyn ht I A J it dyn x1) x1) A J it (Edyn ht (L_X5_skip_I ht (EI ht I A J it dyn x1) A J it (Edyn ht I A J it dyn x1) (L_X5_next_r ht (EI ht I A J it dyn x1) A J it (Edyn ht I A J it dyn x1))) A J it (Edyn ht I A J it dyn x1) x1) 41 ho1) rfl rfl (Nat.le_of_ble_eq_true rfl) (by omega) (by omega) (by omega) ?_
            have hR_88 := hS
            have key_108 : fsW G l mX5_inBrackets (dE + 2) (1 + 3 * mE) (7 + 21 * mE) (1 + 2 * mE) (7 + 14 * mE) Q 108 [(0, .inr (.inr (some 1))), (1, .inl x1), (2, .inr (.inr (Er ht I A J it dyn x1))), (3, .inl (L_X5_next_r ht (EI ht I A J it dyn x1) A J it (Edyn ht I A J it dyn x1))), (4, .inr (.inr (Er ht (L_X5_skip_I ht (EI ht I A J it dyn x1) A J it (Edyn ht I A J it dyn x1) (L_X5_next_r ht (EI ht I A J it dyn x1) A J it (Edyn ht I A J it dyn x1))) A J it (Edyn ht I A J it dyn x1) x1))), (5, .inr (.inr none))] [.inr (.inr (if (L_X5_skip_r ht (EI ht (L_X5_skip_I ht (EI ht I A J it dyn x1) A J it (Edyn ht I A J it dyn x1) (L_X5_next_r ht (EI ht I A J it dyn x1) A J it (Edyn ht I A J it dyn x1))) A J it (Edyn ht I A J it dyn x1) x1) A J it (Edyn ht (L_X5_skip_I ht (EI ht I A J it dyn x1) A J it (Edyn ht I A J it dyn x1) (L_X5_next_r ht (EI ht I A J it dyn x1) A J it (Edyn ht I A J it dyn x1))) A J it (Edyn ht I A J it dyn x1) x1) 41) = 0 then none else (some ((Edyn ht (L_X5_skip_I ht (EI ht I A J it dyn x1) A J it (Edyn ht I A J it dyn x1) (L_X5_next_r ht (EI ht I A J it dyn x1) A J it (Edyn ht I A J it dyn x1))) A J it (Edyn ht I A J it dyn x1) x1).length + 41)) : Option Nat))] (fs_mk ht (L_X5_skip_I ht (EI ht (L_X5_skip_I ht (EI ht I A J it dyn x1) A J it (Edyn ht I A J it dyn x1) (L_X5_next_r ht (EI ht I A J it dyn x1) A J it (Edyn ht I A J it dyn x1))) A J it (Edyn ht I A J it dyn x1) x1) A J it (Edyn ht (L_X5_skip_I ht (EI ht I A J it dyn x1) A J it (Edyn ht I A J it dyn x1) (L_X5_next_r ht (EI ht I A J it dyn x1) A J it (Edyn ht I A J it dyn x1))) A J it (Edyn ht I A J it dyn x1) x1) 41) A J it (if (L_X5_skip_r ht (EI ht (L_X5_skip_I ht (EI ht I A J it dyn x1) A J it (Edyn ht I A J it dyn x1) (L_X5_next_r ht (EI ht I A J it dyn x1) A J it (Edyn ht I A J it dyn x1))) A J it (Edyn ht I A J it dyn x1) x1) A J it (Edyn ht (L_X5_skip_I ht (EI ht I A J it dyn x1) A J it (Edyn ht I A J it dyn x1) (L_X5_next_r ht (EI ht I A J it dyn x1) A J it (Edyn ht I A J it dyn x1))) A J it (Edyn ht I A J it dyn x1) x1) 41) = 0 then (Edyn ht (L_X5_skip_I ht (EI ht I A J it dyn x1) A J it (Edyn ht I A J it dyn x1) (L_X5_next_r ht (EI ht I A J it dyn x1) A J it (Edyn ht I A J it dyn x1))) A J it (Edyn ht I A J it dyn x1) x1) else ((Edyn ht (L_X5_skip_I ht (EI ht I A J it dyn x1) A J it (Edyn ht I A J it dyn x1) (L_X5_next_r ht (EI ht I A J it dyn x1) A J it (Edyn ht I A J it dyn x1))) A J it (Edyn ht I A J it dyn x1) x1) ++ [some (.inr (3, [fsI (L_X5_next_r ht (EI ht I A J it dyn x1) A J it (Edyn ht I A J it dyn x1)), fsJ 0, fsI 0, fsR (Er ht I A J it dyn x1), fsR (Er ht (L_X5_skip_I ht (EI ht I A J it dyn x1) A J it (Edyn ht I A J it dyn x1) (L_X5_next_r ht (EI ht I A J it dyn x1) A J it (Edyn ht I A J it dyn x1))) A J it (Edyn ht I A J it dyn x1) x1), fsR none, fsI (-1)]))]))) := by
              refine fs_widen (k2 := (1 + 3 * mE)) (n2 := (7 + 21 * mE)) (by omega) (by omega) ?_
              have k9 := hq
              try simp only [if_neg c_12, if_neg c_19, if_neg c_27, if_neg c_41, if_neg c_52] at k9 ⊢
              exact fs_aret dX5_inBrackets_108 rfl k9
            refine fs_if_eq 107 dX5_inBrackets_88 (by decide) (fun c_88 : (L_X5_skip_r ht (EI ht (L_X5_skip_I ht (EI ht I A J it dyn x1) A J it (Edyn ht I A J it dyn x1) (L_X5_next_r ht (EI ht I A J it dyn x1) A J it (Edyn ht I A J it dyn x1))) A J it (Edyn ht I A J it dyn x1) x1) A J it (Edyn ht (L_X5_skip_I ht (EI ht I A J it dyn x1) A J it (Edyn ht I A J it dyn x1) (L_X5_next_r ht (EI ht I A J it dyn x1) A J it (Edyn ht I A J it dyn x1))) A J it (Edyn ht I A J it dyn x1) x1) 41) = 0 => ?_) (fun c_88 : ¬ ((L_X5_skip_r ht (EI ht (L_X5_skip_I ht (EI ht I A J it dyn x1) A J it (Edyn ht I A J it dyn x1) (L_X5_next_r ht (EI ht I A J it dyn x1) A J it (Edyn ht I A J it dyn x1))) A J it (Edyn ht I A J it dyn x1) x1) A J it (Edyn ht (L_X5_skip_I ht (EI ht I A J it dyn x1) A J it (Edyn ht I A J it dyn x1) (L_X5_next_r ht (EI ht I A J it dyn x1) A J it (Edyn ht I A J it dyn x1))) A J it (Edyn ht I A J it dyn x1) x1) 41) = 0) => ?_)
            · refine fs_null dX5_inBrackets_107 ?_
              refine fs_reL [4, 5, 3, 2, 1, 0] rfl ?_
              refine fs_widen (k2 := (1 + 2 * mE)) (n2 := (7 + 14 * mE)) (by omega) (by omega) ?_
              have k9 := key_108
              try simp only [if_neg c_12, if_neg c_19, if_neg c_27, if_neg c_41, if_neg c_52, if_pos c_88] at k9 ⊢
              exact k9
            · have hS := hR_88 c_88
              refine fsn_new dX5_inBrackets_91 sw_X5_75 (by omega) (by omega) ?_
              refine fs_dup dX5_inBrackets_94 rfl ?_
              refine fs_iload_n dX5_inBrackets_95 rfl rfl ?_
              refine fs_aload_n dX5_inBrackets_96 rfl rfl ?_
              refine fs_aload dX5_inBrackets_97 rfl ?_
              refine fs_aload dX5_inBrackets_99 rfl ?_
              have ho1 := hS
              refine fs_callI0 dX5_inBrackets_101 sv_X5_86 (c_X4_init_ G l ht (L_X5_skip_I ht (EI ht (L_X5_skip_I ht (EI ht I A J it dyn x1) A J it (Edyn ht I A J it dyn x1) (L_X5_next_r ht (EI ht I A J it dyn x1) A J it (Edyn ht I A J it dyn x1))) A J it (Edyn ht I A J it dyn x1) x1) A J it (Edyn ht (L_X5_skip_I ht (EI ht I A J it dyn x1) A J it (Edyn ht I A J it dyn x1) (L_X5_next_r ht (EI ht I A J it dyn x1) A J it (Edyn ht I A J it dyn x1))) A J it (Edyn ht I A J it dyn x1) x1) 41) A J it (Edyn ht (L_X5_skip_I ht (EI ht I A J it dyn x1) A J it (Edyn ht I A J it dyn x1) (L_X5_next_r ht (EI ht I A J it dyn x1) A J it (Edyn ht I A J it dyn x1))) A J it (Edyn ht I A J it dyn x1) x1) (L_X5_next_r ht (EI ht I A J it dyn x1) A J it (Edyn ht I A J it dyn x1)) (Er ht I A J it dyn x1) (Er ht (L_X5_skip_I ht (EI ht I A J it dyn x1) A J it (Edyn ht I A J it dyn x1) (L_X5_next_r ht (EI ht I A J it dyn x1) A J it (Edyn ht I A J it dyn x1))) A J it (Edyn ht I A J it dyn x1) x1) none ho1) rfl rfl (Nat.le_of_ble_eq_true rfl) (by omega) (by omega) (by omega) ?_
              refine fs_goto 108 dX5_inBrackets_104 (by decide) ?_
              refine fs_reL [4, 5, 3, 2, 1, 0] rfl ?_
              refine fs_widen (k2 := (1 + 2 * mE)) (n2 := (7 + 14 * mE)) (by omega) (by omega) ?_
              have k9 := key_108
              try simp only [if_neg c_12, if_neg c_19, if_neg c_27, if_neg c_41, if_neg c_52, if_neg c_88] at k9 ⊢
              exact k9
          · have hS := hS.1 c_52
            refine fs_aload_n dX5_inBrackets_55 rfl rfl ?_
            refine fs_bipush (v := 58) dX5_inBrackets_56 rfl ?_
            obtain ⟨ho1, hS⟩ := hS
            refine fs_callV1 dX5_inBrackets_58 sv_X5_38 rfl ⟨_, rfl, rfl⟩ (c_X5_skip G l ht (EI ht (L_X5_skip_I ht (EI ht I A J it dyn x1) A J it (Edyn ht I A J it dyn x1) (L_X5_next_r ht (EI ht I A J it dyn x1) A J it (Edyn ht I A J it dyn x1))) A J it (Edyn ht I A J it dyn x1) x1) A J it (Edyn ht (L_X5_skip_I ht (EI ht I A J it dyn x1) A J it (Edyn ht I A J it dyn x1) (L_X5_next_r ht (EI ht I A J it dyn x1) A J it (Edyn ht I A J it dyn x1))) A J it (Edyn ht I A J it dyn x1) x1) 58 ho1) rfl rfl (Nat.le_of_ble_eq_true rfl) (by omega) (by omega) (by omega) ?_
            obtain ⟨hR_61, hS⟩ := hS
            have key_73 : fsW G l mX5_inBrackets (dE + 2) (1 + 3 * mE) (7 + 21 * mE) (0 + 3 * mE) (0 + 21 * mE) Q 73 [(0, .inr (.inr (some 1))), (1, .inl x1), (2, .inr (.inr (Er ht I A J it dyn x1))), (3, .inl (L_X5_next_r ht (EI ht I A J it dyn x1) A J it (Edyn ht I A J it dyn x1))), (4, .inr (.inr (Er ht (L_X5_skip_I ht (EI ht I A J it dyn x1) A J it (Edyn ht I A J it dyn x1) (L_X5_next_r ht (EI ht I A J it dyn x1) A J it (Edyn ht I A J it dyn x1))) A J it (Edyn ht I A J it dyn x1) x1))), (5, .inr (.inr none))] [.inr (.inr (if (L_X5_skip_r ht (EI ht (L_X5_skip_I ht (EI ht I A J it dyn x1) A J it (Edyn ht I A J it dyn x1) (L_X5_next_r ht (EI ht I A J it dyn x1) A J it (Edyn ht I A J it dyn x1))) A J it (Edyn ht I A J it dyn x1) x1) A J it (Edyn ht (L_X5_skip_I ht (EI ht I A J it dyn x1) A J it (Edyn ht I A J it dyn x1) (L_X5_next_r ht (EI ht I A J it dyn x1) A J it (Edyn ht I A J it dyn x1))) A J it (Edyn ht I A J it dyn x1) x1) 58) = 0 then none else (Er ht (L_X5_skip_I ht (EI ht (L_X5_skip_I ht (EI ht I A J it dyn x1) A J it (Edyn ht I A J it dyn x1) (L_X5_next_r ht (EI ht I A J it dyn x1) A J it (Edyn ht I A J it dyn x1))) A J it (Edyn ht I A J it dyn x1) x1) A J it (Edyn ht (L_X5_skip_I ht (EI ht I A J it dyn x1) A J it (Edyn ht I A J it dyn x1) (L_X5_next_r ht (EI ht I A J it dyn x1) A J it (Edyn ht I A J it dyn x1))) A J it (Edyn ht I A J it dyn x1) x1) 58) A J it (Edyn ht (L_X5_skip_I ht (EI ht I A J it dyn x1) A J it (Edyn ht I A J it dyn x1) (L_X5_next_r ht (EI ht I A J it dyn x1) A J it (Edyn ht I A J it dyn x1))) A J it (Edyn ht I A J it dyn x1) x1) x1) : Option Nat))] (fs_mk ht (if (L_X5_skip_r ht (EI ht (L_X5_skip_I ht (EI ht I A J it dyn x1) A J it (Edyn ht I A J it dyn x1) (L_X5_next_r ht (EI ht I A J it dyn x1) A J it (Edyn ht I A J it dyn x1))) A J it (Edyn ht I A J it dyn x1) x1) A J it (Edyn ht (L_X5_skip_I ht (EI ht I A J it dyn x1) A J it (Edyn ht I A J it dyn x1) (L_X5_next_r ht (EI ht I A J it dyn x1) A J it (Edyn ht I A J it dyn x1))) A J it (Edyn ht I A J it dyn x1) x1) 58) = 0 then (L_X5_skip_I ht (EI ht (L_X5_skip_I ht (EI ht I A J it dyn x1) A J it (Edyn ht I A J it dyn x1) (L_X5_next_r ht (EI ht I A J it dyn x1) A J it (Edyn ht I A J it dyn x1))) A J it (Edyn ht I A J it dyn x1) x1) A J it (Edyn ht (L_X5_skip_I ht (EI ht I A J it dyn x1) A J it (Edyn ht I A J it dyn x1) (L_X5_next_r ht (EI ht I A J it dyn x1) A J it (Edyn ht I A J it dyn x1))) A J it (Edyn ht I A J it dyn x1) x1) 58) else (EI ht (L_X5_skip_I ht (EI ht (L_X5_skip_I ht (EI ht I A J it dyn x1) A J it (Edyn ht I A J it dyn x1) (L_X5_next_r ht (EI ht I A J it dyn x1) A J it (Edyn ht I A J it dyn x1))) A J it (Edyn ht I A J it dyn x1) x1) A J it (Edyn ht (L_X5_skip_I ht (EI ht I A J it dyn x1) A J it (Edyn ht I A J it dyn x1) (L_X5_next_r ht (EI ht I A J it dyn x1) A J it (Edyn ht I A J it dyn x1))) A J it (Edyn ht I A J it dyn x1) x1) 58) A J it (Edyn ht (L_X5_skip_I ht (EI ht I A J it dyn x1) A J it (Edyn ht I A J it dyn x1) (L_X5_next_r ht (EI ht I A J it dyn x1) A J it (Edyn ht I A J it dyn x1))) A J it (Edyn ht I A J it dyn x1) x1) x1)) A J it (if (L_X5_skip_r ht (EI ht (L_X5_skip_I ht (EI ht I A J it dyn x1) A J it (Edyn ht I A J it dyn x1) (L_X5_next_r ht (EI ht I A J it dyn x1) A J it (Edyn ht I A J it dyn x1))) A J it (Edyn ht I A J it dyn x1) x1) A J it (Edyn ht (L_X5_skip_I ht (EI ht I A J it dyn x1) A J it (Edyn ht I A J it dyn x1) (L_X5_next_r ht (EI ht I A J it dyn x1) A J it (Edyn ht I A J it dyn x1))) A J it (Edyn ht I A J it dyn x1) x1) 58) = 0 then (Edyn ht (L_X5_skip_I ht (EI ht I A J it dyn x1) A J it (Edyn ht I A J it dyn x1) (L_X5_next_r ht (EI ht I A J it dyn x1) A J it (Edyn ht I A J it dyn x1))) A J it (Edyn ht I A J it dyn x1) x1) else (Edyn ht (L_X5_skip_I ht (EI ht (L_X5_skip_I ht (EI ht I A J it dyn x1) A J it (Edyn ht I A J it dyn x1) (L_X5_next_r ht (EI ht I A J it dyn x1) A J it (Edyn ht I A J it dyn x1))) A J it (Edyn ht I A J it dyn x1) x1) A J it (Edyn ht (L_X5_skip_I ht (EI ht I A J it dyn x1) A J it (Edyn ht I A J it dyn x1) (L_X5_next_r ht (EI ht I A J it dyn x1) A J it (Edyn ht I A J it dyn x1))) A J it (Edyn ht I A J it dyn x1) x1) 58) A J it (Edyn ht (L_X5_skip_I ht (EI ht I A J it dyn x1) A J it (Edyn ht I A J it dyn x1) (L_X5_next_r ht (EI ht I A J it dyn x1) A J it (Edyn ht I A J it dyn x1))) A J it (Edyn ht I A J it dyn x1) x1) x1))) := by
              refine fs_astore (L' := [(5, .inr (.inr (if (L_X5_skip_r ht (EI ht (L_X5_skip_I ht (EI ht I A J it dyn x1) A J it (Edyn ht I A J it dyn x1) (L_X5_next_r ht (EI ht I A J it dyn x1) A J it (Edyn ht I A J it dyn x1))) A J it (Edyn ht I A J it dyn x1) x1) A J it (Edyn ht (L_X5_skip_I ht (EI ht I A J it dyn x1) A J it (Edyn ht I A J it dyn x1) (L_X5_next_r ht (EI ht I A J it dyn x1) A J it (Edyn ht I A J it dyn x1))) A J it (Edyn ht I A J it dyn x1) x1) 58) = 0 then none else (Er ht (L_X5_skip_I ht (EI ht (L_X5_skip_I ht (EI ht I A J it dyn x1) A J it (Edyn ht I A J it dyn x1) (L_X5_next_r ht (EI ht I A J it dyn x1) A J it (Edyn ht I A J it dyn x1))) A J it (Edyn ht I A J it dyn x1) x1) A J it (Edyn ht (L_X5_skip_I ht (EI ht I A J it dyn x1) A J it (Edyn ht I A J it dyn x1) (L_X5_next_r ht (EI ht I A J it dyn x1) A J it (Edyn ht I A J it dyn x1))) A J it (Edyn ht I A J it dyn x1) x1) 58) A J it (Edyn ht (L_X5_skip_I ht (EI ht I A J it dyn x1) A J it (Edyn ht I A J it dyn x1) (L_X5_next_r ht (EI ht I A J it dyn x1) A J it (Edyn ht I A J it dyn x1))) A J it (Edyn ht I A J it dyn x1) x1) x1) : Option Nat))), (0, .inr (.inr (some 1))), (1, .inl x1), (2, .inr (.inr (Er ht I A J it dyn x1))), (3, .inl (L_X5_next_r ht (EI ht I A J it dyn x1) A J it (Edyn ht I A J it dyn x1))), (4, .inr (.inr (Er ht (L_X5_skip_I ht (EI ht I A J it dyn x1) A J it (Edyn ht I A J it dyn x1) (L_X5_next_r ht (EI ht I A J it dyn x1) A J it (Edyn ht I A J it dyn x1))) A J it (Edyn ht I A J it dyn x1) x1)))]) dX5_inBrackets_73 (by decide) rfl ?_
              refine fs_aload dX5_inBrackets_75 rfl ?_
              refine fs_ifnonnull' 82 dX5_inBrackets_77 (by decide) (fun c_77 : ¬ (if (L_X5_skip_r ht (EI ht (L_X5_skip_I ht (EI ht I A J it dyn x1) A J it (Edyn ht I A J it dyn x1) (L_X5_next_r ht (EI ht I A J it dyn x1) A J it (Edyn ht I A J it dyn x1))) A J it (Edyn ht I A J it dyn x1) x1) A J it (Edyn ht (L_X5_skip_I ht (EI ht I A J it dyn x1) A J it (Edyn ht I A J it dyn x1) (L_X5_next_r ht (EI ht I A J it dyn x1) A J it (Edyn ht I A J it dyn x1))) A J it (Edyn ht I A J it dyn x1) x1) 58) = 0 then none else (Er ht (L_X5_skip_I ht (EI ht (L_X5_skip_I ht (EI ht I A J it dyn x1) A J it (Edyn ht I A J it dyn x1) (L_X5_next_r ht (EI ht I A J it dyn x1) A J it (Edyn ht I A J it dyn x1))) A J it (Edyn ht I A J it dyn x1) x1) A J it (Edyn ht (L_X5_skip_I ht (EI ht I A J it dyn x1) A J it (Edyn ht I A J it dyn x1) (L_X5_next_r ht (EI ht I A J it dyn x1) A J it (Edyn ht I A J it dyn x1))) A J it (Edyn ht I A J it dyn x1) x1) 58) A J it (Edyn ht (L_X5_skip_I ht (EI ht I A J it dyn x1) A J it (Edyn ht I A J it dyn x1) (L_X5_next_r ht (EI ht I A J it dyn x1) A J it (Edyn ht I A J it dyn x1))) A J it (Edyn ht I A J it dyn x1) x1) x1) : Option Nat) = none => ?_) (fun c_77 : (if (L_X5_skip_r ht (EI ht (L_X5_skip_I ht (EI ht I A J it dyn x1) A J it (Edyn ht I A J it dyn x1) (L_X5_next_r ht (EI ht I A J it dyn x1) A J it (Edyn ht I A J it dyn x1))) A J it (Edyn ht I A J it dyn x1) x1) A J it (Edyn ht (L_X5_skip_I ht (EI ht I A J it dyn x1) A J it (Edyn ht I A J it dyn x1) (L_X5_next_r ht (EI ht I A J it dyn x1) A J it (Edyn ht I A J it dyn x1))) A J it (Edyn ht I A J it dyn x1) x1) 58) = 0 then none else (Er ht (L_X5_skip_I ht (EI ht (L_X5_skip_I ht (EI ht I A J it dyn x1) A J it (Edyn ht I A J it dyn x1) (L_X5_next_r ht (EI ht I A J it dyn x1) A J it (Edyn ht I A J it dyn x1))) A J it (Edyn ht I A J it dyn x1) x1) A J it (Edyn ht (L_X5_skip_I ht (EI ht I A J it dyn x1) A J it (Edyn ht I A J it dyn x1) (L_X5_next_r ht (EI ht I A J it dyn x1) A J it (Edyn ht I A J it dyn x1))) A J it (Edyn ht I A J it dyn x1) x1) 58) A J it (Edyn ht (L_X5_skip_I ht (EI ht I A J it dyn x1) A J it (Edyn ht I A J it dyn x1) (L_X5_next_r ht (EI ht I A J it dyn x1) A J it (Edyn ht I A J it dyn x1))) A J it (Edyn ht I A J it dyn x1) x1) x1) : Option Nat) = none => ?_)
              · have hS := hS c_77
                refine fs_aload_n dX5_inBrackets_82 rfl rfl ?_
                refine fs_bipush (v := 41) dX5_inBrackets_83 rfl ?_
                obtain ⟨ho1, hS⟩ := hS
                refine fs_callV1 dX5_inBrackets_85 sv_X5_38 rfl ⟨_, rfl, rfl⟩ (c_X5_skip G l ht (if (L_X5_skip_r ht (EI ht (L_X5_skip_I ht (EI ht I A J it dyn x1) A J it (Edyn ht I A J it dyn x1) (L_X5_next_r ht (EI ht I A J it dyn x1) A J it (Edyn ht I A J it dyn x1))) A J it (Edyn ht I A J it dyn x1) x1) A J it (Edyn ht (L_X5_skip_I ht (EI ht I A J it dyn x1) A J it (Edyn ht I A J it dyn x1) (L_X5_next_r ht (EI ht I A J it dyn x1) A J it (Edyn ht I A J it dyn x1))) A J it (Edyn ht I A J it dyn x1) x1) 58) = 0 then (L_X5_skip_I ht (EI ht (L_X5_skip_I ht (EI ht I A J it dyn x1) A J it (Edyn ht I A J it dyn x1) (L_X5_next_r ht (EI ht I A J it dyn x1) A J it (Edyn ht I A J it dyn x1))) A J it (Edyn ht I A J it dyn x1) x1) A J it (Edyn ht (L_X5_skip_I ht (EI ht I A J it dyn x1) A J it (Edyn ht I A J it dyn x1) (L_X5_next_r ht (EI ht I A J it dyn x1) A J it (Edyn ht I A J it dyn x1))) A J it (Edyn ht I A J it dyn x1) x1) 58) else (EI ht (L_X5_skip_I ht (EI ht (L_X5_skip_I ht (EI ht I A J it dyn x1) A J it (Edyn ht I A J it dyn x1) (L_X5_next_r ht (EI ht I A J it dyn x1) A J it (Edyn ht I A J it dyn x1))) A J it (Edyn ht I A J it dyn x1) x1) A J it (Edyn ht (L_X5_skip_I ht (EI ht I A J it dyn x1) A J it (Edyn ht I A J it dyn x1) (L_X5_next_r ht (EI ht I A J it dyn x1) A J it (Edyn ht I A J it dyn x1))) A J it (Edyn ht I A J it dyn x1) x1) 58) A J it (Edyn ht (L_X5_skip_I ht (EI ht I A J it dyn x1) A J it (Edyn ht I A J it dyn x1) (L_X5_next_r ht (EI ht I A J it dyn x1) A J it (Edyn ht I A J it dyn x1))) A J it (Edyn ht I A J it dyn x1) x1) x1)) A J it (if (L_X5_skip_r ht (EI ht (L_X5_skip_I ht (EI ht I A J it dyn x1) A J it (Edyn ht I A J it dyn x1) (L_X5_next_r ht (EI ht I A J it dyn x1) A J it (Edyn ht I A J it dyn x1))) A J it (Edyn ht I A J it dyn x1) x1) A J it (Edyn ht (L_X5_skip_I ht (EI ht I A J it dyn x1) A J it (Edyn ht I A J it dyn x1) (L_X5_next_r ht (EI ht I A J it dyn x1) A J it (Edyn ht I A J it dyn x1))) A J it (Edyn ht I A J it dyn x1) x1) 58) = 0 then (Edyn ht (L_X5_skip_I ht (EI ht I A J it dyn x1) A J it (Edyn ht I A J it dyn x1) (L_X5_next_r ht (EI ht I A J it dyn x1) A J it (Edyn ht I A J it dyn x1))) A J it (Edyn ht I A J it dyn x1) x1) else (Edyn ht (L_X5_skip_I ht (EI ht (L_X5_skip_I ht (EI ht I A J it dyn x1) A J it (Edyn ht I A J it dyn x1) (L_X5_next_r ht (EI ht I A J it dyn x1) A J it (Edyn ht I A J it dyn x1))) A J it (Edyn ht I A J it dyn x1) x1) A J it (Edyn ht (L_X5_skip_I ht (EI ht I A J it dyn x1) A J it (Edyn ht I A J it dyn x1) (L_X5_next_r ht (EI ht I A J it dyn x1) A J it (Edyn ht I A J it dyn x1))) A J it (Edyn ht I A J it dyn x1) x1) 58) A J it (Edyn ht (L_X5_skip_I ht (EI ht I A J it dyn x1) A J it (Edyn ht I A J it dyn x1) (L_X5_next_r ht (EI ht I A J it dyn x1) A J it (Edyn ht I A J it dyn x1))) A J it (Edyn ht I A J it dyn x1) x1) x1)) 41 ho1) rfl rfl (Nat.le_of_ble_eq_true rfl) (by omega) (by omega) (by omega) ?_
                have hR_88 := hS
                have key_108 : fsW G l mX5_inBrackets (dE + 2) (1 + 3 * mE) (7 + 21 * mE) (1 + 3 * mE) (7 + 21 * mE) Q 108 [(0, .inr (.inr (some 1))), (1, .inl x1), (2, .inr (.inr (Er ht I A J it dyn x1))), (3, .inl (L_X5_next_r ht (EI ht I A J it dyn x1) A J it (Edyn ht I A J it dyn x1))), (4, .inr (.inr (Er ht (L_X5_skip_I ht (EI ht I A J it dyn x1) A J it (Edyn ht I A J it dyn x1) (L_X5_next_r ht (EI ht I A J it dyn x1) A J it (Edyn ht I A J it dyn x1))) A J it (Edyn ht I A J it dyn x1) x1))), (5, .inr (.inr (if (L_X5_skip_r ht (EI ht (L_X5_skip_I ht (EI ht I A J it dyn x1) A J it (Edyn ht I A J it dyn x1) (L_X5_next_r ht (EI ht I A J it dyn x1) A J it (Edyn ht I A J it dyn x1))) A J it (Edyn ht I A J it dyn x1) x1) A J it (Edyn ht (L_X5_skip_I ht (EI ht I A J it dyn x1) A J it (Edyn ht I A J it dyn x1) (L_X5_next_r ht (EI ht I A J it dyn x1) A J it (Edyn ht I A J it dyn x1))) A J it (Edyn ht I A J it dyn x1) x1) 58) = 0 then none else (Er ht (L_X5_skip_I ht (EI ht (L_X5_skip_I ht (EI ht I A J it dyn x1) A J it (Edyn ht I A J it dyn x1) (L_X5_next_r ht (EI ht I A J it dyn x1) A J it (Edyn ht I A J it dyn x1))) A J it (Edyn ht I A J it dyn x1) x1) A J it (Edyn ht (L_X5_skip_I ht (EI ht I A J it dyn x1) A J it (Edyn ht I A J it dyn x1) (L_X5_next_r ht (EI ht I A J it dyn x1) A J it (Edyn ht I A J it dyn x1))) A J it (Edyn ht I A J it dyn x1) x1) 58) A J it (Edyn ht (L_X5_skip_I ht (EI ht I A J it dyn x1) A J it (Edyn ht I A J it dyn x1) (L_X5_next_r ht (EI ht I A J it dyn x1) A J it (Edyn ht I A J it dyn x1))) A J it (Edyn ht I A J it dyn x1) x1) x1) : Option Nat)))] [.inr (.inr (if (L_X5_skip_r ht (if (L_X5_skip_r ht (EI ht (L_X5_skip_I ht (EI ht I A J it dyn x1) A J it (Edyn ht I A J it dyn x1) (L_X5_next_r ht (EI ht I A J it dyn x1) A J it (Edyn ht I A J it dyn x1))) A J it (Edyn ht I A J it dyn x1) x1) A J it (Edyn ht (L_X5_skip_I ht (EI ht I A J it dyn x1) A J it (Edyn ht I A J it dyn x1) (L_X5_next_r ht (EI ht I A J it dyn x1) A J it (Edyn ht I A J it dyn x1))) A J it (Edyn ht I A J it dyn x1) x1) 58) = 0 then (L_X5_skip_I ht (EI ht (L_X5_skip_I ht (EI ht I A J it dyn x1) A J it (Edyn ht I A J it dyn x1) (L_X5_next_r ht (EI ht I A J it dyn x1) A J it (Edyn ht I A J it dyn x1))) A J it (Edyn ht I A J it dyn x1) x1) A J it (Edyn ht (L_X5_skip_I ht (EI ht I A J it dyn x1) A J it (Edyn ht I A J it dyn x1) (L_X5_next_r ht (EI ht I A J it dyn x1) A J it (Edyn ht I A J it dyn x1))) A J it (Edyn ht I A J it dyn x1) x1) 58) else (EI ht (L_X5_skip_I ht (EI ht (L_X5_skip_I ht (EI ht I A J it dyn x1) A J it (Edyn ht I A J it dyn x1) (L_X5_next_r ht (EI ht I A J it dyn x1) A J it (Edyn ht I A J it dyn x1))) A J it (Edyn ht I A J it dyn x1) x1) A J it (Edyn ht (L_X5_skip_I ht (EI ht I A J it dyn x1) A J it (Edyn ht I A J it dyn x1) (L_X5_next_r ht (EI ht I A J it dyn x1) A J it (Edyn ht I A J it dyn x1))) A J it (Edyn ht I A J it dyn x1) x1) 58) A J it (Edyn ht (L_X5_skip_I ht (EI ht I A J it dyn x1) A J it (Edyn ht I A J it dyn x1) (L_X5_next_r ht (EI ht I A J it dyn x1) A J it (Edyn ht I A J it dyn x1))) A J it (Edyn ht I A J it dyn x1) x1) x1)) A J it (if (L_X5_skip_r ht (EI ht (L_X5_skip_I ht (EI ht I A J it dyn x1) A J it (Edyn ht I A J it dyn x1) (L_X5_next_r ht (EI ht I A J it dyn x1) A J it (Edyn ht I A J it dyn x1))) A J it (Edyn ht I A J it dyn x1) x1) A J it (Edyn ht (L_X5_skip_I ht (EI ht I A J it dyn x1) A J it (Edyn ht I A J it dyn x1) (L_X5_next_r ht (EI ht I A J it dyn x1) A J it (Edyn ht I A J it dyn x1))) A J it (Edyn ht I A J it dyn x1) x1) 58) = 0 then (Edyn ht (L_X5_skip_I ht (EI ht I A J it dyn x1) A J it (Edyn ht I A J it dyn x1) (L_X5_next_r ht (EI ht I A J it dyn x1) A J it (Edyn ht I A J it dyn x1))) A J it (Edyn ht I A J it dyn x1) x1) else (Edyn ht (L_X5_skip_I ht (EI ht (L_X5_skip_I ht (EI ht I A J it dyn x1) A J it (Edyn ht I A J it dyn x1) (L_X5_next_r ht (EI ht I A J it dyn x1) A J it (Edyn ht I A J it dyn x1))) A J it (Edyn ht I A J it dyn x1) x1) A J it (Edyn ht (L_X5_skip_I ht (EI ht I A J it dyn x1) A J it (Edyn ht I A J it dyn x1) (L_X5_next_r ht (EI ht I A J it dyn x1) A J it (Edyn ht I A J it dyn x1))) A J it (Edyn ht I A J it dyn x1) x1) 58) A J it (Edyn ht (L_X5_skip_I ht (EI ht I A J it dyn x1) A J it (Edyn ht I A J it dyn x1) (L_X5_next_r ht (EI ht I A J it dyn x1) A J it (Edyn ht I A J it dyn x1))) A J it (Edyn ht I A J it dyn x1) x1) x1)) 41) = 0 then none else (some ((if (L_X5_skip_r ht (EI ht (L_X5_skip_I ht (EI ht I A J it dyn x1) A J it (Edyn ht I A J it dyn x1) (L_X5_next_r ht (EI ht I A J it dyn x1) A J it (Edyn ht I A J it dyn x1))) A J it (Edyn ht I A J it dyn x1) x1) A J it (Edyn ht (L_X5_skip_I ht (EI ht I A J it dyn x1) A J it (Edyn ht I A J it dyn x1) (L_X5_next_r ht (EI ht I A J it dyn x1) A J it (Edyn ht I A J it dyn x1))) A J it (Edyn ht I A J it dyn x1) x1) 58) = 0 then (Edyn ht (L_X5_skip_I ht (EI ht I A J it dyn x1) A J it (Edyn ht I A J it dyn x1) (L_X5_next_r ht (EI ht I A J it dyn x1) A J it (Edyn ht I A J it dyn x1))) A J it (Edyn ht I A J it dyn x1) x1) else (Edyn ht (L_X5_skip_I ht (EI ht (L_X5_skip_I ht (EI ht I A J it dyn x1) A J it (Edyn ht I A J it dyn x1) (L_X5_next_r ht (EI ht I A J it dyn x1) A J it (Edyn ht I A J it dyn x1))) A J it (Edyn ht I A J it dyn x1) x1) A J it (Edyn ht (L_X5_skip_I ht (EI ht I A J it dyn x1) A J it (Edyn ht I A J it dyn x1) (L_X5_next_r ht (EI ht I A J it dyn x1) A J it (Edyn ht I A J it dyn x1))) A J it (Edyn ht I A J it dyn x1) x1) 58) A J it (Edyn ht (L_X5_skip_I ht (EI ht I A J it dyn x1) A J it (Edyn ht I A J it dyn x1) (L_X5_next_r ht (EI ht I A J it dyn x1) A J it (Edyn ht I A J it dyn x1))) A J it (Edyn ht I A J it dyn x1) x1) x1)).length + 41)) : Option Nat))] (fs_mk ht (L_X5_skip_I ht (if (L_X5_skip_r ht (EI ht (L_X5_skip_I ht (EI ht I A J it dyn x1) A J it (Edyn ht I A J it dyn x1) (L_X5_next_r ht (EI ht I A J it dyn x1) A J it (Edyn ht I A J it dyn x1))) A J it (Edyn ht I A J it dyn x1) x1) A J it (Edyn ht (L_X5_skip_I ht (EI ht I A J it dyn x1) A J it (Edyn ht I A J it dyn x1) (L_X5_next_r ht (EI ht I A J it dyn x1) A J it (Edyn ht I A J it dyn x1))) A J it (Edyn ht I A J it dyn x1) x1) 58) = 0 then (L_X5_skip_I ht (EI ht (L_X5_skip_I ht (EI ht I A J it dyn x1) A J it (Edyn ht I A J it dyn x1) (L_X5_next_r ht (EI ht I A J it dyn x1) A J it (Edyn ht I A J it dyn x1))) A J it (Edyn ht I A J it dyn x1) x1) A J it (Edyn ht (L_X5_skip_I ht (EI ht I A J it dyn x1) A J it (Edyn ht I A J it dyn x1) (L_X5_next_r ht (EI ht I A J it dyn x1) A J it (Edyn ht I A J it dyn x1))) A J it (Edyn ht I A J it dyn x1) x1) 58) else (EI ht (L_X5_skip_I ht (EI ht (L_X5_skip_I ht (EI ht I A J it dyn x1) A J it (Edyn ht I A J it dyn x1) (L_X5_next_r ht (EI ht I A J it dyn x1) A J it (Edyn ht I A J it dyn x1))) A J it (Edyn ht I A J it dyn x1) x1) A J it (Edyn ht (L_X5_skip_I ht (EI ht I A J it dyn x1) A J it (Edyn ht I A J it dyn x1) (L_X5_next_r ht (EI ht I A J it dyn x1) A J it (Edyn ht I A J it dyn x1))) A J it (Edyn ht I A J it dyn x1) x1) 58) A J it (Edyn ht (L_X5_skip_I ht (EI ht I A J it dyn x1) A J it (Edyn ht I A J it dyn x1) (L_X5_next_r ht (EI ht I A J it dyn x1) A J it (Edyn ht I A J it dyn x1))) A J it (Edyn ht I A J it dyn x1) x1) x1)) A J it (if (L_X5_skip_r ht (EI ht (L_X5_skip_I ht (EI ht I A J it dyn x1) A J it (Edyn ht I A J it dyn x1) (L_X5_next_r ht (EI ht I A J it dyn x1) A J it (Edyn ht I A J it dyn x1))) A J it (Edyn ht I A J it dyn x1) x1) A J it (Edyn ht (L_X5_skip_I ht (EI ht I A J it dyn x1) A J it (Edyn ht I A J it dyn x1) (L_X5_next_r ht (EI ht I A J it dyn x1) A J it (Edyn ht I A J it dyn x1))) A J it (Edyn ht I A J it dyn x1) x1) 58) = 0 then (Edyn ht (L_X5_skip_I ht (EI ht I A J it dyn x1) A J it (Edyn ht I A J it dyn x1) (L_X5_next_r ht (EI ht I A J it dyn x1) A J it (Edyn ht I A J it dyn x1))) A J it (Edyn ht I A J it dyn x1) x1) else (Edyn ht (L_X5_skip_I ht (EI ht (L_X5_skip_I ht (EI ht I A J it dyn x1) A J it (Edyn ht I A J it dyn x1) (L_X5_next_r ht (EI ht I A J it dyn x1) A J it (Edyn ht I A J it dyn x1))) A J it (Edyn ht I A J it dyn x1) x1) A J it (Edyn ht (L_X5_skip_I ht (EI ht I A J it dyn x1) A J it (Edyn ht I A J it dyn x1) (L_X5_next_r ht (EI ht I A J it dyn x1) A J it (Edyn ht I A J it dyn x1))) A J it (Edyn ht I A J it dyn x1) x1) 58) A J it (Edyn ht (L_X5_skip_I ht (EI ht I A J it dyn x1) A J it (Edyn ht I A J it dyn x1) (L_X5_next_r ht (EI ht I A J it dyn x1) A J it (Edyn ht I A J it dyn x1))) A J it (Edyn ht I A J it dyn x1) x1) x1)) 41) A J it (if (L_X5_skip_r ht (if (L_X5_skip_r ht (EI ht (L_X5_skip_I ht (EI ht I A J it dyn x1) A J it (Edyn ht I A J it dyn x1) (L_X5_next_r ht (EI ht I A J it dyn x1) A J it (Edyn ht I A J it dyn x1))) A J it (Edyn ht I A J it dyn x1) x1) A J it (Edyn ht (L_X5_skip_I ht (EI ht I A J it dyn x1) A J it (Edyn ht I A J it dyn x1) (L_X5_next_r ht (EI ht I A J it dyn x1) A J it (Edyn ht I A J it dyn x1))) A J it (Edyn ht I A J it dyn x1) x1) 58) = 0 then (L_X5_skip_I ht (EI ht (L_X5_skip_I ht (EI ht I A J it dyn x1) A J it (Edyn ht I A J it dyn x1) (L_X5_next_r ht (EI ht I A J it dyn x1) A J it (Edyn ht I A J it dyn x1))) A J it (Edyn ht I A J it dyn x1) x1) A J it (Edyn ht (L_X5_skip_I ht (EI ht I A J it dyn x1) A J it (Edyn ht I A J it dyn x1) (L_X5_next_r ht (EI ht I A J it dyn x1) A J it (Edyn ht I A J it dyn x1))) A J it (Edyn ht I A J it dyn x1) x1) 58) else (EI ht (L_X5_skip_I ht (EI ht (L_X5_skip_I ht (EI ht I A J it dyn x1) A J it (Edyn ht I A J it dyn x1) (L_X5_next_r ht (EI ht I A J it dyn x1) A J it (Edyn ht I A J it dyn x1))) A J it (Edyn ht I A J it dyn x1) x1) A J it (Edyn ht (L_X5_skip_I ht (EI ht I A J it dyn x1) A J it (Edyn ht I A J it dyn x1) (L_X5_next_r ht (EI ht I A J it dyn x1) A J it (Edyn ht I A J it dyn x1))) A J it (Edyn ht I A J it dyn x1) x1) 58) A J it (Edyn ht (L_X5_skip_I ht (EI ht I A J it dyn x1) A J it (Edyn ht I A J it dyn x1) (L_X5_next_r ht (EI ht I A J it dyn x1) A J it (Edyn ht I A J it dyn x1))) A J it (Edyn ht I A J it dyn x1) x1) x1)) A J it (if (L_X5_skip_r ht (EI ht (L_X5_skip_I ht (EI ht I A J it dyn x1) A J it (Edyn ht I A J it dyn x1) (L_X5_next_r ht (EI ht I A J it dyn x1) A J it (Edyn ht I A J it dyn x1))) A J it (Edyn ht I A J it dyn x1) x1) A J it (Edyn ht (L_X5_skip_I ht (EI ht I A J it dyn x1) A J it (Edyn ht I A J it dyn x1) (L_X5_next_r ht (EI ht I A J it dyn x1) A J it (Edyn ht I A J it dyn x1))) A J it (Edyn ht I A J it dyn x1) x1) 58) = 0 then (Edyn ht (L_X5_skip_I ht (EI ht I A J it dyn x1) A J it (Edyn ht I A J it dyn x1) (L_X5_next_r ht (EI ht I A J it dyn x1) A J it (Edyn ht I A J it dyn x1))) A J it (Edyn ht I A J it dyn x1) x1) else (Edyn ht (L_X5_skip_I ht (EI ht (L_X5_skip_I ht (EI ht I A J it dyn x1) A J it (Edyn ht I A J it dyn x1) (L_X5_next_r ht (EI ht I A J it dyn x1) A J it (Edyn ht I A J it dyn x1))) A J it (Edyn ht I A J it dyn x1) x1) A J it (Edyn ht (L_X5_skip_I ht (EI ht I A J it dyn x1) A J it (Edyn ht I A J it dyn x1) (L_X5_next_r ht (EI ht I A J it dyn x1) A J it (Edyn ht I A J it dyn x1))) A J it (Edyn ht I A J it dyn x1) x1) 58) A J it (Edyn ht (L_X5_skip_I ht (EI ht I A J it dyn x1) A J it (Edyn ht I A J it dyn x1) (L_X5_next_r ht (EI ht I A J it dyn x1) A J it (Edyn ht I A J it dyn x1))) A J it (Edyn ht I A J it dyn x1) x1) x1)) 41) = 0 then (if (L_X5_skip_r ht (EI ht (L_X5_skip_I ht (EI ht I A J it dyn x1) A J it (Edyn ht I A J it dyn x1) (L_X5_next_r ht (EI ht I A J it dyn x1) A J it (Edyn ht I A J it dyn x1))) A J it (Edyn ht I A J it dyn x1) x1) A J it (Edyn ht (L_X5_skip_I ht (EI ht I A J it dyn x1) A J it (Edyn ht I A J it dyn x1) (L_X5_next_r ht (EI ht I A J it dyn x1) A J it (Edyn ht I A J it dyn x1))) A J it (Edyn ht I A J it dyn x1) x1) 58) = 0 then (Edyn ht (L_X5_skip_I ht (EI ht I A J it dyn x1) A J it (Edyn ht I A J it dyn x1) (L_X5_next_r ht (EI ht I A J it dyn x1) A J it (Edyn ht I A J it dyn x1))) A J it (Edyn ht I A J it dyn x1) x1) else (Edyn ht (L_X5_skip_I ht (EI ht (L_X5_skip_I ht (EI ht I A J it dyn x1) A J it (Edyn ht I A J it dyn x1) (L_X5_next_r ht (EI ht I A J it dyn x1) A J it (Edyn ht I A J it dyn x1))) A J it (Edyn ht I A J it dyn x1) x1) A J it (Edyn ht (L_X5_skip_I ht (EI ht I A J it dyn x1) A J it (Edyn ht I A J it dyn x1) (L_X5_next_r ht (EI ht I A J it dyn x1) A J it (Edyn ht I A J it dyn x1))) A J it (Edyn ht I A J it dyn x1) x1) 58) A J it (Edyn ht (L_X5_skip_I ht (EI ht I A J it dyn x1) A J it (Edyn ht I A J it dyn x1) (L_X5_next_r ht (EI ht I A J it dyn x1) A J it (Edyn ht I A J it dyn x1))) A J it (Edyn ht I A J it dyn x1) x1) x1)) else ((if (L_X5_skip_r ht (EI ht (L_X5_skip_I ht (EI ht I A J it dyn x1) A J it (Edyn ht I A J it dyn x1) (L_X5_next_r ht (EI ht I A J it dyn x1) A J it (Edyn ht I A J it dyn x1))) A J it (Edyn ht I A J it dyn x1) x1) A J it (Edyn ht (L_X5_skip_I ht (EI ht I A J it dyn x1) A J it (Edyn ht I A J it dyn x1) (L_X5_next_r ht (EI ht I A J it dyn x1) A J it (Edyn ht I A J it dyn x1))) A J it (Edyn ht I A J it dyn x1) x1) 58) = 0 then (Edyn ht (L_X5_skip_I ht (EI ht I A J it dyn x1) A J it (Edyn ht I A J it dyn x1) (L_X5_next_r ht (EI ht I A J it dyn x1) A J it (Edyn ht I A J it dyn x1))) A J it (Edyn ht I A J it dyn x1) x1) else (Edyn ht (L_X5_skip_I ht (EI ht (L_X5_skip_I ht (EI ht I A J it dyn x1) A J it (Edyn ht I A J it dyn x1) (L_X5_next_r ht (EI ht I A J it dyn x1) A J it (Edyn ht I A J it dyn x1))) A J it (Edyn ht I A J it dyn x1) x1) A J it (Edyn ht (L_X5_skip_I ht (EI ht I A J it dyn x1) A J it (Edyn ht I A J it dyn x1) (L_X5_next_r ht (EI ht I A J it dyn x1) A J it (Edyn ht I A J it dyn x1))) A J it (Edyn ht I A J it dyn x1) x1) 58) A J it (Edyn ht (L_X5_skip_I ht (EI ht I A J it dyn x1) A J it (Edyn ht I A J it dyn x1) (L_X5_next_r ht (EI ht I A J it dyn x1) A J it (Edyn ht I A J it dyn x1))) A J it (Edyn ht I A J it dyn x1) x1) x1)) ++ [some (.inr (3, [fsI (L_X5_next_r ht (EI ht I A J it dyn x1) A J it (Edyn ht I A J it dyn x1)), fsJ 0, fsI 0, fsR (Er ht I A J it dyn x1), fsR (Er ht (L_X5_skip_I ht (EI ht I A J it dyn x1) A J it (Edyn ht I A J it dyn x1) (L_X5_next_r ht (EI ht I A J it dyn x1) A J it (Edyn ht I A J it dyn x1))) A J it (Edyn ht I A J it dyn x1) x1), fsR (if (L_X5_skip_r ht (EI ht (L_X5_skip_I ht (EI ht I A J it dyn x1) A J it (Edyn ht I A J it dyn x1) (L_X5_next_r ht (EI ht I A J it dyn x1) A J it (Edyn ht I A J it dyn x1))) A J it (Edyn ht I A J it dyn x1) x1) A J it (Edyn ht (L_X5_skip_I ht (EI ht I A J it dyn x1) A J it (Edyn ht I A J it dyn x1) (L_X5_next_r ht (EI ht I A J it dyn x1) A J it (Edyn ht I A J it dyn x1))) A J it (Edyn ht I A J it dyn x1) x1) 58) = 0 then none else (Er ht (L_X5_skip_I ht (EI ht (L_X5_skip_I ht (EI ht I A J it dyn x1) A J it (Edyn ht I A J it dyn x1) (L_X5_next_r ht (EI ht I A J it dyn x1) A J it (Edyn ht I A J it dyn x1))) A J it (Edyn ht I A J it dyn x1) x1) A J it (Edyn ht (L_X5_skip_I ht (EI ht I A J it dyn x1) A J it (Edyn ht I A J it dyn x1) (L_X5_next_r ht (EI ht I A J it dyn x1) A J it (Edyn ht I A J it dyn x1))) A J it (Edyn ht I A J it dyn x1) x1) 58) A J it (Edyn ht (L_X5_skip_I ht (EI ht I A J it dyn x1) A J it (Edyn ht I A J it dyn x1) (L_X5_next_r ht (EI ht I A J it dyn x1) A J it (Edyn ht I A J it dyn x1))) A J it (Edyn ht I A J it dyn x1) x1) x1) : Option Nat), fsI (-1)]))]))) := by
                  refine fs_widen (k2 := (1 + 3 * mE)) (n2 := (7 + 21 * mE)) (by omega) (by omega) ?_
                  have k9 := hq
                  try simp only [if_neg c_12, if_neg c_19, if_neg c_27, if_neg c_41, if_pos c_52, if_neg c_77] at k9 ⊢
                  exact fs_aret dX5_inBrackets_108 rfl k9
                refine fs_if_eq 107 dX5_inBrackets_88 (by decide) (fun c_88 : (L_X5_skip_r ht (if (L_X5_skip_r ht (EI ht (L_X5_skip_I ht (EI ht I A J it dyn x1) A J it (Edyn ht I A J it dyn x1) (L_X5_next_r ht (EI ht I A J it dyn x1) A J it (Edyn ht I A J it dyn x1))) A J it (Edyn ht I A J it dyn x1) x1) A J it (Edyn ht (L_X5_skip_I ht (EI ht I A J it dyn x1) A J it (Edyn ht I A J it dyn x1) (L_X5_next_r ht (EI ht I A J it dyn x1) A J it (Edyn ht I A J it dyn x1))) A J it (Edyn ht I A J it dyn x1) x1) 58) = 0 then (L_X5_skip_I ht (EI ht (L_X5_skip_I ht (EI ht I A J it dyn x1) A J it (Edyn ht I A J it dyn x1) (L_X5_next_r ht (EI ht I A J it dyn x1) A J it (Edyn ht I A J it dyn x1))) A J it (Edyn ht I A J it dyn x1) x1) A J it (Edyn ht (L_X5_skip_I ht (EI ht I A J it dyn x1) A J it (Edyn ht I A J it dyn x1) (L_X5_next_r ht (EI ht I A J it dyn x1) A J it (Edyn ht I A J it dyn x1))) A J it (Edyn ht I A J it dyn x1) x1) 58) else (EI ht (L_X5_skip_I ht (EI ht (L_X5_skip_I ht (EI ht I A J it dyn x1) A J it (Edyn ht I A J it dyn x1) (L_X5_next_r ht (EI ht I A J it dyn x1) A J it (Edyn ht I A J it dyn x1))) A J it (Edyn ht I A J it dyn x1) x1) A J it (Edyn ht (L_X5_skip_I ht (EI ht I A J it dyn x1) A J it (Edyn ht I A J it dyn x1) (L_X5_next_r ht (EI ht I A J it dyn x1) A J it (Edyn ht I A J it dyn x1))) A J it (Edyn ht I A J it dyn x1) x1) 58) A J it (Edyn ht (L_X5_skip_I ht (EI ht I A J it dyn x1) A J it (Edyn ht I A J it dyn x1) (L_X5_next_r ht (EI ht I A J it dyn x1) A J it (Edyn ht I A J it dyn x1))) A J it (Edyn ht I A J it dyn x1) x1) x1)) A J it (if (L_X5_skip_r ht (EI ht (L_X5_skip_I ht (EI ht I A J it dyn x1) A J it (Edyn ht I A J it dyn x1) (L_X5_next_r ht (EI ht I A J it dyn x1) A J it (Edyn ht I A J it dyn x1))) A J it (Edyn ht I A J it dyn x1) x1) A J it (Edyn ht (L_X5_skip_I ht (EI ht I A J it dyn x1) A J it (Edyn ht I A J it dyn x1) (L_X5_next_r ht (EI ht I A J it dyn x1) A J it (Edyn ht I A J it dyn x1))) A J it (Edyn ht I A J it dyn x1) x1) 58) = 0 then (Edyn ht (L_X5_skip_I ht (EI ht I A J it dyn x1) A J it (Edyn ht I A J it dyn x1) (L_X5_next_r ht (EI ht I A J it dyn x1) A J it (Edyn ht I A J it dyn x1))) A J it (Edyn ht I A J it dyn x1) x1) else (Edyn ht (L_X5_skip_I ht (EI ht (L_X5_skip_I ht (EI ht I A J it dyn x1) A J it (Edyn ht I A J it dyn x1) (L_X5_next_r ht (EI ht I A J it dyn x1) A J it (Edyn ht I A J it dyn x1))) A J it (Edyn ht I A J it dyn x1) x1) A J it (Edyn ht (L_X5_skip_I ht (EI ht I A J it dyn x1) A J it (Edyn ht I A J it dyn x1) (L_X5_next_r ht (EI ht I A J it dyn x1) A J it (Edyn ht I A J it dyn x1))) A J it (Edyn ht I A J it dyn x1) x1) 58) A J it (Edyn ht (L_X5_skip_I ht (EI ht I A J it dyn x1) A J it (Edyn ht I A J it dyn x1) (L_X5_next_r ht (EI ht I A J it dyn x1) A J it (Edyn ht I A J it dyn x1))) A J it (Edyn ht I A J it dyn x1) x1) x1)) 41) = 0 => ?_) (fun c_88 : ¬ ((L_X5_skip_r ht (if (L_X5_skip_r ht (EI ht (L_X5_skip_I ht (EI ht I A J it dyn x1) A J it (Edyn ht I A J it dyn x1) (L_X5_next_r ht (EI ht I A J it dyn x1) A J it (Edyn ht I A J it dyn x1))) A J it (Edyn ht I A J it dyn x1) x1) A J it (Edyn ht (L_X5_skip_I ht (EI ht I A J it dyn x1) A J it (Edyn ht I A J it dyn x1) (L_X5_next_r ht (EI ht I A J it dyn x1) A J it (Edyn ht I A J it dyn x1))) A J it (Edyn ht I A J it dyn x1) x1) 58) = 0 then (L_X5_skip_I ht (EI ht (L_X5_skip_I ht (EI ht I A J it dyn x1) A J it (Edyn ht I A J it dyn x1) (L_X5_next_r ht (EI ht I A J it dyn x1) A J it (Edyn ht I A J it dyn x1))) A J it (Edyn ht I A J it dyn x1) x1) A J it (Edyn ht (L_X5_skip_I ht (EI ht I A J it dyn x1) A J it (Edyn ht I A J it dyn x1) (L_X5_next_r ht (EI ht I A J it dyn x1) A J it (Edyn ht I A J it dyn x1))) A J it (Edyn ht I A J it dyn x1) x1) 58) else (EI ht (L_X5_skip_I ht (EI ht (L_X5_skip_I ht (EI ht I A J it dyn x1) A J it (Edyn ht I A J it dyn x1) (L_X5_next_r ht (EI ht I A J it dyn x1) A J it (Edyn ht I A J it dyn x1))) A J it (Edyn ht I A J it dyn x1) x1) A J it (Edyn ht (L_X5_skip_I ht (EI ht I A J it dyn x1) A J it (Edyn ht I A J it dyn x1) (L_X5_next_r ht (EI ht I A J it dyn x1) A J it (Edyn ht I A J it dyn x1))) A J it (Edyn ht I A J it dyn x1) x1) 58) A J it (Edyn ht (L_X5_skip_I ht (EI ht I A J it dyn x1) A J it (Edyn ht I A J it dyn x1) (L_X5_next_r ht (EI ht I A J it dyn x1) A J it (Edyn ht I A J it dyn x1))) A J it (Edyn ht I A J it dyn x1) x1) x1)) A J it (if (L_X5_skip_r ht (EI ht (L_X5_skip_I ht (EI ht I A J it dyn x1) A J it (Edyn ht I A J it dyn x1) (L_X5_next_r ht (EI ht I A J it dyn x1) A J it (Edyn ht I A J it dyn x1))) A J it (Edyn ht I A J it dyn x1) x1) A J it (Edyn ht (L_X5_skip_I ht (EI ht I A J it dyn x1) A J it (Edyn ht I A J it dyn x1) (L_X5_next_r ht (EI ht I A J it dyn x1) A J it (Edyn ht I A J it dyn x1))) A J it (Edyn ht I A J it dyn x1) x1) 58) = 0 then (Edyn ht (L_X5_skip_I ht (EI ht I A J it dyn x1) A J it (Edyn ht I A J it dyn x1) (L_X5_next_r ht (EI ht I A J it dyn x1) A J it (Edyn ht I A J it dyn x1))) A J it (Edyn ht I A J it dyn x1) x1) else (Edyn ht (L_X5_skip_I ht (EI ht (L_X5_skip_I ht (EI ht I A J it dyn x1) A J it (Edyn ht I A J it dyn x1) (L_X5_next_r ht (EI ht I A J it dyn x1) A J it (Edyn ht I A J it dyn x1))) A J it (Edyn ht I A J it dyn x1) x1) A J it (Edyn ht (L_X5_skip_I ht (EI ht I A J it dyn x1) A J it (Edyn ht I A J it dyn x1) (L_X5_next_r ht (EI ht I A J it dyn x1) A J it (Edyn ht I A J it dyn x1))) A J it (Edyn ht I A J it dyn x1) x1) 58) A J it (Edyn ht (L_X5_skip_I ht (EI ht I A J it dyn x1) A J it (Edyn ht I A J it dyn x1) (L_X5_next_r ht (EI ht I A J it dyn x1) A J it (Edyn ht I A J it dyn x1))) A J it (Edyn ht I A J it dyn x1) x1) x1)) 41) = 0) => ?_)
                · refine fs_null dX5_inBrackets_107 ?_
                  refine fs_reL [1, 2, 3, 4, 5, 0] rfl ?_
                  refine fs_widen (k2 := (1 + 3 * mE)) (n2 := (7 + 21 * mE)) (by omega) (by omega) ?_
                  have k9 := key_108
                  try simp only [if_neg c_12, if_neg c_19, if_neg c_27, if_neg c_41, if_pos c_52, if_neg c_77, if_pos c_88] at k9 ⊢
                  exact k9
                · have hS := hR_88 c_88
                  refine fsn_new dX5_inBrackets_91 sw_X5_75 (by omega) (by omega) ?_
                  refine fs_dup dX5_inBrackets_94 rfl ?_
                  refine fs_iload_n dX5_inBrackets_95 rfl rfl ?_
                  refine fs_aload_n dX5_inBrackets_96 rfl rfl ?_
                  refine fs_aload dX5_inBrackets_97 rfl ?_
                  refine fs_aload dX5_inBrackets_99 rfl ?_
                  have ho1 := hS
                  refine fs_callI0 dX5_inBrackets_101 sv_X5_86 (c_X4_init_ G l ht (L_X5_skip_I ht (if (L_X5_skip_r ht (EI ht (L_X5_skip_I ht (EI ht I A J it dyn x1) A J it (Edyn ht I A J it dyn x1) (L_X5_next_r ht (EI ht I A J it dyn x1) A J it (Edyn ht I A J it dyn x1))) A J it (Edyn ht I A J it dyn x1) x1) A J it (Edyn ht (L_X5_skip_I ht (EI ht I A J it dyn x1) A J it (Edyn ht I A J it dyn x1) (L_X5_next_r ht (EI ht I A J it dyn x1) A J it (Edyn ht I A J it dyn x1))) A J it (Edyn ht I A J it dyn x1) x1) 58) = 0 then (L_X5_skip_I ht (EI ht (L_X5_skip_I ht (EI ht I A J it dyn x1) A J it (Edyn ht I A J it dyn x1) (L_X5_next_r ht (EI ht I A J it dyn x1) A J it (Edyn ht I A J it dyn x1))) A J it (Edyn ht I A J it dyn x1) x1) A J it (Edyn ht (L_X5_skip_I ht (EI ht I A J it dyn x1) A J it (Edyn ht I A J it dyn x1) (L_X5_next_r ht (EI ht I A J it dyn x1) A J it (Edyn ht I A J it dyn x1))) A J it (Edyn ht I A J it dyn x1) x1) 58) else (EI ht (L_X5_skip_I ht (EI ht (L_X5_skip_I ht (EI ht I A J it dyn x1) A J it (Edyn ht I A J it dyn x1) (L_X5_next_r ht (EI ht I A J it dyn x1) A J it (Edyn ht I A J it dyn x1))) A J it (Edyn ht I A J it dyn x1) x1) A J it (Edyn ht (L_X5_skip_I ht (EI ht I A J it dyn x1) A J it (Edyn ht I A J it dyn x1) (L_X5_next_r ht (EI ht I A J it dyn x1) A J it (Edyn ht I A J it dyn x1))) A J it (Edyn ht I A J it dyn x1) x1) 58) A J it (Edyn ht (L_X5_skip_I ht (EI ht I A J it dyn x1) A J it (Edyn ht I A J it dyn x1) (L_X5_next_r ht (EI ht I A J it dyn x1) A J it (Edyn ht I A J it dyn x1))) A J it (Edyn ht I A J it dyn x1) x1) x1)) A J it (if (L_X5_skip_r ht (EI ht (L_X5_skip_I ht (EI ht I A J it dyn x1) A J it (Edyn ht I A J it dyn x1) (L_X5_next_r ht (EI ht I A J it dyn x1) A J it (Edyn ht I A J it dyn x1))) A J it (Edyn ht I A J it dyn x1) x1) A J it (Edyn ht (L_X5_skip_I ht (EI ht I A J it dyn x1) A J it (Edyn ht I A J it dyn x1) (L_X5_next_r ht (EI ht I A J it dyn x1) A J it (Edyn ht I A J it dyn x1))) A J it (Edyn ht I A J it dyn x1) x1) 58) = 0 then (Edyn ht (L_X5_skip_I ht (EI ht I A J it dyn x1) A J it (Edyn ht I A J it dyn x1) (L_X5_next_r ht (EI ht I A J it dyn x1) A J it (Edyn ht I A J it dyn x1))) A J it (Edyn ht I A J it dyn x1) x1) else (Edyn ht (L_X5_skip_I ht (EI ht (L_X5_skip_I ht (EI ht I A J it dyn x1) A J it (Edyn ht I A J it dyn x1) (L_X5_next_r ht (EI ht I A J it dyn x1) A J it (Edyn ht I A J it dyn x1))) A J it (Edyn ht I A J it dyn x1) x1) A J it (Edyn ht (L_X5_skip_I ht (EI ht I A J it dyn x1) A J it (Edyn ht I A J it dyn x1) (L_X5_next_r ht (EI ht I A J it dyn x1) A J it (Edyn ht I A J it dyn x1))) A J it (Edyn ht I A J it dyn x1) x1) 58) A J it (Edyn ht (L_X5_skip_I ht (EI ht I A J it dyn x1) A J it (Edyn ht I A J it dyn x1) (L_X5_next_r ht (EI ht I A J it dyn x1) A J it (Edyn ht I A J it dyn x1))) A J it (Edyn ht I A J it dyn x1) x1) x1)) 41) A J it (if (L_X5_skip_r ht (EI ht (L_X5_skip_I ht (EI ht I A J it dyn x1) A J it (Edyn ht I A J it dyn x1) (L_X5_next_r ht (EI ht I A J it dyn x1) A J it (Edyn ht I A J it dyn x1))) A J it (Edyn ht I A J it dyn x1) x1) A J it (Edyn ht (L_X5_skip_I ht (EI ht I A J it dyn x1) A J it (Edyn ht I A J it dyn x1) (L_X5_next_r ht (EI ht I A J it dyn x1) A J it (Edyn ht I A J it dyn x1))) A J it (Edyn ht I A J it dyn x1) x1) 58) = 0 then (Edyn ht (L_X5_skip_I ht (EI ht I A J it dyn x1) A J it (Edyn ht I A J it dyn x1) (L_X5_next_r ht (EI ht I A J it dyn x1) A J it (Edyn ht I A J it dyn x1))) A J it (Edyn ht I A J it dyn x1) x1) else (Edyn ht (L_X5_skip_I ht (EI ht (L_X5_skip_I ht (EI ht I A J it dyn x1) A J it (Edyn ht I A J it dyn x1) (L_X5_next_r ht (EI ht I A J it dyn x1) A J it (Edyn ht I A J it dyn x1))) A J it (Edyn ht I A J it dyn x1) x1) A J it (Edyn ht (L_X5_skip_I ht (EI ht I A J it dyn x1) A J it (Edyn ht I A J it dyn x1) (L_X5_next_r ht (EI ht I A J it dyn x1) A J it (Edyn ht I A J it dyn x1))) A J it (Edyn ht I A J it dyn x1) x1) 58) A J it (Edyn ht (L_X5_skip_I ht (EI ht I A J it dyn x1) A J it (Edyn ht I A J it dyn x1) (L_X5_next_r ht (EI ht I A J it dyn x1) A J it (Edyn ht I A J it dyn x1))) A J it (Edyn ht I A J it dyn x1) x1) x1)) (L_X5_next_r ht (EI ht I A J it dyn x1) A J it (Edyn ht I A J it dyn x1)) (Er ht I A J it dyn x1) (Er ht (L_X5_skip_I ht (EI ht I A J it dyn x1) A J it (Edyn ht I A J it dyn x1) (L_X5_next_r ht (EI ht I A J it dyn x1) A J it (Edyn ht I A J it dyn x1))) A J it (Edyn ht I A J it dyn x1) x1) (if (L_X5_skip_r ht (EI ht (L_X5_skip_I ht (EI ht I A J it dyn x1) A J it (Edyn ht I A J it dyn x1) (L_X5_next_r ht (EI ht I A J it dyn x1) A J it (Edyn ht I A J it dyn x1))) A J it (Edyn ht I A J it dyn x1) x1) A J it (Edyn ht (L_X5_skip_I ht (EI ht I A J it dyn x1) A J it (Edyn ht I A J it dyn x1) (L_X5_next_r ht (EI ht I A J it dyn x1) A J it (Edyn ht I A J it dyn x1))) A J it (Edyn ht I A J it dyn x1) x1) 58) = 0 then none else (Er ht (L_X5_skip_I ht (EI ht (L_X5_skip_I ht (EI ht I A J it dyn x1) A J it (Edyn ht I A J it dyn x1) (L_X5_next_r ht (EI ht I A J it dyn x1) A J it (Edyn ht I A J it dyn x1))) A J it (Edyn ht I A J it dyn x1) x1) A J it (Edyn ht (L_X5_skip_I ht (EI ht I A J it dyn x1) A J it (Edyn ht I A J it dyn x1) (L_X5_next_r ht (EI ht I A J it dyn x1) A J it (Edyn ht I A J it dyn x1))) A J it (Edyn ht I A J it dyn x1) x1) 58) A J it (Edyn ht (L_X5_skip_I ht (EI ht I A J it dyn x1) A J it (Edyn ht I A J it dyn x1) (L_X5_next_r ht (EI ht I A J it dyn x1) A J it (Edyn ht I A J it dyn x1))) A J it (Edyn ht I A J it dyn x1) x1) x1) : Option Nat) ho1) rfl rfl (Nat.le_of_ble_eq_true rfl) (by omega) (by omega) (by omega) ?_
                  refine fs_goto 108 dX5_inBrackets_104 (by decide) ?_
                  refine fs_reL [1, 2, 3, 4, 5, 0] rfl ?_
                  refine fs_widen (k2 := (1 + 3 * mE)) (n2 := (7 + 21 * mE)) (by omega) (by omega) ?_
                  have k9 := key_108
                  try simp only [if_neg c_12, if_neg c_19, if_neg c_27, if_neg c_41, if_pos c_52, if_neg c_77, if_neg c_88] at k9 ⊢
                  exact k9
              · refine fs_null dX5_inBrackets_80 ?_
                refine fs_widen (k2 := (1 + 3 * mE)) (n2 := (7 + 21 * mE)) (by omega) (by omega) ?_
                have k9 := hq
                try simp only [if_neg c_12, if_neg c_19, if_neg c_27, if_neg c_41, if_pos c_52, if_pos c_77] at k9 ⊢
                exact fs_aret dX5_inBrackets_81 rfl k9
            refine fs_if_eq 72 dX5_inBrackets_61 (by decide) (fun c_61 : (L_X5_skip_r ht (EI ht (L_X5_skip_I ht (EI ht I A J it dyn x1) A J it (Edyn ht I A J it dyn x1) (L_X5_next_r ht (EI ht I A J it dyn x1) A J it (Edyn ht I A J it dyn x1))) A J it (Edyn ht I A J it dyn x1) x1) A J it (Edyn ht (L_X5_skip_I ht (EI ht I A J it dyn x1) A J it (Edyn ht I A J it dyn x1) (L_X5_next_r ht (EI ht I A J it dyn x1) A J it (Edyn ht I A J it dyn x1))) A J it (Edyn ht I A J it dyn x1) x1) 58) = 0 => ?_) (fun c_61 : ¬ ((L_X5_skip_r ht (EI ht (L_X5_skip_I ht (EI ht I A J it dyn x1) A J it (Edyn ht I A J it dyn x1) (L_X5_next_r ht (EI ht I A J it dyn x1) A J it (Edyn ht I A J it dyn x1))) A J it (Edyn ht I A J it dyn x1) x1) A J it (Edyn ht (L_X5_skip_I ht (EI ht I A J it dyn x1) A J it (Edyn ht I A J it dyn x1) (L_X5_next_r ht (EI ht I A J it dyn x1) A J it (Edyn ht I A J it dyn x1))) A J it (Edyn ht I A J it dyn x1) x1) 58) = 0) => ?_)
            · refine fs_null dX5_inBrackets_72 ?_
              refine fs_reL [4, 5, 3, 2, 1, 0] rfl ?_
              refine fs_widen (k2 := (0 + 3 * mE)) (n2 := (0 + 21 * mE)) (by omega) (by omega) ?_
              have k9 := key_73
              try simp only [if_neg c_12, if_neg c_19, if_neg c_27, if_neg c_41, if_pos c_52, if_pos c_61] at k9 ⊢
              exact k9
            · have hS := hR_61 c_61
              refine fs_aload_n dX5_inBrackets_64 rfl rfl ?_
              refine fs_iload_n dX5_inBrackets_65 rfl rfl ?_
              have ho1 := hS
              refine fs_callV1 dX5_inBrackets_66 sv_X5_58 rfl ⟨_, rfl, rfl⟩ (hE ht (L_X5_skip_I ht (EI ht (L_X5_skip_I ht (EI ht I A J it dyn x1) A J it (Edyn ht I A J it dyn x1) (L_X5_next_r ht (EI ht I A J it dyn x1) A J it (Edyn ht I A J it dyn x1))) A J it (Edyn ht I A J it dyn x1) x1) A J it (Edyn ht (L_X5_skip_I ht (EI ht I A J it dyn x1) A J it (Edyn ht I A J it dyn x1) (L_X5_next_r ht (EI ht I A J it dyn x1) A J it (Edyn ht I A J it dyn x1))) A J it (Edyn ht I A J it dyn x1) x1) 58) A J it (Edyn ht (L_X5_skip_I ht (EI ht I A J it dyn x1) A J it (Edyn ht I A J it dyn x1) (L_X5_next_r ht (EI ht I A J it dyn x1) A J it (Edyn ht I A J it dyn x1))) A J it (Edyn ht I A J it dyn x1) x1) x1 ho1) rfl rfl (Nat.le_of_ble_eq_true rfl) (by omega) (by omega) (by omega) ?_
              refine fs_goto 73 dX5_inBrackets_69 (by decide) ?_
              refine fs_reL [4, 5, 3, 2, 1, 0] rfl ?_
              refine fs_widen (k2 := (0 + 3 * mE)) (n2 := (0 + 21 * mE)) (by omega) (by omega) ?_
              have k9 := key_73
              try simp only [if_neg c_12, if_neg c_19, if_neg c_27, if_neg c_41, if_pos c_52, if_neg c_61] at k9 ⊢
              exact k9
        · refine fs_null dX5_inBrackets_44 ?_
          refine fs_widen (k2 := (1 + 3 * mE)) (n2 := (7 + 21 * mE)) (by omega) (by omega) ?_
          have k9 := hq
          try simp only [if_neg c_12, if_neg c_19, if_neg c_27, if_pos c_41] at k9 ⊢
          exact fs_aret dX5_inBrackets_45 rfl k9
      · refine fs_null dX5_inBrackets_30 ?_
        refine fs_widen (k2 := (1 + 3 * mE)) (n2 := (7 + 21 * mE)) (by omega) (by omega) ?_
        have k9 := hq
        try simp only [if_neg c_12, if_neg c_19, if_pos c_27] at k9 ⊢
        exact fs_aret dX5_inBrackets_31 rfl k9
def L_X5_expression_st_r (Er : Nat → (Nat → Int32) → (Nat → Nat → Int32) → (Nat → Nat → Int64) → (Nat → Option Nat) → fsH → Int32 → Option Nat) (EI : Nat → (Nat → Int32) → (Nat → Nat → Int32) → (Nat → Nat → Int64) → (Nat → Option Nat) → fsH → Int32 → Nat → Int32) (Edyn : Nat → (Nat → Int32) → (Nat → Nat → Int32) → (Nat → Nat → Int64) → (Nat → Option Nat) → fsH → Int32 → fsH) (ht : Nat) (I : Nat → Int32) (A : Nat → Nat → Int32) (J : Nat → Nat → Int64) (it : Nat → Option Nat) (dyn : fsH) (x1 : Int32) : Option Nat := (if (L_X7_isDigit_r ht I A J it dyn (L_X5_next_r ht I A J it dyn)) = 0 then (if (L_X7_isLetter_r ht I A J it dyn (L_X5_next_r ht I A J it dyn)) = 0 then (if (L_X5_skip_r ht I A J it dyn 35) = 0 then (if 6 ≤ x1 then none else (if (L_X5_skip_r ht (L_X5_skip_I ht I A J it dyn 35) A J it dyn 40) = 0 then none else (L_X5_inBrackets_r Er EI Edyn ht (L_X5_skip_I ht (L_X5_skip_I ht I A J it dyn 35) A J it dyn 40) A J it dyn (x1 + 1)) : Option Nat) : Option Nat) else (if (L_X7_isLetter_r ht (L_X5_skip_I ht I A J it dyn 35) A J it dyn (L_X5_next_r ht (L_X5_skip_I ht I A J it dyn 35) A J it dyn)) = 0 then none else (some (dyn.length + 41)) : Option Nat)) else (some (dyn.length + 41))) else (L_X5_number_r ht I A J it dyn))
def L_X5_expression_st_I (Er : Nat → (Nat → Int32) → (Nat → Nat → Int32) → (Nat → Nat → Int64) → (Nat → Option Nat) → fsH → Int32 → Option Nat) (EI : Nat → (Nat → Int32) → (Nat → Nat → Int32) → (Nat → Nat → Int64) → (Nat → Option Nat) → fsH → Int32 → Nat → Int32) (Edyn : Nat → (Nat → Int32) → (Nat → Nat → Int32) → (Nat → Nat → Int64) → (Nat → Option Nat) → fsH → Int32 → fsH) (ht : Nat) (I : Nat → Int32) (A : Nat → Nat → Int32) (J : Nat → Nat → Int64) (it : Nat → Option Nat) (dyn : fsH) (x1 : Int32) : Nat → Int32 := (if (L_X7_isDigit_r ht I A J it dyn (L_X5_next_r ht I A J it dyn)) = 0 then (if (L_X7_isLetter_r ht I A J it dyn (L_X5_next_r ht I A J it dyn)) = 0 then (if (L_X5_skip_r ht I A J it dyn 35) = 0 then (if 6 ≤ x1 then (L_X5_skip_I ht I A J it dyn 35) else (if (L_X5_skip_r ht (L_X5_skip_I ht I A J it dyn 35) A J it dyn 40) = 0 then (L_X5_skip_I ht (L_X5_skip_I ht I A J it dyn 35) A J it dyn 40) else (L_X5_inBrackets_I Er EI Edyn ht (L_X5_skip_I ht (L_X5_skip_I ht I A J it dyn 35) A J it dyn 40) A J it dyn (x1 + 1)))) else (if (L_X7_isLetter_r ht (L_X5_skip_I ht I A J it dyn 35) A J it dyn (L_X5_next_r ht (L_X5_skip_I ht I A J it dyn 35) A J it dyn)) = 0 then (L_X5_skip_I ht I A J it dyn 35) else (L_X5_nameCode_I ht (L_X5_skip_I ht I A J it dyn 35) A J it (dyn ++ [some (.inr (3, [fsI 0, fsJ 0, fsI 0, fsR none, fsR none, fsR none, fsI 0]))])))) else (L_X5_nameCode_I ht I A J it (dyn ++ [some (.inr (3, [fsI 0, fsJ 0, fsI 0, fsR none, fsR none, fsR none, fsI 0]))]))) else (L_X5_number_I ht I A J it dyn))
def L_X5_expression_st_dyn (Er : Nat → (Nat → Int32) → (Nat → Nat → Int32) → (Nat → Nat → Int64) → (Nat → Option Nat) → fsH → Int32 → Option Nat) (EI : Nat → (Nat → Int32) → (Nat → Nat → Int32) → (Nat → Nat → Int64) → (Nat → Option Nat) → fsH → Int32 → Nat → Int32) (Edyn : Nat → (Nat → Int32) → (Nat → Nat → Int32) → (Nat → Nat → Int64) → (Nat → Option Nat) → fsH → Int32 → fsH) (ht : Nat) (I : Nat → Int32) (A : Nat → Nat → Int32) (J : Nat → Nat → Int64) (it : Nat → Option Nat) (dyn : fsH) (x1 : Int32) : fsH := (if (L_X7_isDigit_r ht I A J it dyn (L_X5_next_r ht I A J it dyn)) = 0 then (if (L_X7_isLetter_r ht I A J it dyn (L_X5_next_r ht I A J it dyn)) = 0 then (if (L_X5_skip_r ht I A J it dyn 35) = 0 then (if 6 ≤ x1 then dyn else (if (L_X5_skip_r ht (L_X5_skip_I ht I A J it dyn 35) A J it dyn 40) = 0 then dyn else (L_X5_inBrackets_dyn Er EI Edyn ht (L_X5_skip_I ht (L_X5_skip_I ht I A J it dyn 35) A J it dyn 40) A J it dyn (x1 + 1)))) else (if (L_X7_isLetter_r ht (L_X5_skip_I ht I A J it dyn 35) A J it dyn (L_X5_next_r ht (L_X5_skip_I ht I A J it dyn 35) A J it dyn)) = 0 then dyn else (dyn ++ [some (.inr (3, [fsI 35, fsJ 0, fsI (L_X5_nameCode_r ht (L_X5_skip_I ht I A J it dyn 35) A J it (dyn ++ [some (.inr (3, [fsI 0, fsJ 0, fsI 0, fsR none, fsR none, fsR none, fsI 0]))])), fsR none, fsR none, fsR none, fsI (-1)]))]))) else (dyn ++ [some (.inr (3, [fsI 97, fsJ 0, fsI (L_X5_nameCode_r ht I A J it (dyn ++ [some (.inr (3, [fsI 0, fsJ 0, fsI 0, fsR none, fsR none, fsR none, fsI 0]))])), fsR none, fsR none, fsR none, fsI (-1)]))])) else (L_X5_number_dyn ht I A J it dyn))
def S_X5_expression_st (Er : Nat → (Nat → Int32) → (Nat → Nat → Int32) → (Nat → Nat → Int64) → (Nat → Option Nat) → fsH → Int32 → Option Nat) (EI : Nat → (Nat → Int32) → (Nat → Nat → Int32) → (Nat → Nat → Int64) → (Nat → Option Nat) → fsH → Int32 → Nat → Int32) (Edyn : Nat → (Nat → Int32) → (Nat → Nat → Int32) → (Nat → Nat → Int64) → (Nat → Option Nat) → fsH → Int32 → fsH) (ES : Nat → (Nat → Int32) → (Nat → Nat → Int32) → (Nat → Nat → Int64) → (Nat → Option Nat) → fsH → Int32 → Prop) (ht : Nat) (I : Nat → Int32) (A : Nat → Nat → Int32) (J : Nat → Nat → Int64) (it : Nat → Option Nat) (dyn : fsH) (x1 : Int32) : Prop := ((S_X5_next ht I A J it dyn) ∧ ((((L_X7_isDigit_r ht I A J it dyn (L_X5_next_r ht I A J it dyn)) = 0) → ((S_X5_next ht I A J it dyn) ∧ ((((L_X7_isLetter_r ht I A J it dyn (L_X5_next_r ht I A J it dyn)) = 0) → ((S_X5_skip ht I A J it dyn 35) ∧ ((((L_X5_skip_r ht I A J it dyn 35) = 0) → (¬ (6 ≤ x1) → ((S_X5_skip ht (L_X5_skip_I ht I A J it dyn 35) A J it dyn 40) ∧ (¬ ((L_X5_skip_r ht (L_X5_skip_I ht I A J it dyn 35) A J it dyn 40) = 0) → (S_X5_inBrackets Er EI Edyn ES ht (L_X5_skip_I ht (L_X5_skip_I ht I A J it dyn 35) A J it dyn 40) A J it dyn (x1 + 1)))))) ∧ (¬ ((L_X5_skip_r ht I A J it dyn 35) = 0) → ((S_X5_next ht (L_X5_skip_I ht I A J it dyn 35) A J it dyn) ∧ (¬ ((L_X7_isLetter_r ht (L_X5_skip_I ht I A J it dyn 35) A J it dyn (L_X5_next_r ht (L_X5_skip_I ht I A J it dyn 35) A J it dyn)) = 0) → (S_X5_nameCode ht (L_X5_skip_I ht I A J it dyn 35) A J it (dyn ++ [some (.inr (3, [fsI 0, fsJ 0, fsI 0, fsR none, fsR none, fsR none, fsI 0]))])))))))) ∧ (¬ ((L_X7_isLetter_r ht I A J it dyn (L_X5_next_r ht I A J it dyn)) = 0) → (S_X5_nameCode ht I A J it (dyn ++ [some (.inr (3, [fsI 0, fsJ 0, fsI 0, fsR none, fsR none, fsR none, fsI 0]))])))))) ∧ (¬ ((L_X7_isDigit_r ht I A J it dyn (L_X5_next_r ht I A J it dyn)) = 0) → (S_X5_number ht I A J it dyn))))
set_option maxRecDepth 100000 in
set_option maxHeartbeats 4000000 in
theorem c_X5_expression_st (G : fsG) (l : Launch) (Er : Nat → (Nat → Int32) → (Nat → Nat → Int32) → (Nat → Nat → Int64) → (Nat → Option Nat) → fsH → Int32 → Option Nat) (EI : Nat → (Nat → Int32) → (Nat → Nat → Int32) → (Nat → Nat → Int64) → (Nat → Option Nat) → fsH → Int32 → Nat → Int32) (Edyn : Nat → (Nat → Int32) → (Nat → Nat → Int32) → (Nat → Nat → Int64) → (Nat → Option Nat) → fsH → Int32 → fsH) (ES : Nat → (Nat → Int32) → (Nat → Nat → Int32) → (Nat → Nat → Int64) → (Nat → Option Nat) → fsH → Int32 → Prop) (dE mE : Nat) (hE : ∀ (ht : Nat) (I : Nat → Int32) (A : Nat → Nat → Int32) (J : Nat → Nat → Int64) (it : Nat → Option Nat) (dyn : fsH) (y1 : Int32), ES ht I A J it dyn y1 → fsFn G l mX5_expression dE mE (7 * mE) [.inr (.inr (some 1)), .inl y1] (fs_mk ht I A J it dyn) (some (.inr (.inr (Er ht I A J it dyn y1)))) (fs_mk ht (EI ht I A J it dyn y1) A J it (Edyn ht I A J it dyn y1))) (ht : Nat) (I : Nat → Int32) (A : Nat → Nat → Int32) (J : Nat → Nat → Int64) (it : Nat → Option Nat) (dyn : fsH) (x1 : Int32) (hS : S_X5_expression_st Er EI Edyn ES ht I A J it dyn x1) : fsFn G l mX5_expression (dE + 3) (1 + 3 * mE) (7 + 21 * mE) [.inr (.inr (some 1)), .inl x1] (fs_mk ht I A J it dyn) (some (.inr (.inr (L_X5_expression_st_r Er EI Edyn ht I A J it dyn x1)))) (fs_mk ht (L_X5_expression_st_I Er EI Edyn ht I A J it dyn x1) A J it (L_X5_expression_st_dyn Er EI Edyn ht I A J it dyn x1)) := by
  refine fsMet_of (by decide) (Nat.le_of_ble_eq_true rfl) ?_
  generalize hQ : (fun (r1 : Option fsV) (h1 : fsH) => r1 = (some (.inr (.inr (L_X5_expression_st_r Er EI Edyn ht I A J it dyn x1)))) ∧ h1 = (fs_mk ht (L_X5_expression_st_I Er EI Edyn ht I A J it dyn x1) A J it (L_X5_expression_st_dyn Er EI Edyn ht I A J it dyn x1))) = Q
  have hq : Q (some (.inr (.inr (L_X5_expression_st_r Er EI Edyn ht I A J it dyn x1)))) (fs_mk ht (L_X5_expression_st_I Er EI Edyn ht I A J it dyn x1) A J it (L_X5_expression_st_dyn Er EI Edyn ht I A J it dyn x1)) := by rw [← hQ]; exact ⟨rfl, rfl⟩
  clear hQ
  have hq : Q (some (.inr (.inr (if (L_X7_isDigit_r ht I A J it dyn (L_X5_next_r ht I A J it dyn)) = 0 then (if (L_X7_isLetter_r ht I A J it dyn (L_X5_next_r ht I A J it dyn)) = 0 then (if (L_X5_skip_r ht I A J it dyn 35) = 0 then (if 6 ≤ x1 then none else (if (L_X5_skip_r ht (L_X5_skip_I ht I A J it dyn 35) A J it dyn 40) = 0 then none else (L_X5_inBrackets_r Er EI Edyn ht (L_X5_skip_I ht (L_X5_skip_I ht I A J it dyn 35) A J it dyn 40) A J it dyn (x1 + 1)) : Option Nat) : Option Nat) else (if (L_X7_isLetter_r ht (L_X5_skip_I ht I A J it dyn 35) A J it dyn (L_X5_next_r ht (L_X5_skip_I ht I A J it dyn 35) A J it dyn)) = 0 then none else (some (dyn.length + 41)) : Option Nat) : Option Nat) else (some (dyn.length + 41)) : Option Nat) else (L_X5_number_r ht I A J it dyn) : Option Nat)))) (fs_mk ht (if (L_X7_isDigit_r ht I A J it dyn (L_X5_next_r ht I A J it dyn)) = 0 then (if (L_X7_isLetter_r ht I A J it dyn (L_X5_next_r ht I A J it dyn)) = 0 then (if (L_X5_skip_r ht I A J it dyn 35) = 0 then (if 6 ≤ x1 then (L_X5_skip_I ht I A J it dyn 35) else (if (L_X5_skip_r ht (L_X5_skip_I ht I A J it dyn 35) A J it dyn 40) = 0 then (L_X5_skip_I ht (L_X5_skip_I ht I A J it dyn 35) A J it dyn 40) else (L_X5_inBrackets_I Er EI Edyn ht (L_X5_skip_I ht (L_X5_skip_I ht I A J it dyn 35) A J it dyn 40) A J it dyn (x1 + 1)))) else (if (L_X7_isLetter_r ht (L_X5_skip_I ht I A J it dyn 35) A J it dyn (L_X5_next_r ht (L_X5_skip_I ht I A J it dyn 35) A J it dyn)) = 0 then (L_X5_skip_I ht I A J it dyn 35) else (L_X5_nameCode_I ht (L_X5_skip_I ht I A J it dyn 35) A J it (dyn ++ [some (.inr (3, [fsI 0, fsJ 0, fsI 0, fsR none, fsR none, fsR none, fsI 0]))])))) else (L_X5_nameCode_I ht I A J it (dyn ++ [some (.inr (3, [fsI 0, fsJ 0, fsI 0, fsR none, fsR none, fsR none, fsI 0]))]))) else (L_X5_number_I ht I A J it dyn)) A J it (if (L_X7_isDigit_r ht I A J it dyn (L_X5_next_r ht I A J it dyn)) = 0 then (if (L_X7_isLetter_r ht I A J it dyn (L_X5_next_r ht I A J it dyn)) = 0 then (if (L_X5_skip_r ht I A J it dyn 35) = 0 then (if 6 ≤ x1 then dyn else (if (L_X5_skip_r ht (L_X5_skip_I ht I A J it dyn 35) A J it dyn 40) = 0 then dyn else (L_X5_inBrackets_dyn Er EI Edyn ht (L_X5_skip_I ht (L_X5_skip_I ht I A J it dyn 35) A J it dyn 40) A J it dyn (x1 + 1)))) else (if (L_X7_isLetter_r ht (L_X5_skip_I ht I A J it dyn 35) A J it dyn (L_X5_next_r ht (L_X5_skip_I ht I A J it dyn 35) A J it dyn)) = 0 then dyn else (dyn ++ [some (.inr (3, [fsI 35, fsJ 0, fsI (L_X5_nameCode_r ht (L_X5_skip_I ht I A J it dyn 35) A J it (dyn ++ [some (.inr (3, [fsI 0, fsJ 0, fsI 0, fsR none, fsR none, fsR none, fsI 0]))])), fsR none, fsR none, fsR none, fsI (-1)]))]))) else (dyn ++ [some (.inr (3, [fsI 97, fsJ 0, fsI (L_X5_nameCode_r ht I A J it (dyn ++ [some (.inr (3, [fsI 0, fsJ 0, fsI 0, fsR none, fsR none, fsR none, fsI 0]))])), fsR none, fsR none, fsR none, fsI (-1)]))])) else (L_X5_number_dyn ht I A J it dyn))) := hq
  have hS : ((S_X5_next ht I A J it dyn) ∧ ((((L_X7_isDigit_r ht I A J it dyn (L_X5_next_r ht I A J it dyn)) = 0) → ((S_X5_next ht I A J it dyn) ∧ ((((L_X7_isLetter_r ht I A J it dyn (L_X5_next_r ht I A J it dyn)) = 0) → ((S_X5_skip ht I A J it dyn 35) ∧ ((((L_X5_skip_r ht I A J it dyn 35) = 0) → (¬ (6 ≤ x1) → ((S_X5_skip ht (L_X5_skip_I ht I A J it dyn 35) A J it dyn 40) ∧ (¬ ((L_X5_skip_r ht (L_X5_skip_I ht I A J it dyn 35) A J it dyn 40) = 0) → (S_X5_inBrackets Er EI Edyn ES ht (L_X5_skip_I ht (L_X5_skip_I ht I A J it dyn 35) A J it dyn 40) A J it dyn (x1 + 1)))))) ∧ (¬ ((L_X5_skip_r ht I A J it dyn 35) = 0) → ((S_X5_next ht (L_X5_skip_I ht I A J it dyn 35) A J it dyn) ∧ (¬ ((L_X7_isLetter_r ht (L_X5_skip_I ht I A J it dyn 35) A J it dyn (L_X5_next_r ht (L_X5_skip_I ht I A J it dyn 35) A J it dyn)) = 0) → (S_X5_nameCode ht (L_X5_skip_I ht I A J it dyn 35) A J it (dyn ++ [some (.inr (3, [fsI 0, fsJ 0, fsI 0, fsR none, fsR none, fsR none, fsI 0]))])))))))) ∧ (¬ ((L_X7_isLetter_r ht I A J it dyn (L_X5_next_r ht I A J it dyn)) = 0) → (S_X5_nameCode ht I A J it (dyn ++ [some (.inr (3, [fsI 0, fsJ 0, fsI 0, fsR none, fsR none, fsR none, fsI 0]))])))))) ∧ (¬ ((L_X7_isDigit_r ht I A J it dyn (L_X5_next_r ht I A J it dyn)) = 0) → (S_X5_number ht I A J it dyn)))) := hS
  refine (show fsW G l mX5_expression (dE + 3) (1 + 3 * mE) (7 + 21 * mE) 0 0 Q 0 [(0, .inr (.inr (some 1))), (1, .inl x1)] [] (fs_mk ht I A J it dyn) from ?_)
  refine fs_aload_n dX5_expression_0 rfl rfl ?_
  obtain ⟨ho1, hS⟩ := hS
  refine fs_callV1 dX5_expression_1 sv_X5_26 rfl ⟨_, rfl, rfl⟩ (c_X5_next G l ht I A J it dyn ho1) rfl rfl (Nat.le_of_ble_eq_true rfl) (by omega) (by omega) (by omega) ?_
  refine fs_callSN1 dX5_expression_4 sv_X5_68 (c_X7_isDigit G l ht I A J it dyn (L_X5_next_r ht I A J it dyn)) rfl rfl (Nat.le_of_ble_eq_true rfl) (by omega) (by omega) (by omega) ?_
  refine fs_if_eq 15 dX5_expression_7 (by decide) (fun c_7 : (L_X7_isDigit_r ht I A J it dyn (L_X5_next_r ht I A J it dyn)) = 0 => ?_) (fun c_7 : ¬ ((L_X7_isDigit_r ht I A J it dyn (L_X5_next_r ht I A J it dyn)) = 0) => ?_)
  · have hS := hS.1 c_7
    refine fs_aload_n dX5_expression_15 rfl rfl ?_
    obtain ⟨ho1, hS⟩ := hS
    refine fs_callV1 dX5_expression_16 sv_X5_26 rfl ⟨_, rfl, rfl⟩ (c_X5_next G l ht I A J it dyn ho1) rfl rfl (Nat.le_of_ble_eq_true rfl) (by omega) (by omega) (by omega) ?_
    refine fs_callSN1 dX5_expression_19 sv_X5_30 (c_X7_isLetter G l ht I A J it dyn (L_X5_next_r ht I A J it dyn)) rfl rfl (Nat.le_of_ble_eq_true rfl) (by omega) (by omega) (by omega) ?_
    refine fs_if_eq 40 dX5_expression_22 (by decide) (fun c_22 : (L_X7_isLetter_r ht I A J it dyn (L_X5_next_r ht I A J it dyn)) = 0 => ?_) (fun c_22 : ¬ ((L_X7_isLetter_r ht I A J it dyn (L_X5_next_r ht I A J it dyn)) = 0) => ?_)
    · have hS := hS.1 c_22
      refine fs_aload_n dX5_expression_40 rfl rfl ?_
      refine fs_bipush (v := 35) dX5_expression_41 rfl ?_
      obtain ⟨ho1, hS⟩ := hS
      refine fs_callV1 dX5_expression_43 sv_X5_38 rfl ⟨_, rfl, rfl⟩ (c_X5_skip G l ht I A J it dyn 35 ho1) rfl rfl (Nat.le_of_ble_eq_true rfl) (by omega) (by omega) (by omega) ?_
      refine fs_if_eq 78 dX5_expression_46 (by decide) (fun c_46 : (L_X5_skip_r ht I A J it dyn 35) = 0 => ?_) (fun c_46 : ¬ ((L_X5_skip_r ht I A J it dyn 35) = 0) => ?_)
      · have hS := hS.1 c_46
        refine fs_iload_n dX5_expression_78 rfl rfl ?_
        refine fs_bipush (v := 6) dX5_expression_79 rfl ?_
        have hR_81 := hS
        have key_104 : fsW G l mX5_expression (dE + 3) (1 + 3 * mE) (7 + 21 * mE) (1 + 3 * mE) (7 + 21 * mE) Q 104 [(0, .inr (.inr (some 1))), (1, .inl x1)] [.inr (.inr (if 6 ≤ x1 then none else (if (L_X5_skip_r ht (L_X5_skip_I ht I A J it dyn 35) A J it dyn 40) = 0 then none else (L_X5_inBrackets_r Er EI Edyn ht (L_X5_skip_I ht (L_X5_skip_I ht I A J it dyn 35) A J it dyn 40) A J it dyn (x1 + 1)) : Option Nat) : Option Nat))] (fs_mk ht (if 6 ≤ x1 then (L_X5_skip_I ht I A J it dyn 35) else (if (L_X5_skip_r ht (L_X5_skip_I ht I A J it dyn 35) A J it dyn 40) = 0 then (L_X5_skip_I ht (L_X5_skip_I ht I A J it dyn 35) A J it dyn 40) else (L_X5_inBrackets_I Er EI Edyn ht (L_X5_skip_I ht (L_X5_skip_I ht I A J it dyn 35) A J it dyn 40) A J it dyn (x1 + 1)))) A J it (if 6 ≤ x1 then dyn else (if (L_X5_skip_r ht (L_X5_skip_I ht I A J it dyn 35) A J it dyn 40) = 0 then dyn else (L_X5_inBrackets_dyn Er EI Edyn ht (L_X5_skip_I ht (L_X5_skip_I ht I A J it dyn 35) A J it dyn 40) A J it dyn (x1 + 1))))) := by
          refine fs_widen (k2 := (1 + 3 * mE)) (n2 := (7 + 21 * mE)) (by omega) (by omega) ?_
          have k9 := hq
          try simp only [if_pos c_7, if_pos c_22, if_pos c_46] at k9 ⊢
          exact fs_aret dX5_expression_104 rfl k9
        refine fs_icmp_ge 103 dX5_expression_81 (by decide) (fun c_81 : 6 ≤ x1 => ?_) (fun c_81 : ¬ (6 ≤ x1) => ?_)
        · refine fs_null dX5_expression_103 ?_
          refine fs_widen (k2 := (1 + 3 * mE)) (n2 := (7 + 21 * mE)) (by omega) (by omega) ?_
          have k9 := key_104
          try simp only [if_pos c_7, if_pos c_22, if_pos c_46, if_pos c_81] at k9 ⊢
          exact k9
        · have hS := hR_81 c_81
          refine fs_aload_n dX5_expression_84 rfl rfl ?_
          refine fs_bipush (v := 40) dX5_expression_85 rfl ?_
          obtain ⟨ho1, hS⟩ := hS
          refine fs_callV1 dX5_expression_87 sv_X5_38 rfl ⟨_, rfl, rfl⟩ (c_X5_skip G l ht (L_X5_skip_I ht I A J it dyn 35) A J it dyn 40 ho1) rfl rfl (Nat.le_of_ble_eq_true rfl) (by omega) (by omega) (by omega) ?_
          refine fs_if_eq 103 dX5_expression_90 (by decide) (fun c_90 : (L_X5_skip_r ht (L_X5_skip_I ht I A J it dyn 35) A J it dyn 40) = 0 => ?_) (fun c_90 : ¬ ((L_X5_skip_r ht (L_X5_skip_I ht I A J it dyn 35) A J it dyn 40) = 0) => ?_)
          · refine fs_null dX5_expression_103 ?_
            refine fs_widen (k2 := (1 + 3 * mE)) (n2 := (7 + 21 * mE)) (by omega) (by omega) ?_
            have k9 := key_104
            try simp only [if_pos c_7, if_pos c_22, if_pos c_46, if_neg c_81, if_pos c_90] at k9 ⊢
            exact k9
          · have hS := hS c_90
            refine fs_aload_n dX5_expression_93 rfl rfl ?_
            refine fs_iload_n dX5_expression_94 rfl rfl ?_
            refine fs_iconst (v := 1) dX5_expression_95 rfl ?_
            refine fs_iadd dX5_expression_96 ?_
            have ho1 := hS
            refine fs_callV1 dX5_expression_97 sv_X5_80 rfl ⟨_, rfl, rfl⟩ (c_X5_inBrackets G l Er EI Edyn ES dE mE hE ht (L_X5_skip_I ht (L_X5_skip_I ht I A J it dyn 35) A J it dyn 40) A J it dyn (x1 + 1) ho1) rfl rfl (Nat.le_of_ble_eq_true rfl) (by omega) (by omega) (by omega) ?_
            refine fs_goto 104 dX5_expression_100 (by decide) ?_
            refine fs_widen (k2 := (1 + 3 * mE)) (n2 := (7 + 21 * mE)) (by omega) (by omega) ?_
            have k9 := key_104
            try simp only [if_pos c_7, if_pos c_22, if_pos c_46, if_neg c_81, if_neg c_90] at k9 ⊢
            exact k9
      · have hS := hS.2 c_46
        refine fs_aload_n dX5_expression_49 rfl rfl ?_
        obtain ⟨ho1, hS⟩ := hS
        refine fs_callV1 dX5_expression_50 sv_X5_26 rfl ⟨_, rfl, rfl⟩ (c_X5_next G l ht (L_X5_skip_I ht I A J it dyn 35) A J it dyn ho1) rfl rfl (Nat.le_of_ble_eq_true rfl) (by omega) (by omega) (by omega) ?_
        refine fs_callSN1 dX5_expression_53 sv_X5_30 (c_X7_isLetter G l ht (L_X5_skip_I ht I A J it dyn 35) A J it dyn (L_X5_next_r ht (L_X5_skip_I ht I A J it dyn 35) A J it dyn)) rfl rfl (Nat.le_of_ble_eq_true rfl) (by omega) (by omega) (by omega) ?_
        have hR_56 := hS
        have key_77 : fsW G l mX5_expression (dE + 3) (1 + 3 * mE) (7 + 21 * mE) 1 7 Q 77 [(0, .inr (.inr (some 1))), (1, .inl x1)] [.inr (.inr (if (L_X7_isLetter_r ht (L_X5_skip_I ht I A J it dyn 35) A J it dyn (L_X5_next_r ht (L_X5_skip_I ht I A J it dyn 35) A J it dyn)) = 0 then none else (some (dyn.length + 41)) : Option Nat))] (fs_mk ht (if (L_X7_isLetter_r ht (L_X5_skip_I ht I A J it dyn 35) A J it dyn (L_X5_next_r ht (L_X5_skip_I ht I A J it dyn 35) A J it dyn)) = 0 then (L_X5_skip_I ht I A J it dyn 35) else (L_X5_nameCode_I ht (L_X5_skip_I ht I A J it dyn 35) A J it (dyn ++ [some (.inr (3, [fsI 0, fsJ 0, fsI 0, fsR none, fsR none, fsR none, fsI 0]))]))) A J it (if (L_X7_isLetter_r ht (L_X5_skip_I ht I A J it dyn 35) A J it dyn (L_X5_next_r ht (L_X5_skip_I ht I A J it dyn 35) A J it dyn)) = 0 then dyn else (dyn ++ [some (.inr (3, [fsI 35, fsJ 0, fsI (L_X5_nameCode_r ht (L_X5_skip_I ht I A J it dyn 35) A J it (dyn ++ [some (.inr (3, [fsI 0, fsJ 0, fsI 0, fsR none, fsR none, fsR none, fsI 0]))])), fsR none, fsR none, fsR none, fsI (-1)]))]))) := by
          refine fs_widen (k2 := (1 + 3 * mE)) (n2 := (7 + 21 * mE)) (by omega) (by omega) ?_
          have k9 := hq
          try simp only [if_pos c_7, if_pos c_22, if_neg c_46] at k9 ⊢
          exact fs_aret dX5_expression_77 rfl k9
        refine fs_if_eq 76 dX5_expression_56 (by decide) (fun c_56 : (L_X7_isLetter_r ht (L_X5_skip_I ht I A J it dyn 35) A J it dyn (L_X5_next_r ht (L_X5_skip_I ht I A J it dyn 35) A J it dyn)) = 0 => ?_) (fun c_56 : ¬ ((L_X7_isLetter_r ht (L_X5_skip_I ht I A J it dyn 35) A J it dyn (L_X5_next_r ht (L_X5_skip_I ht I A J it dyn 35) A J it dyn)) = 0) => ?_)
        · refine fs_null dX5_expression_76 ?_
          refine fs_widen (k2 := 1) (n2 := 7) (by omega) (by omega) ?_
          have k9 := key_77
          try simp only [if_pos c_7, if_pos c_22, if_neg c_46, if_pos c_56] at k9 ⊢
          exact k9
        · have hS := hR_56 c_56
          refine fsn_new dX5_expression_59 sw_X5_75 (by omega) (by omega) ?_
          refine fs_dup dX5_expression_62 rfl ?_
          refine fs_bipush (v := 35) dX5_expression_63 rfl ?_
          refine fs_lconst (v := 0) dX5_expression_65 rfl ?_
          refine fs_aload_n dX5_expression_66 rfl rfl ?_
          have ho1 := hS
          refine fs_callV1 dX5_expression_67 sv_X5_49 rfl ⟨_, rfl, rfl⟩ (c_X5_nameCode G l ht (L_X5_skip_I ht I A J it dyn 35) A J it (dyn ++ [some (.inr (3, [fsI 0, fsJ 0, fsI 0, fsR none, fsR none, fsR none, fsI 0]))]) ho1) rfl rfl (Nat.le_of_ble_eq_true rfl) (by omega) (by omega) (by omega) ?_
          refine fs_callI0 dX5_expression_70 sv_X5_77 (c_X4_init G l ht (L_X5_nameCode_I ht (L_X5_skip_I ht I A J it dyn 35) A J it (dyn ++ [some (.inr (3, [fsI 0, fsJ 0, fsI 0, fsR none, fsR none, fsR none, fsI 0]))])) A J it dyn 35 0 (L_X5_nameCode_r ht (L_X5_skip_I ht I A J it dyn 35) A J it (dyn ++ [some (.inr (3, [fsI 0, fsJ 0, fsI 0, fsR none, fsR none, fsR none, fsI 0]))])) (by unfold fs_chr; decide)) rfl rfl (Nat.le_of_ble_eq_true rfl) (by omega) (by omega) (by omega) ?_
          refine fs_goto 77 dX5_expression_73 (by decide) ?_
          refine fs_widen (k2 := 1) (n2 := 7) (by omega) (by omega) ?_
          have k9 := key_77
          try simp only [if_pos c_7, if_pos c_22, if_neg c_46, if_neg c_56] at k9 ⊢
          exact k9
    · have hS := hS.2 c_22
      refine fsn_new dX5_expression_25 sw_X5_75 (by omega) (by omega) ?_
      refine fs_dup dX5_expression_28 rfl ?_
      refine fs_bipush (v := 97) dX5_expression_29 rfl ?_
      refine fs_lconst (v := 0) dX5_expression_31 rfl ?_
      refine fs_aload_n dX5_expression_32 rfl rfl ?_
      have ho1 := hS
      refine fs_callV1 dX5_expression_33 sv_X5_49 rfl ⟨_, rfl, rfl⟩ (c_X5_nameCode G l ht I A J it (dyn ++ [some (.inr (3, [fsI 0, fsJ 0, fsI 0, fsR none, fsR none, fsR none, fsI 0]))]) ho1) rfl rfl (Nat.le_of_ble_eq_true rfl) (by omega) (by omega) (by omega) ?_
      refine fs_callI0 dX5_expression_36 sv_X5_77 (c_X4_init G l ht (L_X5_nameCode_I ht I A J it (dyn ++ [some (.inr (3, [fsI 0, fsJ 0, fsI 0, fsR none, fsR none, fsR none, fsI 0]))])) A J it dyn 97 0 (L_X5_nameCode_r ht I A J it (dyn ++ [some (.inr (3, [fsI 0, fsJ 0, fsI 0, fsR none, fsR none, fsR none, fsI 0]))])) (by unfold fs_chr; decide)) rfl rfl (Nat.le_of_ble_eq_true rfl) (by omega) (by omega) (by omega) ?_
      refine fs_widen (k2 := (1 + 3 * mE)) (n2 := (7 + 21 * mE)) (by omega) (by omega) ?_
      have k9 := hq
      try simp only [if_pos c_7, if_neg c_22] at k9 ⊢
      exact fs_aret dX5_expression_39 rfl k9
  · have hS := hS.2 c_7
    refine fs_aload_n dX5_expression_10 rfl rfl ?_
    have ho1 := hS
    refine fs_callV1 dX5_expression_11 sv_X5_71 rfl ⟨_, rfl, rfl⟩ (c_X5_number G l ht I A J it dyn ho1) rfl rfl (Nat.le_of_ble_eq_true rfl) (by omega) (by omega) (by omega) ?_
    refine fs_widen (k2 := (1 + 3 * mE)) (n2 := (7 + 21 * mE)) (by omega) (by omega) ?_
    have k9 := hq
    try simp only [if_neg c_7] at k9 ⊢
    exact fs_aret dX5_expression_14 rfl k9
def T_X5_expression : Nat → Nat → (Nat → Int32) → (Nat → Nat → Int32) → (Nat → Nat → Int64) → (Nat → Option Nat) → fsH → Int32 → Option Nat × (Nat → Int32) × fsH × Prop
  | 0, ht, I, A, J, it, dyn, x1 => (none, I, dyn, False)
  | n + 1, ht, I, A, J, it, dyn, x1 => (L_X5_expression_st_r (fun ht I A J it dyn zx1 => (T_X5_expression n ht I A J it dyn zx1).1) (fun ht I A J it dyn zx1 => (T_X5_expression n ht I A J it dyn zx1).2.1) (fun ht I A J it dyn zx1 => (T_X5_expression n ht I A J it dyn zx1).2.2.1) ht I A J it dyn x1, L_X5_expression_st_I (fun ht I A J it dyn zx1 => (T_X5_expression n ht I A J it dyn zx1).1) (fun ht I A J it dyn zx1 => (T_X5_expression n ht I A J it dyn zx1).2.1) (fun ht I A J it dyn zx1 => (T_X5_expression n ht I A J it dyn zx1).2.2.1) ht I A J it dyn x1, L_X5_expression_st_dyn (fun ht I A J it dyn zx1 => (T_X5_expression n ht I A J it dyn zx1).1) (fun ht I A J it dyn zx1 => (T_X5_expression n ht I A J it dyn zx1).2.1) (fun ht I A J it dyn zx1 => (T_X5_expression n ht I A J it dyn zx1).2.2.1) ht I A J it dyn x1, S_X5_expression_st (fun ht I A J it dyn zx1 => (T_X5_expression n ht I A J it dyn zx1).1) (fun ht I A J it dyn zx1 => (T_X5_expression n ht I A J it dyn zx1).2.1) (fun ht I A J it dyn zx1 => (T_X5_expression n ht I A J it dyn zx1).2.2.1) (fun ht I A J it dyn zx1 => (T_X5_expression n ht I A J it dyn zx1).2.2.2) ht I A J it dyn x1)
def mc_X5_expression : Nat → Nat
  | 0 => 0
  | n + 1 => 1 + 3 * mc_X5_expression n
theorem ci_X5_expression (G : fsG) (l : Launch) : ∀ (n : Nat) (ht : Nat) (I : Nat → Int32) (A : Nat → Nat → Int32) (J : Nat → Nat → Int64) (it : Nat → Option Nat) (dyn : fsH) (x1 : Int32), (T_X5_expression n ht I A J it dyn x1).2.2.2 → fsFn G l mX5_expression (3 * n) (mc_X5_expression n) (7 * mc_X5_expression n) [.inr (.inr (some 1)), .inl x1] (fs_mk ht I A J it dyn) (some (.inr (.inr ((T_X5_expression n ht I A J it dyn x1).1)))) (fs_mk ht (T_X5_expression n ht I A J it dyn x1).2.1 A J it (T_X5_expression n ht I A J it dyn x1).2.2.1) := by
  intro n
  induction n with
  | zero =>
    intro ht I A J it dyn x1 hS
    exact hS.elim
  | succ n ih =>
    intro ht I A J it dyn x1 hS
    have h := c_X5_expression_st G l (fun ht I A J it dyn zx1 => (T_X5_expression n ht I A J it dyn zx1).1) (fun ht I A J it dyn zx1 => (T_X5_expression n ht I A J it dyn zx1).2.1) (fun ht I A J it dyn zx1 => (T_X5_expression n ht I A J it dyn zx1).2.2.1) (fun ht I A J it dyn zx1 => (T_X5_expression n ht I A J it dyn zx1).2.2.2) (3 * n) (mc_X5_expression n) (fun ht I A J it dyn zx1 h9 => ih ht I A J it dyn zx1 h9) ht I A J it dyn x1 hS
    have e1 : 7 * mc_X5_expression (n + 1) = 7 + 21 * mc_X5_expression n := by show 7 * (1 + 3 * mc_X5_expression n) = _; omega
    rw [e1]
    exact h
def L_X5_expression_r (ht : Nat) (I : Nat → Int32) (A : Nat → Nat → Int32) (J : Nat → Nat → Int64) (it : Nat → Option Nat) (dyn : fsH) (x1 : Int32) : Option Nat := (T_X5_expression 8 ht I A J it dyn x1).1
def L_X5_expression_I (ht : Nat) (I : Nat → Int32) (A : Nat → Nat → Int32) (J : Nat → Nat → Int64) (it : Nat → Option Nat) (dyn : fsH) (x1 : Int32) : Nat → Int32 := (T_X5_expression 8 ht I A J it dyn x1).2.1
def L_X5_expression_dyn (ht : Nat) (I : Nat → Int32) (A : Nat → Nat → Int32) (J : Nat → Nat → Int64) (it : Nat → Option Nat) (dyn : fsH) (x1 : Int32) : fsH := (T_X5_expression 8 ht I A J it dyn x1).2.2.1
def S_X5_expression (ht : Nat) (I : Nat → Int32) (A : Nat → Nat → Int32) (J : Nat → Nat → Int64) (it : Nat → Option Nat) (dyn : fsH) (x1 : Int32) : Prop := (T_X5_expression 8 ht I A J it dyn x1).2.2.2
theorem c_X5_expression (G : fsG) (l : Launch) (ht : Nat) (I : Nat → Int32) (A : Nat → Nat → Int32) (J : Nat → Nat → Int64) (it : Nat → Option Nat) (dyn : fsH) (x1 : Int32) (hS : S_X5_expression ht I A J it dyn x1) : fsFn G l mX5_expression 24 3280 22960 [.inr (.inr (some 1)), .inl x1] (fs_mk ht I A J it dyn) (some (.inr (.inr (L_X5_expression_r ht I A J it dyn x1)))) (fs_mk ht (L_X5_expression_I ht I A J it dyn x1) A J it (L_X5_expression_dyn ht I A J it dyn x1)) := ci_X5_expression G l 8 ht I A J it dyn x1 hS
def L_X5_fieldItem_r (ht : Nat) (I : Nat → Int32) (A : Nat → Nat → Int32) (J : Nat → Nat → Int64) (it : Nat → Option Nat) (dyn : fsH)  : Option Nat := (if (L_X5_skip_r ht (L_X5_skip_I ht (L_X5_nameCode_I ht I A J it dyn) A J it dyn 42) A J it dyn 61) = 0 then (some (dyn.length + 41)) else (if (L_X5_expression_r ht (L_X5_skip_I ht (L_X5_skip_I ht (L_X5_nameCode_I ht I A J it dyn) A J it dyn 42) A J it dyn 61) A J it dyn 0) = none then none else (some ((L_X5_expression_dyn ht (L_X5_skip_I ht (L_X5_skip_I ht (L_X5_nameCode_I ht I A J it dyn) A J it dyn 42) A J it dyn 61) A J it dyn 0).length + 41)) : Option Nat))
def L_X5_fieldItem_I (ht : Nat) (I : Nat → Int32) (A : Nat → Nat → Int32) (J : Nat → Nat → Int64) (it : Nat → Option Nat) (dyn : fsH)  : Nat → Int32 := (if (L_X5_skip_r ht (L_X5_skip_I ht (L_X5_nameCode_I ht I A J it dyn) A J it dyn 42) A J it dyn 61) = 0 then (L_X5_skip_I ht (L_X5_skip_I ht (L_X5_nameCode_I ht I A J it dyn) A J it dyn 42) A J it dyn 61) else (L_X5_expression_I ht (L_X5_skip_I ht (L_X5_skip_I ht (L_X5_nameCode_I ht I A J it dyn) A J it dyn 42) A J it dyn 61) A J it dyn 0))
def L_X5_fieldItem_dyn (ht : Nat) (I : Nat → Int32) (A : Nat → Nat → Int32) (J : Nat → Nat → Int64) (it : Nat → Option Nat) (dyn : fsH)  : fsH := (if (L_X5_skip_r ht (L_X5_skip_I ht (L_X5_nameCode_I ht I A J it dyn) A J it dyn 42) A J it dyn 61) = 0 then (dyn ++ [some (.inr (1, [fsI 102, fsI (L_X5_nameCode_r ht I A J it dyn), fsI (L_X5_skip_r ht (L_X5_nameCode_I ht I A J it dyn) A J it dyn 42), fsR none, fsI 0]))]) else (if (L_X5_expression_r ht (L_X5_skip_I ht (L_X5_skip_I ht (L_X5_nameCode_I ht I A J it dyn) A J it dyn 42) A J it dyn 61) A J it dyn 0) = none then (L_X5_expression_dyn ht (L_X5_skip_I ht (L_X5_skip_I ht (L_X5_nameCode_I ht I A J it dyn) A J it dyn 42) A J it dyn 61) A J it dyn 0) else ((L_X5_expression_dyn ht (L_X5_skip_I ht (L_X5_skip_I ht (L_X5_nameCode_I ht I A J it dyn) A J it dyn 42) A J it dyn 61) A J it dyn 0) ++ [some (.inr (1, [fsI 102, fsI (L_X5_nameCode_r ht I A J it dyn), fsI (L_X5_skip_r ht (L_X5_nameCode_I ht I A J it dyn) A J it dyn 42), fsR (L_X5_expression_r ht (L_X5_skip_I ht (L_X5_skip_I ht (L_X5_nameCode_I ht I A J it dyn) A J it dyn 42) A J it dyn 61) A J it dyn 0), fsI 0]))])))
def S_X5_fieldItem (ht : Nat) (I : Nat → Int32) (A : Nat → Nat → Int32) (J : Nat → Nat → Int64) (it : Nat → Option Nat) (dyn : fsH)  : Prop := ((S_X5_nameCode ht I A J it dyn) ∧ ((S_X5_skip ht (L_X5_nameCode_I ht I A J it dyn) A J it dyn 42) ∧ ((S_X5_skip ht (L_X5_skip_I ht (L_X5_nameCode_I ht I A J it dyn) A J it dyn 42) A J it dyn 61) ∧ ((((L_X5_skip_r ht (L_X5_skip_I ht (L_X5_nameCode_I ht I A J it dyn) A J it dyn 42) A J it dyn 61) = 0) → ((L_X5_skip_r ht (L_X5_nameCode_I ht I A J it dyn) A J it dyn 42) = 0 ∨ (L_X5_skip_r ht (L_X5_nameCode_I ht I A J it dyn) A J it dyn 42) = 1)) ∧ (¬ ((L_X5_skip_r ht (L_X5_skip_I ht (L_X5_nameCode_I ht I A J it dyn) A J it dyn 42) A J it dyn 61) = 0) → ((S_X5_expression ht (L_X5_skip_I ht (L_X5_skip_I ht (L_X5_nameCode_I ht I A J it dyn) A J it dyn 42) A J it dyn 61) A J it dyn 0) ∧ (¬ ((L_X5_expression_r ht (L_X5_skip_I ht (L_X5_skip_I ht (L_X5_nameCode_I ht I A J it dyn) A J it dyn 42) A J it dyn 61) A J it dyn 0) = none) → ((L_X5_skip_r ht (L_X5_nameCode_I ht I A J it dyn) A J it dyn 42) = 0 ∨ (L_X5_skip_r ht (L_X5_nameCode_I ht I A J it dyn) A J it dyn 42) = 1))))))))
set_option maxRecDepth 100000 in
set_option maxHeartbeats 4000000 in
theorem c_X5_fieldItem (G : fsG) (l : Launch) (ht : Nat) (I : Nat → Int32) (A : Nat → Nat → Int32) (J : Nat → Nat → Int64) (it : Nat → Option Nat) (dyn : fsH)  (hS : S_X5_fieldItem ht I A J it dyn ) : fsFn G l mX5_fieldItem 25 3281 22965 [.inr (.inr (some 1))] (fs_mk ht I A J it dyn) (some (.inr (.inr (L_X5_fieldItem_r ht I A J it dyn )))) (fs_mk ht (L_X5_fieldItem_I ht I A J it dyn ) A J it (L_X5_fieldItem_dyn ht I A J it dyn )) := by
  refine fsMet_of (by decide) (Nat.le_of_ble_eq_true rfl) ?_
  generalize hQ : (fun (r1 : Option fsV) (h1 : fsH) => r1 = (some (.inr (.inr (L_X5_fieldItem_r ht I A J it dyn )))) ∧ h1 = (fs_mk ht (L_X5_fieldItem_I ht I A J it dyn ) A J it (L_X5_fieldItem_dyn ht I A J it dyn ))) = Q
  have hq : Q (some (.inr (.inr (L_X5_fieldItem_r ht I A J it dyn )))) (fs_mk ht (L_X5_fieldItem_I ht I A J it dyn ) A J it (L_X5_fieldItem_dyn ht I A J it dyn )) := by rw [← hQ]; exact ⟨rfl, rfl⟩
  clear hQ
  have hq : Q (some (.inr (.inr (if (L_X5_skip_r ht (L_X5_skip_I ht (L_X5_nameCode_I ht I A J it dyn) A J it dyn 42) A J it dyn 61) = 0 then (some (dyn.length + 41)) else (if (L_X5_expression_r ht (L_X5_skip_I ht (L_X5_skip_I ht (L_X5_nameCode_I ht I A J it dyn) A J it dyn 42) A J it dyn 61) A J it dyn 0) = none then none else (some ((L_X5_expression_dyn ht (L_X5_skip_I ht (L_X5_skip_I ht (L_X5_nameCode_I ht I A J it dyn) A J it dyn 42) A J it dyn 61) A J it dyn 0).length + 41)) : Option Nat) : Option Nat)))) (fs_mk ht (if (L_X5_skip_r ht (L_X5_skip_I ht (L_X5_nameCode_I ht I A J it dyn) A J it dyn 42) A J it dyn 61) = 0 then (L_X5_skip_I ht (L_X5_skip_I ht (L_X5_nameCode_I ht I A J it dyn) A J it dyn 42) A J it dyn 61) else (L_X5_expression_I ht (L_X5_skip_I ht (L_X5_skip_I ht (L_X5_nameCode_I ht I A J it dyn) A J it dyn 42) A J it dyn 61) A J it dyn 0)) A J it (if (L_X5_skip_r ht (L_X5_skip_I ht (L_X5_nameCode_I ht I A J it dyn) A J it dyn 42) A J it dyn 61) = 0 then (dyn ++ [some (.inr (1, [fsI 102, fsI (L_X5_nameCode_r ht I A J it dyn), fsI (L_X5_skip_r ht (L_X5_nameCode_I ht I A J it dyn) A J it dyn 42), fsR none, fsI 0]))]) else (if (L_X5_expression_r ht (L_X5_skip_I ht (L_X5_skip_I ht (L_X5_nameCode_I ht I A J it dyn) A J it dyn 42) A J it dyn 61) A J it dyn 0) = none then (L_X5_expression_dyn ht (L_X5_skip_I ht (L_X5_skip_I ht (L_X5_nameCode_I ht I A J it dyn) A J it dyn 42) A J it dyn 61) A J it dyn 0) else ((L_X5_expression_dyn ht (L_X5_skip_I ht (L_X5_skip_I ht (L_X5_nameCode_I ht I A J it dyn) A J it dyn 42) A J it dyn 61) A J it dyn 0) ++ [some (.inr (1, [fsI 102, fsI (L_X5_nameCode_r ht I A J it dyn), fsI (L_X5_skip_r ht (L_X5_nameCode_I ht I A J it dyn) A J it dyn 42), fsR (L_X5_expression_r ht (L_X5_skip_I ht (L_X5_skip_I ht (L_X5_nameCode_I ht I A J it dyn) A J it dyn 42) A J it dyn 61) A J it dyn 0), fsI 0]))])))) := hq
  have hS : ((S_X5_nameCode ht I A J it dyn) ∧ ((S_X5_skip ht (L_X5_nameCode_I ht I A J it dyn) A J it dyn 42) ∧ ((S_X5_skip ht (L_X5_skip_I ht (L_X5_nameCode_I ht I A J it dyn) A J it dyn 42) A J it dyn 61) ∧ ((((L_X5_skip_r ht (L_X5_skip_I ht (L_X5_nameCode_I ht I A J it dyn) A J it dyn 42) A J it dyn 61) = 0) → ((L_X5_skip_r ht (L_X5_nameCode_I ht I A J it dyn) A J it dyn 42) = 0 ∨ (L_X5_skip_r ht (L_X5_nameCode_I ht I A J it dyn) A J it dyn 42) = 1)) ∧ (¬ ((L_X5_skip_r ht (L_X5_skip_I ht (L_X5_nameCode_I ht I A J it dyn) A J it dyn 42) A J it dyn 61) = 0) → ((S_X5_expression ht (L_X5_skip_I ht (L_X5_skip_I ht (L_X5_nameCode_I ht I A J it dyn) A J it dyn 42) A J it dyn 61) A J it dyn 0) ∧ (¬ ((L_X5_expression_r ht (L_X5_skip_I ht (L_X5_skip_I ht (L_X5_nameCode_I ht I A J it dyn) A J it dyn 42) A J it dyn 61) A J it dyn 0) = none) → ((L_X5_skip_r ht (L_X5_nameCode_I ht I A J it dyn) A J it dyn 42) = 0 ∨ (L_X5_skip_r ht (L_X5_nameCode_I ht I A J it dyn) A J it dyn 42) = 1)))))))) := hS
  refine (show fsW G l mX5_fieldItem 25 3281 22965 0 0 Q 0 [(0, .inr (.inr (some 1)))] [] (fs_mk ht I A J it dyn) from ?_)
  refine fs_aload_n dX5_fieldItem_0 rfl rfl ?_
  obtain ⟨ho1, hS⟩ := hS
  refine fs_callV1 dX5_fieldItem_1 sv_X5_49 rfl ⟨_, rfl, rfl⟩ (c_X5_nameCode G l ht I A J it dyn ho1) rfl rfl (Nat.le_of_ble_eq_true rfl) (by omega) (by omega) (by omega) ?_
  refine fs_istore_n (L' := [(1, .inl (L_X5_nameCode_r ht I A J it dyn)), (0, .inr (.inr (some 1)))]) dX5_fieldItem_4 rfl (by decide) rfl ?_
  refine fs_aload_n dX5_fieldItem_5 rfl rfl ?_
  refine fs_bipush (v := 42) dX5_fieldItem_6 rfl ?_
  obtain ⟨ho1, hS⟩ := hS
  refine fs_callV1 dX5_fieldItem_8 sv_X5_38 rfl ⟨_, rfl, rfl⟩ (c_X5_skip G l ht (L_X5_nameCode_I ht I A J it dyn) A J it dyn 42 ho1) rfl rfl (Nat.le_of_ble_eq_true rfl) (by omega) (by omega) (by omega) ?_
  refine fs_istore_n (L' := [(2, .inl (L_X5_skip_r ht (L_X5_nameCode_I ht I A J it dyn) A J it dyn 42)), (1, .inl (L_X5_nameCode_r ht I A J it dyn)), (0, .inr (.inr (some 1)))]) dX5_fieldItem_11 rfl (by decide) rfl ?_
  refine fs_aload_n dX5_fieldItem_12 rfl rfl ?_
  refine fs_bipush (v := 61) dX5_fieldItem_13 rfl ?_
  obtain ⟨ho1, hS⟩ := hS
  refine fs_callV1 dX5_fieldItem_15 sv_X5_38 rfl ⟨_, rfl, rfl⟩ (c_X5_skip G l ht (L_X5_skip_I ht (L_X5_nameCode_I ht I A J it dyn) A J it dyn 42) A J it dyn 61 ho1) rfl rfl (Nat.le_of_ble_eq_true rfl) (by omega) (by omega) (by omega) ?_
  refine fs_if_ne 35 dX5_fieldItem_18 (by decide) (fun c_18 : ¬ (L_X5_skip_r ht (L_X5_skip_I ht (L_X5_nameCode_I ht I A J it dyn) A J it dyn 42) A J it dyn 61) = 0 => ?_) (fun c_18 : (L_X5_skip_r ht (L_X5_skip_I ht (L_X5_nameCode_I ht I A J it dyn) A J it dyn 42) A J it dyn 61) = 0 => ?_)
  · have hS := hS.2 c_18
    refine fs_aload_n dX5_fieldItem_35 rfl rfl ?_
    refine fs_iconst (v := 0) dX5_fieldItem_36 rfl ?_
    obtain ⟨ho1, hS⟩ := hS
    refine fs_callV1 dX5_fieldItem_37 sv_X5_58 rfl ⟨_, rfl, rfl⟩ (c_X5_expression G l ht (L_X5_skip_I ht (L_X5_skip_I ht (L_X5_nameCode_I ht I A J it dyn) A J it dyn 42) A J it dyn 61) A J it dyn 0 ho1) rfl rfl (Nat.le_of_ble_eq_true rfl) (by omega) (by omega) (by omega) ?_
    refine fs_astore_n (L' := [(3, .inr (.inr (L_X5_expression_r ht (L_X5_skip_I ht (L_X5_skip_I ht (L_X5_nameCode_I ht I A J it dyn) A J it dyn 42) A J it dyn 61) A J it dyn 0))), (2, .inl (L_X5_skip_r ht (L_X5_nameCode_I ht I A J it dyn) A J it dyn 42)), (1, .inl (L_X5_nameCode_r ht I A J it dyn)), (0, .inr (.inr (some 1)))]) dX5_fieldItem_40 rfl (by decide) rfl ?_
    refine fs_aload_n dX5_fieldItem_41 rfl rfl ?_
    have hR_42 := hS
    have key_62 : fsW G l mX5_fieldItem 25 3281 22965 3281 22965 Q 62 [(0, .inr (.inr (some 1))), (1, .inl (L_X5_nameCode_r ht I A J it dyn)), (2, .inl (L_X5_skip_r ht (L_X5_nameCode_I ht I A J it dyn) A J it dyn 42)), (3, .inr (.inr (L_X5_expression_r ht (L_X5_skip_I ht (L_X5_skip_I ht (L_X5_nameCode_I ht I A J it dyn) A J it dyn 42) A J it dyn 61) A J it dyn 0)))] [.inr (.inr (if (L_X5_expression_r ht (L_X5_skip_I ht (L_X5_skip_I ht (L_X5_nameCode_I ht I A J it dyn) A J it dyn 42) A J it dyn 61) A J it dyn 0) = none then none else (some ((L_X5_expression_dyn ht (L_X5_skip_I ht (L_X5_skip_I ht (L_X5_nameCode_I ht I A J it dyn) A J it dyn 42) A J it dyn 61) A J it dyn 0).length + 41)) : Option Nat))] (fs_mk ht (L_X5_expression_I ht (L_X5_skip_I ht (L_X5_skip_I ht (L_X5_nameCode_I ht I A J it dyn) A J it dyn 42) A J it dyn 61) A J it dyn 0) A J it (if (L_X5_expression_r ht (L_X5_skip_I ht (L_X5_skip_I ht (L_X5_nameCode_I ht I A J it dyn) A J it dyn 42) A J it dyn 61) A J it dyn 0) = none then (L_X5_expression_dyn ht (L_X5_skip_I ht (L_X5_skip_I ht (L_X5_nameCode_I ht I A J it dyn) A J it dyn 42) A J it dyn 61) A J it dyn 0) else ((L_X5_expression_dyn ht (L_X5_skip_I ht (L_X5_skip_I ht (L_X5_nameCode_I ht I A J it dyn) A J it dyn 42) A J it dyn 61) A J it dyn 0) ++ [some (.inr (1, [fsI 102, fsI (L_X5_nameCode_r ht I A J it dyn), fsI (L_X5_skip_r ht (L_X5_nameCode_I ht I A J it dyn) A J it dyn 42), fsR (L_X5_expression_r ht (L_X5_skip_I ht (L_X5_skip_I ht (L_X5_nameCode_I ht I A J it dyn) A J it dyn 42) A J it dyn 61) A J it dyn 0), fsI 0]))]))) := by
      refine fs_widen (k2 := 3281) (n2 := 22965) (by omega) (by omega) ?_
      have k9 := hq
      try simp only [if_neg c_18] at k9 ⊢
      exact fs_aret dX5_fieldItem_62 rfl k9
    refine fs_ifnonnull' 49 dX5_fieldItem_42 (by decide) (fun c_42 : ¬ (L_X5_expression_r ht (L_X5_skip_I ht (L_X5_skip_I ht (L_X5_nameCode_I ht I A J it dyn) A J it dyn 42) A J it dyn 61) A J it dyn 0) = none => ?_) (fun c_42 : (L_X5_expression_r ht (L_X5_skip_I ht (L_X5_skip_I ht (L_X5_nameCode_I ht I A J it dyn) A J it dyn 42) A J it dyn 61) A J it dyn 0) = none => ?_)
    · have hS := hR_42 c_42
      refine fsn_new dX5_fieldItem_49 sw_X5_53 (by omega) (by omega) ?_
      refine fs_dup dX5_fieldItem_52 rfl ?_
      refine fs_bipush (v := 102) dX5_fieldItem_53 rfl ?_
      refine fs_iload_n dX5_fieldItem_55 rfl rfl ?_
      refine fs_iload_n dX5_fieldItem_56 rfl rfl ?_
      refine fs_aload_n dX5_fieldItem_57 rfl rfl ?_
      refine fs_iconst (v := 0) dX5_fieldItem_58 rfl ?_
      have ho1 := hS
      refine fs_callI0 dX5_fieldItem_59 sv_X5_55 (c_X2_init G l ht (L_X5_expression_I ht (L_X5_skip_I ht (L_X5_skip_I ht (L_X5_nameCode_I ht I A J it dyn) A J it dyn 42) A J it dyn 61) A J it dyn 0) A J it (L_X5_expression_dyn ht (L_X5_skip_I ht (L_X5_skip_I ht (L_X5_nameCode_I ht I A J it dyn) A J it dyn 42) A J it dyn 61) A J it dyn 0) 102 (L_X5_nameCode_r ht I A J it dyn) (L_X5_skip_r ht (L_X5_nameCode_I ht I A J it dyn) A J it dyn 42) (L_X5_expression_r ht (L_X5_skip_I ht (L_X5_skip_I ht (L_X5_nameCode_I ht I A J it dyn) A J it dyn 42) A J it dyn 61) A J it dyn 0) 0 (by unfold fs_chr; decide) ho1) rfl rfl (Nat.le_of_ble_eq_true rfl) (by omega) (by omega) (by omega) ?_
      refine fs_reL [3, 2, 1, 0] rfl ?_
      refine fs_widen (k2 := 3281) (n2 := 22965) (by omega) (by omega) ?_
      have k9 := key_62
      try simp only [if_neg c_18, if_neg c_42] at k9 ⊢
      exact k9
    · refine fs_null dX5_fieldItem_45 ?_
      refine fs_goto 62 dX5_fieldItem_46 (by decide) ?_
      refine fs_reL [3, 2, 1, 0] rfl ?_
      refine fs_widen (k2 := 3281) (n2 := 22965) (by omega) (by omega) ?_
      have k9 := key_62
      try simp only [if_neg c_18, if_pos c_42] at k9 ⊢
      exact k9
  · have hS := hS.1 c_18
    refine fsn_new dX5_fieldItem_21 sw_X5_53 (by omega) (by omega) ?_
    refine fs_dup dX5_fieldItem_24 rfl ?_
    refine fs_bipush (v := 102) dX5_fieldItem_25 rfl ?_
    refine fs_iload_n dX5_fieldItem_27 rfl rfl ?_
    refine fs_iload_n dX5_fieldItem_28 rfl rfl ?_
    refine fs_null dX5_fieldItem_29 ?_
    refine fs_iconst (v := 0) dX5_fieldItem_30 rfl ?_
    have ho1 := hS
    refine fs_callI0 dX5_fieldItem_31 sv_X5_55 (c_X2_init G l ht (L_X5_skip_I ht (L_X5_skip_I ht (L_X5_nameCode_I ht I A J it dyn) A J it dyn 42) A J it dyn 61) A J it dyn 102 (L_X5_nameCode_r ht I A J it dyn) (L_X5_skip_r ht (L_X5_nameCode_I ht I A J it dyn) A J it dyn 42) none 0 (by unfold fs_chr; decide) ho1) rfl rfl (Nat.le_of_ble_eq_true rfl) (by omega) (by omega) (by omega) ?_
    refine fs_widen (k2 := 3281) (n2 := 22965) (by omega) (by omega) ?_
    have k9 := hq
    try simp only [if_pos c_18] at k9 ⊢
    exact fs_aret dX5_fieldItem_34 rfl k9
def L_X5_checkItem_r (ht : Nat) (I : Nat → Int32) (A : Nat → Nat → Int32) (J : Nat → Nat → Int64) (it : Nat → Option Nat) (dyn : fsH)  : Option Nat := (if (L_X5_expression_r ht (L_X5_skip_I ht I A J it dyn 42) A J it dyn 0) = none then none else (some ((L_X5_expression_dyn ht (L_X5_skip_I ht I A J it dyn 42) A J it dyn 0).length + 41)) : Option Nat)
def L_X5_checkItem_I (ht : Nat) (I : Nat → Int32) (A : Nat → Nat → Int32) (J : Nat → Nat → Int64) (it : Nat → Option Nat) (dyn : fsH)  : Nat → Int32 := (L_X5_expression_I ht (L_X5_skip_I ht I A J it dyn 42) A J it dyn 0)
def L_X5_checkItem_dyn (ht : Nat) (I : Nat → Int32) (A : Nat → Nat → Int32) (J : Nat → Nat → Int64) (it : Nat → Option Nat) (dyn : fsH)  : fsH := (if (L_X5_expression_r ht (L_X5_skip_I ht I A J it dyn 42) A J it dyn 0) = none then (L_X5_expression_dyn ht (L_X5_skip_I ht I A J it dyn 42) A J it dyn 0) else ((L_X5_expression_dyn ht (L_X5_skip_I ht I A J it dyn 42) A J it dyn 0) ++ [some (.inr (1, [fsI 33, fsI 0, fsI (L_X5_skip_r ht I A J it dyn 42), fsR (L_X5_expression_r ht (L_X5_skip_I ht I A J it dyn 42) A J it dyn 0), fsI 0]))]))
def S_X5_checkItem (ht : Nat) (I : Nat → Int32) (A : Nat → Nat → Int32) (J : Nat → Nat → Int64) (it : Nat → Option Nat) (dyn : fsH)  : Prop := ((S_X5_skip ht I A J it dyn 42) ∧ ((S_X5_expression ht (L_X5_skip_I ht I A J it dyn 42) A J it dyn 0) ∧ (¬ ((L_X5_expression_r ht (L_X5_skip_I ht I A J it dyn 42) A J it dyn 0) = none) → ((L_X5_skip_r ht I A J it dyn 42) = 0 ∨ (L_X5_skip_r ht I A J it dyn 42) = 1))))
set_option maxRecDepth 100000 in
set_option maxHeartbeats 4000000 in
theorem c_X5_checkItem (G : fsG) (l : Launch) (ht : Nat) (I : Nat → Int32) (A : Nat → Nat → Int32) (J : Nat → Nat → Int64) (it : Nat → Option Nat) (dyn : fsH)  (hS : S_X5_checkItem ht I A J it dyn ) : fsFn G l mX5_checkItem 25 3281 22965 [.inr (.inr (some 1))] (fs_mk ht I A J it dyn) (some (.inr (.inr (L_X5_checkItem_r ht I A J it dyn )))) (fs_mk ht (L_X5_checkItem_I ht I A J it dyn ) A J it (L_X5_checkItem_dyn ht I A J it dyn )) := by
  refine fsMet_of (by decide) (Nat.le_of_ble_eq_true rfl) ?_
  generalize hQ : (fun (r1 : Option fsV) (h1 : fsH) => r1 = (some (.inr (.inr (L_X5_checkItem_r ht I A J it dyn )))) ∧ h1 = (fs_mk ht (L_X5_checkItem_I ht I A J it dyn ) A J it (L_X5_checkItem_dyn ht I A J it dyn ))) = Q
  have hq : Q (some (.inr (.inr (L_X5_checkItem_r ht I A J it dyn )))) (fs_mk ht (L_X5_checkItem_I ht I A J it dyn ) A J it (L_X5_checkItem_dyn ht I A J it dyn )) := by rw [← hQ]; exact ⟨rfl, rfl⟩
  clear hQ
  have hq : Q (some (.inr (.inr (if (L_X5_expression_r ht (L_X5_skip_I ht I A J it dyn 42) A J it dyn 0) = none then none else (some ((L_X5_expression_dyn ht (L_X5_skip_I ht I A J it dyn 42) A J it dyn 0).length + 41)) : Option Nat)))) (fs_mk ht (L_X5_expression_I ht (L_X5_skip_I ht I A J it dyn 42) A J it dyn 0) A J it (if (L_X5_expression_r ht (L_X5_skip_I ht I A J it dyn 42) A J it dyn 0) = none then (L_X5_expression_dyn ht (L_X5_skip_I ht I A J it dyn 42) A J it dyn 0) else ((L_X5_expression_dyn ht (L_X5_skip_I ht I A J it dyn 42) A J it dyn 0) ++ [some (.inr (1, [fsI 33, fsI 0, fsI (L_X5_skip_r ht I A J it dyn 42), fsR (L_X5_expression_r ht (L_X5_skip_I ht I A J it dyn 42) A J it dyn 0), fsI 0]))]))) := hq
  have hS : ((S_X5_skip ht I A J it dyn 42) ∧ ((S_X5_expression ht (L_X5_skip_I ht I A J it dyn 42) A J it dyn 0) ∧ (¬ ((L_X5_expression_r ht (L_X5_skip_I ht I A J it dyn 42) A J it dyn 0) = none) → ((L_X5_skip_r ht I A J it dyn 42) = 0 ∨ (L_X5_skip_r ht I A J it dyn 42) = 1)))) := hS
  refine (show fsW G l mX5_checkItem 25 3281 22965 0 0 Q 0 [(0, .inr (.inr (some 1)))] [] (fs_mk ht I A J it dyn) from ?_)
  refine fs_aload_n dX5_checkItem_0 rfl rfl ?_
  refine fs_bipush (v := 42) dX5_checkItem_1 rfl ?_
  obtain ⟨ho1, hS⟩ := hS
  refine fs_callV1 dX5_checkItem_3 sv_X5_38 rfl ⟨_, rfl, rfl⟩ (c_X5_skip G l ht I A J it dyn 42 ho1) rfl rfl (Nat.le_of_ble_eq_true rfl) (by omega) (by omega) (by omega) ?_
  refine fs_istore_n (L' := [(1, .inl (L_X5_skip_r ht I A J it dyn 42)), (0, .inr (.inr (some 1)))]) dX5_checkItem_6 rfl (by decide) rfl ?_
  refine fs_aload_n dX5_checkItem_7 rfl rfl ?_
  refine fs_iconst (v := 0) dX5_checkItem_8 rfl ?_
  obtain ⟨ho1, hS⟩ := hS
  refine fs_callV1 dX5_checkItem_9 sv_X5_58 rfl ⟨_, rfl, rfl⟩ (c_X5_expression G l ht (L_X5_skip_I ht I A J it dyn 42) A J it dyn 0 ho1) rfl rfl (Nat.le_of_ble_eq_true rfl) (by omega) (by omega) (by omega) ?_
  refine fs_astore_n (L' := [(2, .inr (.inr (L_X5_expression_r ht (L_X5_skip_I ht I A J it dyn 42) A J it dyn 0))), (1, .inl (L_X5_skip_r ht I A J it dyn 42)), (0, .inr (.inr (some 1)))]) dX5_checkItem_12 rfl (by decide) rfl ?_
  refine fs_aload_n dX5_checkItem_13 rfl rfl ?_
  have hR_14 := hS
  have key_34 : fsW G l mX5_checkItem 25 3281 22965 3281 22965 Q 34 [(0, .inr (.inr (some 1))), (1, .inl (L_X5_skip_r ht I A J it dyn 42)), (2, .inr (.inr (L_X5_expression_r ht (L_X5_skip_I ht I A J it dyn 42) A J it dyn 0)))] [.inr (.inr (if (L_X5_expression_r ht (L_X5_skip_I ht I A J it dyn 42) A J it dyn 0) = none then none else (some ((L_X5_expression_dyn ht (L_X5_skip_I ht I A J it dyn 42) A J it dyn 0).length + 41)) : Option Nat))] (fs_mk ht (L_X5_expression_I ht (L_X5_skip_I ht I A J it dyn 42) A J it dyn 0) A J it (if (L_X5_expression_r ht (L_X5_skip_I ht I A J it dyn 42) A J it dyn 0) = none then (L_X5_expression_dyn ht (L_X5_skip_I ht I A J it dyn 42) A J it dyn 0) else ((L_X5_expression_dyn ht (L_X5_skip_I ht I A J it dyn 42) A J it dyn 0) ++ [some (.inr (1, [fsI 33, fsI 0, fsI (L_X5_skip_r ht I A J it dyn 42), fsR (L_X5_expression_r ht (L_X5_skip_I ht I A J it dyn 42) A J it dyn 0), fsI 0]))]))) := by
    refine fs_widen (k2 := 3281) (n2 := 22965) (by omega) (by omega) ?_
    have k9 := hq
    exact fs_aret dX5_checkItem_34 rfl k9
  refine fs_ifnonnull' 21 dX5_checkItem_14 (by decide) (fun c_14 : ¬ (L_X5_expression_r ht (L_X5_skip_I ht I A J it dyn 42) A J it dyn 0) = none => ?_) (fun c_14 : (L_X5_expression_r ht (L_X5_skip_I ht I A J it dyn 42) A J it dyn 0) = none => ?_)
  · have hS := hR_14 c_14
    refine fsn_new dX5_checkItem_21 sw_X5_53 (by omega) (by omega) ?_
    refine fs_dup dX5_checkItem_24 rfl ?_
    refine fs_bipush (v := 33) dX5_checkItem_25 rfl ?_
    refine fs_iconst (v := 0) dX5_checkItem_27 rfl ?_
    refine fs_iload_n dX5_checkItem_28 rfl rfl ?_
    refine fs_aload_n dX5_checkItem_29 rfl rfl ?_
    refine fs_iconst (v := 0) dX5_checkItem_30 rfl ?_
    have ho1 := hS
    refine fs_callI0 dX5_checkItem_31 sv_X5_55 (c_X2_init G l ht (L_X5_expression_I ht (L_X5_skip_I ht I A J it dyn 42) A J it dyn 0) A J it (L_X5_expression_dyn ht (L_X5_skip_I ht I A J it dyn 42) A J it dyn 0) 33 0 (L_X5_skip_r ht I A J it dyn 42) (L_X5_expression_r ht (L_X5_skip_I ht I A J it dyn 42) A J it dyn 0) 0 (by unfold fs_chr; decide) ho1) rfl rfl (Nat.le_of_ble_eq_true rfl) (by omega) (by omega) (by omega) ?_
    refine fs_reL [2, 1, 0] rfl ?_
    refine fs_widen (k2 := 3281) (n2 := 22965) (by omega) (by omega) ?_
    have k9 := key_34
    try simp only [if_neg c_14] at k9 ⊢
    exact k9
  · refine fs_null dX5_checkItem_17 ?_
    refine fs_goto 34 dX5_checkItem_18 (by decide) ?_
    refine fs_reL [2, 1, 0] rfl ?_
    refine fs_widen (k2 := 3281) (n2 := 22965) (by omega) (by omega) ?_
    have k9 := key_34
    try simp only [if_pos c_14] at k9 ⊢
    exact k9
def L_X5_captionItem_r (ht : Nat) (I : Nat → Int32) (A : Nat → Nat → Int32) (J : Nat → Nat → Int64) (it : Nat → Option Nat) (dyn : fsH)  : Option Nat := (if (if 36 < ((I 2) - (I 3)) then 36 else ((I 2) - (I 3))) = 0 then none else (some (dyn.length + 41)) : Option Nat)
def L_X5_captionItem_I (ht : Nat) (I : Nat → Int32) (A : Nat → Nat → Int32) (J : Nat → Nat → Int64) (it : Nat → Option Nat) (dyn : fsH)  : Nat → Int32 := (upd I 3 ((I 3) + (if 36 < ((I 2) - (I 3)) then 36 else ((I 2) - (I 3)))))
def L_X5_captionItem_dyn (ht : Nat) (I : Nat → Int32) (A : Nat → Nat → Int32) (J : Nat → Nat → Int64) (it : Nat → Option Nat) (dyn : fsH)  : fsH := (if (if 36 < ((I 2) - (I 3)) then 36 else ((I 2) - (I 3))) = 0 then dyn else (dyn ++ [some (.inr (1, [fsI 34, fsI 0, fsI 0, fsR none, fsI ((((if 36 < ((I 2) - (I 3)) then 36 else ((I 2) - (I 3))) + 12) - 1) / 12)]))]))
set_option maxRecDepth 100000 in
set_option maxHeartbeats 4000000 in
theorem c_X5_captionItem (G : fsG) (l : Launch) (ht : Nat) (I : Nat → Int32) (A : Nat → Nat → Int32) (J : Nat → Nat → Int64) (it : Nat → Option Nat) (dyn : fsH)  : fsFn G l mX5_captionItem 2 1 5 [.inr (.inr (some 1))] (fs_mk ht I A J it dyn) (some (.inr (.inr (L_X5_captionItem_r ht I A J it dyn )))) (fs_mk ht (L_X5_captionItem_I ht I A J it dyn ) A J it (L_X5_captionItem_dyn ht I A J it dyn )) := by
  refine fsMet_of (by decide) (Nat.le_of_ble_eq_true rfl) ?_
  generalize hQ : (fun (r1 : Option fsV) (h1 : fsH) => r1 = (some (.inr (.inr (L_X5_captionItem_r ht I A J it dyn )))) ∧ h1 = (fs_mk ht (L_X5_captionItem_I ht I A J it dyn ) A J it (L_X5_captionItem_dyn ht I A J it dyn ))) = Q
  have hq : Q (some (.inr (.inr (L_X5_captionItem_r ht I A J it dyn )))) (fs_mk ht (L_X5_captionItem_I ht I A J it dyn ) A J it (L_X5_captionItem_dyn ht I A J it dyn )) := by rw [← hQ]; exact ⟨rfl, rfl⟩
  clear hQ
  have hq : Q (some (.inr (.inr (if (if 36 < ((I 2) - (I 3)) then 36 else ((I 2) - (I 3))) = 0 then none else (some (dyn.length + 41)) : Option Nat)))) (fs_mk ht (upd I 3 ((I 3) + (if 36 < ((I 2) - (I 3)) then 36 else ((I 2) - (I 3))))) A J it (if (if 36 < ((I 2) - (I 3)) then 36 else ((I 2) - (I 3))) = 0 then dyn else (dyn ++ [some (.inr (1, [fsI 34, fsI 0, fsI 0, fsR none, fsI ((((if 36 < ((I 2) - (I 3)) then 36 else ((I 2) - (I 3))) + 12) - 1) / 12)]))]))) := hq
  refine (show fsW G l mX5_captionItem 2 1 5 0 0 Q 0 [(0, .inr (.inr (some 1)))] [] (fs_mk ht I A J it dyn) from ?_)
  refine fs_aload_n dX5_captionItem_0 rfl rfl ?_
  refine fs_getfield (v := .inl (I 2)) dX5_captionItem_1 sf_X5_15 rfl rfl ?_
  refine fs_aload_n dX5_captionItem_4 rfl rfl ?_
  refine fs_getfield (v := .inl (I 3)) dX5_captionItem_5 sf_X5_19 rfl rfl ?_
  refine fs_isub dX5_captionItem_8 ?_
  refine fs_bipush (v := 36) dX5_captionItem_9 rfl ?_
  refine fs_min dX5_captionItem_11 sl_X5_62 w_ms_min w_mi w_mc_min (by omega) (Nat.le_of_ble_eq_true rfl) (by omega) (by omega) ?_
  refine fs_istore_n (L' := [(1, .inl (if 36 < ((I 2) - (I 3)) then 36 else ((I 2) - (I 3)))), (0, .inr (.inr (some 1)))]) dX5_captionItem_14 rfl (by decide) rfl ?_
  refine fs_aload_n dX5_captionItem_15 rfl rfl ?_
  refine fs_dup dX5_captionItem_16 rfl ?_
  refine fs_getfield (v := .inl (I 3)) dX5_captionItem_17 sf_X5_19 rfl rfl ?_
  refine fs_iload_n dX5_captionItem_20 rfl rfl ?_
  refine fs_iadd dX5_captionItem_21 ?_
  refine fsp_3 dX5_captionItem_22 sp_X5_19 ?_
  refine fs_iload_n dX5_captionItem_25 rfl rfl ?_
  refine fs_bipush (v := 12) dX5_captionItem_26 rfl ?_
  refine fs_iadd dX5_captionItem_28 ?_
  refine fs_iconst (v := 1) dX5_captionItem_29 rfl ?_
  refine fs_isub dX5_captionItem_30 ?_
  refine fs_bipush (v := 12) dX5_captionItem_31 rfl ?_
  refine fs_idiv dX5_captionItem_33 (by decide) ?_
  refine fs_istore_n (L' := [(2, .inl ((((if 36 < ((I 2) - (I 3)) then 36 else ((I 2) - (I 3))) + 12) - 1) / 12)), (1, .inl (if 36 < ((I 2) - (I 3)) then 36 else ((I 2) - (I 3)))), (0, .inr (.inr (some 1)))]) dX5_captionItem_34 rfl (by decide) rfl ?_
  refine fs_iload_n dX5_captionItem_35 rfl rfl ?_
  have key_56 : fsW G l mX5_captionItem 2 1 5 1 5 Q 56 [(0, .inr (.inr (some 1))), (1, .inl (if 36 < ((I 2) - (I 3)) then 36 else ((I 2) - (I 3)))), (2, .inl ((((if 36 < ((I 2) - (I 3)) then 36 else ((I 2) - (I 3))) + 12) - 1) / 12))] [.inr (.inr (if (if 36 < ((I 2) - (I 3)) then 36 else ((I 2) - (I 3))) = 0 then none else (some (dyn.length + 41)) : Option Nat))] (fs_mk ht (upd I 3 ((I 3) + (if 36 < ((I 2) - (I 3)) then 36 else ((I 2) - (I 3))))) A J it (if (if 36 < ((I 2) - (I 3)) then 36 else ((I 2) - (I 3))) = 0 then dyn else (dyn ++ [some (.inr (1, [fsI 34, fsI 0, fsI 0, fsR none, fsI ((((if 36 < ((I 2) - (I 3)) then 36 else ((I 2) - (I 3))) + 12) - 1) / 12)]))]))) := by
    refine fs_widen (k2 := 1) (n2 := 5) (by omega) (by omega) ?_
    have k9 := hq
    exact fs_aret dX5_captionItem_56 rfl k9
  refine fs_if_ne 43 dX5_captionItem_36 (by decide) (fun c_36 : ¬ (if 36 < ((I 2) - (I 3)) then 36 else ((I 2) - (I 3))) = 0 => ?_) (fun c_36 : (if 36 < ((I 2) - (I 3)) then 36 else ((I 2) - (I 3))) = 0 => ?_)
  · refine fsn_new dX5_captionItem_43 sw_X5_53 (by omega) (by omega) ?_
    refine fs_dup dX5_captionItem_46 rfl ?_
    refine fs_bipush (v := 34) dX5_captionItem_47 rfl ?_
    refine fs_iconst (v := 0) dX5_captionItem_49 rfl ?_
    refine fs_iconst (v := 0) dX5_captionItem_50 rfl ?_
    refine fs_null dX5_captionItem_51 ?_
    refine fs_iload_n dX5_captionItem_52 rfl rfl ?_
    refine fs_callI0 dX5_captionItem_53 sv_X5_55 (c_X2_init G l ht (upd I 3 ((I 3) + (if 36 < ((I 2) - (I 3)) then 36 else ((I 2) - (I 3))))) A J it dyn 34 0 0 none ((((if 36 < ((I 2) - (I 3)) then 36 else ((I 2) - (I 3))) + 12) - 1) / 12) (by unfold fs_chr; decide) (by decide)) rfl rfl (Nat.le_of_ble_eq_true rfl) (by omega) (by omega) (by omega) ?_
    refine fs_reL [2, 1, 0] rfl ?_
    refine fs_widen (k2 := 1) (n2 := 5) (by omega) (by omega) ?_
    have k9 := key_56
    try simp only [if_neg c_36] at k9 ⊢
    exact k9
  · refine fs_null dX5_captionItem_39 ?_
    refine fs_goto 56 dX5_captionItem_40 (by decide) ?_
    refine fs_reL [2, 1, 0] rfl ?_
    refine fs_widen (k2 := 1) (n2 := 5) (by omega) (by omega) ?_
    have k9 := key_56
    try simp only [if_pos c_36] at k9 ⊢
    exact k9
def L_X5_takeItem_r (ht : Nat) (I : Nat → Int32) (A : Nat → Nat → Int32) (J : Nat → Nat → Int64) (it : Nat → Option Nat) (dyn : fsH)  : Option Nat := (if (if ((if (L_X7_isLetter_r ht (upd I 3 0) A J it dyn (L_X5_next_r ht (upd I 3 0) A J it dyn)) = 0 then (if (L_X5_skip_r ht (upd I 3 0) A J it dyn 33) = 0 then (if (L_X5_skip_r ht (L_X5_skip_I ht (upd I 3 0) A J it dyn 33) A J it dyn 34) = 0 then (L_X5_skip_I ht (L_X5_skip_I ht (upd I 3 0) A J it dyn 33) A J it dyn 34) else (L_X5_captionItem_I ht (L_X5_skip_I ht (L_X5_skip_I ht (upd I 3 0) A J it dyn 33) A J it dyn 34) A J it dyn)) else (L_X5_checkItem_I ht (L_X5_skip_I ht (upd I 3 0) A J it dyn 33) A J it dyn)) else (L_X5_fieldItem_I ht (upd I 3 0) A J it dyn)) 3) = ((if (L_X7_isLetter_r ht (upd I 3 0) A J it dyn (L_X5_next_r ht (upd I 3 0) A J it dyn)) = 0 then (if (L_X5_skip_r ht (upd I 3 0) A J it dyn 33) = 0 then (if (L_X5_skip_r ht (L_X5_skip_I ht (upd I 3 0) A J it dyn 33) A J it dyn 34) = 0 then (L_X5_skip_I ht (L_X5_skip_I ht (upd I 3 0) A J it dyn 33) A J it dyn 34) else (L_X5_captionItem_I ht (L_X5_skip_I ht (L_X5_skip_I ht (upd I 3 0) A J it dyn 33) A J it dyn 34) A J it dyn)) else (L_X5_checkItem_I ht (L_X5_skip_I ht (upd I 3 0) A J it dyn 33) A J it dyn)) else (L_X5_fieldItem_I ht (upd I 3 0) A J it dyn)) 2) then 1 else 0 : Int32) = 0 then none else (if (L_X7_isLetter_r ht (upd I 3 0) A J it dyn (L_X5_next_r ht (upd I 3 0) A J it dyn)) = 0 then (if (L_X5_skip_r ht (upd I 3 0) A J it dyn 33) = 0 then (if (L_X5_skip_r ht (L_X5_skip_I ht (upd I 3 0) A J it dyn 33) A J it dyn 34) = 0 then none else (L_X5_captionItem_r ht (L_X5_skip_I ht (L_X5_skip_I ht (upd I 3 0) A J it dyn 33) A J it dyn 34) A J it dyn) : Option Nat) else (L_X5_checkItem_r ht (L_X5_skip_I ht (upd I 3 0) A J it dyn 33) A J it dyn) : Option Nat) else (L_X5_fieldItem_r ht (upd I 3 0) A J it dyn) : Option Nat) : Option Nat)
def L_X5_takeItem_I (ht : Nat) (I : Nat → Int32) (A : Nat → Nat → Int32) (J : Nat → Nat → Int64) (it : Nat → Option Nat) (dyn : fsH)  : Nat → Int32 := (upd (if (L_X7_isLetter_r ht (upd I 3 0) A J it dyn (L_X5_next_r ht (upd I 3 0) A J it dyn)) = 0 then (if (L_X5_skip_r ht (upd I 3 0) A J it dyn 33) = 0 then (if (L_X5_skip_r ht (L_X5_skip_I ht (upd I 3 0) A J it dyn 33) A J it dyn 34) = 0 then (L_X5_skip_I ht (L_X5_skip_I ht (upd I 3 0) A J it dyn 33) A J it dyn 34) else (L_X5_captionItem_I ht (L_X5_skip_I ht (L_X5_skip_I ht (upd I 3 0) A J it dyn 33) A J it dyn 34) A J it dyn)) else (L_X5_checkItem_I ht (L_X5_skip_I ht (upd I 3 0) A J it dyn 33) A J it dyn)) else (L_X5_fieldItem_I ht (upd I 3 0) A J it dyn)) 2 0)
def L_X5_takeItem_dyn (ht : Nat) (I : Nat → Int32) (A : Nat → Nat → Int32) (J : Nat → Nat → Int64) (it : Nat → Option Nat) (dyn : fsH)  : fsH := (if (L_X7_isLetter_r ht (upd I 3 0) A J it dyn (L_X5_next_r ht (upd I 3 0) A J it dyn)) = 0 then (if (L_X5_skip_r ht (upd I 3 0) A J it dyn 33) = 0 then (if (L_X5_skip_r ht (L_X5_skip_I ht (upd I 3 0) A J it dyn 33) A J it dyn 34) = 0 then dyn else (L_X5_captionItem_dyn ht (L_X5_skip_I ht (L_X5_skip_I ht (upd I 3 0) A J it dyn 33) A J it dyn 34) A J it dyn)) else (L_X5_checkItem_dyn ht (L_X5_skip_I ht (upd I 3 0) A J it dyn 33) A J it dyn)) else (L_X5_fieldItem_dyn ht (upd I 3 0) A J it dyn))
def S_X5_takeItem (ht : Nat) (I : Nat → Int32) (A : Nat → Nat → Int32) (J : Nat → Nat → Int64) (it : Nat → Option Nat) (dyn : fsH)  : Prop := ((S_X5_next ht (upd I 3 0) A J it dyn) ∧ ((((L_X7_isLetter_r ht (upd I 3 0) A J it dyn (L_X5_next_r ht (upd I 3 0) A J it dyn)) = 0) → ((S_X5_skip ht (upd I 3 0) A J it dyn 33) ∧ ((((L_X5_skip_r ht (upd I 3 0) A J it dyn 33) = 0) → (S_X5_skip ht (L_X5_skip_I ht (upd I 3 0) A J it dyn 33) A J it dyn 34)) ∧ (¬ ((L_X5_skip_r ht (upd I 3 0) A J it dyn 33) = 0) → (S_X5_checkItem ht (L_X5_skip_I ht (upd I 3 0) A J it dyn 33) A J it dyn))))) ∧ (¬ ((L_X7_isLetter_r ht (upd I 3 0) A J it dyn (L_X5_next_r ht (upd I 3 0) A J it dyn)) = 0) → (S_X5_fieldItem ht (upd I 3 0) A J it dyn))))
set_option maxRecDepth 100000 in
set_option maxHeartbeats 4000000 in
theorem c_X5_takeItem (G : fsG) (l : Launch) (ht : Nat) (I : Nat → Int32) (A : Nat → Nat → Int32) (J : Nat → Nat → Int64) (it : Nat → Option Nat) (dyn : fsH)  (hS : S_X5_takeItem ht I A J it dyn ) : fsFn G l mX5_takeItem 26 3281 22965 [.inr (.inr (some 1))] (fs_mk ht I A J it dyn) (some (.inr (.inr (L_X5_takeItem_r ht I A J it dyn )))) (fs_mk ht (L_X5_takeItem_I ht I A J it dyn ) A J it (L_X5_takeItem_dyn ht I A J it dyn )) := by
  refine fsMet_of (by decide) (Nat.le_of_ble_eq_true rfl) ?_
  generalize hQ : (fun (r1 : Option fsV) (h1 : fsH) => r1 = (some (.inr (.inr (L_X5_takeItem_r ht I A J it dyn )))) ∧ h1 = (fs_mk ht (L_X5_takeItem_I ht I A J it dyn ) A J it (L_X5_takeItem_dyn ht I A J it dyn ))) = Q
  have hq : Q (some (.inr (.inr (L_X5_takeItem_r ht I A J it dyn )))) (fs_mk ht (L_X5_takeItem_I ht I A J it dyn ) A J it (L_X5_takeItem_dyn ht I A J it dyn )) := by rw [← hQ]; exact ⟨rfl, rfl⟩
  clear hQ
  have hq : Q (some (.inr (.inr (if (if ((if (L_X7_isLetter_r ht (upd I 3 0) A J it dyn (L_X5_next_r ht (upd I 3 0) A J it dyn)) = 0 then (if (L_X5_skip_r ht (upd I 3 0) A J it dyn 33) = 0 then (if (L_X5_skip_r ht (L_X5_skip_I ht (upd I 3 0) A J it dyn 33) A J it dyn 34) = 0 then (L_X5_skip_I ht (L_X5_skip_I ht (upd I 3 0) A J it dyn 33) A J it dyn 34) else (L_X5_captionItem_I ht (L_X5_skip_I ht (L_X5_skip_I ht (upd I 3 0) A J it dyn 33) A J it dyn 34) A J it dyn)) else (L_X5_checkItem_I ht (L_X5_skip_I ht (upd I 3 0) A J it dyn 33) A J it dyn)) else (L_X5_fieldItem_I ht (upd I 3 0) A J it dyn)) 3) = ((if (L_X7_isLetter_r ht (upd I 3 0) A J it dyn (L_X5_next_r ht (upd I 3 0) A J it dyn)) = 0 then (if (L_X5_skip_r ht (upd I 3 0) A J it dyn 33) = 0 then (if (L_X5_skip_r ht (L_X5_skip_I ht (upd I 3 0) A J it dyn 33) A J it dyn 34) = 0 then (L_X5_skip_I ht (L_X5_skip_I ht (upd I 3 0) A J it dyn 33) A J it dyn 34) else (L_X5_captionItem_I ht (L_X5_skip_I ht (L_X5_skip_I ht (upd I 3 0) A J it dyn 33) A J it dyn 34) A J it dyn)) else (L_X5_checkItem_I ht (L_X5_skip_I ht (upd I 3 0) A J it dyn 33) A J it dyn)) else (L_X5_fieldItem_I ht (upd I 3 0) A J it dyn)) 2) then 1 else 0 : Int32) = 0 then none else (if (L_X7_isLetter_r ht (upd I 3 0) A J it dyn (L_X5_next_r ht (upd I 3 0) A J it dyn)) = 0 then (if (L_X5_skip_r ht (upd I 3 0) A J it dyn 33) = 0 then (if (L_X5_skip_r ht (L_X5_skip_I ht (upd I 3 0) A J it dyn 33) A J it dyn 34) = 0 then none else (L_X5_captionItem_r ht (L_X5_skip_I ht (L_X5_skip_I ht (upd I 3 0) A J it dyn 33) A J it dyn 34) A J it dyn) : Option Nat) else (L_X5_checkItem_r ht (L_X5_skip_I ht (upd I 3 0) A J it dyn 33) A J it dyn) : Option Nat) else (L_X5_fieldItem_r ht (upd I 3 0) A J it dyn) : Option Nat) : Option Nat)))) (fs_mk ht (upd (if (L_X7_isLetter_r ht (upd I 3 0) A J it dyn (L_X5_next_r ht (upd I 3 0) A J it dyn)) = 0 then (if (L_X5_skip_r ht (upd I 3 0) A J it dyn 33) = 0 then (if (L_X5_skip_r ht (L_X5_skip_I ht (upd I 3 0) A J it dyn 33) A J it dyn 34) = 0 then (L_X5_skip_I ht (L_X5_skip_I ht (upd I 3 0) A J it dyn 33) A J it dyn 34) else (L_X5_captionItem_I ht (L_X5_skip_I ht (L_X5_skip_I ht (upd I 3 0) A J it dyn 33) A J it dyn 34) A J it dyn)) else (L_X5_checkItem_I ht (L_X5_skip_I ht (upd I 3 0) A J it dyn 33) A J it dyn)) else (L_X5_fieldItem_I ht (upd I 3 0) A J it dyn)) 2 0) A J it (if (L_X7_isLetter_r ht (upd I 3 0) A J it dyn (L_X5_next_r ht (upd I 3 0) A J it dyn)) = 0 then (if (L_X5_skip_r ht (upd I 3 0) A J it dyn 33) = 0 then (if (L_X5_skip_r ht (L_X5_skip_I ht (upd I 3 0) A J it dyn 33) A J it dyn 34) = 0 then dyn else (L_X5_captionItem_dyn ht (L_X5_skip_I ht (L_X5_skip_I ht (upd I 3 0) A J it dyn 33) A J it dyn 34) A J it dyn)) else (L_X5_checkItem_dyn ht (L_X5_skip_I ht (upd I 3 0) A J it dyn 33) A J it dyn)) else (L_X5_fieldItem_dyn ht (upd I 3 0) A J it dyn))) := hq
  have hS : ((S_X5_next ht (upd I 3 0) A J it dyn) ∧ ((((L_X7_isLetter_r ht (upd I 3 0) A J it dyn (L_X5_next_r ht (upd I 3 0) A J it dyn)) = 0) → ((S_X5_skip ht (upd I 3 0) A J it dyn 33) ∧ ((((L_X5_skip_r ht (upd I 3 0) A J it dyn 33) = 0) → (S_X5_skip ht (L_X5_skip_I ht (upd I 3 0) A J it dyn 33) A J it dyn 34)) ∧ (¬ ((L_X5_skip_r ht (upd I 3 0) A J it dyn 33) = 0) → (S_X5_checkItem ht (L_X5_skip_I ht (upd I 3 0) A J it dyn 33) A J it dyn))))) ∧ (¬ ((L_X7_isLetter_r ht (upd I 3 0) A J it dyn (L_X5_next_r ht (upd I 3 0) A J it dyn)) = 0) → (S_X5_fieldItem ht (upd I 3 0) A J it dyn)))) := hS
  refine (show fsW G l mX5_takeItem 26 3281 22965 0 0 Q 0 [(0, .inr (.inr (some 1)))] [] (fs_mk ht I A J it dyn) from ?_)
  refine fs_aload_n dX5_takeItem_0 rfl rfl ?_
  refine fs_iconst (v := 0) dX5_takeItem_1 rfl ?_
  refine fsp_3 dX5_takeItem_2 sp_X5_19 ?_
  refine fs_null dX5_takeItem_5 ?_
  refine fs_astore_n (L' := [(1, .inr (.inr none)), (0, .inr (.inr (some 1)))]) dX5_takeItem_6 rfl (by decide) rfl ?_
  refine fs_aload_n dX5_takeItem_7 rfl rfl ?_
  obtain ⟨ho1, hS⟩ := hS
  refine fs_callV1 dX5_takeItem_8 sv_X5_26 rfl ⟨_, rfl, rfl⟩ (c_X5_next G l ht (upd I 3 0) A J it dyn ho1) rfl rfl (Nat.le_of_ble_eq_true rfl) (by omega) (by omega) (by omega) ?_
  refine fs_callSN1 dX5_takeItem_11 sv_X5_30 (c_X7_isLetter G l ht (upd I 3 0) A J it dyn (L_X5_next_r ht (upd I 3 0) A J it dyn)) rfl rfl (Nat.le_of_ble_eq_true rfl) (by omega) (by omega) (by omega) ?_
  have hR_14 := hS
  have key_56 : fsW G l mX5_takeItem 26 3281 22965 3281 22965 Q 56 [(0, .inr (.inr (some 1))), (1, .inr (.inr (if (L_X7_isLetter_r ht (upd I 3 0) A J it dyn (L_X5_next_r ht (upd I 3 0) A J it dyn)) = 0 then (if (L_X5_skip_r ht (upd I 3 0) A J it dyn 33) = 0 then (if (L_X5_skip_r ht (L_X5_skip_I ht (upd I 3 0) A J it dyn 33) A J it dyn 34) = 0 then none else (L_X5_captionItem_r ht (L_X5_skip_I ht (L_X5_skip_I ht (upd I 3 0) A J it dyn 33) A J it dyn 34) A J it dyn) : Option Nat) else (L_X5_checkItem_r ht (L_X5_skip_I ht (upd I 3 0) A J it dyn 33) A J it dyn) : Option Nat) else (L_X5_fieldItem_r ht (upd I 3 0) A J it dyn) : Option Nat)))] [] (fs_mk ht (if (L_X7_isLetter_r ht (upd I 3 0) A J it dyn (L_X5_next_r ht (upd I 3 0) A J it dyn)) = 0 then (if (L_X5_skip_r ht (upd I 3 0) A J it dyn 33) = 0 then (if (L_X5_skip_r ht (L_X5_skip_I ht (upd I 3 0) A J it dyn 33) A J it dyn 34) = 0 then (L_X5_skip_I ht (L_X5_skip_I ht (upd I 3 0) A J it dyn 33) A J it dyn 34) else (L_X5_captionItem_I ht (L_X5_skip_I ht (L_X5_skip_I ht (upd I 3 0) A J it dyn 33) A J it dyn 34) A J it dyn)) else (L_X5_checkItem_I ht (L_X5_skip_I ht (upd I 3 0) A J it dyn 33) A J it dyn)) else (L_X5_fieldItem_I ht (upd I 3 0) A J it dyn)) A J it (if (L_X7_isLetter_r ht (upd I 3 0) A J it dyn (L_X5_next_r ht (upd I 3 0) A J it dyn)) = 0 then (if (L_X5_skip_r ht (upd I 3 0) A J it dyn 33) = 0 then (if (L_X5_skip_r ht (L_X5_skip_I ht (upd I 3 0) A J it dyn 33) A J it dyn 34) = 0 then dyn else (L_X5_captionItem_dyn ht (L_X5_skip_I ht (L_X5_skip_I ht (upd I 3 0) A J it dyn 33) A J it dyn 34) A J it dyn)) else (L_X5_checkItem_dyn ht (L_X5_skip_I ht (upd I 3 0) A J it dyn 33) A J it dyn)) else (L_X5_fieldItem_dyn ht (upd I 3 0) A J it dyn))) := by
    refine fs_aload_n dX5_takeItem_56 rfl rfl ?_
    refine fs_getfield (v := .inl ((if (L_X7_isLetter_r ht (upd I 3 0) A J it dyn (L_X5_next_r ht (upd I 3 0) A J it dyn)) = 0 then (if (L_X5_skip_r ht (upd I 3 0) A J it dyn 33) = 0 then (if (L_X5_skip_r ht (L_X5_skip_I ht (upd I 3 0) A J it dyn 33) A J it dyn 34) = 0 then (L_X5_skip_I ht (L_X5_skip_I ht (upd I 3 0) A J it dyn 33) A J it dyn 34) else (L_X5_captionItem_I ht (L_X5_skip_I ht (L_X5_skip_I ht (upd I 3 0) A J it dyn 33) A J it dyn 34) A J it dyn)) else (L_X5_checkItem_I ht (L_X5_skip_I ht (upd I 3 0) A J it dyn 33) A J it dyn)) else (L_X5_fieldItem_I ht (upd I 3 0) A J it dyn)) 3)) dX5_takeItem_57 sf_X5_19 rfl rfl ?_
    refine fs_aload_n dX5_takeItem_60 rfl rfl ?_
    refine fs_getfield (v := .inl ((if (L_X7_isLetter_r ht (upd I 3 0) A J it dyn (L_X5_next_r ht (upd I 3 0) A J it dyn)) = 0 then (if (L_X5_skip_r ht (upd I 3 0) A J it dyn 33) = 0 then (if (L_X5_skip_r ht (L_X5_skip_I ht (upd I 3 0) A J it dyn 33) A J it dyn 34) = 0 then (L_X5_skip_I ht (L_X5_skip_I ht (upd I 3 0) A J it dyn 33) A J it dyn 34) else (L_X5_captionItem_I ht (L_X5_skip_I ht (L_X5_skip_I ht (upd I 3 0) A J it dyn 33) A J it dyn 34) A J it dyn)) else (L_X5_checkItem_I ht (L_X5_skip_I ht (upd I 3 0) A J it dyn 33) A J it dyn)) else (L_X5_fieldItem_I ht (upd I 3 0) A J it dyn)) 2)) dX5_takeItem_61 sf_X5_15 rfl rfl ?_
    have key_72 : fsW G l mX5_takeItem 26 3281 22965 3281 22965 Q 72 [(0, .inr (.inr (some 1))), (1, .inr (.inr (if (L_X7_isLetter_r ht (upd I 3 0) A J it dyn (L_X5_next_r ht (upd I 3 0) A J it dyn)) = 0 then (if (L_X5_skip_r ht (upd I 3 0) A J it dyn 33) = 0 then (if (L_X5_skip_r ht (L_X5_skip_I ht (upd I 3 0) A J it dyn 33) A J it dyn 34) = 0 then none else (L_X5_captionItem_r ht (L_X5_skip_I ht (L_X5_skip_I ht (upd I 3 0) A J it dyn 33) A J it dyn 34) A J it dyn) : Option Nat) else (L_X5_checkItem_r ht (L_X5_skip_I ht (upd I 3 0) A J it dyn 33) A J it dyn) : Option Nat) else (L_X5_fieldItem_r ht (upd I 3 0) A J it dyn) : Option Nat)))] [.inl (if ((if (L_X7_isLetter_r ht (upd I 3 0) A J it dyn (L_X5_next_r ht (upd I 3 0) A J it dyn)) = 0 then (if (L_X5_skip_r ht (upd I 3 0) A J it dyn 33) = 0 then (if (L_X5_skip_r ht (L_X5_skip_I ht (upd I 3 0) A J it dyn 33) A J it dyn 34) = 0 then (L_X5_skip_I ht (L_X5_skip_I ht (upd I 3 0) A J it dyn 33) A J it dyn 34) else (L_X5_captionItem_I ht (L_X5_skip_I ht (L_X5_skip_I ht (upd I 3 0) A J it dyn 33) A J it dyn 34) A J it dyn)) else (L_X5_checkItem_I ht (L_X5_skip_I ht (upd I 3 0) A J it dyn 33) A J it dyn)) else (L_X5_fieldItem_I ht (upd I 3 0) A J it dyn)) 3) = ((if (L_X7_isLetter_r ht (upd I 3 0) A J it dyn (L_X5_next_r ht (upd I 3 0) A J it dyn)) = 0 then (if (L_X5_skip_r ht (upd I 3 0) A J it dyn 33) = 0 then (if (L_X5_skip_r ht (L_X5_skip_I ht (upd I 3 0) A J it dyn 33) A J it dyn 34) = 0 then (L_X5_skip_I ht (L_X5_skip_I ht (upd I 3 0) A J it dyn 33) A J it dyn 34) else (L_X5_captionItem_I ht (L_X5_skip_I ht (L_X5_skip_I ht (upd I 3 0) A J it dyn 33) A J it dyn 34) A J it dyn)) else (L_X5_checkItem_I ht (L_X5_skip_I ht (upd I 3 0) A J it dyn 33) A J it dyn)) else (L_X5_fieldItem_I ht (upd I 3 0) A J it dyn)) 2) then 1 else 0 : Int32)] (fs_mk ht (if (L_X7_isLetter_r ht (upd I 3 0) A J it dyn (L_X5_next_r ht (upd I 3 0) A J it dyn)) = 0 then (if (L_X5_skip_r ht (upd I 3 0) A J it dyn 33) = 0 then (if (L_X5_skip_r ht (L_X5_skip_I ht (upd I 3 0) A J it dyn 33) A J it dyn 34) = 0 then (L_X5_skip_I ht (L_X5_skip_I ht (upd I 3 0) A J it dyn 33) A J it dyn 34) else (L_X5_captionItem_I ht (L_X5_skip_I ht (L_X5_skip_I ht (upd I 3 0) A J it dyn 33) A J it dyn 34) A J it dyn)) else (L_X5_checkItem_I ht (L_X5_skip_I ht (upd I 3 0) A J it dyn 33) A J it dyn)) else (L_X5_fieldItem_I ht (upd I 3 0) A J it dyn)) A J it (if (L_X7_isLetter_r ht (upd I 3 0) A J it dyn (L_X5_next_r ht (upd I 3 0) A J it dyn)) = 0 then (if (L_X5_skip_r ht (upd I 3 0) A J it dyn 33) = 0 then (if (L_X5_skip_r ht (L_X5_skip_I ht (upd I 3 0) A J it dyn 33) A J it dyn 34) = 0 then dyn else (L_X5_captionItem_dyn ht (L_X5_skip_I ht (L_X5_skip_I ht (upd I 3 0) A J it dyn 33) A J it dyn 34) A J it dyn)) else (L_X5_checkItem_dyn ht (L_X5_skip_I ht (upd I 3 0) A J it dyn 33) A J it dyn)) else (L_X5_fieldItem_dyn ht (upd I 3 0) A J it dyn))) := by
      refine fs_istore_n (L' := [(2, .inl (if ((if (L_X7_isLetter_r ht (upd I 3 0) A J it dyn (L_X5_next_r ht (upd I 3 0) A J it dyn)) = 0 then (if (L_X5_skip_r ht (upd I 3 0) A J it dyn 33) = 0 then (if (L_X5_skip_r ht (L_X5_skip_I ht (upd I 3 0) A J it dyn 33) A J it dyn 34) = 0 then (L_X5_skip_I ht (L_X5_skip_I ht (upd I 3 0) A J it dyn 33) A J it dyn 34) else (L_X5_captionItem_I ht (L_X5_skip_I ht (L_X5_skip_I ht (upd I 3 0) A J it dyn 33) A J it dyn 34) A J it dyn)) else (L_X5_checkItem_I ht (L_X5_skip_I ht (upd I 3 0) A J it dyn 33) A J it dyn)) else (L_X5_fieldItem_I ht (upd I 3 0) A J it dyn)) 3) = ((if (L_X7_isLetter_r ht (upd I 3 0) A J it dyn (L_X5_next_r ht (upd I 3 0) A J it dyn)) = 0 then (if (L_X5_skip_r ht (upd I 3 0) A J it dyn 33) = 0 then (if (L_X5_skip_r ht (L_X5_skip_I ht (upd I 3 0) A J it dyn 33) A J it dyn 34) = 0 then (L_X5_skip_I ht (L_X5_skip_I ht (upd I 3 0) A J it dyn 33) A J it dyn 34) else (L_X5_captionItem_I ht (L_X5_skip_I ht (L_X5_skip_I ht (upd I 3 0) A J it dyn 33) A J it dyn 34) A J it dyn)) else (L_X5_checkItem_I ht (L_X5_skip_I ht (upd I 3 0) A J it dyn 33) A J it dyn)) else (L_X5_fieldItem_I ht (upd I 3 0) A J it dyn)) 2) then 1 else 0 : Int32)), (0, .inr (.inr (some 1))), (1, .inr (.inr (if (L_X7_isLetter_r ht (upd I 3 0) A J it dyn (L_X5_next_r ht (upd I 3 0) A J it dyn)) = 0 then (if (L_X5_skip_r ht (upd I 3 0) A J it dyn 33) = 0 then (if (L_X5_skip_r ht (L_X5_skip_I ht (upd I 3 0) A J it dyn 33) A J it dyn 34) = 0 then none else (L_X5_captionItem_r ht (L_X5_skip_I ht (L_X5_skip_I ht (upd I 3 0) A J it dyn 33) A J it dyn 34) A J it dyn) : Option Nat) else (L_X5_checkItem_r ht (L_X5_skip_I ht (upd I 3 0) A J it dyn 33) A J it dyn) : Option Nat) else (L_X5_fieldItem_r ht (upd I 3 0) A J it dyn) : Option Nat)))]) dX5_takeItem_72 rfl (by decide) rfl ?_
      refine fs_aload_n dX5_takeItem_73 rfl rfl ?_
      refine fs_iconst (v := 0) dX5_takeItem_74 rfl ?_
      refine fsp_2 dX5_takeItem_75 sp_X5_15 ?_
      refine fs_iload_n dX5_takeItem_78 rfl rfl ?_
      have key_87 : fsW G l mX5_takeItem 26 3281 22965 3281 22965 Q 87 [(0, .inr (.inr (some 1))), (1, .inr (.inr (if (L_X7_isLetter_r ht (upd I 3 0) A J it dyn (L_X5_next_r ht (upd I 3 0) A J it dyn)) = 0 then (if (L_X5_skip_r ht (upd I 3 0) A J it dyn 33) = 0 then (if (L_X5_skip_r ht (L_X5_skip_I ht (upd I 3 0) A J it dyn 33) A J it dyn 34) = 0 then none else (L_X5_captionItem_r ht (L_X5_skip_I ht (L_X5_skip_I ht (upd I 3 0) A J it dyn 33) A J it dyn 34) A J it dyn) : Option Nat) else (L_X5_checkItem_r ht (L_X5_skip_I ht (upd I 3 0) A J it dyn 33) A J it dyn) : Option Nat) else (L_X5_fieldItem_r ht (upd I 3 0) A J it dyn) : Option Nat))), (2, .inl (if ((if (L_X7_isLetter_r ht (upd I 3 0) A J it dyn (L_X5_next_r ht (upd I 3 0) A J it dyn)) = 0 then (if (L_X5_skip_r ht (upd I 3 0) A J it dyn 33) = 0 then (if (L_X5_skip_r ht (L_X5_skip_I ht (upd I 3 0) A J it dyn 33) A J it dyn 34) = 0 then (L_X5_skip_I ht (L_X5_skip_I ht (upd I 3 0) A J it dyn 33) A J it dyn 34) else (L_X5_captionItem_I ht (L_X5_skip_I ht (L_X5_skip_I ht (upd I 3 0) A J it dyn 33) A J it dyn 34) A J it dyn)) else (L_X5_checkItem_I ht (L_X5_skip_I ht (upd I 3 0) A J it dyn 33) A J it dyn)) else (L_X5_fieldItem_I ht (upd I 3 0) A J it dyn)) 3) = ((if (L_X7_isLetter_r ht (upd I 3 0) A J it dyn (L_X5_next_r ht (upd I 3 0) A J it dyn)) = 0 then (if (L_X5_skip_r ht (upd I 3 0) A J it dyn 33) = 0 then (if (L_X5_skip_r ht (L_X5_skip_I ht (upd I 3 0) A J it dyn 33) A J it dyn 34) = 0 then (L_X5_skip_I ht (L_X5_skip_I ht (upd I 3 0) A J it dyn 33) A J it dyn 34) else (L_X5_captionItem_I ht (L_X5_skip_I ht (L_X5_skip_I ht (upd I 3 0) A J it dyn 33) A J it dyn 34) A J it dyn)) else (L_X5_checkItem_I ht (L_X5_skip_I ht (upd I 3 0) A J it dyn 33) A J it dyn)) else (L_X5_fieldItem_I ht (upd I 3 0) A J it dyn)) 2) then 1 else 0 : Int32))] [.inr (.inr (if (if ((if (L_X7_isLetter_r ht (upd I 3 0) A J it dyn (L_X5_next_r ht (upd I 3 0) A J it dyn)) = 0 then (if (L_X5_skip_r ht (upd I 3 0) A J it dyn 33) = 0 then (if (L_X5_skip_r ht (L_X5_skip_I ht (upd I 3 0) A J it dyn 33) A J it dyn 34) = 0 then (L_X5_skip_I ht (L_X5_skip_I ht (upd I 3 0) A J it dyn 33) A J it dyn 34) else (L_X5_captionItem_I ht (L_X5_skip_I ht (L_X5_skip_I ht (upd I 3 0) A J it dyn 33) A J it dyn 34) A J it dyn)) else (L_X5_checkItem_I ht (L_X5_skip_I ht (upd I 3 0) A J it dyn 33) A J it dyn)) else (L_X5_fieldItem_I ht (upd I 3 0) A J it dyn)) 3) = ((if (L_X7_isLetter_r ht (upd I 3 0) A J it dyn (L_X5_next_r ht (upd I 3 0) A J it dyn)) = 0 then (if (L_X5_skip_r ht (upd I 3 0) A J it dyn 33) = 0 then (if (L_X5_skip_r ht (L_X5_skip_I ht (upd I 3 0) A J it dyn 33) A J it dyn 34) = 0 then (L_X5_skip_I ht (L_X5_skip_I ht (upd I 3 0) A J it dyn 33) A J it dyn 34) else (L_X5_captionItem_I ht (L_X5_skip_I ht (L_X5_skip_I ht (upd I 3 0) A J it dyn 33) A J it dyn 34) A J it dyn)) else (L_X5_checkItem_I ht (L_X5_skip_I ht (upd I 3 0) A J it dyn 33) A J it dyn)) else (L_X5_fieldItem_I ht (upd I 3 0) A J it dyn)) 2) then 1 else 0 : Int32) = 0 then none else (if (L_X7_isLetter_r ht (upd I 3 0) A J it dyn (L_X5_next_r ht (upd I 3 0) A J it dyn)) = 0 then (if (L_X5_skip_r ht (upd I 3 0) A J it dyn 33) = 0 then (if (L_X5_skip_r ht (L_X5_skip_I ht (upd I 3 0) A J it dyn 33) A J it dyn 34) = 0 then none else (L_X5_captionItem_r ht (L_X5_skip_I ht (L_X5_skip_I ht (upd I 3 0) A J it dyn 33) A J it dyn 34) A J it dyn) : Option Nat) else (L_X5_checkItem_r ht (L_X5_skip_I ht (upd I 3 0) A J it dyn 33) A J it dyn) : Option Nat) else (L_X5_fieldItem_r ht (upd I 3 0) A J it dyn) : Option Nat) : Option Nat))] (fs_mk ht (upd (if (L_X7_isLetter_r ht (upd I 3 0) A J it dyn (L_X5_next_r ht (upd I 3 0) A J it dyn)) = 0 then (if (L_X5_skip_r ht (upd I 3 0) A J it dyn 33) = 0 then (if (L_X5_skip_r ht (L_X5_skip_I ht (upd I 3 0) A J it dyn 33) A J it dyn 34) = 0 then (L_X5_skip_I ht (L_X5_skip_I ht (upd I 3 0) A J it dyn 33) A J it dyn 34) else (L_X5_captionItem_I ht (L_X5_skip_I ht (L_X5_skip_I ht (upd I 3 0) A J it dyn 33) A J it dyn 34) A J it dyn)) else (L_X5_checkItem_I ht (L_X5_skip_I ht (upd I 3 0) A J it dyn 33) A J it dyn)) else (L_X5_fieldItem_I ht (upd I 3 0) A J it dyn)) 2 0) A J it (if (L_X7_isLetter_r ht (upd I 3 0) A J it dyn (L_X5_next_r ht (upd I 3 0) A J it dyn)) = 0 then (if (L_X5_skip_r ht (upd I 3 0) A J it dyn 33) = 0 then (if (L_X5_skip_r ht (L_X5_skip_I ht (upd I 3 0) A J it dyn 33) A J it dyn 34) = 0 then dyn else (L_X5_captionItem_dyn ht (L_X5_skip_I ht (L_X5_skip_I ht (upd I 3 0) A J it dyn 33) A J it dyn 34) A J it dyn)) else (L_X5_checkItem_dyn ht (L_X5_skip_I ht (upd I 3 0) A J it dyn 33) A J it dyn)) else (L_X5_fieldItem_dyn ht (upd I 3 0) A J it dyn))) := by
        refine fs_widen (k2 := 3281) (n2 := 22965) (by omega) (by omega) ?_
        have k9 := hq
        exact fs_aret dX5_takeItem_87 rfl k9
      refine fs_if_eq 86 dX5_takeItem_79 (by decide) (fun c_79 : (if ((if (L_X7_isLetter_r ht (upd I 3 0) A J it dyn (L_X5_next_r ht (upd I 3 0) A J it dyn)) = 0 then (if (L_X5_skip_r ht (upd I 3 0) A J it dyn 33) = 0 then (if (L_X5_skip_r ht (L_X5_skip_I ht (upd I 3 0) A J it dyn 33) A J it dyn 34) = 0 then (L_X5_skip_I ht (L_X5_skip_I ht (upd I 3 0) A J it dyn 33) A J it dyn 34) else (L_X5_captionItem_I ht (L_X5_skip_I ht (L_X5_skip_I ht (upd I 3 0) A J it dyn 33) A J it dyn 34) A J it dyn)) else (L_X5_checkItem_I ht (L_X5_skip_I ht (upd I 3 0) A J it dyn 33) A J it dyn)) else (L_X5_fieldItem_I ht (upd I 3 0) A J it dyn)) 3) = ((if (L_X7_isLetter_r ht (upd I 3 0) A J it dyn (L_X5_next_r ht (upd I 3 0) A J it dyn)) = 0 then (if (L_X5_skip_r ht (upd I 3 0) A J it dyn 33) = 0 then (if (L_X5_skip_r ht (L_X5_skip_I ht (upd I 3 0) A J it dyn 33) A J it dyn 34) = 0 then (L_X5_skip_I ht (L_X5_skip_I ht (upd I 3 0) A J it dyn 33) A J it dyn 34) else (L_X5_captionItem_I ht (L_X5_skip_I ht (L_X5_skip_I ht (upd I 3 0) A J it dyn 33) A J it dyn 34) A J it dyn)) else (L_X5_checkItem_I ht (L_X5_skip_I ht (upd I 3 0) A J it dyn 33) A J it dyn)) else (L_X5_fieldItem_I ht (upd I 3 0) A J it dyn)) 2) then 1 else 0 : Int32) = 0 => ?_) (fun c_79 : ¬ ((if ((if (L_X7_isLetter_r ht (upd I 3 0) A J it dyn (L_X5_next_r ht (upd I 3 0) A J it dyn)) = 0 then (if (L_X5_skip_r ht (upd I 3 0) A J it dyn 33) = 0 then (if (L_X5_skip_r ht (L_X5_skip_I ht (upd I 3 0) A J it dyn 33) A J it dyn 34) = 0 then (L_X5_skip_I ht (L_X5_skip_I ht (upd I 3 0) A J it dyn 33) A J it dyn 34) else (L_X5_captionItem_I ht (L_X5_skip_I ht (L_X5_skip_I ht (upd I 3 0) A J it dyn 33) A J it dyn 34) A J it dyn)) else (L_X5_checkItem_I ht (L_X5_skip_I ht (upd I 3 0) A J it dyn 33) A J it dyn)) else (L_X5_fieldItem_I ht (upd I 3 0) A J it dyn)) 3) = ((if (L_X7_isLetter_r ht (upd I 3 0) A J it dyn (L_X5_next_r ht (upd I 3 0) A J it dyn)) = 0 then (if (L_X5_skip_r ht (upd I 3 0) A J it dyn 33) = 0 then (if (L_X5_skip_r ht (L_X5_skip_I ht (upd I 3 0) A J it dyn 33) A J it dyn 34) = 0 then (L_X5_skip_I ht (L_X5_skip_I ht (upd I 3 0) A J it dyn 33) A J it dyn 34) else (L_X5_captionItem_I ht (L_X5_skip_I ht (L_X5_skip_I ht (upd I 3 0) A J it dyn 33) A J it dyn 34) A J it dyn)) else (L_X5_checkItem_I ht (L_X5_skip_I ht (upd I 3 0) A J it dyn 33) A J it dyn)) else (L_X5_fieldItem_I ht (upd I 3 0) A J it dyn)) 2) then 1 else 0 : Int32) = 0) => ?_)
      · refine fs_null dX5_takeItem_86 ?_
        refine fs_reL [1, 2, 0] rfl ?_
        refine fs_widen (k2 := 3281) (n2 := 22965) (by omega) (by omega) ?_
        have k9 := key_87
        try simp only [if_pos c_79] at k9 ⊢
        exact k9
      · refine fs_aload_n dX5_takeItem_82 rfl rfl ?_
        refine fs_goto 87 dX5_takeItem_83 (by decide) ?_
        refine fs_reL [1, 2, 0] rfl ?_
        refine fs_widen (k2 := 3281) (n2 := 22965) (by omega) (by omega) ?_
        have k9 := key_87
        try simp only [if_neg c_79] at k9 ⊢
        exact k9
    refine fs_icmp_ne 71 dX5_takeItem_64 (by decide) (fun c_64 : ¬ ((if (L_X7_isLetter_r ht (upd I 3 0) A J it dyn (L_X5_next_r ht (upd I 3 0) A J it dyn)) = 0 then (if (L_X5_skip_r ht (upd I 3 0) A J it dyn 33) = 0 then (if (L_X5_skip_r ht (L_X5_skip_I ht (upd I 3 0) A J it dyn 33) A J it dyn 34) = 0 then (L_X5_skip_I ht (L_X5_skip_I ht (upd I 3 0) A J it dyn 33) A J it dyn 34) else (L_X5_captionItem_I ht (L_X5_skip_I ht (L_X5_skip_I ht (upd I 3 0) A J it dyn 33) A J it dyn 34) A J it dyn)) else (L_X5_checkItem_I ht (L_X5_skip_I ht (upd I 3 0) A J it dyn 33) A J it dyn)) else (L_X5_fieldItem_I ht (upd I 3 0) A J it dyn)) 3) = ((if (L_X7_isLetter_r ht (upd I 3 0) A J it dyn (L_X5_next_r ht (upd I 3 0) A J it dyn)) = 0 then (if (L_X5_skip_r ht (upd I 3 0) A J it dyn 33) = 0 then (if (L_X5_skip_r ht (L_X5_skip_I ht (upd I 3 0) A J it dyn 33) A J it dyn 34) = 0 then (L_X5_skip_I ht (L_X5_skip_I ht (upd I 3 0) A J it dyn 33) A J it dyn 34) else (L_X5_captionItem_I ht (L_X5_skip_I ht (L_X5_skip_I ht (upd I 3 0) A J it dyn 33) A J it dyn 34) A J it dyn)) else (L_X5_checkItem_I ht (L_X5_skip_I ht (upd I 3 0) A J it dyn 33) A J it dyn)) else (L_X5_fieldItem_I ht (upd I 3 0) A J it dyn)) 2) => ?_) (fun c_64 : ((if (L_X7_isLetter_r ht (upd I 3 0) A J it dyn (L_X5_next_r ht (upd I 3 0) A J it dyn)) = 0 then (if (L_X5_skip_r ht (upd I 3 0) A J it dyn 33) = 0 then (if (L_X5_skip_r ht (L_X5_skip_I ht (upd I 3 0) A J it dyn 33) A J it dyn 34) = 0 then (L_X5_skip_I ht (L_X5_skip_I ht (upd I 3 0) A J it dyn 33) A J it dyn 34) else (L_X5_captionItem_I ht (L_X5_skip_I ht (L_X5_skip_I ht (upd I 3 0) A J it dyn 33) A J it dyn 34) A J it dyn)) else (L_X5_checkItem_I ht (L_X5_skip_I ht (upd I 3 0) A J it dyn 33) A J it dyn)) else (L_X5_fieldItem_I ht (upd I 3 0) A J it dyn)) 3) = ((if (L_X7_isLetter_r ht (upd I 3 0) A J it dyn (L_X5_next_r ht (upd I 3 0) A J it dyn)) = 0 then (if (L_X5_skip_r ht (upd I 3 0) A J it dyn 33) = 0 then (if (L_X5_skip_r ht (L_X5_skip_I ht (upd I 3 0) A J it dyn 33) A J it dyn 34) = 0 then (L_X5_skip_I ht (L_X5_skip_I ht (upd I 3 0) A J it dyn 33) A J it dyn 34) else (L_X5_captionItem_I ht (L_X5_skip_I ht (L_X5_skip_I ht (upd I 3 0) A J it dyn 33) A J it dyn 34) A J it dyn)) else (L_X5_checkItem_I ht (L_X5_skip_I ht (upd I 3 0) A J it dyn 33) A J it dyn)) else (L_X5_fieldItem_I ht (upd I 3 0) A J it dyn)) 2) => ?_)
    · refine fs_iconst (v := 0) dX5_takeItem_71 rfl ?_
      refine fs_widen (k2 := 3281) (n2 := 22965) (by omega) (by omega) ?_
      have k9 := key_72
      try simp only [if_neg c_64] at k9 ⊢
      exact k9
    · refine fs_iconst (v := 1) dX5_takeItem_67 rfl ?_
      refine fs_goto 72 dX5_takeItem_68 (by decide) ?_
      refine fs_widen (k2 := 3281) (n2 := 22965) (by omega) (by omega) ?_
      have k9 := key_72
      try simp only [if_pos c_64] at k9 ⊢
      exact k9
  refine fs_if_eq 25 dX5_takeItem_14 (by decide) (fun c_14 : (L_X7_isLetter_r ht (upd I 3 0) A J it dyn (L_X5_next_r ht (upd I 3 0) A J it dyn)) = 0 => ?_) (fun c_14 : ¬ ((L_X7_isLetter_r ht (upd I 3 0) A J it dyn (L_X5_next_r ht (upd I 3 0) A J it dyn)) = 0) => ?_)
  · have hS := hR_14.1 c_14
    refine fs_aload_n dX5_takeItem_25 rfl rfl ?_
    refine fs_bipush (v := 33) dX5_takeItem_26 rfl ?_
    obtain ⟨ho1, hS⟩ := hS
    refine fs_callV1 dX5_takeItem_28 sv_X5_38 rfl ⟨_, rfl, rfl⟩ (c_X5_skip G l ht (upd I 3 0) A J it dyn 33 ho1) rfl rfl (Nat.le_of_ble_eq_true rfl) (by omega) (by omega) (by omega) ?_
    refine fs_if_eq 42 dX5_takeItem_31 (by decide) (fun c_31 : (L_X5_skip_r ht (upd I 3 0) A J it dyn 33) = 0 => ?_) (fun c_31 : ¬ ((L_X5_skip_r ht (upd I 3 0) A J it dyn 33) = 0) => ?_)
    · have hS := hS.1 c_31
      refine fs_aload_n dX5_takeItem_42 rfl rfl ?_
      refine fs_bipush (v := 34) dX5_takeItem_43 rfl ?_
      have ho1 := hS
      refine fs_callV1 dX5_takeItem_45 sv_X5_38 rfl ⟨_, rfl, rfl⟩ (c_X5_skip G l ht (L_X5_skip_I ht (upd I 3 0) A J it dyn 33) A J it dyn 34 ho1) rfl rfl (Nat.le_of_ble_eq_true rfl) (by omega) (by omega) (by omega) ?_
      refine fs_if_eq 56 dX5_takeItem_48 (by decide) (fun c_48 : (L_X5_skip_r ht (L_X5_skip_I ht (upd I 3 0) A J it dyn 33) A J it dyn 34) = 0 => ?_) (fun c_48 : ¬ ((L_X5_skip_r ht (L_X5_skip_I ht (upd I 3 0) A J it dyn 33) A J it dyn 34) = 0) => ?_)
      · refine fs_reL [1, 0] rfl ?_
        refine fs_widen (k2 := 3281) (n2 := 22965) (by omega) (by omega) ?_
        have k9 := key_56
        try simp only [if_pos c_14, if_pos c_31, if_pos c_48] at k9 ⊢
        exact k9
      · refine fs_aload_n dX5_takeItem_51 rfl rfl ?_
        refine fs_callV1 dX5_takeItem_52 sv_X5_44 rfl ⟨_, rfl, rfl⟩ (c_X5_captionItem G l ht (L_X5_skip_I ht (L_X5_skip_I ht (upd I 3 0) A J it dyn 33) A J it dyn 34) A J it dyn) rfl rfl (Nat.le_of_ble_eq_true rfl) (by omega) (by omega) (by omega) ?_
        refine fs_astore_n (L' := [(1, .inr (.inr (L_X5_captionItem_r ht (L_X5_skip_I ht (L_X5_skip_I ht (upd I 3 0) A J it dyn 33) A J it dyn 34) A J it dyn))), (0, .inr (.inr (some 1)))]) dX5_takeItem_55 rfl (by decide) rfl ?_
        refine fs_reL [1, 0] rfl ?_
        refine fs_widen (k2 := 3281) (n2 := 22965) (by omega) (by omega) ?_
        have k9 := key_56
        try simp only [if_pos c_14, if_pos c_31, if_neg c_48] at k9 ⊢
        exact k9
    · have hS := hS.2 c_31
      refine fs_aload_n dX5_takeItem_34 rfl rfl ?_
      have ho1 := hS
      refine fs_callV1 dX5_takeItem_35 sv_X5_41 rfl ⟨_, rfl, rfl⟩ (c_X5_checkItem G l ht (L_X5_skip_I ht (upd I 3 0) A J it dyn 33) A J it dyn ho1) rfl rfl (Nat.le_of_ble_eq_true rfl) (by omega) (by omega) (by omega) ?_
      refine fs_astore_n (L' := [(1, .inr (.inr (L_X5_checkItem_r ht (L_X5_skip_I ht (upd I 3 0) A J it dyn 33) A J it dyn))), (0, .inr (.inr (some 1)))]) dX5_takeItem_38 rfl (by decide) rfl ?_
      refine fs_goto 56 dX5_takeItem_39 (by decide) ?_
      refine fs_reL [1, 0] rfl ?_
      refine fs_widen (k2 := 3281) (n2 := 22965) (by omega) (by omega) ?_
      have k9 := key_56
      try simp only [if_pos c_14, if_neg c_31] at k9 ⊢
      exact k9
  · have hS := hR_14.2 c_14
    refine fs_aload_n dX5_takeItem_17 rfl rfl ?_
    have ho1 := hS
    refine fs_callV1 dX5_takeItem_18 sv_X5_34 rfl ⟨_, rfl, rfl⟩ (c_X5_fieldItem G l ht (upd I 3 0) A J it dyn ho1) rfl rfl (Nat.le_of_ble_eq_true rfl) (by omega) (by omega) (by omega) ?_
    refine fs_astore_n (L' := [(1, .inr (.inr (L_X5_fieldItem_r ht (upd I 3 0) A J it dyn))), (0, .inr (.inr (some 1)))]) dX5_takeItem_21 rfl (by decide) rfl ?_
    refine fs_goto 56 dX5_takeItem_22 (by decide) ?_
    refine fs_reL [1, 0] rfl ?_
    refine fs_widen (k2 := 3281) (n2 := 22965) (by omega) (by omega) ?_
    have k9 := key_56
    try simp only [if_neg c_14] at k9 ⊢
    exact k9
def L_X1_take_r (ht : Nat) (I : Nat → Int32) (A : Nat → Nat → Int32) (J : Nat → Nat → Int64) (it : Nat → Option Nat) (dyn : fsH) (x1 : Option Nat) : Int32 := (if (I 4) < 16 then (((I 4) + 1) - 1) else (-1))
def L_X1_take_I (ht : Nat) (I : Nat → Int32) (A : Nat → Nat → Int32) (J : Nat → Nat → Int64) (it : Nat → Option Nat) (dyn : fsH) (x1 : Option Nat) : Nat → Int32 := (if (I 4) < 16 then (upd I 4 ((I 4) + 1)) else I)
def L_X1_take_it (ht : Nat) (I : Nat → Int32) (A : Nat → Nat → Int32) (J : Nat → Nat → Int64) (it : Nat → Option Nat) (dyn : fsH) (x1 : Option Nat) : Nat → Option Nat := (if (I 4) < 16 then (va_up it (I 4).toNatClampNeg x1) else it)
def S_X1_take (ht : Nat) (I : Nat → Int32) (A : Nat → Nat → Int32) (J : Nat → Nat → Int64) (it : Nat → Option Nat) (dyn : fsH) (x1 : Option Nat) : Prop := (((I 4) < 16) → ((fs_okI dyn x1) ∧ (vp_in (I 4) 16)))
set_option maxRecDepth 100000 in
set_option maxHeartbeats 4000000 in
theorem c_X1_take (G : fsG) (l : Launch) (ht : Nat) (I : Nat → Int32) (A : Nat → Nat → Int32) (J : Nat → Nat → Int64) (it : Nat → Option Nat) (dyn : fsH) (x1 : Option Nat) (hS : S_X1_take ht I A J it dyn x1) : fsFn G l mX1_take 0 0 0 [.inr (.inr (some 3)), .inr (.inr x1)] (fs_mk ht I A J it dyn) (some (.inl (L_X1_take_r ht I A J it dyn x1))) (fs_mk ht (L_X1_take_I ht I A J it dyn x1) A J (L_X1_take_it ht I A J it dyn x1) dyn) := by
  refine fsMet_of (by decide) (Nat.le_of_ble_eq_true rfl) ?_
  generalize hQ : (fun (r1 : Option fsV) (h1 : fsH) => r1 = (some (.inl (L_X1_take_r ht I A J it dyn x1))) ∧ h1 = (fs_mk ht (L_X1_take_I ht I A J it dyn x1) A J (L_X1_take_it ht I A J it dyn x1) dyn)) = Q
  have hq : Q (some (.inl (L_X1_take_r ht I A J it dyn x1))) (fs_mk ht (L_X1_take_I ht I A J it dyn x1) A J (L_X1_take_it ht I A J it dyn x1) dyn) := by rw [← hQ]; exact ⟨rfl, rfl⟩
  clear hQ
  have hq : Q (some (.inl (if (I 4) < 16 then (((I 4) + 1) - 1) else (-1) : Int32))) (fs_mk ht (if (I 4) < 16 then (upd I 4 ((I 4) + 1)) else I) A J (if (I 4) < 16 then (va_up it (I 4).toNatClampNeg x1) else it) dyn) := hq
  have hS : (((I 4) < 16) → ((fs_okI dyn x1) ∧ (vp_in (I 4) 16))) := hS
  refine (show fsW G l mX1_take 0 0 0 0 0 Q 0 [(0, .inr (.inr (some 3))), (1, .inr (.inr x1))] [] (fs_mk ht I A J it dyn) from ?_)
  refine fs_aload_n dX1_take_0 rfl rfl ?_
  refine fs_getfield (v := .inl (I 4)) dX1_take_1 sf_X1_17 rfl rfl ?_
  refine fs_bipush (v := 16) dX1_take_4 rfl ?_
  refine fs_icmp_lt 11 dX1_take_6 (by decide) (fun c_6 : (I 4) < 16 => ?_) (fun c_6 : ¬ ((I 4) < 16) => ?_)
  · have hS := hS c_6
    refine fs_aload_n dX1_take_11 rfl rfl ?_
    refine fs_getfield (v := .inr (.inr (some 4))) dX1_take_12 sf_X1_11 rfl rfl ?_
    refine fs_aload_n dX1_take_15 rfl rfl ?_
    refine fs_getfield (v := .inl (I 4)) dX1_take_16 sf_X1_17 rfl rfl ?_
    refine fs_aload_n dX1_take_19 rfl rfl ?_
    obtain ⟨ho1, ho2⟩ := hS
    refine fss_4' dX1_take_20 ho1 ho2 ?_
    refine fs_aload_n dX1_take_21 rfl rfl ?_
    refine fs_dup dX1_take_22 rfl ?_
    refine fs_getfield (v := .inl (I 4)) dX1_take_23 sf_X1_17 rfl rfl ?_
    refine fs_iconst (v := 1) dX1_take_26 rfl ?_
    refine fs_iadd dX1_take_27 ?_
    refine fsp_4 dX1_take_28 sp_X1_17 ?_
    refine fs_aload_n dX1_take_31 rfl rfl ?_
    refine fs_getfield (v := .inl ((I 4) + 1)) dX1_take_32 sf_X1_17 rfl rfl ?_
    refine fs_iconst (v := 1) dX1_take_35 rfl ?_
    refine fs_isub dX1_take_36 ?_
    have k9 := hq
    try simp only [if_pos c_6] at k9 ⊢
    exact fs_iret dX1_take_37 rfl rfl k9
  · refine fs_iconst (v := (-1)) dX1_take_9 rfl ?_
    have k9 := hq
    try simp only [if_neg c_6] at k9 ⊢
    exact fs_iret dX1_take_10 rfl rfl k9
def L_X1_resolve_st_r (Er : Nat → (Nat → Int32) → (Nat → Nat → Int32) → (Nat → Nat → Int64) → (Nat → Option Nat) → fsH → Option Nat → Int32 → Int32) (Edyn : Nat → (Nat → Int32) → (Nat → Nat → Int32) → (Nat → Nat → Int64) → (Nat → Option Nat) → fsH → Option Nat → Int32 → fsH) (ht : Nat) (I : Nat → Int32) (A : Nat → Nat → Int32) (J : Nat → Nat → Int64) (it : Nat → Option Nat) (dyn : fsH) (x1 : Option Nat) (x2 : Int32) : Int32 := (if x1 = none then 1 else (if (fs_dI dyn x1 0) = 97 then (if (fs_dI (fs_dset dyn x1 6 (fsI (L_X1_fieldNamed_r ht I A J it dyn (fs_dI dyn x1 2)))) x1 6) = (-1) then 0 else (if (fs_dI (fs_dset dyn x1 6 (fsI (L_X1_fieldNamed_r ht I A J it dyn (fs_dI dyn x1 2)))) x1 0) = 35 then (L_X1_repeats_r ht I A J it (fs_dset dyn x1 6 (fsI (L_X1_fieldNamed_r ht I A J it dyn (fs_dI dyn x1 2)))) (fs_dI (fs_dset dyn x1 6 (fsI (L_X1_fieldNamed_r ht I A J it dyn (fs_dI dyn x1 2)))) x1 6)) else (if x2 = 0 then (if (L_X1_repeats_r ht I A J it (fs_dset dyn x1 6 (fsI (L_X1_fieldNamed_r ht I A J it dyn (fs_dI dyn x1 2)))) (fs_dI (fs_dset dyn x1 6 (fsI (L_X1_fieldNamed_r ht I A J it dyn (fs_dI dyn x1 2)))) x1 6)) = 0 then 1 else 0 : Int32) else 1 : Int32) : Int32)) else (if (fs_dI dyn x1 0) = 35 then (if (fs_dI (fs_dset dyn x1 6 (fsI (L_X1_fieldNamed_r ht I A J it dyn (fs_dI dyn x1 2)))) x1 6) = (-1) then 0 else (if (fs_dI (fs_dset dyn x1 6 (fsI (L_X1_fieldNamed_r ht I A J it dyn (fs_dI dyn x1 2)))) x1 0) = 35 then (L_X1_repeats_r ht I A J it (fs_dset dyn x1 6 (fsI (L_X1_fieldNamed_r ht I A J it dyn (fs_dI dyn x1 2)))) (fs_dI (fs_dset dyn x1 6 (fsI (L_X1_fieldNamed_r ht I A J it dyn (fs_dI dyn x1 2)))) x1 6)) else (if x2 = 0 then (if (L_X1_repeats_r ht I A J it (fs_dset dyn x1 6 (fsI (L_X1_fieldNamed_r ht I A J it dyn (fs_dI dyn x1 2)))) (fs_dI (fs_dset dyn x1 6 (fsI (L_X1_fieldNamed_r ht I A J it dyn (fs_dI dyn x1 2)))) x1 6)) = 0 then 1 else 0 : Int32) else 1 : Int32) : Int32)) else (if (Er ht I A J it dyn (fs_dR dyn x1 3) x2) = 0 then 0 else (if (Er ht I A J it (Edyn ht I A J it dyn (fs_dR dyn x1 3) x2) (fs_dR (Edyn ht I A J it dyn (fs_dR dyn x1 3) x2) x1 4) x2) = 0 then 0 else (if (Er ht I A J it (Edyn ht I A J it (Edyn ht I A J it dyn (fs_dR dyn x1 3) x2) (fs_dR (Edyn ht I A J it dyn (fs_dR dyn x1 3) x2) x1 4) x2) (fs_dR (Edyn ht I A J it (Edyn ht I A J it dyn (fs_dR dyn x1 3) x2) (fs_dR (Edyn ht I A J it dyn (fs_dR dyn x1 3) x2) x1 4) x2) x1 5) x2) = 0 then 0 else 1 : Int32) : Int32) : Int32))))
def L_X1_resolve_st_dyn (Er : Nat → (Nat → Int32) → (Nat → Nat → Int32) → (Nat → Nat → Int64) → (Nat → Option Nat) → fsH → Option Nat → Int32 → Int32) (Edyn : Nat → (Nat → Int32) → (Nat → Nat → Int32) → (Nat → Nat → Int64) → (Nat → Option Nat) → fsH → Option Nat → Int32 → fsH) (ht : Nat) (I : Nat → Int32) (A : Nat → Nat → Int32) (J : Nat → Nat → Int64) (it : Nat → Option Nat) (dyn : fsH) (x1 : Option Nat) (x2 : Int32) : fsH := (if x1 = none then dyn else (if (fs_dI dyn x1 0) = 97 then (fs_dset dyn x1 6 (fsI (L_X1_fieldNamed_r ht I A J it dyn (fs_dI dyn x1 2)))) else (if (fs_dI dyn x1 0) = 35 then (fs_dset dyn x1 6 (fsI (L_X1_fieldNamed_r ht I A J it dyn (fs_dI dyn x1 2)))) else (if (Er ht I A J it dyn (fs_dR dyn x1 3) x2) = 0 then (Edyn ht I A J it dyn (fs_dR dyn x1 3) x2) else (if (Er ht I A J it (Edyn ht I A J it dyn (fs_dR dyn x1 3) x2) (fs_dR (Edyn ht I A J it dyn (fs_dR dyn x1 3) x2) x1 4) x2) = 0 then (Edyn ht I A J it (Edyn ht I A J it dyn (fs_dR dyn x1 3) x2) (fs_dR (Edyn ht I A J it dyn (fs_dR dyn x1 3) x2) x1 4) x2) else (Edyn ht I A J it (Edyn ht I A J it (Edyn ht I A J it dyn (fs_dR dyn x1 3) x2) (fs_dR (Edyn ht I A J it dyn (fs_dR dyn x1 3) x2) x1 4) x2) (fs_dR (Edyn ht I A J it (Edyn ht I A J it dyn (fs_dR dyn x1 3) x2) (fs_dR (Edyn ht I A J it dyn (fs_dR dyn x1 3) x2) x1 4) x2) x1 5) x2))))))
def S_X1_resolve_st (Er : Nat → (Nat → Int32) → (Nat → Nat → Int32) → (Nat → Nat → Int64) → (Nat → Option Nat) → fsH → Option Nat → Int32 → Int32) (Edyn : Nat → (Nat → Int32) → (Nat → Nat → Int32) → (Nat → Nat → Int64) → (Nat → Option Nat) → fsH → Option Nat → Int32 → fsH) (ES : Nat → (Nat → Int32) → (Nat → Nat → Int32) → (Nat → Nat → Int64) → (Nat → Option Nat) → fsH → Option Nat → Int32 → Prop) (ht : Nat) (I : Nat → Int32) (A : Nat → Nat → Int32) (J : Nat → Nat → Int64) (it : Nat → Option Nat) (dyn : fsH) (x1 : Option Nat) (x2 : Int32) : Prop := (¬ (x1 = none) → ((fs_okP dyn x1) ∧ ((((fs_dI dyn x1 0) = 97) → ((fs_okP dyn x1) ∧ ((S_X1_fieldNamed ht I A J it dyn (fs_dI dyn x1 2)) ∧ ((fs_okP dyn x1) ∧ ((fs_okP (fs_dset dyn x1 6 (fsI (L_X1_fieldNamed_r ht I A J it dyn (fs_dI dyn x1 2)))) x1) ∧ (¬ ((fs_dI (fs_dset dyn x1 6 (fsI (L_X1_fieldNamed_r ht I A J it dyn (fs_dI dyn x1 2)))) x1 6) = (-1)) → ((fs_okP (fs_dset dyn x1 6 (fsI (L_X1_fieldNamed_r ht I A J it dyn (fs_dI dyn x1 2)))) x1) ∧ ((((fs_dI (fs_dset dyn x1 6 (fsI (L_X1_fieldNamed_r ht I A J it dyn (fs_dI dyn x1 2)))) x1 0) = 35) → ((fs_okP (fs_dset dyn x1 6 (fsI (L_X1_fieldNamed_r ht I A J it dyn (fs_dI dyn x1 2)))) x1) ∧ (S_X1_repeats ht I A J it (fs_dset dyn x1 6 (fsI (L_X1_fieldNamed_r ht I A J it dyn (fs_dI dyn x1 2)))) (fs_dI (fs_dset dyn x1 6 (fsI (L_X1_fieldNamed_r ht I A J it dyn (fs_dI dyn x1 2)))) x1 6)))) ∧ (¬ ((fs_dI (fs_dset dyn x1 6 (fsI (L_X1_fieldNamed_r ht I A J it dyn (fs_dI dyn x1 2)))) x1 0) = 35) → ((x2 = 0) → ((fs_okP (fs_dset dyn x1 6 (fsI (L_X1_fieldNamed_r ht I A J it dyn (fs_dI dyn x1 2)))) x1) ∧ (S_X1_repeats ht I A J it (fs_dset dyn x1 6 (fsI (L_X1_fieldNamed_r ht I A J it dyn (fs_dI dyn x1 2)))) (fs_dI (fs_dset dyn x1 6 (fsI (L_X1_fieldNamed_r ht I A J it dyn (fs_dI dyn x1 2)))) x1 6))))))))))))) ∧ (¬ ((fs_dI dyn x1 0) = 97) → ((fs_okP dyn x1) ∧ ((((fs_dI dyn x1 0) = 35) → ((fs_okP dyn x1) ∧ ((S_X1_fieldNamed ht I A J it dyn (fs_dI dyn x1 2)) ∧ ((fs_okP dyn x1) ∧ ((fs_okP (fs_dset dyn x1 6 (fsI (L_X1_fieldNamed_r ht I A J it dyn (fs_dI dyn x1 2)))) x1) ∧ (¬ ((fs_dI (fs_dset dyn x1 6 (fsI (L_X1_fieldNamed_r ht I A J it dyn (fs_dI dyn x1 2)))) x1 6) = (-1)) → ((fs_okP (fs_dset dyn x1 6 (fsI (L_X1_fieldNamed_r ht I A J it dyn (fs_dI dyn x1 2)))) x1) ∧ ((((fs_dI (fs_dset dyn x1 6 (fsI (L_X1_fieldNamed_r ht I A J it dyn (fs_dI dyn x1 2)))) x1 0) = 35) → ((fs_okP (fs_dset dyn x1 6 (fsI (L_X1_fieldNamed_r ht I A J it dyn (fs_dI dyn x1 2)))) x1) ∧ (S_X1_repeats ht I A J it (fs_dset dyn x1 6 (fsI (L_X1_fieldNamed_r ht I A J it dyn (fs_dI dyn x1 2)))) (fs_dI (fs_dset dyn x1 6 (fsI (L_X1_fieldNamed_r ht I A J it dyn (fs_dI dyn x1 2)))) x1 6)))) ∧ (¬ ((fs_dI (fs_dset dyn x1 6 (fsI (L_X1_fieldNamed_r ht I A J it dyn (fs_dI dyn x1 2)))) x1 0) = 35) → ((x2 = 0) → ((fs_okP (fs_dset dyn x1 6 (fsI (L_X1_fieldNamed_r ht I A J it dyn (fs_dI dyn x1 2)))) x1) ∧ (S_X1_repeats ht I A J it (fs_dset dyn x1 6 (fsI (L_X1_fieldNamed_r ht I A J it dyn (fs_dI dyn x1 2)))) (fs_dI (fs_dset dyn x1 6 (fsI (L_X1_fieldNamed_r ht I A J it dyn (fs_dI dyn x1 2)))) x1 6))))))))))))) ∧ (¬ ((fs_dI dyn x1 0) = 35) → ((fs_okP dyn x1) ∧ ((ES ht I A J it dyn (fs_dR dyn x1 3) x2) ∧ (¬ ((Er ht I A J it dyn (fs_dR dyn x1 3) x2) = 0) → ((fs_okP (Edyn ht I A J it dyn (fs_dR dyn x1 3) x2) x1) ∧ ((ES ht I A J it (Edyn ht I A J it dyn (fs_dR dyn x1 3) x2) (fs_dR (Edyn ht I A J it dyn (fs_dR dyn x1 3) x2) x1 4) x2) ∧ (¬ ((Er ht I A J it (Edyn ht I A J it dyn (fs_dR dyn x1 3) x2) (fs_dR (Edyn ht I A J it dyn (fs_dR dyn x1 3) x2) x1 4) x2) = 0) → ((fs_okP (Edyn ht I A J it (Edyn ht I A J it dyn (fs_dR dyn x1 3) x2) (fs_dR (Edyn ht I A J it dyn (fs_dR dyn x1 3) x2) x1 4) x2) x1) ∧ (ES ht I A J it (Edyn ht I A J it (Edyn ht I A J it dyn (fs_dR dyn x1 3) x2) (fs_dR (Edyn ht I A J it dyn (fs_dR dyn x1 3) x2) x1 4) x2) (fs_dR (Edyn ht I A J it (Edyn ht I A J it dyn (fs_dR dyn x1 3) x2) (fs_dR (Edyn ht I A J it dyn (fs_dR dyn x1 3) x2) x1 4) x2) x1 5) x2)))))))))))))))
set_option maxRecDepth 100000 in
set_option maxHeartbeats 4000000 in
theorem c_X1_resolve_st (G : fsG) (l : Launch) (Er : Nat → (Nat → Int32) → (Nat → Nat → Int32) → (Nat → Nat → Int64) → (Nat → Option Nat) → fsH → Option Nat → Int32 → Int32) (Edyn : Nat → (Nat → Int32) → (Nat → Nat → Int32) → (Nat → Nat → Int64) → (Nat → Option Nat) → fsH → Option Nat → Int32 → fsH) (ES : Nat → (Nat → Int32) → (Nat → Nat → Int32) → (Nat → Nat → Int64) → (Nat → Option Nat) → fsH → Option Nat → Int32 → Prop) (dE mE : Nat) (hE : ∀ (ht : Nat) (I : Nat → Int32) (A : Nat → Nat → Int32) (J : Nat → Nat → Int64) (it : Nat → Option Nat) (dyn : fsH) (y1 : Option Nat) (y2 : Int32), ES ht I A J it dyn y1 y2 → fsFn G l mX1_resolve dE 0 0 [.inr (.inr (some 3)), .inr (.inr y1), .inl y2] (fs_mk ht I A J it dyn) (some (.inl (Er ht I A J it dyn y1 y2))) (fs_mk ht I A J it (Edyn ht I A J it dyn y1 y2))) (ht : Nat) (I : Nat → Int32) (A : Nat → Nat → Int32) (J : Nat → Nat → Int64) (it : Nat → Option Nat) (dyn : fsH) (x1 : Option Nat) (x2 : Int32) (hS : S_X1_resolve_st Er Edyn ES ht I A J it dyn x1 x2) : fsFn G l mX1_resolve (dE + 3) 0 0 [.inr (.inr (some 3)), .inr (.inr x1), .inl x2] (fs_mk ht I A J it dyn) (some (.inl (L_X1_resolve_st_r Er Edyn ht I A J it dyn x1 x2))) (fs_mk ht I A J it (L_X1_resolve_st_dyn Er Edyn ht I A J it dyn x1 x2)) := by
  refine fsMet_of (by decide) (Nat.le_of_ble_eq_true rfl) ?_
  generalize hQ : (fun (r1 : Option fsV) (h1 : fsH) => r1 = (some (.inl (L_X1_resolve_st_r Er Edyn ht I A J it dyn x1 x2))) ∧ h1 = (fs_mk ht I A J it (L_X1_resolve_st_dyn Er Edyn ht I A J it dyn x1 x2))) = Q
  have hq : Q (some (.inl (L_X1_resolve_st_r Er Edyn ht I A J it dyn x1 x2))) (fs_mk ht I A J it (L_X1_resolve_st_dyn Er Edyn ht I A J it dyn x1 x2)) := by rw [← hQ]; exact ⟨rfl, rfl⟩
  clear hQ
  have hq : Q (some (.inl (if x1 = none then 1 else (if (fs_dI dyn x1 0) = 97 then (if (fs_dI (fs_dset dyn x1 6 (fsI (L_X1_fieldNamed_r ht I A J it dyn (fs_dI dyn x1 2)))) x1 6) = (-1) then 0 else (if (fs_dI (fs_dset dyn x1 6 (fsI (L_X1_fieldNamed_r ht I A J it dyn (fs_dI dyn x1 2)))) x1 0) = 35 then (L_X1_repeats_r ht I A J it (fs_dset dyn x1 6 (fsI (L_X1_fieldNamed_r ht I A J it dyn (fs_dI dyn x1 2)))) (fs_dI (fs_dset dyn x1 6 (fsI (L_X1_fieldNamed_r ht I A J it dyn (fs_dI dyn x1 2)))) x1 6)) else (if x2 = 0 then (if (L_X1_repeats_r ht I A J it (fs_dset dyn x1 6 (fsI (L_X1_fieldNamed_r ht I A J it dyn (fs_dI dyn x1 2)))) (fs_dI (fs_dset dyn x1 6 (fsI (L_X1_fieldNamed_r ht I A J it dyn (fs_dI dyn x1 2)))) x1 6)) = 0 then 1 else 0 : Int32) else 1 : Int32) : Int32) : Int32) else (if (fs_dI dyn x1 0) = 35 then (if (fs_dI (fs_dset dyn x1 6 (fsI (L_X1_fieldNamed_r ht I A J it dyn (fs_dI dyn x1 2)))) x1 6) = (-1) then 0 else (if (fs_dI (fs_dset dyn x1 6 (fsI (L_X1_fieldNamed_r ht I A J it dyn (fs_dI dyn x1 2)))) x1 0) = 35 then (L_X1_repeats_r ht I A J it (fs_dset dyn x1 6 (fsI (L_X1_fieldNamed_r ht I A J it dyn (fs_dI dyn x1 2)))) (fs_dI (fs_dset dyn x1 6 (fsI (L_X1_fieldNamed_r ht I A J it dyn (fs_dI dyn x1 2)))) x1 6)) else (if x2 = 0 then (if (L_X1_repeats_r ht I A J it (fs_dset dyn x1 6 (fsI (L_X1_fieldNamed_r ht I A J it dyn (fs_dI dyn x1 2)))) (fs_dI (fs_dset dyn x1 6 (fsI (L_X1_fieldNamed_r ht I A J it dyn (fs_dI dyn x1 2)))) x1 6)) = 0 then 1 else 0 : Int32) else 1 : Int32) : Int32) : Int32) else (if (Er ht I A J it dyn (fs_dR dyn x1 3) x2) = 0 then 0 else (if (Er ht I A J it (Edyn ht I A J it dyn (fs_dR dyn x1 3) x2) (fs_dR (Edyn ht I A J it dyn (fs_dR dyn x1 3) x2) x1 4) x2) = 0 then 0 else (if (Er ht I A J it (Edyn ht I A J it (Edyn ht I A J it dyn (fs_dR dyn x1 3) x2) (fs_dR (Edyn ht I A J it dyn (fs_dR dyn x1 3) x2) x1 4) x2) (fs_dR (Edyn ht I A J it (Edyn ht I A J it dyn (fs_dR dyn x1 3) x2) (fs_dR (Edyn ht I A J it dyn (fs_dR dyn x1 3) x2) x1 4) x2) x1 5) x2) = 0 then 0 else 1 : Int32) : Int32) : Int32) : Int32) : Int32) : Int32))) (fs_mk ht I A J it (if x1 = none then dyn else (if (fs_dI dyn x1 0) = 97 then (fs_dset dyn x1 6 (fsI (L_X1_fieldNamed_r ht I A J it dyn (fs_dI dyn x1 2)))) else (if (fs_dI dyn x1 0) = 35 then (fs_dset dyn x1 6 (fsI (L_X1_fieldNamed_r ht I A J it dyn (fs_dI dyn x1 2)))) else (if (Er ht I A J it dyn (fs_dR dyn x1 3) x2) = 0 then (Edyn ht I A J it dyn (fs_dR dyn x1 3) x2) else (if (Er ht I A J it (Edyn ht I A J it dyn (fs_dR dyn x1 3) x2) (fs_dR (Edyn ht I A J it dyn (fs_dR dyn x1 3) x2) x1 4) x2) = 0 then (Edyn ht I A J it (Edyn ht I A J it dyn (fs_dR dyn x1 3) x2) (fs_dR (Edyn ht I A J it dyn (fs_dR dyn x1 3) x2) x1 4) x2) else (Edyn ht I A J it (Edyn ht I A J it (Edyn ht I A J it dyn (fs_dR dyn x1 3) x2) (fs_dR (Edyn ht I A J it dyn (fs_dR dyn x1 3) x2) x1 4) x2) (fs_dR (Edyn ht I A J it (Edyn ht I A J it dyn (fs_dR dyn x1 3) x2) (fs_dR (Edyn ht I A J it dyn (fs_dR dyn x1 3) x2) x1 4) x2) x1 5) x2))))))) := hq
  have hS : (¬ (x1 = none) → ((fs_okP dyn x1) ∧ ((((fs_dI dyn x1 0) = 97) → ((fs_okP dyn x1) ∧ ((S_X1_fieldNamed ht I A J it dyn (fs_dI dyn x1 2)) ∧ ((fs_okP dyn x1) ∧ ((fs_okP (fs_dset dyn x1 6 (fsI (L_X1_fieldNamed_r ht I A J it dyn (fs_dI dyn x1 2)))) x1) ∧ (¬ ((fs_dI (fs_dset dyn x1 6 (fsI (L_X1_fieldNamed_r ht I A J it dyn (fs_dI dyn x1 2)))) x1 6) = (-1)) → ((fs_okP (fs_dset dyn x1 6 (fsI (L_X1_fieldNamed_r ht I A J it dyn (fs_dI dyn x1 2)))) x1) ∧ ((((fs_dI (fs_dset dyn x1 6 (fsI (L_X1_fieldNamed_r ht I A J it dyn (fs_dI dyn x1 2)))) x1 0) = 35) → ((fs_okP (fs_dset dyn x1 6 (fsI (L_X1_fieldNamed_r ht I A J it dyn (fs_dI dyn x1 2)))) x1) ∧ (S_X1_repeats ht I A J it (fs_dset dyn x1 6 (fsI (L_X1_fieldNamed_r ht I A J it dyn (fs_dI dyn x1 2)))) (fs_dI (fs_dset dyn x1 6 (fsI (L_X1_fieldNamed_r ht I A J it dyn (fs_dI dyn x1 2)))) x1 6)))) ∧ (¬ ((fs_dI (fs_dset dyn x1 6 (fsI (L_X1_fieldNamed_r ht I A J it dyn (fs_dI dyn x1 2)))) x1 0) = 35) → ((x2 = 0) → ((fs_okP (fs_dset dyn x1 6 (fsI (L_X1_fieldNamed_r ht I A J it dyn (fs_dI dyn x1 2)))) x1) ∧ (S_X1_repeats ht I A J it (fs_dset dyn x1 6 (fsI (L_X1_fieldNamed_r ht I A J it dyn (fs_dI dyn x1 2)))) (fs_dI (fs_dset dyn x1 6 (fsI (L_X1_fieldNamed_r ht I A J it dyn (fs_dI dyn x1 2)))) x1 6))))))))))))) ∧ (¬ ((fs_dI dyn x1 0) = 97) → ((fs_okP dyn x1) ∧ ((((fs_dI dyn x1 0) = 35) → ((fs_okP dyn x1) ∧ ((S_X1_fieldNamed ht I A J it dyn (fs_dI dyn x1 2)) ∧ ((fs_okP dyn x1) ∧ ((fs_okP (fs_dset dyn x1 6 (fsI (L_X1_fieldNamed_r ht I A J it dyn (fs_dI dyn x1 2)))) x1) ∧ (¬ ((fs_dI (fs_dset dyn x1 6 (fsI (L_X1_fieldNamed_r ht I A J it dyn (fs_dI dyn x1 2)))) x1 6) = (-1)) → ((fs_okP (fs_dset dyn x1 6 (fsI (L_X1_fieldNamed_r ht I A J it dyn (fs_dI dyn x1 2)))) x1) ∧ ((((fs_dI (fs_dset dyn x1 6 (fsI (L_X1_fieldNamed_r ht I A J it dyn (fs_dI dyn x1 2)))) x1 0) = 35) → ((fs_okP (fs_dset dyn x1 6 (fsI (L_X1_fieldNamed_r ht I A J it dyn (fs_dI dyn x1 2)))) x1) ∧ (S_X1_repeats ht I A J it (fs_dset dyn x1 6 (fsI (L_X1_fieldNamed_r ht I A J it dyn (fs_dI dyn x1 2)))) (fs_dI (fs_dset dyn x1 6 (fsI (L_X1_fieldNamed_r ht I A J it dyn (fs_dI dyn x1 2)))) x1 6)))) ∧ (¬ ((fs_dI (fs_dset dyn x1 6 (fsI (L_X1_fieldNamed_r ht I A J it dyn (fs_dI dyn x1 2)))) x1 0) = 35) → ((x2 = 0) → ((fs_okP (fs_dset dyn x1 6 (fsI (L_X1_fieldNamed_r ht I A J it dyn (fs_dI dyn x1 2)))) x1) ∧ (S_X1_repeats ht I A J it (fs_dset dyn x1 6 (fsI (L_X1_fieldNamed_r ht I A J it dyn (fs_dI dyn x1 2)))) (fs_dI (fs_dset dyn x1 6 (fsI (L_X1_fieldNamed_r ht I A J it dyn (fs_dI dyn x1 2)))) x1 6))))))))))))) ∧ (¬ ((fs_dI dyn x1 0) = 35) → ((fs_okP dyn x1) ∧ ((ES ht I A J it dyn (fs_dR dyn x1 3) x2) ∧ (¬ ((Er ht I A J it dyn (fs_dR dyn x1 3) x2) = 0) → ((fs_okP (Edyn ht I A J it dyn (fs_dR dyn x1 3) x2) x1) ∧ ((ES ht I A J it (Edyn ht I A J it dyn (fs_dR dyn x1 3) x2) (fs_dR (Edyn ht I A J it dyn (fs_dR dyn x1 3) x2) x1 4) x2) ∧ (¬ ((Er ht I A J it (Edyn ht I A J it dyn (fs_dR dyn x1 3) x2) (fs_dR (Edyn ht I A J it dyn (fs_dR dyn x1 3) x2) x1 4) x2) = 0) → ((fs_okP (Edyn ht I A J it (Edyn ht I A J it dyn (fs_dR dyn x1 3) x2) (fs_dR (Edyn ht I A J it dyn (fs_dR dyn x1 3) x2) x1 4) x2) x1) ∧ (ES ht I A J it (Edyn ht I A J it (Edyn ht I A J it dyn (fs_dR dyn x1 3) x2) (fs_dR (Edyn ht I A J it dyn (fs_dR dyn x1 3) x2) x1 4) x2) (fs_dR (Edyn ht I A J it (Edyn ht I A J it dyn (fs_dR dyn x1 3) x2) (fs_dR (Edyn ht I A J it dyn (fs_dR dyn x1 3) x2) x1 4) x2) x1 5) x2))))))))))))))) := hS
  refine (show fsW G l mX1_resolve (dE + 3) 0 0 0 0 Q 0 [(0, .inr (.inr (some 3))), (1, .inr (.inr x1)), (2, .inl x2)] [] (fs_mk ht I A J it dyn) from ?_)
  refine fs_aload_n dX1_resolve_0 rfl rfl ?_
  refine fs_ifnonnull' 6 dX1_resolve_1 (by decide) (fun c_1 : ¬ x1 = none => ?_) (fun c_1 : x1 = none => ?_)
  · have hS := hS c_1
    refine fs_aload_n dX1_resolve_6 rfl rfl ?_
    obtain ⟨ho1, hS⟩ := hS
    refine fsg_P0 dX1_resolve_7 sf_X1_58 ho1 ?_
    refine fs_bipush (v := 97) dX1_resolve_10 rfl ?_
    refine fs_icmp_eq 24 dX1_resolve_12 (by decide) (fun c_12 : (fs_dI dyn x1 0) = 97 => ?_) (fun c_12 : ¬ ((fs_dI dyn x1 0) = 97) => ?_)
    · have hS := hS.1 c_12
      refine fs_aload_n dX1_resolve_24 rfl rfl ?_
      refine fs_aload_n dX1_resolve_25 rfl rfl ?_
      refine fs_aload_n dX1_resolve_26 rfl rfl ?_
      obtain ⟨ho1, hS⟩ := hS
      refine fsg_P2 dX1_resolve_27 sf_X1_61 ho1 ?_
      obtain ⟨ho1, hS⟩ := hS
      refine fs_callV1 dX1_resolve_30 sv_X1_31 rfl ⟨_, rfl, rfl⟩ (c_X1_fieldNamed G l ht I A J it dyn (fs_dI dyn x1 2) ho1) rfl rfl (Nat.le_of_ble_eq_true rfl) (by omega) (by omega) (by omega) ?_
      obtain ⟨ho1, hS⟩ := hS
      refine fsd_6 dX1_resolve_33 sp_X1_62 ho1 ?_
      refine fs_aload_n dX1_resolve_36 rfl rfl ?_
      obtain ⟨ho1, hS⟩ := hS
      refine fsg_P6 dX1_resolve_37 sf_X1_62 ho1 ?_
      refine fs_iconst (v := (-1)) dX1_resolve_40 rfl ?_
      refine fs_icmp_ne 46 dX1_resolve_41 (by decide) (fun c_41 : ¬ (fs_dI (fs_dset dyn x1 6 (fsI (L_X1_fieldNamed_r ht I A J it dyn (fs_dI dyn x1 2)))) x1 6) = (-1) => ?_) (fun c_41 : (fs_dI (fs_dset dyn x1 6 (fsI (L_X1_fieldNamed_r ht I A J it dyn (fs_dI dyn x1 2)))) x1 6) = (-1) => ?_)
      · have hS := hS c_41
        refine fs_aload_n dX1_resolve_46 rfl rfl ?_
        obtain ⟨ho1, hS⟩ := hS
        refine fsg_P0 dX1_resolve_47 sf_X1_58 ho1 ?_
        refine fs_bipush (v := 35) dX1_resolve_50 rfl ?_
        have hR_52 := hS
        have key_86 : fsW G l mX1_resolve (dE + 3) 0 0 0 0 Q 86 [(0, .inr (.inr (some 3))), (1, .inr (.inr x1)), (2, .inl x2)] [.inl (if (fs_dI (fs_dset dyn x1 6 (fsI (L_X1_fieldNamed_r ht I A J it dyn (fs_dI dyn x1 2)))) x1 0) = 35 then (L_X1_repeats_r ht I A J it (fs_dset dyn x1 6 (fsI (L_X1_fieldNamed_r ht I A J it dyn (fs_dI dyn x1 2)))) (fs_dI (fs_dset dyn x1 6 (fsI (L_X1_fieldNamed_r ht I A J it dyn (fs_dI dyn x1 2)))) x1 6)) else (if x2 = 0 then (if (L_X1_repeats_r ht I A J it (fs_dset dyn x1 6 (fsI (L_X1_fieldNamed_r ht I A J it dyn (fs_dI dyn x1 2)))) (fs_dI (fs_dset dyn x1 6 (fsI (L_X1_fieldNamed_r ht I A J it dyn (fs_dI dyn x1 2)))) x1 6)) = 0 then 1 else 0 : Int32) else 1 : Int32) : Int32)] (fs_mk ht I A J it (fs_dset dyn x1 6 (fsI (L_X1_fieldNamed_r ht I A J it dyn (fs_dI dyn x1 2))))) := by
          have k9 := hq
          try simp only [if_neg c_1, if_pos c_12, if_neg c_41] at k9 ⊢
          exact fs_iret dX1_resolve_86 rfl (by (repeat' split) <;> first | rfl | exact nb_X1_repeats _ _ _ _ _ _ _) k9
        refine fs_icmp_ne 66 dX1_resolve_52 (by decide) (fun c_52 : ¬ (fs_dI (fs_dset dyn x1 6 (fsI (L_X1_fieldNamed_r ht I A J it dyn (fs_dI dyn x1 2)))) x1 0) = 35 => ?_) (fun c_52 : (fs_dI (fs_dset dyn x1 6 (fsI (L_X1_fieldNamed_r ht I A J it dyn (fs_dI dyn x1 2)))) x1 0) = 35 => ?_)
        · have hS := hR_52.2 c_52
          refine fs_iload_n dX1_resolve_66 rfl rfl ?_
          refine fs_if_ne 81 dX1_resolve_67 (by decide) (fun c_67 : ¬ x2 = 0 => ?_) (fun c_67 : x2 = 0 => ?_)
          · refine fs_iconst (v := 1) dX1_resolve_81 rfl ?_
            refine fs_goto 86 dX1_resolve_82 (by decide) ?_
            have k9 := key_86
            try simp only [if_neg c_1, if_pos c_12, if_neg c_41, if_neg c_52, if_neg c_67] at k9 ⊢
            exact k9
          · have hS := hS c_67
            refine fs_aload_n dX1_resolve_70 rfl rfl ?_
            refine fs_aload_n dX1_resolve_71 rfl rfl ?_
            obtain ⟨ho1, hS⟩ := hS
            refine fsg_P6 dX1_resolve_72 sf_X1_62 ho1 ?_
            have ho1 := hS
            refine fs_callV1 dX1_resolve_75 sv_X1_65 rfl ⟨_, rfl, rfl⟩ (c_X1_repeats G l ht I A J it (fs_dset dyn x1 6 (fsI (L_X1_fieldNamed_r ht I A J it dyn (fs_dI dyn x1 2)))) (fs_dI (fs_dset dyn x1 6 (fsI (L_X1_fieldNamed_r ht I A J it dyn (fs_dI dyn x1 2)))) x1 6) ho1) rfl rfl (Nat.le_of_ble_eq_true rfl) (by omega) (by omega) (by omega) ?_
            refine fs_if_ne 85 dX1_resolve_78 (by decide) (fun c_78 : ¬ (L_X1_repeats_r ht I A J it (fs_dset dyn x1 6 (fsI (L_X1_fieldNamed_r ht I A J it dyn (fs_dI dyn x1 2)))) (fs_dI (fs_dset dyn x1 6 (fsI (L_X1_fieldNamed_r ht I A J it dyn (fs_dI dyn x1 2)))) x1 6)) = 0 => ?_) (fun c_78 : (L_X1_repeats_r ht I A J it (fs_dset dyn x1 6 (fsI (L_X1_fieldNamed_r ht I A J it dyn (fs_dI dyn x1 2)))) (fs_dI (fs_dset dyn x1 6 (fsI (L_X1_fieldNamed_r ht I A J it dyn (fs_dI dyn x1 2)))) x1 6)) = 0 => ?_)
            · refine fs_iconst (v := 0) dX1_resolve_85 rfl ?_
              have k9 := key_86
              try simp only [if_neg c_1, if_pos c_12, if_neg c_41, if_neg c_52, if_pos c_67, if_neg c_78] at k9 ⊢
              exact k9
            · refine fs_iconst (v := 1) dX1_resolve_81 rfl ?_
              refine fs_goto 86 dX1_resolve_82 (by decide) ?_
              have k9 := key_86
              try simp only [if_neg c_1, if_pos c_12, if_neg c_41, if_neg c_52, if_pos c_67, if_pos c_78] at k9 ⊢
              exact k9
        · have hS := hR_52.1 c_52
          refine fs_aload_n dX1_resolve_55 rfl rfl ?_
          refine fs_aload_n dX1_resolve_56 rfl rfl ?_
          obtain ⟨ho1, hS⟩ := hS
          refine fsg_P6 dX1_resolve_57 sf_X1_62 ho1 ?_
          have ho1 := hS
          refine fs_callV1 dX1_resolve_60 sv_X1_65 rfl ⟨_, rfl, rfl⟩ (c_X1_repeats G l ht I A J it (fs_dset dyn x1 6 (fsI (L_X1_fieldNamed_r ht I A J it dyn (fs_dI dyn x1 2)))) (fs_dI (fs_dset dyn x1 6 (fsI (L_X1_fieldNamed_r ht I A J it dyn (fs_dI dyn x1 2)))) x1 6) ho1) rfl rfl (Nat.le_of_ble_eq_true rfl) (by omega) (by omega) (by omega) ?_
          refine fs_goto 86 dX1_resolve_63 (by decide) ?_
          have k9 := key_86
          try simp only [if_neg c_1, if_pos c_12, if_neg c_41, if_pos c_52] at k9 ⊢
          exact k9
      · refine fs_iconst (v := 0) dX1_resolve_44 rfl ?_
        have k9 := hq
        try simp only [if_neg c_1, if_pos c_12, if_pos c_41] at k9 ⊢
        exact fs_iret dX1_resolve_45 rfl rfl k9
    · have hS := hS.2 c_12
      refine fs_aload_n dX1_resolve_15 rfl rfl ?_
      obtain ⟨ho1, hS⟩ := hS
      refine fsg_P0 dX1_resolve_16 sf_X1_58 ho1 ?_
      refine fs_bipush (v := 35) dX1_resolve_19 rfl ?_
      refine fs_icmp_ne 87 dX1_resolve_21 (by decide) (fun c_21 : ¬ (fs_dI dyn x1 0) = 35 => ?_) (fun c_21 : (fs_dI dyn x1 0) = 35 => ?_)
      · have hS := hS.2 c_21
        refine fs_aload_n dX1_resolve_87 rfl rfl ?_
        refine fs_aload_n dX1_resolve_88 rfl rfl ?_
        obtain ⟨ho1, hS⟩ := hS
        refine fsg_P3 dX1_resolve_89 sf_X1_67 ho1 ?_
        refine fs_iload_n dX1_resolve_92 rfl rfl ?_
        obtain ⟨ho1, hS⟩ := hS
        refine fs_callV1 dX1_resolve_93 sv_X1_54 rfl ⟨_, rfl, rfl⟩ (hE ht I A J it dyn (fs_dR dyn x1 3) x2 ho1) rfl rfl (Nat.le_of_ble_eq_true rfl) (by omega) (by omega) (by omega) ?_
        have hR_96 := hS
        have key_128 : fsW G l mX1_resolve (dE + 3) 0 0 0 0 Q 128 [(0, .inr (.inr (some 3))), (1, .inr (.inr x1)), (2, .inl x2)] [.inl (if (Er ht I A J it dyn (fs_dR dyn x1 3) x2) = 0 then 0 else (if (Er ht I A J it (Edyn ht I A J it dyn (fs_dR dyn x1 3) x2) (fs_dR (Edyn ht I A J it dyn (fs_dR dyn x1 3) x2) x1 4) x2) = 0 then 0 else (if (Er ht I A J it (Edyn ht I A J it (Edyn ht I A J it dyn (fs_dR dyn x1 3) x2) (fs_dR (Edyn ht I A J it dyn (fs_dR dyn x1 3) x2) x1 4) x2) (fs_dR (Edyn ht I A J it (Edyn ht I A J it dyn (fs_dR dyn x1 3) x2) (fs_dR (Edyn ht I A J it dyn (fs_dR dyn x1 3) x2) x1 4) x2) x1 5) x2) = 0 then 0 else 1 : Int32) : Int32) : Int32)] (fs_mk ht I A J it (if (Er ht I A J it dyn (fs_dR dyn x1 3) x2) = 0 then (Edyn ht I A J it dyn (fs_dR dyn x1 3) x2) else (if (Er ht I A J it (Edyn ht I A J it dyn (fs_dR dyn x1 3) x2) (fs_dR (Edyn ht I A J it dyn (fs_dR dyn x1 3) x2) x1 4) x2) = 0 then (Edyn ht I A J it (Edyn ht I A J it dyn (fs_dR dyn x1 3) x2) (fs_dR (Edyn ht I A J it dyn (fs_dR dyn x1 3) x2) x1 4) x2) else (Edyn ht I A J it (Edyn ht I A J it (Edyn ht I A J it dyn (fs_dR dyn x1 3) x2) (fs_dR (Edyn ht I A J it dyn (fs_dR dyn x1 3) x2) x1 4) x2) (fs_dR (Edyn ht I A J it (Edyn ht I A J it dyn (fs_dR dyn x1 3) x2) (fs_dR (Edyn ht I A J it dyn (fs_dR dyn x1 3) x2) x1 4) x2) x1 5) x2)))) := by
          have k9 := hq
          try simp only [if_neg c_1, if_neg c_12, if_neg c_21] at k9 ⊢
          exact fs_iret dX1_resolve_128 rfl (by (repeat' split) <;> first | rfl) k9
        refine fs_if_eq 127 dX1_resolve_96 (by decide) (fun c_96 : (Er ht I A J it dyn (fs_dR dyn x1 3) x2) = 0 => ?_) (fun c_96 : ¬ ((Er ht I A J it dyn (fs_dR dyn x1 3) x2) = 0) => ?_)
        · refine fs_iconst (v := 0) dX1_resolve_127 rfl ?_
          have k9 := key_128
          try simp only [if_neg c_1, if_neg c_12, if_neg c_21, if_pos c_96] at k9 ⊢
          exact k9
        · have hS := hR_96 c_96
          refine fs_aload_n dX1_resolve_99 rfl rfl ?_
          refine fs_aload_n dX1_resolve_100 rfl rfl ?_
          obtain ⟨ho1, hS⟩ := hS
          refine fsg_P4 dX1_resolve_101 sf_X1_70 ho1 ?_
          refine fs_iload_n dX1_resolve_104 rfl rfl ?_
          obtain ⟨ho1, hS⟩ := hS
          refine fs_callV1 dX1_resolve_105 sv_X1_54 rfl ⟨_, rfl, rfl⟩ (hE ht I A J it (Edyn ht I A J it dyn (fs_dR dyn x1 3) x2) (fs_dR (Edyn ht I A J it dyn (fs_dR dyn x1 3) x2) x1 4) x2 ho1) rfl rfl (Nat.le_of_ble_eq_true rfl) (by omega) (by omega) (by omega) ?_
          refine fs_if_eq 127 dX1_resolve_108 (by decide) (fun c_108 : (Er ht I A J it (Edyn ht I A J it dyn (fs_dR dyn x1 3) x2) (fs_dR (Edyn ht I A J it dyn (fs_dR dyn x1 3) x2) x1 4) x2) = 0 => ?_) (fun c_108 : ¬ ((Er ht I A J it (Edyn ht I A J it dyn (fs_dR dyn x1 3) x2) (fs_dR (Edyn ht I A J it dyn (fs_dR dyn x1 3) x2) x1 4) x2) = 0) => ?_)
          · refine fs_iconst (v := 0) dX1_resolve_127 rfl ?_
            have k9 := key_128
            try simp only [if_neg c_1, if_neg c_12, if_neg c_21, if_neg c_96, if_pos c_108] at k9 ⊢
            exact k9
          · have hS := hS c_108
            refine fs_aload_n dX1_resolve_111 rfl rfl ?_
            refine fs_aload_n dX1_resolve_112 rfl rfl ?_
            obtain ⟨ho1, hS⟩ := hS
            refine fsg_P5 dX1_resolve_113 sf_X1_73 ho1 ?_
            refine fs_iload_n dX1_resolve_116 rfl rfl ?_
            have ho1 := hS
            refine fs_callV1 dX1_resolve_117 sv_X1_54 rfl ⟨_, rfl, rfl⟩ (hE ht I A J it (Edyn ht I A J it (Edyn ht I A J it dyn (fs_dR dyn x1 3) x2) (fs_dR (Edyn ht I A J it dyn (fs_dR dyn x1 3) x2) x1 4) x2) (fs_dR (Edyn ht I A J it (Edyn ht I A J it dyn (fs_dR dyn x1 3) x2) (fs_dR (Edyn ht I A J it dyn (fs_dR dyn x1 3) x2) x1 4) x2) x1 5) x2 ho1) rfl rfl (Nat.le_of_ble_eq_true rfl) (by omega) (by omega) (by omega) ?_
            refine fs_if_eq 127 dX1_resolve_120 (by decide) (fun c_120 : (Er ht I A J it (Edyn ht I A J it (Edyn ht I A J it dyn (fs_dR dyn x1 3) x2) (fs_dR (Edyn ht I A J it dyn (fs_dR dyn x1 3) x2) x1 4) x2) (fs_dR (Edyn ht I A J it (Edyn ht I A J it dyn (fs_dR dyn x1 3) x2) (fs_dR (Edyn ht I A J it dyn (fs_dR dyn x1 3) x2) x1 4) x2) x1 5) x2) = 0 => ?_) (fun c_120 : ¬ ((Er ht I A J it (Edyn ht I A J it (Edyn ht I A J it dyn (fs_dR dyn x1 3) x2) (fs_dR (Edyn ht I A J it dyn (fs_dR dyn x1 3) x2) x1 4) x2) (fs_dR (Edyn ht I A J it (Edyn ht I A J it dyn (fs_dR dyn x1 3) x2) (fs_dR (Edyn ht I A J it dyn (fs_dR dyn x1 3) x2) x1 4) x2) x1 5) x2) = 0) => ?_)
            · refine fs_iconst (v := 0) dX1_resolve_127 rfl ?_
              have k9 := key_128
              try simp only [if_neg c_1, if_neg c_12, if_neg c_21, if_neg c_96, if_neg c_108, if_pos c_120] at k9 ⊢
              exact k9
            · refine fs_iconst (v := 1) dX1_resolve_123 rfl ?_
              refine fs_goto 128 dX1_resolve_124 (by decide) ?_
              have k9 := key_128
              try simp only [if_neg c_1, if_neg c_12, if_neg c_21, if_neg c_96, if_neg c_108, if_neg c_120] at k9 ⊢
              exact k9
      · have hS := hS.1 c_21
        refine fs_aload_n dX1_resolve_24 rfl rfl ?_
        refine fs_aload_n dX1_resolve_25 rfl rfl ?_
        refine fs_aload_n dX1_resolve_26 rfl rfl ?_
        obtain ⟨ho1, hS⟩ := hS
        refine fsg_P2 dX1_resolve_27 sf_X1_61 ho1 ?_
        obtain ⟨ho1, hS⟩ := hS
        refine fs_callV1 dX1_resolve_30 sv_X1_31 rfl ⟨_, rfl, rfl⟩ (c_X1_fieldNamed G l ht I A J it dyn (fs_dI dyn x1 2) ho1) rfl rfl (Nat.le_of_ble_eq_true rfl) (by omega) (by omega) (by omega) ?_
        obtain ⟨ho1, hS⟩ := hS
        refine fsd_6 dX1_resolve_33 sp_X1_62 ho1 ?_
        refine fs_aload_n dX1_resolve_36 rfl rfl ?_
        obtain ⟨ho1, hS⟩ := hS
        refine fsg_P6 dX1_resolve_37 sf_X1_62 ho1 ?_
        refine fs_iconst (v := (-1)) dX1_resolve_40 rfl ?_
        refine fs_icmp_ne 46 dX1_resolve_41 (by decide) (fun c_41 : ¬ (fs_dI (fs_dset dyn x1 6 (fsI (L_X1_fieldNamed_r ht I A J it dyn (fs_dI dyn x1 2)))) x1 6) = (-1) => ?_) (fun c_41 : (fs_dI (fs_dset dyn x1 6 (fsI (L_X1_fieldNamed_r ht I A J it dyn (fs_dI dyn x1 2)))) x1 6) = (-1) => ?_)
        · have hS := hS c_41
          refine fs_aload_n dX1_resolve_46 rfl rfl ?_
          obtain ⟨ho1, hS⟩ := hS
          refine fsg_P0 dX1_resolve_47 sf_X1_58 ho1 ?_
          refine fs_bipush (v := 35) dX1_resolve_50 rfl ?_
          have hR_52 := hS
          have key_86 : fsW G l mX1_resolve (dE + 3) 0 0 0 0 Q 86 [(0, .inr (.inr (some 3))), (1, .inr (.inr x1)), (2, .inl x2)] [.inl (if (fs_dI (fs_dset dyn x1 6 (fsI (L_X1_fieldNamed_r ht I A J it dyn (fs_dI dyn x1 2)))) x1 0) = 35 then (L_X1_repeats_r ht I A J it (fs_dset dyn x1 6 (fsI (L_X1_fieldNamed_r ht I A J it dyn (fs_dI dyn x1 2)))) (fs_dI (fs_dset dyn x1 6 (fsI (L_X1_fieldNamed_r ht I A J it dyn (fs_dI dyn x1 2)))) x1 6)) else (if x2 = 0 then (if (L_X1_repeats_r ht I A J it (fs_dset dyn x1 6 (fsI (L_X1_fieldNamed_r ht I A J it dyn (fs_dI dyn x1 2)))) (fs_dI (fs_dset dyn x1 6 (fsI (L_X1_fieldNamed_r ht I A J it dyn (fs_dI dyn x1 2)))) x1 6)) = 0 then 1 else 0 : Int32) else 1 : Int32) : Int32)] (fs_mk ht I A J it (fs_dset dyn x1 6 (fsI (L_X1_fieldNamed_r ht I A J it dyn (fs_dI dyn x1 2))))) := by
            have k9 := hq
            try simp only [if_neg c_1, if_neg c_12, if_pos c_21, if_neg c_41] at k9 ⊢
            exact fs_iret dX1_resolve_86 rfl (by (repeat' split) <;> first | rfl | exact nb_X1_repeats _ _ _ _ _ _ _) k9
          refine fs_icmp_ne 66 dX1_resolve_52 (by decide) (fun c_52 : ¬ (fs_dI (fs_dset dyn x1 6 (fsI (L_X1_fieldNamed_r ht I A J it dyn (fs_dI dyn x1 2)))) x1 0) = 35 => ?_) (fun c_52 : (fs_dI (fs_dset dyn x1 6 (fsI (L_X1_fieldNamed_r ht I A J it dyn (fs_dI dyn x1 2)))) x1 0) = 35 => ?_)
          · have hS := hR_52.2 c_52
            refine fs_iload_n dX1_resolve_66 rfl rfl ?_
            refine fs_if_ne 81 dX1_resolve_67 (by decide) (fun c_67 : ¬ x2 = 0 => ?_) (fun c_67 : x2 = 0 => ?_)
            · refine fs_iconst (v := 1) dX1_resolve_81 rfl ?_
              refine fs_goto 86 dX1_resolve_82 (by decide) ?_
              have k9 := key_86
              try simp only [if_neg c_1, if_neg c_12, if_pos c_21, if_neg c_41, if_neg c_52, if_neg c_67] at k9 ⊢
              exact k9
            · have hS := hS c_67
              refine fs_aload_n dX1_resolve_70 rfl rfl ?_
              refine fs_aload_n dX1_resolve_71 rfl rfl ?_
              obtain ⟨ho1, hS⟩ := hS
              refine fsg_P6 dX1_resolve_72 sf_X1_62 ho1 ?_
              have ho1 := hS
              refine fs_callV1 dX1_resolve_75 sv_X1_65 rfl ⟨_, rfl, rfl⟩ (c_X1_repeats G l ht I A J it (fs_dset dyn x1 6 (fsI (L_X1_fieldNamed_r ht I A J it dyn (fs_dI dyn x1 2)))) (fs_dI (fs_dset dyn x1 6 (fsI (L_X1_fieldNamed_r ht I A J it dyn (fs_dI dyn x1 2)))) x1 6) ho1) rfl rfl (Nat.le_of_ble_eq_true rfl) (by omega) (by omega) (by omega) ?_
              refine fs_if_ne 85 dX1_resolve_78 (by decide) (fun c_78 : ¬ (L_X1_repeats_r ht I A J it (fs_dset dyn x1 6 (fsI (L_X1_fieldNamed_r ht I A J it dyn (fs_dI dyn x1 2)))) (fs_dI (fs_dset dyn x1 6 (fsI (L_X1_fieldNamed_r ht I A J it dyn (fs_dI dyn x1 2)))) x1 6)) = 0 => ?_) (fun c_78 : (L_X1_repeats_r ht I A J it (fs_dset dyn x1 6 (fsI (L_X1_fieldNamed_r ht I A J it dyn (fs_dI dyn x1 2)))) (fs_dI (fs_dset dyn x1 6 (fsI (L_X1_fieldNamed_r ht I A J it dyn (fs_dI dyn x1 2)))) x1 6)) = 0 => ?_)
              · refine fs_iconst (v := 0) dX1_resolve_85 rfl ?_
                have k9 := key_86
                try simp only [if_neg c_1, if_neg c_12, if_pos c_21, if_neg c_41, if_neg c_52, if_pos c_67, if_neg c_78] at k9 ⊢
                exact k9
              · refine fs_iconst (v := 1) dX1_resolve_81 rfl ?_
                refine fs_goto 86 dX1_resolve_82 (by decide) ?_
                have k9 := key_86
                try simp only [if_neg c_1, if_neg c_12, if_pos c_21, if_neg c_41, if_neg c_52, if_pos c_67, if_pos c_78] at k9 ⊢
                exact k9
          · have hS := hR_52.1 c_52
            refine fs_aload_n dX1_resolve_55 rfl rfl ?_
            refine fs_aload_n dX1_resolve_56 rfl rfl ?_
            obtain ⟨ho1, hS⟩ := hS
            refine fsg_P6 dX1_resolve_57 sf_X1_62 ho1 ?_
            have ho1 := hS
            refine fs_callV1 dX1_resolve_60 sv_X1_65 rfl ⟨_, rfl, rfl⟩ (c_X1_repeats G l ht I A J it (fs_dset dyn x1 6 (fsI (L_X1_fieldNamed_r ht I A J it dyn (fs_dI dyn x1 2)))) (fs_dI (fs_dset dyn x1 6 (fsI (L_X1_fieldNamed_r ht I A J it dyn (fs_dI dyn x1 2)))) x1 6) ho1) rfl rfl (Nat.le_of_ble_eq_true rfl) (by omega) (by omega) (by omega) ?_
            refine fs_goto 86 dX1_resolve_63 (by decide) ?_
            have k9 := key_86
            try simp only [if_neg c_1, if_neg c_12, if_pos c_21, if_neg c_41, if_pos c_52] at k9 ⊢
            exact k9
        · refine fs_iconst (v := 0) dX1_resolve_44 rfl ?_
          have k9 := hq
          try simp only [if_neg c_1, if_neg c_12, if_pos c_21, if_pos c_41] at k9 ⊢
          exact fs_iret dX1_resolve_45 rfl rfl k9
  · refine fs_iconst (v := 1) dX1_resolve_4 rfl ?_
    have k9 := hq
    try simp only [if_pos c_1] at k9 ⊢
    exact fs_iret dX1_resolve_5 rfl rfl k9
def T_X1_resolve : Nat → Nat → (Nat → Int32) → (Nat → Nat → Int32) → (Nat → Nat → Int64) → (Nat → Option Nat) → fsH → Option Nat → Int32 → Int32 × fsH × Prop
  | 0, ht, I, A, J, it, dyn, x1, x2 => (0, dyn, False)
  | n + 1, ht, I, A, J, it, dyn, x1, x2 => (L_X1_resolve_st_r (fun ht I A J it dyn zx1 zx2 => (T_X1_resolve n ht I A J it dyn zx1 zx2).1) (fun ht I A J it dyn zx1 zx2 => (T_X1_resolve n ht I A J it dyn zx1 zx2).2.1) ht I A J it dyn x1 x2, L_X1_resolve_st_dyn (fun ht I A J it dyn zx1 zx2 => (T_X1_resolve n ht I A J it dyn zx1 zx2).1) (fun ht I A J it dyn zx1 zx2 => (T_X1_resolve n ht I A J it dyn zx1 zx2).2.1) ht I A J it dyn x1 x2, S_X1_resolve_st (fun ht I A J it dyn zx1 zx2 => (T_X1_resolve n ht I A J it dyn zx1 zx2).1) (fun ht I A J it dyn zx1 zx2 => (T_X1_resolve n ht I A J it dyn zx1 zx2).2.1) (fun ht I A J it dyn zx1 zx2 => (T_X1_resolve n ht I A J it dyn zx1 zx2).2.2) ht I A J it dyn x1 x2)
theorem ci_X1_resolve (G : fsG) (l : Launch) : ∀ (n : Nat) (ht : Nat) (I : Nat → Int32) (A : Nat → Nat → Int32) (J : Nat → Nat → Int64) (it : Nat → Option Nat) (dyn : fsH) (x1 : Option Nat) (x2 : Int32), (T_X1_resolve n ht I A J it dyn x1 x2).2.2 → fsFn G l mX1_resolve (3 * n) 0 0 [.inr (.inr (some 3)), .inr (.inr x1), .inl x2] (fs_mk ht I A J it dyn) (some (.inl ((T_X1_resolve n ht I A J it dyn x1 x2).1))) (fs_mk ht I A J it (T_X1_resolve n ht I A J it dyn x1 x2).2.1) := by
  intro n
  induction n with
  | zero =>
    intro ht I A J it dyn x1 x2 hS
    exact hS.elim
  | succ n ih =>
    intro ht I A J it dyn x1 x2 hS
    have h := c_X1_resolve_st G l (fun ht I A J it dyn zx1 zx2 => (T_X1_resolve n ht I A J it dyn zx1 zx2).1) (fun ht I A J it dyn zx1 zx2 => (T_X1_resolve n ht I A J it dyn zx1 zx2).2.1) (fun ht I A J it dyn zx1 zx2 => (T_X1_resolve n ht I A J it dyn zx1 zx2).2.2) (3 * n) 0 (fun ht I A J it dyn zx1 zx2 h9 => ih ht I A J it dyn zx1 zx2 h9) ht I A J it dyn x1 x2 hS
    skip
    skip
    exact h
def L_X1_resolve_r (ht : Nat) (I : Nat → Int32) (A : Nat → Nat → Int32) (J : Nat → Nat → Int64) (it : Nat → Option Nat) (dyn : fsH) (x1 : Option Nat) (x2 : Int32) : Int32 := (T_X1_resolve 10 ht I A J it dyn x1 x2).1
def L_X1_resolve_dyn (ht : Nat) (I : Nat → Int32) (A : Nat → Nat → Int32) (J : Nat → Nat → Int64) (it : Nat → Option Nat) (dyn : fsH) (x1 : Option Nat) (x2 : Int32) : fsH := (T_X1_resolve 10 ht I A J it dyn x1 x2).2.1
def S_X1_resolve (ht : Nat) (I : Nat → Int32) (A : Nat → Nat → Int32) (J : Nat → Nat → Int64) (it : Nat → Option Nat) (dyn : fsH) (x1 : Option Nat) (x2 : Int32) : Prop := (T_X1_resolve 10 ht I A J it dyn x1 x2).2.2
theorem c_X1_resolve (G : fsG) (l : Launch) (ht : Nat) (I : Nat → Int32) (A : Nat → Nat → Int32) (J : Nat → Nat → Int64) (it : Nat → Option Nat) (dyn : fsH) (x1 : Option Nat) (x2 : Int32) (hS : S_X1_resolve ht I A J it dyn x1 x2) : fsFn G l mX1_resolve 30 0 0 [.inr (.inr (some 3)), .inr (.inr x1), .inl x2] (fs_mk ht I A J it dyn) (some (.inl (L_X1_resolve_r ht I A J it dyn x1 x2))) (fs_mk ht I A J it (L_X1_resolve_dyn ht I A J it dyn x1 x2)) := ci_X1_resolve G l 10 ht I A J it dyn x1 x2 hS
def La_X1_resolveNames_2_r : Nat → Nat → (Nat → Int32) → (Nat → Nat → Int32) → (Nat → Nat → Int64) → (Nat → Option Nat) → fsH → Int32 → Int32
  | 0, ht, I, A, J, it, dyn, v1 => 0
  | n + 1, ht, I, A, J, it, dyn, v1 => (if (I 4) ≤ v1 then 1 else (if (L_X1_resolve_r ht I A J it dyn (fs_dR dyn (it v1.toNatClampNeg) 3) (fs_dI dyn (it v1.toNatClampNeg) 2)) = 0 then 0 else (La_X1_resolveNames_2_r n ht I A J it (L_X1_resolve_dyn ht I A J it dyn (fs_dR dyn (it v1.toNatClampNeg) 3) (fs_dI dyn (it v1.toNatClampNeg) 2)) (v1 + 1))))
def La_X1_resolveNames_2_dyn : Nat → Nat → (Nat → Int32) → (Nat → Nat → Int32) → (Nat → Nat → Int64) → (Nat → Option Nat) → fsH → Int32 → fsH
  | 0, ht, I, A, J, it, dyn, v1 => dyn
  | n + 1, ht, I, A, J, it, dyn, v1 => (if (I 4) ≤ v1 then dyn else (if (L_X1_resolve_r ht I A J it dyn (fs_dR dyn (it v1.toNatClampNeg) 3) (fs_dI dyn (it v1.toNatClampNeg) 2)) = 0 then (L_X1_resolve_dyn ht I A J it dyn (fs_dR dyn (it v1.toNatClampNeg) 3) (fs_dI dyn (it v1.toNatClampNeg) 2)) else (La_X1_resolveNames_2_dyn n ht I A J it (L_X1_resolve_dyn ht I A J it dyn (fs_dR dyn (it v1.toNatClampNeg) 3) (fs_dI dyn (it v1.toNatClampNeg) 2)) (v1 + 1))))
def S_La_X1_resolveNames_2 : Nat → Nat → (Nat → Int32) → (Nat → Nat → Int32) → (Nat → Nat → Int64) → (Nat → Option Nat) → fsH → Int32 → Prop
  | 0, _, _, _, _, _, _, _ => False
  | n + 1, ht, I, A, J, it, dyn, v1 => (¬ ((I 4) ≤ v1) → ((vp_in v1 16) ∧ ((fs_okI dyn (it v1.toNatClampNeg)) ∧ ((vp_in v1 16) ∧ ((fs_okI dyn (it v1.toNatClampNeg)) ∧ ((S_X1_resolve ht I A J it dyn (fs_dR dyn (it v1.toNatClampNeg) 3) (fs_dI dyn (it v1.toNatClampNeg) 2)) ∧ (¬ ((L_X1_resolve_r ht I A J it dyn (fs_dR dyn (it v1.toNatClampNeg) 3) (fs_dI dyn (it v1.toNatClampNeg) 2)) = 0) → (S_La_X1_resolveNames_2 n ht I A J it (L_X1_resolve_dyn ht I A J it dyn (fs_dR dyn (it v1.toNatClampNeg) 3) (fs_dI dyn (it v1.toNatClampNeg) 2)) (v1 + 1)))))))))
set_option maxRecDepth 100000 in
set_option maxHeartbeats 4000000 in
theorem lp_La_X1_resolveNames_2 (G : fsG) (l : Launch) (Q : Option fsV → fsH → Prop) : ∀ (n : Nat) (ht : Nat) (I : Nat → Int32) (A : Nat → Nat → Int32) (J : Nat → Nat → Int64) (it : Nat → Option Nat) (dyn : fsH) (v1 : Int32), S_La_X1_resolveNames_2 n ht I A J it dyn v1 → (Q (some (.inl (La_X1_resolveNames_2_r n ht I A J it dyn v1))) (fs_mk ht I A J it (La_X1_resolveNames_2_dyn n ht I A J it dyn v1))) → fsW G l mX1_resolveNames 31 0 0 0 0 Q 2 [(0, .inr (.inr (some 3))), (1, .inl v1)] [] (fs_mk ht I A J it dyn) := by
  intro n
  induction n with
  | zero =>
    intro ht I A J it dyn v1 hS
    exact hS.elim
  | succ n ih =>
    intro ht I A J it dyn v1 hS hq
    have hS : (¬ ((I 4) ≤ v1) → ((vp_in v1 16) ∧ ((fs_okI dyn (it v1.toNatClampNeg)) ∧ ((vp_in v1 16) ∧ ((fs_okI dyn (it v1.toNatClampNeg)) ∧ ((S_X1_resolve ht I A J it dyn (fs_dR dyn (it v1.toNatClampNeg) 3) (fs_dI dyn (it v1.toNatClampNeg) 2)) ∧ (¬ ((L_X1_resolve_r ht I A J it dyn (fs_dR dyn (it v1.toNatClampNeg) 3) (fs_dI dyn (it v1.toNatClampNeg) 2)) = 0) → (S_La_X1_resolveNames_2 n ht I A J it (L_X1_resolve_dyn ht I A J it dyn (fs_dR dyn (it v1.toNatClampNeg) 3) (fs_dI dyn (it v1.toNatClampNeg) 2)) (v1 + 1))))))))) := hS
    have hq : Q (some (.inl (if (I 4) ≤ v1 then 1 else (if (L_X1_resolve_r ht I A J it dyn (fs_dR dyn (it v1.toNatClampNeg) 3) (fs_dI dyn (it v1.toNatClampNeg) 2)) = 0 then 0 else (La_X1_resolveNames_2_r n ht I A J it (L_X1_resolve_dyn ht I A J it dyn (fs_dR dyn (it v1.toNatClampNeg) 3) (fs_dI dyn (it v1.toNatClampNeg) 2)) (v1 + 1)))))) (fs_mk ht I A J it (if (I 4) ≤ v1 then dyn else (if (L_X1_resolve_r ht I A J it dyn (fs_dR dyn (it v1.toNatClampNeg) 3) (fs_dI dyn (it v1.toNatClampNeg) 2)) = 0 then (L_X1_resolve_dyn ht I A J it dyn (fs_dR dyn (it v1.toNatClampNeg) 3) (fs_dI dyn (it v1.toNatClampNeg) 2)) else (La_X1_resolveNames_2_dyn n ht I A J it (L_X1_resolve_dyn ht I A J it dyn (fs_dR dyn (it v1.toNatClampNeg) 3) (fs_dI dyn (it v1.toNatClampNeg) 2)) (v1 + 1))))) := hq
    refine fs_iload_n dX1_resolveNames_2 rfl rfl ?_
    refine fs_aload_n dX1_resolveNames_3 rfl rfl ?_
    refine fs_getfield (v := .inl (I 4)) dX1_resolveNames_4 sf_X1_17 rfl rfl ?_
    refine fs_icmp_ge 43 dX1_resolveNames_7 (by decide) (fun c_7 : (I 4) ≤ v1 => ?_) (fun c_7 : ¬ ((I 4) ≤ v1) => ?_)
    · refine fs_iconst (v := 1) dX1_resolveNames_43 rfl ?_
      have k9 := hq
      try simp only [if_pos c_7] at k9 ⊢
      exact fs_iret dX1_resolveNames_44 rfl rfl k9
    · have hS := hS c_7
      refine fs_aload_n dX1_resolveNames_10 rfl rfl ?_
      refine fs_aload_n dX1_resolveNames_11 rfl rfl ?_
      refine fs_getfield (v := .inr (.inr (some 4))) dX1_resolveNames_12 sf_X1_11 rfl rfl ?_
      refine fs_iload_n dX1_resolveNames_15 rfl rfl ?_
      obtain ⟨ho1, hS⟩ := hS
      refine fs_aaload dX1_resolveNames_16 rfl ho1 ?_
      obtain ⟨ho1, hS⟩ := hS
      refine fsg_I3 dX1_resolveNames_17 sf_X1_50 ho1 ?_
      refine fs_aload_n dX1_resolveNames_20 rfl rfl ?_
      refine fs_getfield (v := .inr (.inr (some 4))) dX1_resolveNames_21 sf_X1_11 rfl rfl ?_
      refine fs_iload_n dX1_resolveNames_24 rfl rfl ?_
      obtain ⟨ho1, hS⟩ := hS
      refine fs_aaload dX1_resolveNames_25 rfl ho1 ?_
      obtain ⟨ho1, hS⟩ := hS
      refine fsg_I2 dX1_resolveNames_26 sf_X1_35 ho1 ?_
      obtain ⟨ho1, hS⟩ := hS
      refine fs_callV1 dX1_resolveNames_29 sv_X1_54 rfl ⟨_, rfl, rfl⟩ (c_X1_resolve G l ht I A J it dyn (fs_dR dyn (it v1.toNatClampNeg) 3) (fs_dI dyn (it v1.toNatClampNeg) 2) ho1) rfl rfl (Nat.le_of_ble_eq_true rfl) (Nat.le_of_ble_eq_true rfl) (Nat.le_of_ble_eq_true rfl) (Nat.le_of_ble_eq_true rfl) ?_
      refine fs_if_ne 37 dX1_resolveNames_32 (by decide) (fun c_32 : ¬ (L_X1_resolve_r ht I A J it dyn (fs_dR dyn (it v1.toNatClampNeg) 3) (fs_dI dyn (it v1.toNatClampNeg) 2)) = 0 => ?_) (fun c_32 : (L_X1_resolve_r ht I A J it dyn (fs_dR dyn (it v1.toNatClampNeg) 3) (fs_dI dyn (it v1.toNatClampNeg) 2)) = 0 => ?_)
      · have hS := hS c_32
        refine fs_iinc (v := (v1 + 1)) (L' := [(1, .inl (v1 + 1)), (0, .inr (.inr (some 3)))]) dX1_resolveNames_37 rfl rfl (by decide) rfl ?_
        refine fs_goto 2 dX1_resolveNames_40 (by decide) ?_
        refine fs_reL [1, 0] rfl ?_
        have k9 := hq
        try simp only [if_neg c_7, if_neg c_32] at hS k9 ⊢
        exact ih _ _ _ _ _ _ _ hS k9
      · refine fs_iconst (v := 0) dX1_resolveNames_35 rfl ?_
        have k9 := hq
        try simp only [if_neg c_7, if_pos c_32] at k9 ⊢
        exact fs_iret dX1_resolveNames_36 rfl rfl k9
theorem nb_La_X1_resolveNames_2 : ∀ (n : Nat) (ht : Nat) (I : Nat → Int32) (A : Nat → Nat → Int32) (J : Nat → Nat → Int64) (it : Nat → Option Nat) (dyn : fsH) (v1 : Int32), narrow .boolean (.int (La_X1_resolveNames_2_r n ht I A J it dyn v1)) = .int (La_X1_resolveNames_2_r n ht I A J it dyn v1) := by
  intro n
  induction n with
  | zero =>
    intro ht I A J it dyn v1
    exact (rfl : narrow .boolean (.int 0) = .int 0)
  | succ n ih =>
    intro ht I A J it dyn v1
    unfold La_X1_resolveNames_2_r
    (repeat' split) <;> first | rfl | exact ih _ _ _ _ _ _ _
def L_X1_resolveNames_r (ht : Nat) (I : Nat → Int32) (A : Nat → Nat → Int32) (J : Nat → Nat → Int64) (it : Nat → Option Nat) (dyn : fsH)  : Int32 := (La_X1_resolveNames_2_r 70 ht I A J it dyn 0)
def L_X1_resolveNames_dyn (ht : Nat) (I : Nat → Int32) (A : Nat → Nat → Int32) (J : Nat → Nat → Int64) (it : Nat → Option Nat) (dyn : fsH)  : fsH := (La_X1_resolveNames_2_dyn 70 ht I A J it dyn 0)
def S_X1_resolveNames (ht : Nat) (I : Nat → Int32) (A : Nat → Nat → Int32) (J : Nat → Nat → Int64) (it : Nat → Option Nat) (dyn : fsH)  : Prop := (S_La_X1_resolveNames_2 70 ht I A J it dyn 0)
set_option maxRecDepth 100000 in
set_option maxHeartbeats 4000000 in
theorem c_X1_resolveNames (G : fsG) (l : Launch) (ht : Nat) (I : Nat → Int32) (A : Nat → Nat → Int32) (J : Nat → Nat → Int64) (it : Nat → Option Nat) (dyn : fsH)  (hS : S_X1_resolveNames ht I A J it dyn ) : fsFn G l mX1_resolveNames 31 0 0 [.inr (.inr (some 3))] (fs_mk ht I A J it dyn) (some (.inl (L_X1_resolveNames_r ht I A J it dyn ))) (fs_mk ht I A J it (L_X1_resolveNames_dyn ht I A J it dyn )) := by
  refine fsMet_of (by decide) (Nat.le_of_ble_eq_true rfl) ?_
  generalize hQ : (fun (r1 : Option fsV) (h1 : fsH) => r1 = (some (.inl (L_X1_resolveNames_r ht I A J it dyn ))) ∧ h1 = (fs_mk ht I A J it (L_X1_resolveNames_dyn ht I A J it dyn ))) = Q
  have hq : Q (some (.inl (L_X1_resolveNames_r ht I A J it dyn ))) (fs_mk ht I A J it (L_X1_resolveNames_dyn ht I A J it dyn )) := by rw [← hQ]; exact ⟨rfl, rfl⟩
  clear hQ
  have hq : Q (some (.inl (La_X1_resolveNames_2_r 70 ht I A J it dyn 0))) (fs_mk ht I A J it (La_X1_resolveNames_2_dyn 70 ht I A J it dyn 0)) := hq
  have hS : (S_La_X1_resolveNames_2 70 ht I A J it dyn 0) := hS
  refine (show fsW G l mX1_resolveNames 31 0 0 0 0 Q 0 [(0, .inr (.inr (some 3)))] [] (fs_mk ht I A J it dyn) from ?_)
  refine fs_iconst (v := 0) dX1_resolveNames_0 rfl ?_
  refine fs_istore_n (L' := [(1, .inl 0), (0, .inr (.inr (some 3)))]) dX1_resolveNames_1 rfl (by decide) rfl ?_
  refine fs_reL [1, 0] rfl ?_
  have ho1 := hS
  have k9 := hq
  exact lp_La_X1_resolveNames_2 G l Q 70 _ _ _ _ _ _ _ ho1 k9
theorem nb_X1_resolveNames (ht : Nat) (I : Nat → Int32) (A : Nat → Nat → Int32) (J : Nat → Nat → Int64) (it : Nat → Option Nat) (dyn : fsH)  : narrow .boolean (.int (L_X1_resolveNames_r ht I A J it dyn )) = .int (L_X1_resolveNames_r ht I A J it dyn ) := by
  unfold L_X1_resolveNames_r
  exact (by (repeat' split) <;> first | rfl | exact nb_La_X1_resolveNames_2 _ _ _ _ _ _ _ _)
