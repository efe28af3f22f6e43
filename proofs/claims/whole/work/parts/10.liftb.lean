/-! 10.liftb: methods as pure functions (L_), their safety (S_), their contracts (c_): by program, wip/whole/walk.py -/
def L_X6_setOf_r (ht : Nat) (I : Nat → Int32) (A : Nat → Nat → Int32) (J : Nat → Nat → Int64) (it : Nat → Option Nat) (dyn : fsH) (x1 : Int32) : Int64 := (1 <<< (x1.toInt64 &&& 63))
set_option maxRecDepth 100000 in
set_option maxHeartbeats 4000000 in
theorem c_X6_setOf (G : fsG) (l : Launch) (ht : Nat) (I : Nat → Int32) (A : Nat → Nat → Int32) (J : Nat → Nat → Int64) (it : Nat → Option Nat) (dyn : fsH) (x1 : Int32) : fsFn G l mX6_setOf 0 0 0 [.inl x1] (fs_mk ht I A J it dyn) (some (.inr (.inl (L_X6_setOf_r ht I A J it dyn x1)))) (fs_mk ht I A J it dyn) := by
  refine fsMet_of (by decide) (Nat.le_of_ble_eq_true rfl) ?_
  generalize hQ : (fun (r1 : Option fsV) (h1 : fsH) => r1 = (some (.inr (.inl (L_X6_setOf_r ht I A J it dyn x1)))) ∧ h1 = (fs_mk ht I A J it dyn)) = Q
  have hq : Q (some (.inr (.inl (L_X6_setOf_r ht I A J it dyn x1)))) (fs_mk ht I A J it dyn) := by rw [← hQ]; exact ⟨rfl, rfl⟩
  clear hQ
  have hq : Q (some (.inr (.inl (1 <<< (x1.toInt64 &&& 63))))) (fs_mk ht I A J it dyn) := hq
  refine (show fsW G l mX6_setOf 0 0 0 0 0 Q 0 [(0, .inl x1)] [] (fs_mk ht I A J it dyn) from ?_)
  refine fs_lconst (v := 1) dX6_setOf_0 rfl ?_
  refine fs_iload_n dX6_setOf_1 rfl rfl ?_
  refine fs_lshl dX6_setOf_2 ?_
  have k9 := hq
  exact fs_lret dX6_setOf_3 rfl k9
def L_X6_operate_r (ht : Nat) (I : Nat → Int32) (A : Nat → Nat → Int32) (J : Nat → Nat → Int64) (it : Nat → Option Nat) (dyn : fsH) (x1 : Int32) (x2 : Int64) (x3 : Int64) : Int64 := (if x1 = 42 then (L_X0_product_r ht I A J it dyn x2 x3) else (if x1 = 43 then (L_X0_limited_r ht I A J it dyn (x2 + x3)) else (if x1 = 45 then (L_X0_limited_r ht I A J it dyn (x2 - x3)) else (if x1 = 47 then (L_X0_quotient_r ht I A J it dyn x2 x3) else (if x1 = 60 then (if 0 ≤ (lg_cmp x2 x3) then 0 else (100) : Int64) else (if (lg_cmp x2 x3) = 0 then (100) else 0 : Int64))))))
def S_X6_operate (ht : Nat) (I : Nat → Int32) (A : Nat → Nat → Int32) (J : Nat → Nat → Int64) (it : Nat → Option Nat) (dyn : fsH) (x1 : Int32) (x2 : Int64) (x3 : Int64) : Prop := (((x1 = 42) → (S_X0_product ht I A J it dyn x2 x3)) ∧ (¬ (x1 = 42) → (¬ (x1 = 43) → (¬ (x1 = 45) → ((x1 = 47) → (S_X0_quotient ht I A J it dyn x2 x3))))))
set_option maxRecDepth 100000 in
set_option maxHeartbeats 4000000 in
theorem c_X6_operate (G : fsG) (l : Launch) (ht : Nat) (I : Nat → Int32) (A : Nat → Nat → Int32) (J : Nat → Nat → Int64) (it : Nat → Option Nat) (dyn : fsH) (x1 : Int32) (x2 : Int64) (x3 : Int64) (hS : S_X6_operate ht I A J it dyn x1 x2 x3) : fsFn G l mX6_operate 2 0 0 [.inl x1, .inr (.inl x2), .inr (.inl x3)] (fs_mk ht I A J it dyn) (some (.inr (.inl (L_X6_operate_r ht I A J it dyn x1 x2 x3)))) (fs_mk ht I A J it dyn) := by
  refine fsMet_of (by decide) (Nat.le_of_ble_eq_true rfl) ?_
  generalize hQ : (fun (r1 : Option fsV) (h1 : fsH) => r1 = (some (.inr (.inl (L_X6_operate_r ht I A J it dyn x1 x2 x3)))) ∧ h1 = (fs_mk ht I A J it dyn)) = Q
  have hq : Q (some (.inr (.inl (L_X6_operate_r ht I A J it dyn x1 x2 x3)))) (fs_mk ht I A J it dyn) := by rw [← hQ]; exact ⟨rfl, rfl⟩
  clear hQ
  have hq : Q (some (.inr (.inl (if x1 = 42 then (L_X0_product_r ht I A J it dyn x2 x3) else (if x1 = 43 then (L_X0_limited_r ht I A J it dyn (x2 + x3)) else (if x1 = 45 then (L_X0_limited_r ht I A J it dyn (x2 - x3)) else (if x1 = 47 then (L_X0_quotient_r ht I A J it dyn x2 x3) else (if x1 = 60 then (if 0 ≤ (lg_cmp x2 x3) then 0 else (100) : Int64) else (if (lg_cmp x2 x3) = 0 then (100) else 0 : Int64) : Int64) : Int64) : Int64) : Int64) : Int64)))) (fs_mk ht I A J it dyn) := hq
  have hS : (((x1 = 42) → (S_X0_product ht I A J it dyn x2 x3)) ∧ (¬ (x1 = 42) → (¬ (x1 = 43) → (¬ (x1 = 45) → ((x1 = 47) → (S_X0_quotient ht I A J it dyn x2 x3)))))) := hS
  refine (show fsW G l mX6_operate 2 0 0 0 0 Q 0 [(0, .inl x1), (1, .inr (.inl x2)), (3, .inr (.inl x3))] [] (fs_mk ht I A J it dyn) from ?_)
  refine fs_iload_n dX6_operate_0 rfl rfl ?_
  by_cases cs_1_0 : x1 = 42
  · have hS := hS.1 cs_1_0
    refine fs_lookup 66 dX6_operate_1 (by decide) (off := 65) (by rw [cs_1_0]; rfl) (by decide) ?_
    refine fs_lload_n dX6_operate_66 rfl rfl ?_
    refine fs_lload_n dX6_operate_67 rfl rfl ?_
    have ho1 := hS
    refine fs_callS1 dX6_operate_68 sv_X6_159 (c_X0_product G l ht I A J it dyn x2 x3 ho1) rfl rfl (Nat.le_of_ble_eq_true rfl) (Nat.le_of_ble_eq_true rfl) (Nat.le_of_ble_eq_true rfl) (Nat.le_of_ble_eq_true rfl) ?_
    have k9 := hq
    try simp only [if_pos cs_1_0] at k9 ⊢
    exact fs_lret dX6_operate_71 rfl k9
  · have hS := hS.2 cs_1_0
    by_cases cs_1_1 : x1 = 43
    · refine fs_lookup 52 dX6_operate_1 (by decide) (off := 51) (by rw [cs_1_1]; rfl) (by decide) ?_
      refine fs_lload_n dX6_operate_52 rfl rfl ?_
      refine fs_lload_n dX6_operate_53 rfl rfl ?_
      refine fs_ladd dX6_operate_54 ?_
      refine fs_callS1 dX6_operate_55 sv_X6_153 (c_X0_limited G l ht I A J it dyn (x2 + x3)) rfl rfl (Nat.le_of_ble_eq_true rfl) (Nat.le_of_ble_eq_true rfl) (Nat.le_of_ble_eq_true rfl) (Nat.le_of_ble_eq_true rfl) ?_
      have k9 := hq
      try simp only [if_neg cs_1_0, if_pos cs_1_1] at k9 ⊢
      exact fs_lret dX6_operate_58 rfl k9
    · have hS := hS cs_1_1
      by_cases cs_1_2 : x1 = 45
      · refine fs_lookup 59 dX6_operate_1 (by decide) (off := 58) (by rw [cs_1_2]; rfl) (by decide) ?_
        refine fs_lload_n dX6_operate_59 rfl rfl ?_
        refine fs_lload_n dX6_operate_60 rfl rfl ?_
        refine fs_lsub dX6_operate_61 ?_
        refine fs_callS1 dX6_operate_62 sv_X6_153 (c_X0_limited G l ht I A J it dyn (x2 - x3)) rfl rfl (Nat.le_of_ble_eq_true rfl) (Nat.le_of_ble_eq_true rfl) (Nat.le_of_ble_eq_true rfl) (Nat.le_of_ble_eq_true rfl) ?_
        have k9 := hq
        try simp only [if_neg cs_1_0, if_neg cs_1_1, if_pos cs_1_2] at k9 ⊢
        exact fs_lret dX6_operate_65 rfl k9
      · have hS := hS cs_1_2
        by_cases cs_1_3 : x1 = 47
        · have hS := hS cs_1_3
          refine fs_lookup 72 dX6_operate_1 (by decide) (off := 71) (by rw [cs_1_3]; rfl) (by decide) ?_
          refine fs_lload_n dX6_operate_72 rfl rfl ?_
          refine fs_lload_n dX6_operate_73 rfl rfl ?_
          have ho1 := hS
          refine fs_callS1 dX6_operate_74 sv_X6_163 (c_X0_quotient G l ht I A J it dyn x2 x3 ho1) rfl rfl (Nat.le_of_ble_eq_true rfl) (Nat.le_of_ble_eq_true rfl) (Nat.le_of_ble_eq_true rfl) (Nat.le_of_ble_eq_true rfl) ?_
          have k9 := hq
          try simp only [if_neg cs_1_0, if_neg cs_1_1, if_neg cs_1_2, if_pos cs_1_3] at k9 ⊢
          exact fs_lret dX6_operate_77 rfl k9
        · by_cases cs_1_4 : x1 = 60
          · refine fs_lookup 78 dX6_operate_1 (by decide) (off := 77) (by rw [cs_1_4]; rfl) (by decide) ?_
            refine fs_lload_n dX6_operate_78 rfl rfl ?_
            refine fs_lload_n dX6_operate_79 rfl rfl ?_
            refine fs_lcmp dX6_operate_80 ?_
            have key_91 : fsW G l mX6_operate 2 0 0 0 0 Q 91 [(0, .inl x1), (1, .inr (.inl x2)), (3, .inr (.inl x3))] [.inr (.inl (if 0 ≤ (lg_cmp x2 x3) then 0 else (100) : Int64))] (fs_mk ht I A J it dyn) := by
              have k9 := hq
              try simp only [if_neg cs_1_0, if_neg cs_1_1, if_neg cs_1_2, if_neg cs_1_3, if_pos cs_1_4] at k9 ⊢
              exact fs_lret dX6_operate_91 rfl k9
            refine fs_if_ge 90 dX6_operate_81 (by decide) (fun c_81 : 0 ≤ (lg_cmp x2 x3) => ?_) (fun c_81 : ¬ (0 ≤ (lg_cmp x2 x3)) => ?_)
            · refine fs_lconst (v := 0) dX6_operate_90 rfl ?_
              have k9 := key_91
              try simp only [if_neg cs_1_0, if_neg cs_1_1, if_neg cs_1_2, if_neg cs_1_3, if_pos cs_1_4, if_pos c_81] at k9 ⊢
              exact k9
            · refine fs_ldc2 (v := (100)) dX6_operate_84 sk_X6_166 ?_
              refine fs_goto 91 dX6_operate_87 (by decide) ?_
              have k9 := key_91
              try simp only [if_neg cs_1_0, if_neg cs_1_1, if_neg cs_1_2, if_neg cs_1_3, if_pos cs_1_4, if_neg c_81] at k9 ⊢
              exact k9
          · refine fs_lookup 92 dX6_operate_1 (by decide) (by show Op.lookupswitch.offset [(42, 65), (43, 51), (45, 58), (47, 71), (60, 77)] 91 x1.toInt = 91; rw [lv_osw (a := 42) cs_1_0 rfl, lv_osw (a := 43) cs_1_1 rfl, lv_osw (a := 45) cs_1_2 rfl, lv_osw (a := 47) cs_1_3 rfl, lv_osw (a := 60) cs_1_4 rfl]; rfl) (by decide) ?_
            refine fs_lload_n dX6_operate_92 rfl rfl ?_
            refine fs_lload_n dX6_operate_93 rfl rfl ?_
            refine fs_lcmp dX6_operate_94 ?_
            have key_105 : fsW G l mX6_operate 2 0 0 0 0 Q 105 [(0, .inl x1), (1, .inr (.inl x2)), (3, .inr (.inl x3))] [.inr (.inl (if (lg_cmp x2 x3) = 0 then (100) else 0 : Int64))] (fs_mk ht I A J it dyn) := by
              have k9 := hq
              try simp only [if_neg cs_1_0, if_neg cs_1_1, if_neg cs_1_2, if_neg cs_1_3, if_neg cs_1_4] at k9 ⊢
              exact fs_lret dX6_operate_105 rfl k9
            refine fs_if_ne 104 dX6_operate_95 (by decide) (fun c_95 : ¬ (lg_cmp x2 x3) = 0 => ?_) (fun c_95 : (lg_cmp x2 x3) = 0 => ?_)
            · refine fs_lconst (v := 0) dX6_operate_104 rfl ?_
              have k9 := key_105
              try simp only [if_neg cs_1_0, if_neg cs_1_1, if_neg cs_1_2, if_neg cs_1_3, if_neg cs_1_4, if_neg c_95] at k9 ⊢
              exact k9
            · refine fs_ldc2 (v := (100)) dX6_operate_98 sk_X6_166 ?_
              refine fs_goto 105 dX6_operate_101 (by decide) ?_
              have k9 := key_105
              try simp only [if_neg cs_1_0, if_neg cs_1_1, if_neg cs_1_2, if_neg cs_1_3, if_neg cs_1_4, if_pos c_95] at k9 ⊢
              exact k9
def Lb_X6_forgetRowsFrom_19_J : Nat → Nat → (Nat → Int32) → (Nat → Nat → Int32) → (Nat → Nat → Int64) → (Nat → Option Nat) → fsH → Int32 → Int32 → Int32 → (Nat → Nat → Int64)
  | 0, ht, I, A, J, it, dyn, v1, v2, v3 => J
  | n + 1, ht, I, A, J, it, dyn, v1, v2, v3 => (if 4 ≤ v3 then J else (if (L_X1_repeats_r ht I A J it dyn v2) = 0 then J else (Lb_X6_forgetRowsFrom_19_J n ht I A (va_up J 6 (vp_updL (J 6) (L_X7_cellOf_r ht I A J it dyn v2 v3).toNatClampNeg 0)) it dyn v1 v2 (v3 + 1))))
def Lb_X6_forgetRowsFrom_19_v3 : Nat → Nat → (Nat → Int32) → (Nat → Nat → Int32) → (Nat → Nat → Int64) → (Nat → Option Nat) → fsH → Int32 → Int32 → Int32 → Int32
  | 0, ht, I, A, J, it, dyn, v1, v2, v3 => v3
  | n + 1, ht, I, A, J, it, dyn, v1, v2, v3 => (if 4 ≤ v3 then v3 else (if (L_X1_repeats_r ht I A J it dyn v2) = 0 then v3 else (Lb_X6_forgetRowsFrom_19_v3 n ht I A (va_up J 6 (vp_updL (J 6) (L_X7_cellOf_r ht I A J it dyn v2 v3).toNatClampNeg 0)) it dyn v1 v2 (v3 + 1))))
def S_Lb_X6_forgetRowsFrom_19 : Nat → Nat → (Nat → Int32) → (Nat → Nat → Int32) → (Nat → Nat → Int64) → (Nat → Option Nat) → fsH → Int32 → Int32 → Int32 → Prop
  | 0, _, _, _, _, _, _, _, _, _ => False
  | n + 1, ht, I, A, J, it, dyn, v1, v2, v3 => (¬ (4 ≤ v3) → ((S_X1_repeats ht I A J it dyn v2) ∧ (¬ ((L_X1_repeats_r ht I A J it dyn v2) = 0) → ((vp_in (L_X7_cellOf_r ht I A J it dyn v2 v3) 64) ∧ (S_Lb_X6_forgetRowsFrom_19 n ht I A (va_up J 6 (vp_updL (J 6) (L_X7_cellOf_r ht I A J it dyn v2 v3).toNatClampNeg 0)) it dyn v1 v2 (v3 + 1))))))
set_option maxRecDepth 100000 in
set_option maxHeartbeats 4000000 in
theorem lp_Lb_X6_forgetRowsFrom_19 (G : fsG) (l : Launch) (Q : Option fsV → fsH → Prop) : ∀ (n : Nat) (ht : Nat) (I : Nat → Int32) (A : Nat → Nat → Int32) (J : Nat → Nat → Int64) (it : Nat → Option Nat) (dyn : fsH) (v1 : Int32) (v2 : Int32) (v3 : Int32), S_Lb_X6_forgetRowsFrom_19 n ht I A J it dyn v1 v2 v3 → (fsW G l mX6_forgetRowsFrom 1 0 0 0 0 Q 52 [(0, .inr (.inr (some 5))), (1, .inl v1), (2, .inl v2), (3, .inl (Lb_X6_forgetRowsFrom_19_v3 n ht I A J it dyn v1 v2 v3))] [] (fs_mk ht I A (Lb_X6_forgetRowsFrom_19_J n ht I A J it dyn v1 v2 v3) it dyn)) → fsW G l mX6_forgetRowsFrom 1 0 0 0 0 Q 19 [(0, .inr (.inr (some 5))), (1, .inl v1), (2, .inl v2), (3, .inl v3)] [] (fs_mk ht I A J it dyn) := by
  intro n
  induction n with
  | zero =>
    intro ht I A J it dyn v1 v2 v3 hS
    exact hS.elim
  | succ n ih =>
    intro ht I A J it dyn v1 v2 v3 hS hq
    have hS : (¬ (4 ≤ v3) → ((S_X1_repeats ht I A J it dyn v2) ∧ (¬ ((L_X1_repeats_r ht I A J it dyn v2) = 0) → ((vp_in (L_X7_cellOf_r ht I A J it dyn v2 v3) 64) ∧ (S_Lb_X6_forgetRowsFrom_19 n ht I A (va_up J 6 (vp_updL (J 6) (L_X7_cellOf_r ht I A J it dyn v2 v3).toNatClampNeg 0)) it dyn v1 v2 (v3 + 1)))))) := hS
    have hq : fsW G l mX6_forgetRowsFrom 1 0 0 0 0 Q 52 [(0, .inr (.inr (some 5))), (1, .inl v1), (2, .inl v2), (3, .inl (if 4 ≤ v3 then v3 else (if (L_X1_repeats_r ht I A J it dyn v2) = 0 then v3 else (Lb_X6_forgetRowsFrom_19_v3 n ht I A (va_up J 6 (vp_updL (J 6) (L_X7_cellOf_r ht I A J it dyn v2 v3).toNatClampNeg 0)) it dyn v1 v2 (v3 + 1)))))] [] (fs_mk ht I A (if 4 ≤ v3 then J else (if (L_X1_repeats_r ht I A J it dyn v2) = 0 then J else (Lb_X6_forgetRowsFrom_19_J n ht I A (va_up J 6 (vp_updL (J 6) (L_X7_cellOf_r ht I A J it dyn v2 v3).toNatClampNeg 0)) it dyn v1 v2 (v3 + 1)))) it dyn) := hq
    refine fs_iload_n dX6_forgetRowsFrom_19 rfl rfl ?_
    refine fs_iconst (v := 4) dX6_forgetRowsFrom_20 rfl ?_
    refine fs_icmp_ge 52 dX6_forgetRowsFrom_21 (by decide) (fun c_21 : 4 ≤ v3 => ?_) (fun c_21 : ¬ (4 ≤ v3) => ?_)
    · have k9 := hq
      try simp only [if_pos c_21] at k9 ⊢
      exact k9
    · have hS := hS c_21
      refine fs_aload_n dX6_forgetRowsFrom_24 rfl rfl ?_
      refine fs_getfield (v := .inr (.inr (some 3))) dX6_forgetRowsFrom_25 sf_X6_26 rfl rfl ?_
      refine fs_iload_n dX6_forgetRowsFrom_28 rfl rfl ?_
      obtain ⟨ho1, hS⟩ := hS
      refine fs_callV1 dX6_forgetRowsFrom_29 sv_X6_47 rfl ⟨_, rfl, rfl⟩ (c_X1_repeats G l ht I A J it dyn v2 ho1) rfl rfl (Nat.le_of_ble_eq_true rfl) (Nat.le_of_ble_eq_true rfl) (Nat.le_of_ble_eq_true rfl) (Nat.le_of_ble_eq_true rfl) ?_
      refine fs_if_eq 52 dX6_forgetRowsFrom_32 (by decide) (fun c_32 : (L_X1_repeats_r ht I A J it dyn v2) = 0 => ?_) (fun c_32 : ¬ ((L_X1_repeats_r ht I A J it dyn v2) = 0) => ?_)
      · have k9 := hq
        try simp only [if_neg c_21, if_pos c_32] at k9 ⊢
        exact k9
      · have hS := hS c_32
        refine fs_aload_n dX6_forgetRowsFrom_35 rfl rfl ?_
        refine fs_getfield (v := .inr (.inr (some 6))) dX6_forgetRowsFrom_36 sf_X6_9 rfl rfl ?_
        refine fs_iload_n dX6_forgetRowsFrom_39 rfl rfl ?_
        refine fs_iload_n dX6_forgetRowsFrom_40 rfl rfl ?_
        refine fs_callSN1 dX6_forgetRowsFrom_41 sv_X6_51 (c_X7_cellOf G l ht I A J it dyn v2 v3) rfl rfl (Nat.le_of_ble_eq_true rfl) (Nat.le_of_ble_eq_true rfl) (Nat.le_of_ble_eq_true rfl) (Nat.le_of_ble_eq_true rfl) ?_
        refine fs_lconst (v := 0) dX6_forgetRowsFrom_44 rfl ?_
        obtain ⟨ho1, hS⟩ := hS
        refine fss_6 dX6_forgetRowsFrom_45 ho1 ?_
        refine fs_iinc (v := (v3 + 1)) (L' := [(3, .inl (v3 + 1)), (0, .inr (.inr (some 5))), (1, .inl v1), (2, .inl v2)]) dX6_forgetRowsFrom_46 rfl rfl (by decide) rfl ?_
        refine fs_goto 19 dX6_forgetRowsFrom_49 (by decide) ?_
        refine fs_reL [1, 2, 3, 0] rfl ?_
        have k9 := hq
        try simp only [if_neg c_21, if_neg c_32] at hS k9 ⊢
        exact ih _ _ _ _ _ _ _ _ _ hS k9
def Lb_X6_forgetRowsFrom_2_J : Nat → Nat → (Nat → Int32) → (Nat → Nat → Int32) → (Nat → Nat → Int64) → (Nat → Option Nat) → fsH → Int32 → Int32 → (Nat → Nat → Int64)
  | 0, ht, I, A, J, it, dyn, v1, v2 => J
  | n + 1, ht, I, A, J, it, dyn, v1, v2 => (if (I 4) ≤ v2 then J else (Lb_X6_forgetRowsFrom_2_J n ht I A (Lb_X6_forgetRowsFrom_19_J 70 ht I A J it dyn v1 v2 (if v1 < 0 then 0 else v1)) it dyn v1 (v2 + 1)))
def Lb_X6_forgetRowsFrom_2_v2 : Nat → Nat → (Nat → Int32) → (Nat → Nat → Int32) → (Nat → Nat → Int64) → (Nat → Option Nat) → fsH → Int32 → Int32 → Int32
  | 0, ht, I, A, J, it, dyn, v1, v2 => v2
  | n + 1, ht, I, A, J, it, dyn, v1, v2 => (if (I 4) ≤ v2 then v2 else (Lb_X6_forgetRowsFrom_2_v2 n ht I A (Lb_X6_forgetRowsFrom_19_J 70 ht I A J it dyn v1 v2 (if v1 < 0 then 0 else v1)) it dyn v1 (v2 + 1)))
def S_Lb_X6_forgetRowsFrom_2 : Nat → Nat → (Nat → Int32) → (Nat → Nat → Int32) → (Nat → Nat → Int64) → (Nat → Option Nat) → fsH → Int32 → Int32 → Prop
  | 0, _, _, _, _, _, _, _, _ => False
  | n + 1, ht, I, A, J, it, dyn, v1, v2 => (¬ ((I 4) ≤ v2) → ((S_Lb_X6_forgetRowsFrom_19 70 ht I A J it dyn v1 v2 (if v1 < 0 then 0 else v1)) ∧ (S_Lb_X6_forgetRowsFrom_2 n ht I A (Lb_X6_forgetRowsFrom_19_J 70 ht I A J it dyn v1 v2 (if v1 < 0 then 0 else v1)) it dyn v1 (v2 + 1))))
set_option maxRecDepth 100000 in
set_option maxHeartbeats 4000000 in
theorem lp_Lb_X6_forgetRowsFrom_2 (G : fsG) (l : Launch) (Q : Option fsV → fsH → Prop) : ∀ (n : Nat) (ht : Nat) (I : Nat → Int32) (A : Nat → Nat → Int32) (J : Nat → Nat → Int64) (it : Nat → Option Nat) (dyn : fsH) (v1 : Int32) (v2 : Int32), S_Lb_X6_forgetRowsFrom_2 n ht I A J it dyn v1 v2 → (fsW G l mX6_forgetRowsFrom 1 0 0 0 0 Q 58 [(0, .inr (.inr (some 5))), (1, .inl v1), (2, .inl (Lb_X6_forgetRowsFrom_2_v2 n ht I A J it dyn v1 v2))] [] (fs_mk ht I A (Lb_X6_forgetRowsFrom_2_J n ht I A J it dyn v1 v2) it dyn)) → fsW G l mX6_forgetRowsFrom 1 0 0 0 0 Q 2 [(0, .inr (.inr (some 5))), (1, .inl v1), (2, .inl v2)] [] (fs_mk ht I A J it dyn) := by
  intro n
  induction n with
  | zero =>
    intro ht I A J it dyn v1 v2 hS
    exact hS.elim
  | succ n ih =>
    intro ht I A J it dyn v1 v2 hS hq
    have hS : (¬ ((I 4) ≤ v2) → ((S_Lb_X6_forgetRowsFrom_19 70 ht I A J it dyn v1 v2 (if v1 < 0 then 0 else v1)) ∧ (S_Lb_X6_forgetRowsFrom_2 n ht I A (Lb_X6_forgetRowsFrom_19_J 70 ht I A J it dyn v1 v2 (if v1 < 0 then 0 else v1)) it dyn v1 (v2 + 1)))) := hS
    have hq : fsW G l mX6_forgetRowsFrom 1 0 0 0 0 Q 58 [(0, .inr (.inr (some 5))), (1, .inl v1), (2, .inl (if (I 4) ≤ v2 then v2 else (Lb_X6_forgetRowsFrom_2_v2 n ht I A (Lb_X6_forgetRowsFrom_19_J 70 ht I A J it dyn v1 v2 (if v1 < 0 then 0 else v1)) it dyn v1 (v2 + 1))))] [] (fs_mk ht I A (if (I 4) ≤ v2 then J else (Lb_X6_forgetRowsFrom_2_J n ht I A (Lb_X6_forgetRowsFrom_19_J 70 ht I A J it dyn v1 v2 (if v1 < 0 then 0 else v1)) it dyn v1 (v2 + 1))) it dyn) := hq
    refine fs_iload_n dX6_forgetRowsFrom_2 rfl rfl ?_
    refine fs_aload_n dX6_forgetRowsFrom_3 rfl rfl ?_
    refine fs_getfield (v := .inr (.inr (some 3))) dX6_forgetRowsFrom_4 sf_X6_26 rfl rfl ?_
    refine fs_getfield (v := .inl (I 4)) dX6_forgetRowsFrom_7 sf_X6_36 rfl rfl ?_
    refine fs_icmp_ge 58 dX6_forgetRowsFrom_10 (by decide) (fun c_10 : (I 4) ≤ v2 => ?_) (fun c_10 : ¬ ((I 4) ≤ v2) => ?_)
    · have k9 := hq
      try simp only [if_pos c_10] at k9 ⊢
      exact k9
    · have hS := hS c_10
      refine fs_iload_n dX6_forgetRowsFrom_13 rfl rfl ?_
      refine fs_iconst (v := 0) dX6_forgetRowsFrom_14 rfl ?_
      refine fs_max dX6_forgetRowsFrom_15 sl_X6_41 w_ms_max w_mi w_mc_max (Nat.le_of_ble_eq_true rfl) (Nat.le_of_ble_eq_true rfl) (Nat.le_of_ble_eq_true rfl) (Nat.le_of_ble_eq_true rfl) ?_
      refine fs_istore_n (L' := [(3, .inl (if v1 < 0 then 0 else v1)), (0, .inr (.inr (some 5))), (1, .inl v1), (2, .inl v2)]) dX6_forgetRowsFrom_18 rfl (by decide) rfl ?_
      refine fs_reL [1, 2, 3, 0] rfl ?_
      obtain ⟨ho1, hS⟩ := hS
      refine lp_Lb_X6_forgetRowsFrom_19 G l Q 70 ht I A J it dyn v1 v2 (if v1 < 0 then 0 else v1) ho1 ?_
      refine fs_iinc (v := (v2 + 1)) (L' := [(2, .inl (v2 + 1)), (0, .inr (.inr (some 5))), (1, .inl v1), (3, .inl (Lb_X6_forgetRowsFrom_19_v3 70 ht I A J it dyn v1 v2 (if v1 < 0 then 0 else v1)))]) dX6_forgetRowsFrom_52 rfl rfl (by decide) rfl ?_
      refine fs_goto 2 dX6_forgetRowsFrom_55 (by decide) ?_
      refine fs_reL [1, 2, 0] rfl ?_
      have k9 := hq
      try simp only [if_neg c_10] at hS k9 ⊢
      exact ih _ _ _ _ _ _ _ _ hS k9
def L_X6_forgetRowsFrom_J (ht : Nat) (I : Nat → Int32) (A : Nat → Nat → Int32) (J : Nat → Nat → Int64) (it : Nat → Option Nat) (dyn : fsH) (x1 : Int32) : Nat → Nat → Int64 := (Lb_X6_forgetRowsFrom_2_J 70 ht I A J it dyn x1 0)
def S_X6_forgetRowsFrom (ht : Nat) (I : Nat → Int32) (A : Nat → Nat → Int32) (J : Nat → Nat → Int64) (it : Nat → Option Nat) (dyn : fsH) (x1 : Int32) : Prop := (S_Lb_X6_forgetRowsFrom_2 70 ht I A J it dyn x1 0)
set_option maxRecDepth 100000 in
set_option maxHeartbeats 4000000 in
theorem c_X6_forgetRowsFrom (G : fsG) (l : Launch) (ht : Nat) (I : Nat → Int32) (A : Nat → Nat → Int32) (J : Nat → Nat → Int64) (it : Nat → Option Nat) (dyn : fsH) (x1 : Int32) (hS : S_X6_forgetRowsFrom ht I A J it dyn x1) : fsFn G l mX6_forgetRowsFrom 1 0 0 [.inr (.inr (some 5)), .inl x1] (fs_mk ht I A J it dyn) none (fs_mk ht I A (L_X6_forgetRowsFrom_J ht I A J it dyn x1) it dyn) := by
  refine fsMet_of (by decide) (Nat.le_of_ble_eq_true rfl) ?_
  generalize hQ : (fun (r1 : Option fsV) (h1 : fsH) => r1 = none ∧ h1 = (fs_mk ht I A (L_X6_forgetRowsFrom_J ht I A J it dyn x1) it dyn)) = Q
  have hq : Q none (fs_mk ht I A (L_X6_forgetRowsFrom_J ht I A J it dyn x1) it dyn) := by rw [← hQ]; exact ⟨rfl, rfl⟩
  clear hQ
  have hq : Q none (fs_mk ht I A (Lb_X6_forgetRowsFrom_2_J 70 ht I A J it dyn x1 0) it dyn) := hq
  have hS : (S_Lb_X6_forgetRowsFrom_2 70 ht I A J it dyn x1 0) := hS
  refine (show fsW G l mX6_forgetRowsFrom 1 0 0 0 0 Q 0 [(0, .inr (.inr (some 5))), (1, .inl x1)] [] (fs_mk ht I A J it dyn) from ?_)
  refine fs_iconst (v := 0) dX6_forgetRowsFrom_0 rfl ?_
  refine fs_istore_n (L' := [(2, .inl 0), (0, .inr (.inr (some 5))), (1, .inl x1)]) dX6_forgetRowsFrom_1 rfl (by decide) rfl ?_
  refine fs_reL [1, 2, 0] rfl ?_
  have ho1 := hS
  refine lp_Lb_X6_forgetRowsFrom_2 G l Q 70 ht I A J it dyn x1 0 ho1 ?_
  have k9 := hq
  exact fs_ret dX6_forgetRowsFrom_58 rfl k9
def L_X6_outcomeOf_r (ht : Nat) (I : Nat → Int32) (A : Nat → Nat → Int32) (J : Nat → Nat → Int64) (it : Nat → Option Nat) (dyn : fsH) (x1 : Int32) (x2 : Int32) : Int64 := (if (L_X1_has_r ht I A J it dyn x1 x2) = 0 then 0 else (J 6 (L_X7_cellOf_r ht I A J it dyn x1 x2).toNatClampNeg) : Int64)
def S_X6_outcomeOf (ht : Nat) (I : Nat → Int32) (A : Nat → Nat → Int32) (J : Nat → Nat → Int64) (it : Nat → Option Nat) (dyn : fsH) (x1 : Int32) (x2 : Int32) : Prop := ((S_X1_has ht I A J it dyn x1 x2) ∧ (¬ ((L_X1_has_r ht I A J it dyn x1 x2) = 0) → (vp_in (L_X7_cellOf_r ht I A J it dyn x1 x2) 64)))
set_option maxRecDepth 100000 in
set_option maxHeartbeats 4000000 in
theorem c_X6_outcomeOf (G : fsG) (l : Launch) (ht : Nat) (I : Nat → Int32) (A : Nat → Nat → Int32) (J : Nat → Nat → Int64) (it : Nat → Option Nat) (dyn : fsH) (x1 : Int32) (x2 : Int32) (hS : S_X6_outcomeOf ht I A J it dyn x1 x2) : fsFn G l mX6_outcomeOf 2 0 0 [.inr (.inr (some 5)), .inl x1, .inl x2] (fs_mk ht I A J it dyn) (some (.inr (.inl (L_X6_outcomeOf_r ht I A J it dyn x1 x2)))) (fs_mk ht I A J it dyn) := by
  refine fsMet_of (by decide) (Nat.le_of_ble_eq_true rfl) ?_
  generalize hQ : (fun (r1 : Option fsV) (h1 : fsH) => r1 = (some (.inr (.inl (L_X6_outcomeOf_r ht I A J it dyn x1 x2)))) ∧ h1 = (fs_mk ht I A J it dyn)) = Q
  have hq : Q (some (.inr (.inl (L_X6_outcomeOf_r ht I A J it dyn x1 x2)))) (fs_mk ht I A J it dyn) := by rw [← hQ]; exact ⟨rfl, rfl⟩
  clear hQ
  have hq : Q (some (.inr (.inl (if (L_X1_has_r ht I A J it dyn x1 x2) = 0 then 0 else (J 6 (L_X7_cellOf_r ht I A J it dyn x1 x2).toNatClampNeg) : Int64)))) (fs_mk ht I A J it dyn) := hq
  have hS : ((S_X1_has ht I A J it dyn x1 x2) ∧ (¬ ((L_X1_has_r ht I A J it dyn x1 x2) = 0) → (vp_in (L_X7_cellOf_r ht I A J it dyn x1 x2) 64))) := hS
  refine (show fsW G l mX6_outcomeOf 2 0 0 0 0 Q 0 [(0, .inr (.inr (some 5))), (1, .inl x1), (2, .inl x2)] [] (fs_mk ht I A J it dyn) from ?_)
  refine fs_aload_n dX6_outcomeOf_0 rfl rfl ?_
  refine fs_getfield (v := .inr (.inr (some 3))) dX6_outcomeOf_1 sf_X6_26 rfl rfl ?_
  refine fs_iload_n dX6_outcomeOf_4 rfl rfl ?_
  refine fs_iload_n dX6_outcomeOf_5 rfl rfl ?_
  obtain ⟨ho1, hS⟩ := hS
  refine fs_callV1 dX6_outcomeOf_6 sv_X6_54 rfl ⟨_, rfl, rfl⟩ (c_X1_has G l ht I A J it dyn x1 x2 ho1) rfl rfl (Nat.le_of_ble_eq_true rfl) (Nat.le_of_ble_eq_true rfl) (Nat.le_of_ble_eq_true rfl) (Nat.le_of_ble_eq_true rfl) ?_
  have hR_9 := hS
  have key_26 : fsW G l mX6_outcomeOf 2 0 0 0 0 Q 26 [(0, .inr (.inr (some 5))), (1, .inl x1), (2, .inl x2)] [.inr (.inl (if (L_X1_has_r ht I A J it dyn x1 x2) = 0 then 0 else (J 6 (L_X7_cellOf_r ht I A J it dyn x1 x2).toNatClampNeg) : Int64))] (fs_mk ht I A J it dyn) := by
    have k9 := hq
    exact fs_lret dX6_outcomeOf_26 rfl k9
  refine fs_if_eq 25 dX6_outcomeOf_9 (by decide) (fun c_9 : (L_X1_has_r ht I A J it dyn x1 x2) = 0 => ?_) (fun c_9 : ¬ ((L_X1_has_r ht I A J it dyn x1 x2) = 0) => ?_)
  · refine fs_lconst (v := 0) dX6_outcomeOf_25 rfl ?_
    have k9 := key_26
    try simp only [if_pos c_9] at k9 ⊢
    exact k9
  · have hS := hR_9 c_9
    refine fs_aload_n dX6_outcomeOf_12 rfl rfl ?_
    refine fs_getfield (v := .inr (.inr (some 6))) dX6_outcomeOf_13 sf_X6_9 rfl rfl ?_
    refine fs_iload_n dX6_outcomeOf_16 rfl rfl ?_
    refine fs_iload_n dX6_outcomeOf_17 rfl rfl ?_
    refine fs_callSN1 dX6_outcomeOf_18 sv_X6_51 (c_X7_cellOf G l ht I A J it dyn x1 x2) rfl rfl (Nat.le_of_ble_eq_true rfl) (Nat.le_of_ble_eq_true rfl) (Nat.le_of_ble_eq_true rfl) (Nat.le_of_ble_eq_true rfl) ?_
    have ho1 := hS
    refine fs_laload dX6_outcomeOf_21 rfl ho1 ?_
    refine fs_goto 26 dX6_outcomeOf_22 (by decide) ?_
    have k9 := key_26
    try simp only [if_neg c_9] at k9 ⊢
    exact k9
def L_X6_fails_r (ht : Nat) (I : Nat → Int32) (A : Nat → Nat → Int32) (J : Nat → Nat → Int64) (it : Nat → Option Nat) (dyn : fsH) (x1 : Int32) (x2 : Int32) : Int32 := (if (L_X1_isCheck_r ht I A J it dyn x1) = 0 then 0 else (if (lg_cmp (L_X6_outcomeOf_r ht I A J it dyn x1 x2) 0) = 0 then 1 else (if (L_X7_isFault_r ht I A J it dyn (L_X6_outcomeOf_r ht I A J it dyn x1 x2)) = 0 then 0 else 1 : Int32) : Int32))
def S_X6_fails (ht : Nat) (I : Nat → Int32) (A : Nat → Nat → Int32) (J : Nat → Nat → Int64) (it : Nat → Option Nat) (dyn : fsH) (x1 : Int32) (x2 : Int32) : Prop := ((S_X1_isCheck ht I A J it dyn x1) ∧ (¬ ((L_X1_isCheck_r ht I A J it dyn x1) = 0) → (S_X6_outcomeOf ht I A J it dyn x1 x2)))
set_option maxRecDepth 100000 in
set_option maxHeartbeats 4000000 in
theorem c_X6_fails (G : fsG) (l : Launch) (ht : Nat) (I : Nat → Int32) (A : Nat → Nat → Int32) (J : Nat → Nat → Int64) (it : Nat → Option Nat) (dyn : fsH) (x1 : Int32) (x2 : Int32) (hS : S_X6_fails ht I A J it dyn x1 x2) : fsFn G l mX6_fails 3 0 0 [.inr (.inr (some 5)), .inl x1, .inl x2] (fs_mk ht I A J it dyn) (some (.inl (L_X6_fails_r ht I A J it dyn x1 x2))) (fs_mk ht I A J it dyn) := by
  refine fsMet_of (by decide) (Nat.le_of_ble_eq_true rfl) ?_
  generalize hQ : (fun (r1 : Option fsV) (h1 : fsH) => r1 = (some (.inl (L_X6_fails_r ht I A J it dyn x1 x2))) ∧ h1 = (fs_mk ht I A J it dyn)) = Q
  have hq : Q (some (.inl (L_X6_fails_r ht I A J it dyn x1 x2))) (fs_mk ht I A J it dyn) := by rw [← hQ]; exact ⟨rfl, rfl⟩
  clear hQ
  have hq : Q (some (.inl (if (L_X1_isCheck_r ht I A J it dyn x1) = 0 then 0 else (if (lg_cmp (L_X6_outcomeOf_r ht I A J it dyn x1 x2) 0) = 0 then 1 else (if (L_X7_isFault_r ht I A J it dyn (L_X6_outcomeOf_r ht I A J it dyn x1 x2)) = 0 then 0 else 1 : Int32) : Int32) : Int32))) (fs_mk ht I A J it dyn) := hq
  have hS : ((S_X1_isCheck ht I A J it dyn x1) ∧ (¬ ((L_X1_isCheck_r ht I A J it dyn x1) = 0) → (S_X6_outcomeOf ht I A J it dyn x1 x2))) := hS
  refine (show fsW G l mX6_fails 3 0 0 0 0 Q 0 [(0, .inr (.inr (some 5))), (1, .inl x1), (2, .inl x2)] [] (fs_mk ht I A J it dyn) from ?_)
  refine fs_aload_n dX6_fails_0 rfl rfl ?_
  refine fs_getfield (v := .inr (.inr (some 3))) dX6_fails_1 sf_X6_26 rfl rfl ?_
  refine fs_iload_n dX6_fails_4 rfl rfl ?_
  obtain ⟨ho1, hS⟩ := hS
  refine fs_callV1 dX6_fails_5 sv_X6_58 rfl ⟨_, rfl, rfl⟩ (c_X1_isCheck G l ht I A J it dyn x1 ho1) rfl rfl (Nat.le_of_ble_eq_true rfl) (Nat.le_of_ble_eq_true rfl) (Nat.le_of_ble_eq_true rfl) (Nat.le_of_ble_eq_true rfl) ?_
  refine fs_if_ne 13 dX6_fails_8 (by decide) (fun c_8 : ¬ (L_X1_isCheck_r ht I A J it dyn x1) = 0 => ?_) (fun c_8 : (L_X1_isCheck_r ht I A J it dyn x1) = 0 => ?_)
  · have hS := hS c_8
    refine fs_aload_n dX6_fails_13 rfl rfl ?_
    refine fs_iload_n dX6_fails_14 rfl rfl ?_
    refine fs_iload_n dX6_fails_15 rfl rfl ?_
    have ho1 := hS
    refine fs_callV1 dX6_fails_16 sv_X6_61 rfl ⟨_, rfl, rfl⟩ (c_X6_outcomeOf G l ht I A J it dyn x1 x2 ho1) rfl rfl (Nat.le_of_ble_eq_true rfl) (Nat.le_of_ble_eq_true rfl) (Nat.le_of_ble_eq_true rfl) (Nat.le_of_ble_eq_true rfl) ?_
    refine fs_lstore_n (L' := [(3, .inr (.inl (L_X6_outcomeOf_r ht I A J it dyn x1 x2))), (0, .inr (.inr (some 5))), (1, .inl x1), (2, .inl x2)]) dX6_fails_19 rfl (by decide) rfl ?_
    refine fs_lload_n dX6_fails_20 rfl rfl ?_
    refine fs_lconst (v := 0) dX6_fails_21 rfl ?_
    refine fs_lcmp dX6_fails_22 ?_
    have key_38 : fsW G l mX6_fails 3 0 0 0 0 Q 38 [(0, .inr (.inr (some 5))), (1, .inl x1), (2, .inl x2), (3, .inr (.inl (L_X6_outcomeOf_r ht I A J it dyn x1 x2)))] [.inl (if (lg_cmp (L_X6_outcomeOf_r ht I A J it dyn x1 x2) 0) = 0 then 1 else (if (L_X7_isFault_r ht I A J it dyn (L_X6_outcomeOf_r ht I A J it dyn x1 x2)) = 0 then 0 else 1 : Int32) : Int32)] (fs_mk ht I A J it dyn) := by
      have k9 := hq
      try simp only [if_neg c_8] at k9 ⊢
      exact fs_iret dX6_fails_38 rfl (by (repeat' split) <;> first | rfl) k9
    refine fs_if_eq 33 dX6_fails_23 (by decide) (fun c_23 : (lg_cmp (L_X6_outcomeOf_r ht I A J it dyn x1 x2) 0) = 0 => ?_) (fun c_23 : ¬ ((lg_cmp (L_X6_outcomeOf_r ht I A J it dyn x1 x2) 0) = 0) => ?_)
    · refine fs_iconst (v := 1) dX6_fails_33 rfl ?_
      refine fs_goto 38 dX6_fails_34 (by decide) ?_
      refine fs_reL [1, 2, 3, 0] rfl ?_
      have k9 := key_38
      try simp only [if_neg c_8, if_pos c_23] at k9 ⊢
      exact k9
    · refine fs_lload_n dX6_fails_26 rfl rfl ?_
      refine fs_callSN1 dX6_fails_27 sv_X6_65 (c_X7_isFault G l ht I A J it dyn (L_X6_outcomeOf_r ht I A J it dyn x1 x2)) rfl rfl (Nat.le_of_ble_eq_true rfl) (Nat.le_of_ble_eq_true rfl) (Nat.le_of_ble_eq_true rfl) (Nat.le_of_ble_eq_true rfl) ?_
      refine fs_if_eq 37 dX6_fails_30 (by decide) (fun c_30 : (L_X7_isFault_r ht I A J it dyn (L_X6_outcomeOf_r ht I A J it dyn x1 x2)) = 0 => ?_) (fun c_30 : ¬ ((L_X7_isFault_r ht I A J it dyn (L_X6_outcomeOf_r ht I A J it dyn x1 x2)) = 0) => ?_)
      · refine fs_iconst (v := 0) dX6_fails_37 rfl ?_
        refine fs_reL [1, 2, 3, 0] rfl ?_
        have k9 := key_38
        try simp only [if_neg c_8, if_neg c_23, if_pos c_30] at k9 ⊢
        exact k9
      · refine fs_iconst (v := 1) dX6_fails_33 rfl ?_
        refine fs_goto 38 dX6_fails_34 (by decide) ?_
        refine fs_reL [1, 2, 3, 0] rfl ?_
        have k9 := key_38
        try simp only [if_neg c_8, if_neg c_23, if_neg c_30] at k9 ⊢
        exact k9
  · refine fs_iconst (v := 0) dX6_fails_11 rfl ?_
    have k9 := hq
    try simp only [if_pos c_8] at k9 ⊢
    exact fs_iret dX6_fails_12 rfl rfl k9
theorem nb_X6_fails (ht : Nat) (I : Nat → Int32) (A : Nat → Nat → Int32) (J : Nat → Nat → Int64) (it : Nat → Option Nat) (dyn : fsH) (x1 : Int32) (x2 : Int32) : narrow .boolean (.int (L_X6_fails_r ht I A J it dyn x1 x2)) = .int (L_X6_fails_r ht I A J it dyn x1 x2) := by
  unfold L_X6_fails_r
  exact (by (repeat' split) <;> first | rfl)
def Lb_X6_faultCount_17_v1 : Nat → Nat → (Nat → Int32) → (Nat → Nat → Int32) → (Nat → Nat → Int64) → (Nat → Option Nat) → fsH → Int32 → Int32 → Int32 → Int32
  | 0, ht, I, A, J, it, dyn, v1, v2, v3 => v1
  | n + 1, ht, I, A, J, it, dyn, v1, v2, v3 => (if (L_X1_rowsOf_r ht I A J it dyn v2) ≤ v3 then v1 else (if (L_X1_isField_r ht I A J it dyn v2) = 0 then v1 else (Lb_X6_faultCount_17_v1 n ht I A J it dyn (if (L_X7_isFault_r ht I A J it dyn (L_X6_outcomeOf_r ht I A J it dyn v2 v3)) = 0 then v1 else (v1 + 1) : Int32) v2 (v3 + 1))))
def Lb_X6_faultCount_17_v3 : Nat → Nat → (Nat → Int32) → (Nat → Nat → Int32) → (Nat → Nat → Int64) → (Nat → Option Nat) → fsH → Int32 → Int32 → Int32 → Int32
  | 0, ht, I, A, J, it, dyn, v1, v2, v3 => v3
  | n + 1, ht, I, A, J, it, dyn, v1, v2, v3 => (if (L_X1_rowsOf_r ht I A J it dyn v2) ≤ v3 then v3 else (if (L_X1_isField_r ht I A J it dyn v2) = 0 then v3 else (Lb_X6_faultCount_17_v3 n ht I A J it dyn (if (L_X7_isFault_r ht I A J it dyn (L_X6_outcomeOf_r ht I A J it dyn v2 v3)) = 0 then v1 else (v1 + 1) : Int32) v2 (v3 + 1))))
def S_Lb_X6_faultCount_17 : Nat → Nat → (Nat → Int32) → (Nat → Nat → Int32) → (Nat → Nat → Int64) → (Nat → Option Nat) → fsH → Int32 → Int32 → Int32 → Prop
  | 0, _, _, _, _, _, _, _, _, _ => False
  | n + 1, ht, I, A, J, it, dyn, v1, v2, v3 => ((S_X1_rowsOf ht I A J it dyn v2) ∧ (¬ ((L_X1_rowsOf_r ht I A J it dyn v2) ≤ v3) → ((S_X1_isField ht I A J it dyn v2) ∧ (¬ ((L_X1_isField_r ht I A J it dyn v2) = 0) → ((S_X6_outcomeOf ht I A J it dyn v2 v3) ∧ (S_Lb_X6_faultCount_17 n ht I A J it dyn (if (L_X7_isFault_r ht I A J it dyn (L_X6_outcomeOf_r ht I A J it dyn v2 v3)) = 0 then v1 else (v1 + 1) : Int32) v2 (v3 + 1)))))))
set_option maxRecDepth 100000 in
set_option maxHeartbeats 4000000 in
theorem lp_Lb_X6_faultCount_17 (G : fsG) (l : Launch) (Q : Option fsV → fsH → Prop) : ∀ (n : Nat) (ht : Nat) (I : Nat → Int32) (A : Nat → Nat → Int32) (J : Nat → Nat → Int64) (it : Nat → Option Nat) (dyn : fsH) (v1 : Int32) (v2 : Int32) (v3 : Int32), S_Lb_X6_faultCount_17 n ht I A J it dyn v1 v2 v3 → (fsW G l mX6_faultCount 3 0 0 0 0 Q 61 [(0, .inr (.inr (some 5))), (1, .inl (Lb_X6_faultCount_17_v1 n ht I A J it dyn v1 v2 v3)), (2, .inl v2), (3, .inl (Lb_X6_faultCount_17_v3 n ht I A J it dyn v1 v2 v3))] [] (fs_mk ht I A J it dyn)) → fsW G l mX6_faultCount 3 0 0 0 0 Q 17 [(0, .inr (.inr (some 5))), (1, .inl v1), (2, .inl v2), (3, .inl v3)] [] (fs_mk ht I A J it dyn) := by
  intro n
  induction n with
  | zero =>
    intro ht I A J it dyn v1 v2 v3 hS
    exact hS.elim
  | succ n ih =>
    intro ht I A J it dyn v1 v2 v3 hS hq
    have hS : ((S_X1_rowsOf ht I A J it dyn v2) ∧ (¬ ((L_X1_rowsOf_r ht I A J it dyn v2) ≤ v3) → ((S_X1_isField ht I A J it dyn v2) ∧ (¬ ((L_X1_isField_r ht I A J it dyn v2) = 0) → ((S_X6_outcomeOf ht I A J it dyn v2 v3) ∧ (S_Lb_X6_faultCount_17 n ht I A J it dyn (if (L_X7_isFault_r ht I A J it dyn (L_X6_outcomeOf_r ht I A J it dyn v2 v3)) = 0 then v1 else (v1 + 1) : Int32) v2 (v3 + 1))))))) := hS
    have hq : fsW G l mX6_faultCount 3 0 0 0 0 Q 61 [(0, .inr (.inr (some 5))), (1, .inl (if (L_X1_rowsOf_r ht I A J it dyn v2) ≤ v3 then v1 else (if (L_X1_isField_r ht I A J it dyn v2) = 0 then v1 else (Lb_X6_faultCount_17_v1 n ht I A J it dyn (if (L_X7_isFault_r ht I A J it dyn (L_X6_outcomeOf_r ht I A J it dyn v2 v3)) = 0 then v1 else (v1 + 1) : Int32) v2 (v3 + 1))))), (2, .inl v2), (3, .inl (if (L_X1_rowsOf_r ht I A J it dyn v2) ≤ v3 then v3 else (if (L_X1_isField_r ht I A J it dyn v2) = 0 then v3 else (Lb_X6_faultCount_17_v3 n ht I A J it dyn (if (L_X7_isFault_r ht I A J it dyn (L_X6_outcomeOf_r ht I A J it dyn v2 v3)) = 0 then v1 else (v1 + 1) : Int32) v2 (v3 + 1)))))] [] (fs_mk ht I A J it dyn) := hq
    refine fs_iload_n dX6_faultCount_17 rfl rfl ?_
    refine fs_aload_n dX6_faultCount_18 rfl rfl ?_
    refine fs_getfield (v := .inr (.inr (some 3))) dX6_faultCount_19 sf_X6_26 rfl rfl ?_
    refine fs_iload_n dX6_faultCount_22 rfl rfl ?_
    obtain ⟨ho1, hS⟩ := hS
    refine fs_callV1 dX6_faultCount_23 sv_X6_69 rfl ⟨_, rfl, rfl⟩ (c_X1_rowsOf G l ht I A J it dyn v2 ho1) rfl rfl (Nat.le_of_ble_eq_true rfl) (Nat.le_of_ble_eq_true rfl) (Nat.le_of_ble_eq_true rfl) (Nat.le_of_ble_eq_true rfl) ?_
    refine fs_icmp_ge 61 dX6_faultCount_26 (by decide) (fun c_26 : (L_X1_rowsOf_r ht I A J it dyn v2) ≤ v3 => ?_) (fun c_26 : ¬ ((L_X1_rowsOf_r ht I A J it dyn v2) ≤ v3) => ?_)
    · have k9 := hq
      try simp only [if_pos c_26] at k9 ⊢
      exact k9
    · have hS := hS c_26
      refine fs_aload_n dX6_faultCount_29 rfl rfl ?_
      refine fs_getfield (v := .inr (.inr (some 3))) dX6_faultCount_30 sf_X6_26 rfl rfl ?_
      refine fs_iload_n dX6_faultCount_33 rfl rfl ?_
      obtain ⟨ho1, hS⟩ := hS
      refine fs_callV1 dX6_faultCount_34 sv_X6_73 rfl ⟨_, rfl, rfl⟩ (c_X1_isField G l ht I A J it dyn v2 ho1) rfl rfl (Nat.le_of_ble_eq_true rfl) (Nat.le_of_ble_eq_true rfl) (Nat.le_of_ble_eq_true rfl) (Nat.le_of_ble_eq_true rfl) ?_
      refine fs_if_eq 61 dX6_faultCount_37 (by decide) (fun c_37 : (L_X1_isField_r ht I A J it dyn v2) = 0 => ?_) (fun c_37 : ¬ ((L_X1_isField_r ht I A J it dyn v2) = 0) => ?_)
      · have k9 := hq
        try simp only [if_neg c_26, if_pos c_37] at k9 ⊢
        exact k9
      · have hS := hS c_37
        refine fs_aload_n dX6_faultCount_40 rfl rfl ?_
        refine fs_iload_n dX6_faultCount_41 rfl rfl ?_
        refine fs_iload_n dX6_faultCount_42 rfl rfl ?_
        obtain ⟨ho1, hS⟩ := hS
        refine fs_callV1 dX6_faultCount_43 sv_X6_61 rfl ⟨_, rfl, rfl⟩ (c_X6_outcomeOf G l ht I A J it dyn v2 v3 ho1) rfl rfl (Nat.le_of_ble_eq_true rfl) (Nat.le_of_ble_eq_true rfl) (Nat.le_of_ble_eq_true rfl) (Nat.le_of_ble_eq_true rfl) ?_
        refine fs_callSN1 dX6_faultCount_46 sv_X6_65 (c_X7_isFault G l ht I A J it dyn (L_X6_outcomeOf_r ht I A J it dyn v2 v3)) rfl rfl (Nat.le_of_ble_eq_true rfl) (Nat.le_of_ble_eq_true rfl) (Nat.le_of_ble_eq_true rfl) (Nat.le_of_ble_eq_true rfl) ?_
        have key_55 : fsW G l mX6_faultCount 3 0 0 0 0 Q 55 [(0, .inr (.inr (some 5))), (1, .inl (if (L_X7_isFault_r ht I A J it dyn (L_X6_outcomeOf_r ht I A J it dyn v2 v3)) = 0 then v1 else (v1 + 1) : Int32)), (2, .inl v2), (3, .inl v3)] [] (fs_mk ht I A J it dyn) := by
          refine fs_iinc (v := (v3 + 1)) (L' := [(3, .inl (v3 + 1)), (0, .inr (.inr (some 5))), (1, .inl (if (L_X7_isFault_r ht I A J it dyn (L_X6_outcomeOf_r ht I A J it dyn v2 v3)) = 0 then v1 else (v1 + 1) : Int32)), (2, .inl v2)]) dX6_faultCount_55 rfl rfl (by decide) rfl ?_
          refine fs_goto 17 dX6_faultCount_58 (by decide) ?_
          refine fs_reL [1, 2, 3, 0] rfl ?_
          have k9 := hq
          try simp only [if_neg c_26, if_neg c_37] at hS k9 ⊢
          exact ih _ _ _ _ _ _ _ _ _ hS k9
        refine fs_if_eq 55 dX6_faultCount_49 (by decide) (fun c_49 : (L_X7_isFault_r ht I A J it dyn (L_X6_outcomeOf_r ht I A J it dyn v2 v3)) = 0 => ?_) (fun c_49 : ¬ ((L_X7_isFault_r ht I A J it dyn (L_X6_outcomeOf_r ht I A J it dyn v2 v3)) = 0) => ?_)
        · have k9 := key_55
          try simp only [if_neg c_26, if_neg c_37, if_pos c_49] at k9 ⊢
          exact k9
        · refine fs_iinc (v := (v1 + 1)) (L' := [(1, .inl (v1 + 1)), (0, .inr (.inr (some 5))), (2, .inl v2), (3, .inl v3)]) dX6_faultCount_52 rfl rfl (by decide) rfl ?_
          refine fs_reL [1, 0, 2, 3] rfl ?_
          have k9 := key_55
          try simp only [if_neg c_26, if_neg c_37, if_neg c_49] at k9 ⊢
          exact k9
def Lb_X6_faultCount_4_v1 : Nat → Nat → (Nat → Int32) → (Nat → Nat → Int32) → (Nat → Nat → Int64) → (Nat → Option Nat) → fsH → Int32 → Int32 → Int32
  | 0, ht, I, A, J, it, dyn, v1, v2 => v1
  | n + 1, ht, I, A, J, it, dyn, v1, v2 => (if (I 4) ≤ v2 then v1 else (Lb_X6_faultCount_4_v1 n ht I A J it dyn (Lb_X6_faultCount_17_v1 70 ht I A J it dyn v1 v2 0) (v2 + 1)))
def Lb_X6_faultCount_4_v2 : Nat → Nat → (Nat → Int32) → (Nat → Nat → Int32) → (Nat → Nat → Int64) → (Nat → Option Nat) → fsH → Int32 → Int32 → Int32
  | 0, ht, I, A, J, it, dyn, v1, v2 => v2
  | n + 1, ht, I, A, J, it, dyn, v1, v2 => (if (I 4) ≤ v2 then v2 else (Lb_X6_faultCount_4_v2 n ht I A J it dyn (Lb_X6_faultCount_17_v1 70 ht I A J it dyn v1 v2 0) (v2 + 1)))
def S_Lb_X6_faultCount_4 : Nat → Nat → (Nat → Int32) → (Nat → Nat → Int32) → (Nat → Nat → Int64) → (Nat → Option Nat) → fsH → Int32 → Int32 → Prop
  | 0, _, _, _, _, _, _, _, _ => False
  | n + 1, ht, I, A, J, it, dyn, v1, v2 => (¬ ((I 4) ≤ v2) → ((S_Lb_X6_faultCount_17 70 ht I A J it dyn v1 v2 0) ∧ (S_Lb_X6_faultCount_4 n ht I A J it dyn (Lb_X6_faultCount_17_v1 70 ht I A J it dyn v1 v2 0) (v2 + 1))))
set_option maxRecDepth 100000 in
set_option maxHeartbeats 4000000 in
theorem lp_Lb_X6_faultCount_4 (G : fsG) (l : Launch) (Q : Option fsV → fsH → Prop) : ∀ (n : Nat) (ht : Nat) (I : Nat → Int32) (A : Nat → Nat → Int32) (J : Nat → Nat → Int64) (it : Nat → Option Nat) (dyn : fsH) (v1 : Int32) (v2 : Int32), S_Lb_X6_faultCount_4 n ht I A J it dyn v1 v2 → (fsW G l mX6_faultCount 3 0 0 0 0 Q 67 [(0, .inr (.inr (some 5))), (1, .inl (Lb_X6_faultCount_4_v1 n ht I A J it dyn v1 v2)), (2, .inl (Lb_X6_faultCount_4_v2 n ht I A J it dyn v1 v2))] [] (fs_mk ht I A J it dyn)) → fsW G l mX6_faultCount 3 0 0 0 0 Q 4 [(0, .inr (.inr (some 5))), (1, .inl v1), (2, .inl v2)] [] (fs_mk ht I A J it dyn) := by
  intro n
  induction n with
  | zero =>
    intro ht I A J it dyn v1 v2 hS
    exact hS.elim
  | succ n ih =>
    intro ht I A J it dyn v1 v2 hS hq
    have hS : (¬ ((I 4) ≤ v2) → ((S_Lb_X6_faultCount_17 70 ht I A J it dyn v1 v2 0) ∧ (S_Lb_X6_faultCount_4 n ht I A J it dyn (Lb_X6_faultCount_17_v1 70 ht I A J it dyn v1 v2 0) (v2 + 1)))) := hS
    have hq : fsW G l mX6_faultCount 3 0 0 0 0 Q 67 [(0, .inr (.inr (some 5))), (1, .inl (if (I 4) ≤ v2 then v1 else (Lb_X6_faultCount_4_v1 n ht I A J it dyn (Lb_X6_faultCount_17_v1 70 ht I A J it dyn v1 v2 0) (v2 + 1)))), (2, .inl (if (I 4) ≤ v2 then v2 else (Lb_X6_faultCount_4_v2 n ht I A J it dyn (Lb_X6_faultCount_17_v1 70 ht I A J it dyn v1 v2 0) (v2 + 1))))] [] (fs_mk ht I A J it dyn) := hq
    refine fs_iload_n dX6_faultCount_4 rfl rfl ?_
    refine fs_aload_n dX6_faultCount_5 rfl rfl ?_
    refine fs_getfield (v := .inr (.inr (some 3))) dX6_faultCount_6 sf_X6_26 rfl rfl ?_
    refine fs_getfield (v := .inl (I 4)) dX6_faultCount_9 sf_X6_36 rfl rfl ?_
    refine fs_icmp_ge 67 dX6_faultCount_12 (by decide) (fun c_12 : (I 4) ≤ v2 => ?_) (fun c_12 : ¬ ((I 4) ≤ v2) => ?_)
    · have k9 := hq
      try simp only [if_pos c_12] at k9 ⊢
      exact k9
    · have hS := hS c_12
      refine fs_iconst (v := 0) dX6_faultCount_15 rfl ?_
      refine fs_istore_n (L' := [(3, .inl 0), (0, .inr (.inr (some 5))), (1, .inl v1), (2, .inl v2)]) dX6_faultCount_16 rfl (by decide) rfl ?_
      refine fs_reL [1, 2, 3, 0] rfl ?_
      obtain ⟨ho1, hS⟩ := hS
      refine lp_Lb_X6_faultCount_17 G l Q 70 ht I A J it dyn v1 v2 0 ho1 ?_
      refine fs_iinc (v := (v2 + 1)) (L' := [(2, .inl (v2 + 1)), (0, .inr (.inr (some 5))), (1, .inl (Lb_X6_faultCount_17_v1 70 ht I A J it dyn v1 v2 0)), (3, .inl (Lb_X6_faultCount_17_v3 70 ht I A J it dyn v1 v2 0))]) dX6_faultCount_61 rfl rfl (by decide) rfl ?_
      refine fs_goto 4 dX6_faultCount_64 (by decide) ?_
      refine fs_reL [1, 2, 0] rfl ?_
      have k9 := hq
      try simp only [if_neg c_12] at hS k9 ⊢
      exact ih _ _ _ _ _ _ _ _ hS k9
def L_X6_faultCount_r (ht : Nat) (I : Nat → Int32) (A : Nat → Nat → Int32) (J : Nat → Nat → Int64) (it : Nat → Option Nat) (dyn : fsH)  : Int32 := (Lb_X6_faultCount_4_v1 70 ht I A J it dyn 0 0)
def S_X6_faultCount (ht : Nat) (I : Nat → Int32) (A : Nat → Nat → Int32) (J : Nat → Nat → Int64) (it : Nat → Option Nat) (dyn : fsH)  : Prop := (S_Lb_X6_faultCount_4 70 ht I A J it dyn 0 0)
set_option maxRecDepth 100000 in
set_option maxHeartbeats 4000000 in
theorem c_X6_faultCount (G : fsG) (l : Launch) (ht : Nat) (I : Nat → Int32) (A : Nat → Nat → Int32) (J : Nat → Nat → Int64) (it : Nat → Option Nat) (dyn : fsH)  (hS : S_X6_faultCount ht I A J it dyn ) : fsFn G l mX6_faultCount 3 0 0 [.inr (.inr (some 5))] (fs_mk ht I A J it dyn) (some (.inl (L_X6_faultCount_r ht I A J it dyn ))) (fs_mk ht I A J it dyn) := by
  refine fsMet_of (by decide) (Nat.le_of_ble_eq_true rfl) ?_
  generalize hQ : (fun (r1 : Option fsV) (h1 : fsH) => r1 = (some (.inl (L_X6_faultCount_r ht I A J it dyn ))) ∧ h1 = (fs_mk ht I A J it dyn)) = Q
  have hq : Q (some (.inl (L_X6_faultCount_r ht I A J it dyn ))) (fs_mk ht I A J it dyn) := by rw [← hQ]; exact ⟨rfl, rfl⟩
  clear hQ
  have hq : Q (some (.inl (Lb_X6_faultCount_4_v1 70 ht I A J it dyn 0 0))) (fs_mk ht I A J it dyn) := hq
  have hS : (S_Lb_X6_faultCount_4 70 ht I A J it dyn 0 0) := hS
  refine (show fsW G l mX6_faultCount 3 0 0 0 0 Q 0 [(0, .inr (.inr (some 5)))] [] (fs_mk ht I A J it dyn) from ?_)
  refine fs_iconst (v := 0) dX6_faultCount_0 rfl ?_
  refine fs_istore_n (L' := [(1, .inl 0), (0, .inr (.inr (some 5)))]) dX6_faultCount_1 rfl (by decide) rfl ?_
  refine fs_iconst (v := 0) dX6_faultCount_2 rfl ?_
  refine fs_istore_n (L' := [(2, .inl 0), (1, .inl 0), (0, .inr (.inr (some 5)))]) dX6_faultCount_3 rfl (by decide) rfl ?_
  refine fs_reL [2, 1, 0] rfl ?_
  have ho1 := hS
  refine lp_Lb_X6_faultCount_4 G l Q 70 ht I A J it dyn 0 0 ho1 ?_
  refine fs_iload_n dX6_faultCount_67 rfl rfl ?_
  have k9 := hq
  exact fs_iret dX6_faultCount_68 rfl rfl k9
def L_X6_cellNamed_r (ht : Nat) (I : Nat → Int32) (A : Nat → Nat → Int32) (J : Nat → Nat → Int64) (it : Nat → Option Nat) (dyn : fsH) (x1 : Int32) (x2 : Int32) : Int32 := (L_X7_cellOf_r ht I A J it dyn x1 (if (L_X1_repeats_r ht I A J it dyn x1) = 0 then 0 else x2 : Int32))
def S_X6_cellNamed (ht : Nat) (I : Nat → Int32) (A : Nat → Nat → Int32) (J : Nat → Nat → Int64) (it : Nat → Option Nat) (dyn : fsH) (x1 : Int32) (x2 : Int32) : Prop := (S_X1_repeats ht I A J it dyn x1)
set_option maxRecDepth 100000 in
set_option maxHeartbeats 4000000 in
theorem c_X6_cellNamed (G : fsG) (l : Launch) (ht : Nat) (I : Nat → Int32) (A : Nat → Nat → Int32) (J : Nat → Nat → Int64) (it : Nat → Option Nat) (dyn : fsH) (x1 : Int32) (x2 : Int32) (hS : S_X6_cellNamed ht I A J it dyn x1 x2) : fsFn G l mX6_cellNamed 1 0 0 [.inr (.inr (some 5)), .inl x1, .inl x2] (fs_mk ht I A J it dyn) (some (.inl (L_X6_cellNamed_r ht I A J it dyn x1 x2))) (fs_mk ht I A J it dyn) := by
  refine fsMet_of (by decide) (Nat.le_of_ble_eq_true rfl) ?_
  generalize hQ : (fun (r1 : Option fsV) (h1 : fsH) => r1 = (some (.inl (L_X6_cellNamed_r ht I A J it dyn x1 x2))) ∧ h1 = (fs_mk ht I A J it dyn)) = Q
  have hq : Q (some (.inl (L_X6_cellNamed_r ht I A J it dyn x1 x2))) (fs_mk ht I A J it dyn) := by rw [← hQ]; exact ⟨rfl, rfl⟩
  clear hQ
  have hq : Q (some (.inl (L_X7_cellOf_r ht I A J it dyn x1 (if (L_X1_repeats_r ht I A J it dyn x1) = 0 then 0 else x2 : Int32)))) (fs_mk ht I A J it dyn) := hq
  have hS : (S_X1_repeats ht I A J it dyn x1) := hS
  refine (show fsW G l mX6_cellNamed 1 0 0 0 0 Q 0 [(0, .inr (.inr (some 5))), (1, .inl x1), (2, .inl x2)] [] (fs_mk ht I A J it dyn) from ?_)
  refine fs_iload_n dX6_cellNamed_0 rfl rfl ?_
  refine fs_aload_n dX6_cellNamed_1 rfl rfl ?_
  refine fs_getfield (v := .inr (.inr (some 3))) dX6_cellNamed_2 sf_X6_26 rfl rfl ?_
  refine fs_iload_n dX6_cellNamed_5 rfl rfl ?_
  have ho1 := hS
  refine fs_callV1 dX6_cellNamed_6 sv_X6_47 rfl ⟨_, rfl, rfl⟩ (c_X1_repeats G l ht I A J it dyn x1 ho1) rfl rfl (Nat.le_of_ble_eq_true rfl) (Nat.le_of_ble_eq_true rfl) (Nat.le_of_ble_eq_true rfl) (Nat.le_of_ble_eq_true rfl) ?_
  have key_17 : fsW G l mX6_cellNamed 1 0 0 0 0 Q 17 [(0, .inr (.inr (some 5))), (1, .inl x1), (2, .inl x2)] [.inl (if (L_X1_repeats_r ht I A J it dyn x1) = 0 then 0 else x2 : Int32), .inl x1] (fs_mk ht I A J it dyn) := by
    refine fs_callSN1 dX6_cellNamed_17 sv_X6_51 (c_X7_cellOf G l ht I A J it dyn x1 (if (L_X1_repeats_r ht I A J it dyn x1) = 0 then 0 else x2 : Int32)) rfl rfl (Nat.le_of_ble_eq_true rfl) (Nat.le_of_ble_eq_true rfl) (Nat.le_of_ble_eq_true rfl) (Nat.le_of_ble_eq_true rfl) ?_
    have k9 := hq
    exact fs_iret dX6_cellNamed_20 rfl rfl k9
  refine fs_if_eq 16 dX6_cellNamed_9 (by decide) (fun c_9 : (L_X1_repeats_r ht I A J it dyn x1) = 0 => ?_) (fun c_9 : ¬ ((L_X1_repeats_r ht I A J it dyn x1) = 0) => ?_)
  · refine fs_iconst (v := 0) dX6_cellNamed_16 rfl ?_
    have k9 := key_17
    try simp only [if_pos c_9] at k9 ⊢
    exact k9
  · refine fs_iload_n dX6_cellNamed_12 rfl rfl ?_
    refine fs_goto 17 dX6_cellNamed_13 (by decide) ?_
    have k9 := key_17
    try simp only [if_neg c_9] at k9 ⊢
    exact k9
def L_X6_hangsOn_r (ht : Nat) (I : Nat → Int32) (A : Nat → Nat → Int32) (J : Nat → Nat → Int64) (it : Nat → Option Nat) (dyn : fsH) (x1 : Int32) (x2 : Int32) : Int32 := (if (lg_cmp ((J 7 x1.toNatClampNeg) &&& (L_X6_setOf_r ht I A J it dyn x2)) 0) = 0 then 0 else 1 : Int32)
def S_X6_hangsOn (ht : Nat) (I : Nat → Int32) (A : Nat → Nat → Int32) (J : Nat → Nat → Int64) (it : Nat → Option Nat) (dyn : fsH) (x1 : Int32) (x2 : Int32) : Prop := (vp_in x1 64)
set_option maxRecDepth 100000 in
set_option maxHeartbeats 4000000 in
theorem c_X6_hangsOn (G : fsG) (l : Launch) (ht : Nat) (I : Nat → Int32) (A : Nat → Nat → Int32) (J : Nat → Nat → Int64) (it : Nat → Option Nat) (dyn : fsH) (x1 : Int32) (x2 : Int32) (hS : S_X6_hangsOn ht I A J it dyn x1 x2) : fsFn G l mX6_hangsOn 1 0 0 [.inr (.inr (some 5)), .inl x1, .inl x2] (fs_mk ht I A J it dyn) (some (.inl (L_X6_hangsOn_r ht I A J it dyn x1 x2))) (fs_mk ht I A J it dyn) := by
  refine fsMet_of (by decide) (Nat.le_of_ble_eq_true rfl) ?_
  generalize hQ : (fun (r1 : Option fsV) (h1 : fsH) => r1 = (some (.inl (L_X6_hangsOn_r ht I A J it dyn x1 x2))) ∧ h1 = (fs_mk ht I A J it dyn)) = Q
  have hq : Q (some (.inl (L_X6_hangsOn_r ht I A J it dyn x1 x2))) (fs_mk ht I A J it dyn) := by rw [← hQ]; exact ⟨rfl, rfl⟩
  clear hQ
  have hq : Q (some (.inl (if (lg_cmp ((J 7 x1.toNatClampNeg) &&& (L_X6_setOf_r ht I A J it dyn x2)) 0) = 0 then 0 else 1 : Int32))) (fs_mk ht I A J it dyn) := hq
  have hS : (vp_in x1 64) := hS
  refine (show fsW G l mX6_hangsOn 1 0 0 0 0 Q 0 [(0, .inr (.inr (some 5))), (1, .inl x1), (2, .inl x2)] [] (fs_mk ht I A J it dyn) from ?_)
  refine fs_aload_n dX6_hangsOn_0 rfl rfl ?_
  refine fs_getfield (v := .inr (.inr (some 7))) dX6_hangsOn_1 sf_X6_15 rfl rfl ?_
  refine fs_iload_n dX6_hangsOn_4 rfl rfl ?_
  have ho1 := hS
  refine fs_laload dX6_hangsOn_5 rfl ho1 ?_
  refine fs_iload_n dX6_hangsOn_6 rfl rfl ?_
  refine fs_callS1 dX6_hangsOn_7 sv_X6_100 (c_X6_setOf G l ht I A J it dyn x2) rfl rfl (Nat.le_of_ble_eq_true rfl) (Nat.le_of_ble_eq_true rfl) (Nat.le_of_ble_eq_true rfl) (Nat.le_of_ble_eq_true rfl) ?_
  refine fs_land dX6_hangsOn_10 ?_
  refine fs_lconst (v := 0) dX6_hangsOn_11 rfl ?_
  refine fs_lcmp dX6_hangsOn_12 ?_
  have key_21 : fsW G l mX6_hangsOn 1 0 0 0 0 Q 21 [(0, .inr (.inr (some 5))), (1, .inl x1), (2, .inl x2)] [.inl (if (lg_cmp ((J 7 x1.toNatClampNeg) &&& (L_X6_setOf_r ht I A J it dyn x2)) 0) = 0 then 0 else 1 : Int32)] (fs_mk ht I A J it dyn) := by
    have k9 := hq
    exact fs_iret dX6_hangsOn_21 rfl (by (repeat' split) <;> first | rfl) k9
  refine fs_if_eq 20 dX6_hangsOn_13 (by decide) (fun c_13 : (lg_cmp ((J 7 x1.toNatClampNeg) &&& (L_X6_setOf_r ht I A J it dyn x2)) 0) = 0 => ?_) (fun c_13 : ¬ ((lg_cmp ((J 7 x1.toNatClampNeg) &&& (L_X6_setOf_r ht I A J it dyn x2)) 0) = 0) => ?_)
  · refine fs_iconst (v := 0) dX6_hangsOn_20 rfl ?_
    have k9 := key_21
    try simp only [if_pos c_13] at k9 ⊢
    exact k9
  · refine fs_iconst (v := 1) dX6_hangsOn_16 rfl ?_
    refine fs_goto 21 dX6_hangsOn_17 (by decide) ?_
    have k9 := key_21
    try simp only [if_neg c_13] at k9 ⊢
    exact k9
theorem nb_X6_hangsOn (ht : Nat) (I : Nat → Int32) (A : Nat → Nat → Int32) (J : Nat → Nat → Int64) (it : Nat → Option Nat) (dyn : fsH) (x1 : Int32) (x2 : Int32) : narrow .boolean (.int (L_X6_hangsOn_r ht I A J it dyn x1 x2)) = .int (L_X6_hangsOn_r ht I A J it dyn x1 x2) := by
  unfold L_X6_hangsOn_r
  exact (by (repeat' split) <;> first | rfl)
def L_X6_append_I (ht : Nat) (I : Nat → Int32) (A : Nat → Nat → Int32) (J : Nat → Nat → Int64) (it : Nat → Option Nat) (dyn : fsH) (x1 : Int32) : Nat → Int32 := (if 64 ≤ (I 6) then I else (upd I 6 ((I 6) + 1)))
def L_X6_append_A (ht : Nat) (I : Nat → Int32) (A : Nat → Nat → Int32) (J : Nat → Nat → Int64) (it : Nat → Option Nat) (dyn : fsH) (x1 : Int32) : Nat → Nat → Int32 := (if 64 ≤ (I 6) then A else (va_up A 8 (upd (A 8) (I 6).toNatClampNeg x1)))
def S_X6_append (ht : Nat) (I : Nat → Int32) (A : Nat → Nat → Int32) (J : Nat → Nat → Int64) (it : Nat → Option Nat) (dyn : fsH) (x1 : Int32) : Prop := (¬ (64 ≤ (I 6)) → (vp_in (I 6) 64))
set_option maxRecDepth 100000 in
set_option maxHeartbeats 4000000 in
theorem c_X6_append (G : fsG) (l : Launch) (ht : Nat) (I : Nat → Int32) (A : Nat → Nat → Int32) (J : Nat → Nat → Int64) (it : Nat → Option Nat) (dyn : fsH) (x1 : Int32) (hS : S_X6_append ht I A J it dyn x1) : fsFn G l mX6_append 0 0 0 [.inr (.inr (some 5)), .inl x1] (fs_mk ht I A J it dyn) none (fs_mk ht (L_X6_append_I ht I A J it dyn x1) (L_X6_append_A ht I A J it dyn x1) J it dyn) := by
  refine fsMet_of (by decide) (Nat.le_of_ble_eq_true rfl) ?_
  generalize hQ : (fun (r1 : Option fsV) (h1 : fsH) => r1 = none ∧ h1 = (fs_mk ht (L_X6_append_I ht I A J it dyn x1) (L_X6_append_A ht I A J it dyn x1) J it dyn)) = Q
  have hq : Q none (fs_mk ht (L_X6_append_I ht I A J it dyn x1) (L_X6_append_A ht I A J it dyn x1) J it dyn) := by rw [← hQ]; exact ⟨rfl, rfl⟩
  clear hQ
  have hq : Q none (fs_mk ht (if 64 ≤ (I 6) then I else (upd I 6 ((I 6) + 1))) (if 64 ≤ (I 6) then A else (va_up A 8 (upd (A 8) (I 6).toNatClampNeg x1))) J it dyn) := hq
  have hS : (¬ (64 ≤ (I 6)) → (vp_in (I 6) 64)) := hS
  refine (show fsW G l mX6_append 0 0 0 0 0 Q 0 [(0, .inr (.inr (some 5))), (1, .inl x1)] [] (fs_mk ht I A J it dyn) from ?_)
  refine fs_aload_n dX6_append_0 rfl rfl ?_
  refine fs_getfield (v := .inl (I 6)) dX6_append_1 sf_X6_22 rfl rfl ?_
  refine fs_bipush (v := 64) dX6_append_4 rfl ?_
  have hR_6 := hS
  have key_29 : fsW G l mX6_append 0 0 0 0 0 Q 29 [(0, .inr (.inr (some 5))), (1, .inl x1)] [] (fs_mk ht (if 64 ≤ (I 6) then I else (upd I 6 ((I 6) + 1))) (if 64 ≤ (I 6) then A else (va_up A 8 (upd (A 8) (I 6).toNatClampNeg x1))) J it dyn) := by
    have k9 := hq
    exact fs_ret dX6_append_29 rfl k9
  refine fs_icmp_ge 29 dX6_append_6 (by decide) (fun c_6 : 64 ≤ (I 6) => ?_) (fun c_6 : ¬ (64 ≤ (I 6)) => ?_)
  · have k9 := key_29
    try simp only [if_pos c_6] at k9 ⊢
    exact k9
  · have hS := hR_6 c_6
    refine fs_aload_n dX6_append_9 rfl rfl ?_
    refine fs_getfield (v := .inr (.inr (some 8))) dX6_append_10 sf_X6_18 rfl rfl ?_
    refine fs_aload_n dX6_append_13 rfl rfl ?_
    refine fs_getfield (v := .inl (I 6)) dX6_append_14 sf_X6_22 rfl rfl ?_
    refine fs_iload_n dX6_append_17 rfl rfl ?_
    have ho1 := hS
    refine fss_8 dX6_append_18 ho1 ?_
    refine fs_aload_n dX6_append_19 rfl rfl ?_
    refine fs_dup dX6_append_20 rfl ?_
    refine fs_getfield (v := .inl (I 6)) dX6_append_21 sf_X6_22 rfl rfl ?_
    refine fs_iconst (v := 1) dX6_append_24 rfl ?_
    refine fs_iadd dX6_append_25 ?_
    refine fsp_6 dX6_append_26 sp_X6_22 ?_
    have k9 := key_29
    try simp only [if_neg c_6] at k9 ⊢
    exact k9
def Lb_X6_followHangs_10_J : Nat → Nat → (Nat → Int32) → (Nat → Nat → Int32) → (Nat → Nat → Int64) → (Nat → Option Nat) → fsH → Int32 → Int32 → (Nat → Nat → Int64)
  | 0, ht, I, A, J, it, dyn, v1, v2 => J
  | n + 1, ht, I, A, J, it, dyn, v1, v2 => (if 64 ≤ v2 then J else (if (lg_cmp (J 7 v1.toNatClampNeg) 0) = 0 then J else (Lb_X6_followHangs_10_J n ht I A (if (L_X6_hangsOn_r ht I A J it dyn v2 v1) = 0 then J else (va_up J 7 (vp_updL (J 7) v2.toNatClampNeg ((J 7 v2.toNatClampNeg) ||| (J 7 v1.toNatClampNeg))))) it dyn v1 (v2 + 1))))
def Lb_X6_followHangs_10_v2 : Nat → Nat → (Nat → Int32) → (Nat → Nat → Int32) → (Nat → Nat → Int64) → (Nat → Option Nat) → fsH → Int32 → Int32 → Int32
  | 0, ht, I, A, J, it, dyn, v1, v2 => v2
  | n + 1, ht, I, A, J, it, dyn, v1, v2 => (if 64 ≤ v2 then v2 else (if (lg_cmp (J 7 v1.toNatClampNeg) 0) = 0 then v2 else (Lb_X6_followHangs_10_v2 n ht I A (if (L_X6_hangsOn_r ht I A J it dyn v2 v1) = 0 then J else (va_up J 7 (vp_updL (J 7) v2.toNatClampNeg ((J 7 v2.toNatClampNeg) ||| (J 7 v1.toNatClampNeg))))) it dyn v1 (v2 + 1))))
def S_Lb_X6_followHangs_10 : Nat → Nat → (Nat → Int32) → (Nat → Nat → Int32) → (Nat → Nat → Int64) → (Nat → Option Nat) → fsH → Int32 → Int32 → Prop
  | 0, _, _, _, _, _, _, _, _ => False
  | n + 1, ht, I, A, J, it, dyn, v1, v2 => (¬ (64 ≤ v2) → ((vp_in v1 64) ∧ (¬ ((lg_cmp (J 7 v1.toNatClampNeg) 0) = 0) → ((S_X6_hangsOn ht I A J it dyn v2 v1) ∧ ((¬ ((L_X6_hangsOn_r ht I A J it dyn v2 v1) = 0) → ((vp_in v2 64) ∧ ((vp_in v1 64) ∧ (vp_in v2 64)))) ∧ (S_Lb_X6_followHangs_10 n ht I A (if (L_X6_hangsOn_r ht I A J it dyn v2 v1) = 0 then J else (va_up J 7 (vp_updL (J 7) v2.toNatClampNeg ((J 7 v2.toNatClampNeg) ||| (J 7 v1.toNatClampNeg))))) it dyn v1 (v2 + 1)))))))
set_option maxRecDepth 100000 in
set_option maxHeartbeats 4000000 in
theorem lp_Lb_X6_followHangs_10 (G : fsG) (l : Launch) (Q : Option fsV → fsH → Prop) : ∀ (n : Nat) (ht : Nat) (I : Nat → Int32) (A : Nat → Nat → Int32) (J : Nat → Nat → Int64) (it : Nat → Option Nat) (dyn : fsH) (v1 : Int32) (v2 : Int32), S_Lb_X6_followHangs_10 n ht I A J it dyn v1 v2 → (fsW G l mX6_followHangs 2 0 0 0 0 Q 57 [(0, .inr (.inr (some 5))), (1, .inl v1), (2, .inl (Lb_X6_followHangs_10_v2 n ht I A J it dyn v1 v2))] [] (fs_mk ht I A (Lb_X6_followHangs_10_J n ht I A J it dyn v1 v2) it dyn)) → fsW G l mX6_followHangs 2 0 0 0 0 Q 10 [(0, .inr (.inr (some 5))), (1, .inl v1), (2, .inl v2)] [] (fs_mk ht I A J it dyn) := by
  intro n
  induction n with
  | zero =>
    intro ht I A J it dyn v1 v2 hS
    exact hS.elim
  | succ n ih =>
    intro ht I A J it dyn v1 v2 hS hq
    have hS : (¬ (64 ≤ v2) → ((vp_in v1 64) ∧ (¬ ((lg_cmp (J 7 v1.toNatClampNeg) 0) = 0) → ((S_X6_hangsOn ht I A J it dyn v2 v1) ∧ ((¬ ((L_X6_hangsOn_r ht I A J it dyn v2 v1) = 0) → ((vp_in v2 64) ∧ ((vp_in v1 64) ∧ (vp_in v2 64)))) ∧ (S_Lb_X6_followHangs_10 n ht I A (if (L_X6_hangsOn_r ht I A J it dyn v2 v1) = 0 then J else (va_up J 7 (vp_updL (J 7) v2.toNatClampNeg ((J 7 v2.toNatClampNeg) ||| (J 7 v1.toNatClampNeg))))) it dyn v1 (v2 + 1))))))) := hS
    have hq : fsW G l mX6_followHangs 2 0 0 0 0 Q 57 [(0, .inr (.inr (some 5))), (1, .inl v1), (2, .inl (if 64 ≤ v2 then v2 else (if (lg_cmp (J 7 v1.toNatClampNeg) 0) = 0 then v2 else (Lb_X6_followHangs_10_v2 n ht I A (if (L_X6_hangsOn_r ht I A J it dyn v2 v1) = 0 then J else (va_up J 7 (vp_updL (J 7) v2.toNatClampNeg ((J 7 v2.toNatClampNeg) ||| (J 7 v1.toNatClampNeg))))) it dyn v1 (v2 + 1)))))] [] (fs_mk ht I A (if 64 ≤ v2 then J else (if (lg_cmp (J 7 v1.toNatClampNeg) 0) = 0 then J else (Lb_X6_followHangs_10_J n ht I A (if (L_X6_hangsOn_r ht I A J it dyn v2 v1) = 0 then J else (va_up J 7 (vp_updL (J 7) v2.toNatClampNeg ((J 7 v2.toNatClampNeg) ||| (J 7 v1.toNatClampNeg))))) it dyn v1 (v2 + 1)))) it dyn) := hq
    refine fs_iload_n dX6_followHangs_10 rfl rfl ?_
    refine fs_bipush (v := 64) dX6_followHangs_11 rfl ?_
    refine fs_icmp_ge 57 dX6_followHangs_13 (by decide) (fun c_13 : 64 ≤ v2 => ?_) (fun c_13 : ¬ (64 ≤ v2) => ?_)
    · have k9 := hq
      try simp only [if_pos c_13] at k9 ⊢
      exact k9
    · have hS := hS c_13
      refine fs_aload_n dX6_followHangs_16 rfl rfl ?_
      refine fs_getfield (v := .inr (.inr (some 7))) dX6_followHangs_17 sf_X6_15 rfl rfl ?_
      refine fs_iload_n dX6_followHangs_20 rfl rfl ?_
      obtain ⟨ho1, hS⟩ := hS
      refine fs_laload dX6_followHangs_21 rfl ho1 ?_
      refine fs_lconst (v := 0) dX6_followHangs_22 rfl ?_
      refine fs_lcmp dX6_followHangs_23 ?_
      refine fs_if_eq 57 dX6_followHangs_24 (by decide) (fun c_24 : (lg_cmp (J 7 v1.toNatClampNeg) 0) = 0 => ?_) (fun c_24 : ¬ ((lg_cmp (J 7 v1.toNatClampNeg) 0) = 0) => ?_)
      · have k9 := hq
        try simp only [if_neg c_13, if_pos c_24] at k9 ⊢
        exact k9
      · have hS := hS c_24
        refine fs_aload_n dX6_followHangs_27 rfl rfl ?_
        refine fs_iload_n dX6_followHangs_28 rfl rfl ?_
        refine fs_iload_n dX6_followHangs_29 rfl rfl ?_
        obtain ⟨ho1, hS⟩ := hS
        refine fs_callV1 dX6_followHangs_30 sv_X6_76 rfl ⟨_, rfl, rfl⟩ (c_X6_hangsOn G l ht I A J it dyn v2 v1 ho1) rfl rfl (Nat.le_of_ble_eq_true rfl) (Nat.le_of_ble_eq_true rfl) (Nat.le_of_ble_eq_true rfl) (Nat.le_of_ble_eq_true rfl) ?_
        obtain ⟨hR_33, hS⟩ := hS
        have key_51 : fsW G l mX6_followHangs 2 0 0 0 0 Q 51 [(0, .inr (.inr (some 5))), (1, .inl v1), (2, .inl v2)] [] (fs_mk ht I A (if (L_X6_hangsOn_r ht I A J it dyn v2 v1) = 0 then J else (va_up J 7 (vp_updL (J 7) v2.toNatClampNeg ((J 7 v2.toNatClampNeg) ||| (J 7 v1.toNatClampNeg))))) it dyn) := by
          refine fs_iinc (v := (v2 + 1)) (L' := [(2, .inl (v2 + 1)), (0, .inr (.inr (some 5))), (1, .inl v1)]) dX6_followHangs_51 rfl rfl (by decide) rfl ?_
          refine fs_goto 10 dX6_followHangs_54 (by decide) ?_
          refine fs_reL [1, 2, 0] rfl ?_
          have k9 := hq
          try simp only [if_neg c_13, if_neg c_24] at hS k9 ⊢
          exact ih _ _ _ _ _ _ _ _ hS k9
        refine fs_if_eq 51 dX6_followHangs_33 (by decide) (fun c_33 : (L_X6_hangsOn_r ht I A J it dyn v2 v1) = 0 => ?_) (fun c_33 : ¬ ((L_X6_hangsOn_r ht I A J it dyn v2 v1) = 0) => ?_)
        · have k9 := key_51
          try simp only [if_neg c_13, if_neg c_24, if_pos c_33] at k9 ⊢
          exact k9
        · have hS := hR_33 c_33
          refine fs_aload_n dX6_followHangs_36 rfl rfl ?_
          refine fs_getfield (v := .inr (.inr (some 7))) dX6_followHangs_37 sf_X6_15 rfl rfl ?_
          refine fs_iload_n dX6_followHangs_40 rfl rfl ?_
          refine fs_dup2 dX6_followHangs_41 rfl rfl ?_
          obtain ⟨ho1, hS⟩ := hS
          refine fs_laload dX6_followHangs_42 rfl ho1 ?_
          refine fs_aload_n dX6_followHangs_43 rfl rfl ?_
          refine fs_getfield (v := .inr (.inr (some 7))) dX6_followHangs_44 sf_X6_15 rfl rfl ?_
          refine fs_iload_n dX6_followHangs_47 rfl rfl ?_
          obtain ⟨ho1, hS⟩ := hS
          refine fs_laload dX6_followHangs_48 rfl ho1 ?_
          refine fs_lor dX6_followHangs_49 ?_
          have ho1 := hS
          refine fss_7 dX6_followHangs_50 ho1 ?_
          have k9 := key_51
          try simp only [if_neg c_13, if_neg c_24, if_neg c_33] at k9 ⊢
          exact k9
def Lb_X6_followHangs_2_J : Nat → Nat → (Nat → Int32) → (Nat → Nat → Int32) → (Nat → Nat → Int64) → (Nat → Option Nat) → fsH → Int32 → (Nat → Nat → Int64)
  | 0, ht, I, A, J, it, dyn, v1 => J
  | n + 1, ht, I, A, J, it, dyn, v1 => (if 64 ≤ v1 then J else (Lb_X6_followHangs_2_J n ht I A (Lb_X6_followHangs_10_J 70 ht I A J it dyn v1 0) it dyn (v1 + 1)))
def Lb_X6_followHangs_2_v1 : Nat → Nat → (Nat → Int32) → (Nat → Nat → Int32) → (Nat → Nat → Int64) → (Nat → Option Nat) → fsH → Int32 → Int32
  | 0, ht, I, A, J, it, dyn, v1 => v1
  | n + 1, ht, I, A, J, it, dyn, v1 => (if 64 ≤ v1 then v1 else (Lb_X6_followHangs_2_v1 n ht I A (Lb_X6_followHangs_10_J 70 ht I A J it dyn v1 0) it dyn (v1 + 1)))
def S_Lb_X6_followHangs_2 : Nat → Nat → (Nat → Int32) → (Nat → Nat → Int32) → (Nat → Nat → Int64) → (Nat → Option Nat) → fsH → Int32 → Prop
  | 0, _, _, _, _, _, _, _ => False
  | n + 1, ht, I, A, J, it, dyn, v1 => (¬ (64 ≤ v1) → ((S_Lb_X6_followHangs_10 70 ht I A J it dyn v1 0) ∧ (S_Lb_X6_followHangs_2 n ht I A (Lb_X6_followHangs_10_J 70 ht I A J it dyn v1 0) it dyn (v1 + 1))))
set_option maxRecDepth 100000 in
set_option maxHeartbeats 4000000 in
theorem lp_Lb_X6_followHangs_2 (G : fsG) (l : Launch) (Q : Option fsV → fsH → Prop) : ∀ (n : Nat) (ht : Nat) (I : Nat → Int32) (A : Nat → Nat → Int32) (J : Nat → Nat → Int64) (it : Nat → Option Nat) (dyn : fsH) (v1 : Int32), S_Lb_X6_followHangs_2 n ht I A J it dyn v1 → (fsW G l mX6_followHangs 2 0 0 0 0 Q 63 [(0, .inr (.inr (some 5))), (1, .inl (Lb_X6_followHangs_2_v1 n ht I A J it dyn v1))] [] (fs_mk ht I A (Lb_X6_followHangs_2_J n ht I A J it dyn v1) it dyn)) → fsW G l mX6_followHangs 2 0 0 0 0 Q 2 [(0, .inr (.inr (some 5))), (1, .inl v1)] [] (fs_mk ht I A J it dyn) := by
  intro n
  induction n with
  | zero =>
    intro ht I A J it dyn v1 hS
    exact hS.elim
  | succ n ih =>
    intro ht I A J it dyn v1 hS hq
    have hS : (¬ (64 ≤ v1) → ((S_Lb_X6_followHangs_10 70 ht I A J it dyn v1 0) ∧ (S_Lb_X6_followHangs_2 n ht I A (Lb_X6_followHangs_10_J 70 ht I A J it dyn v1 0) it dyn (v1 + 1)))) := hS
    have hq : fsW G l mX6_followHangs 2 0 0 0 0 Q 63 [(0, .inr (.inr (some 5))), (1, .inl (if 64 ≤ v1 then v1 else (Lb_X6_followHangs_2_v1 n ht I A (Lb_X6_followHangs_10_J 70 ht I A J it dyn v1 0) it dyn (v1 + 1))))] [] (fs_mk ht I A (if 64 ≤ v1 then J else (Lb_X6_followHangs_2_J n ht I A (Lb_X6_followHangs_10_J 70 ht I A J it dyn v1 0) it dyn (v1 + 1))) it dyn) := hq
    refine fs_iload_n dX6_followHangs_2 rfl rfl ?_
    refine fs_bipush (v := 64) dX6_followHangs_3 rfl ?_
    refine fs_icmp_ge 63 dX6_followHangs_5 (by decide) (fun c_5 : 64 ≤ v1 => ?_) (fun c_5 : ¬ (64 ≤ v1) => ?_)
    · have k9 := hq
      try simp only [if_pos c_5] at k9 ⊢
      exact k9
    · have hS := hS c_5
      refine fs_iconst (v := 0) dX6_followHangs_8 rfl ?_
      refine fs_istore_n (L' := [(2, .inl 0), (0, .inr (.inr (some 5))), (1, .inl v1)]) dX6_followHangs_9 rfl (by decide) rfl ?_
      refine fs_reL [1, 2, 0] rfl ?_
      obtain ⟨ho1, hS⟩ := hS
      refine lp_Lb_X6_followHangs_10 G l Q 70 ht I A J it dyn v1 0 ho1 ?_
      refine fs_iinc (v := (v1 + 1)) (L' := [(1, .inl (v1 + 1)), (0, .inr (.inr (some 5))), (2, .inl (Lb_X6_followHangs_10_v2 70 ht I A J it dyn v1 0))]) dX6_followHangs_57 rfl rfl (by decide) rfl ?_
      refine fs_goto 2 dX6_followHangs_60 (by decide) ?_
      refine fs_reL [1, 0] rfl ?_
      have k9 := hq
      try simp only [if_neg c_5] at hS k9 ⊢
      exact ih _ _ _ _ _ _ _ hS k9
def L_X6_followHangs_J (ht : Nat) (I : Nat → Int32) (A : Nat → Nat → Int32) (J : Nat → Nat → Int64) (it : Nat → Option Nat) (dyn : fsH)  : Nat → Nat → Int64 := (Lb_X6_followHangs_2_J 70 ht I A J it dyn 0)
def S_X6_followHangs (ht : Nat) (I : Nat → Int32) (A : Nat → Nat → Int32) (J : Nat → Nat → Int64) (it : Nat → Option Nat) (dyn : fsH)  : Prop := (S_Lb_X6_followHangs_2 70 ht I A J it dyn 0)
set_option maxRecDepth 100000 in
set_option maxHeartbeats 4000000 in
theorem c_X6_followHangs (G : fsG) (l : Launch) (ht : Nat) (I : Nat → Int32) (A : Nat → Nat → Int32) (J : Nat → Nat → Int64) (it : Nat → Option Nat) (dyn : fsH)  (hS : S_X6_followHangs ht I A J it dyn ) : fsFn G l mX6_followHangs 2 0 0 [.inr (.inr (some 5))] (fs_mk ht I A J it dyn) none (fs_mk ht I A (L_X6_followHangs_J ht I A J it dyn ) it dyn) := by
  refine fsMet_of (by decide) (Nat.le_of_ble_eq_true rfl) ?_
  generalize hQ : (fun (r1 : Option fsV) (h1 : fsH) => r1 = none ∧ h1 = (fs_mk ht I A (L_X6_followHangs_J ht I A J it dyn ) it dyn)) = Q
  have hq : Q none (fs_mk ht I A (L_X6_followHangs_J ht I A J it dyn ) it dyn) := by rw [← hQ]; exact ⟨rfl, rfl⟩
  clear hQ
  have hq : Q none (fs_mk ht I A (Lb_X6_followHangs_2_J 70 ht I A J it dyn 0) it dyn) := hq
  have hS : (S_Lb_X6_followHangs_2 70 ht I A J it dyn 0) := hS
  refine (show fsW G l mX6_followHangs 2 0 0 0 0 Q 0 [(0, .inr (.inr (some 5)))] [] (fs_mk ht I A J it dyn) from ?_)
  refine fs_iconst (v := 0) dX6_followHangs_0 rfl ?_
  refine fs_istore_n (L' := [(1, .inl 0), (0, .inr (.inr (some 5)))]) dX6_followHangs_1 rfl (by decide) rfl ?_
  refine fs_reL [1, 0] rfl ?_
  have ho1 := hS
  refine lp_Lb_X6_followHangs_2 G l Q 70 ht I A J it dyn 0 ho1 ?_
  have k9 := hq
  exact fs_ret dX6_followHangs_63 rfl k9
def Lb_X6_putInOrder_10_I : Nat → Nat → (Nat → Int32) → (Nat → Nat → Int32) → (Nat → Nat → Int64) → (Nat → Option Nat) → fsH → Int64 → Int64 → Int32 → (Nat → Int32)
  | 0, ht, I, A, J, it, dyn, v1, v3, v5 => I
  | n + 1, ht, I, A, J, it, dyn, v1, v3, v5 => (if 64 ≤ v5 then I else (Lb_X6_putInOrder_10_I n ht (if (L_X6_hangsOn_r ht I A J it dyn v5 v5) = 0 then I else (L_X6_append_I ht I A J it dyn v5)) (if (L_X6_hangsOn_r ht I A J it dyn v5 v5) = 0 then A else (L_X6_append_A ht I A J it dyn v5)) J it dyn v1 (if (L_X6_hangsOn_r ht I A J it dyn v5 v5) = 0 then v3 else (v3 &&& ((L_X6_setOf_r ht (L_X6_append_I ht I A J it dyn v5) (L_X6_append_A ht I A J it dyn v5) J it dyn v5) ^^^ (-1))) : Int64) (v5 + 1)))
def Lb_X6_putInOrder_10_A : Nat → Nat → (Nat → Int32) → (Nat → Nat → Int32) → (Nat → Nat → Int64) → (Nat → Option Nat) → fsH → Int64 → Int64 → Int32 → (Nat → Nat → Int32)
  | 0, ht, I, A, J, it, dyn, v1, v3, v5 => A
  | n + 1, ht, I, A, J, it, dyn, v1, v3, v5 => (if 64 ≤ v5 then A else (Lb_X6_putInOrder_10_A n ht (if (L_X6_hangsOn_r ht I A J it dyn v5 v5) = 0 then I else (L_X6_append_I ht I A J it dyn v5)) (if (L_X6_hangsOn_r ht I A J it dyn v5 v5) = 0 then A else (L_X6_append_A ht I A J it dyn v5)) J it dyn v1 (if (L_X6_hangsOn_r ht I A J it dyn v5 v5) = 0 then v3 else (v3 &&& ((L_X6_setOf_r ht (L_X6_append_I ht I A J it dyn v5) (L_X6_append_A ht I A J it dyn v5) J it dyn v5) ^^^ (-1))) : Int64) (v5 + 1)))
def Lb_X6_putInOrder_10_v3 : Nat → Nat → (Nat → Int32) → (Nat → Nat → Int32) → (Nat → Nat → Int64) → (Nat → Option Nat) → fsH → Int64 → Int64 → Int32 → Int64
  | 0, ht, I, A, J, it, dyn, v1, v3, v5 => v3
  | n + 1, ht, I, A, J, it, dyn, v1, v3, v5 => (if 64 ≤ v5 then v3 else (Lb_X6_putInOrder_10_v3 n ht (if (L_X6_hangsOn_r ht I A J it dyn v5 v5) = 0 then I else (L_X6_append_I ht I A J it dyn v5)) (if (L_X6_hangsOn_r ht I A J it dyn v5 v5) = 0 then A else (L_X6_append_A ht I A J it dyn v5)) J it dyn v1 (if (L_X6_hangsOn_r ht I A J it dyn v5 v5) = 0 then v3 else (v3 &&& ((L_X6_setOf_r ht (L_X6_append_I ht I A J it dyn v5) (L_X6_append_A ht I A J it dyn v5) J it dyn v5) ^^^ (-1))) : Int64) (v5 + 1)))
def Lb_X6_putInOrder_10_v5 : Nat → Nat → (Nat → Int32) → (Nat → Nat → Int32) → (Nat → Nat → Int64) → (Nat → Option Nat) → fsH → Int64 → Int64 → Int32 → Int32
  | 0, ht, I, A, J, it, dyn, v1, v3, v5 => v5
  | n + 1, ht, I, A, J, it, dyn, v1, v3, v5 => (if 64 ≤ v5 then v5 else (Lb_X6_putInOrder_10_v5 n ht (if (L_X6_hangsOn_r ht I A J it dyn v5 v5) = 0 then I else (L_X6_append_I ht I A J it dyn v5)) (if (L_X6_hangsOn_r ht I A J it dyn v5 v5) = 0 then A else (L_X6_append_A ht I A J it dyn v5)) J it dyn v1 (if (L_X6_hangsOn_r ht I A J it dyn v5 v5) = 0 then v3 else (v3 &&& ((L_X6_setOf_r ht (L_X6_append_I ht I A J it dyn v5) (L_X6_append_A ht I A J it dyn v5) J it dyn v5) ^^^ (-1))) : Int64) (v5 + 1)))
def S_Lb_X6_putInOrder_10 : Nat → Nat → (Nat → Int32) → (Nat → Nat → Int32) → (Nat → Nat → Int64) → (Nat → Option Nat) → fsH → Int64 → Int64 → Int32 → Prop
  | 0, _, _, _, _, _, _, _, _, _ => False
  | n + 1, ht, I, A, J, it, dyn, v1, v3, v5 => (¬ (64 ≤ v5) → ((S_X6_hangsOn ht I A J it dyn v5 v5) ∧ ((¬ ((L_X6_hangsOn_r ht I A J it dyn v5 v5) = 0) → (S_X6_append ht I A J it dyn v5)) ∧ (S_Lb_X6_putInOrder_10 n ht (if (L_X6_hangsOn_r ht I A J it dyn v5 v5) = 0 then I else (L_X6_append_I ht I A J it dyn v5)) (if (L_X6_hangsOn_r ht I A J it dyn v5 v5) = 0 then A else (L_X6_append_A ht I A J it dyn v5)) J it dyn v1 (if (L_X6_hangsOn_r ht I A J it dyn v5 v5) = 0 then v3 else (v3 &&& ((L_X6_setOf_r ht (L_X6_append_I ht I A J it dyn v5) (L_X6_append_A ht I A J it dyn v5) J it dyn v5) ^^^ (-1))) : Int64) (v5 + 1)))))
set_option maxRecDepth 100000 in
set_option maxHeartbeats 4000000 in
theorem lp_Lb_X6_putInOrder_10 (G : fsG) (l : Launch) (Q : Option fsV → fsH → Prop) : ∀ (n : Nat) (ht : Nat) (I : Nat → Int32) (A : Nat → Nat → Int32) (J : Nat → Nat → Int64) (it : Nat → Option Nat) (dyn : fsH) (v1 : Int64) (v3 : Int64) (v5 : Int32), S_Lb_X6_putInOrder_10 n ht I A J it dyn v1 v3 v5 → (fsW G l mX6_putInOrder 2 0 0 0 0 Q 52 [(0, .inr (.inr (some 5))), (1, .inr (.inl v1)), (3, .inr (.inl (Lb_X6_putInOrder_10_v3 n ht I A J it dyn v1 v3 v5))), (5, .inl (Lb_X6_putInOrder_10_v5 n ht I A J it dyn v1 v3 v5))] [] (fs_mk ht (Lb_X6_putInOrder_10_I n ht I A J it dyn v1 v3 v5) (Lb_X6_putInOrder_10_A n ht I A J it dyn v1 v3 v5) J it dyn)) → fsW G l mX6_putInOrder 2 0 0 0 0 Q 10 [(0, .inr (.inr (some 5))), (1, .inr (.inl v1)), (3, .inr (.inl v3)), (5, .inl v5)] [] (fs_mk ht I A J it dyn) := by
  intro n
  induction n with
  | zero =>
    intro ht I A J it dyn v1 v3 v5 hS
    exact hS.elim
  | succ n ih =>
    intro ht I A J it dyn v1 v3 v5 hS hq
    have hS : (¬ (64 ≤ v5) → ((S_X6_hangsOn ht I A J it dyn v5 v5) ∧ ((¬ ((L_X6_hangsOn_r ht I A J it dyn v5 v5) = 0) → (S_X6_append ht I A J it dyn v5)) ∧ (S_Lb_X6_putInOrder_10 n ht (if (L_X6_hangsOn_r ht I A J it dyn v5 v5) = 0 then I else (L_X6_append_I ht I A J it dyn v5)) (if (L_X6_hangsOn_r ht I A J it dyn v5 v5) = 0 then A else (L_X6_append_A ht I A J it dyn v5)) J it dyn v1 (if (L_X6_hangsOn_r ht I A J it dyn v5 v5) = 0 then v3 else (v3 &&& ((L_X6_setOf_r ht (L_X6_append_I ht I A J it dyn v5) (L_X6_append_A ht I A J it dyn v5) J it dyn v5) ^^^ (-1))) : Int64) (v5 + 1))))) := hS
    have hq : fsW G l mX6_putInOrder 2 0 0 0 0 Q 52 [(0, .inr (.inr (some 5))), (1, .inr (.inl v1)), (3, .inr (.inl (if 64 ≤ v5 then v3 else (Lb_X6_putInOrder_10_v3 n ht (if (L_X6_hangsOn_r ht I A J it dyn v5 v5) = 0 then I else (L_X6_append_I ht I A J it dyn v5)) (if (L_X6_hangsOn_r ht I A J it dyn v5 v5) = 0 then A else (L_X6_append_A ht I A J it dyn v5)) J it dyn v1 (if (L_X6_hangsOn_r ht I A J it dyn v5 v5) = 0 then v3 else (v3 &&& ((L_X6_setOf_r ht (L_X6_append_I ht I A J it dyn v5) (L_X6_append_A ht I A J it dyn v5) J it dyn v5) ^^^ (-1))) : Int64) (v5 + 1))))), (5, .inl (if 64 ≤ v5 then v5 else (Lb_X6_putInOrder_10_v5 n ht (if (L_X6_hangsOn_r ht I A J it dyn v5 v5) = 0 then I else (L_X6_append_I ht I A J it dyn v5)) (if (L_X6_hangsOn_r ht I A J it dyn v5 v5) = 0 then A else (L_X6_append_A ht I A J it dyn v5)) J it dyn v1 (if (L_X6_hangsOn_r ht I A J it dyn v5 v5) = 0 then v3 else (v3 &&& ((L_X6_setOf_r ht (L_X6_append_I ht I A J it dyn v5) (L_X6_append_A ht I A J it dyn v5) J it dyn v5) ^^^ (-1))) : Int64) (v5 + 1))))] [] (fs_mk ht (if 64 ≤ v5 then I else (Lb_X6_putInOrder_10_I n ht (if (L_X6_hangsOn_r ht I A J it dyn v5 v5) = 0 then I else (L_X6_append_I ht I A J it dyn v5)) (if (L_X6_hangsOn_r ht I A J it dyn v5 v5) = 0 then A else (L_X6_append_A ht I A J it dyn v5)) J it dyn v1 (if (L_X6_hangsOn_r ht I A J it dyn v5 v5) = 0 then v3 else (v3 &&& ((L_X6_setOf_r ht (L_X6_append_I ht I A J it dyn v5) (L_X6_append_A ht I A J it dyn v5) J it dyn v5) ^^^ (-1))) : Int64) (v5 + 1))) (if 64 ≤ v5 then A else (Lb_X6_putInOrder_10_A n ht (if (L_X6_hangsOn_r ht I A J it dyn v5 v5) = 0 then I else (L_X6_append_I ht I A J it dyn v5)) (if (L_X6_hangsOn_r ht I A J it dyn v5 v5) = 0 then A else (L_X6_append_A ht I A J it dyn v5)) J it dyn v1 (if (L_X6_hangsOn_r ht I A J it dyn v5 v5) = 0 then v3 else (v3 &&& ((L_X6_setOf_r ht (L_X6_append_I ht I A J it dyn v5) (L_X6_append_A ht I A J it dyn v5) J it dyn v5) ^^^ (-1))) : Int64) (v5 + 1))) J it dyn) := hq
    refine fs_iload dX6_putInOrder_10 rfl ?_
    refine fs_bipush (v := 64) dX6_putInOrder_12 rfl ?_
    refine fs_icmp_ge 52 dX6_putInOrder_14 (by decide) (fun c_14 : 64 ≤ v5 => ?_) (fun c_14 : ¬ (64 ≤ v5) => ?_)
    · have k9 := hq
      try simp only [if_pos c_14] at k9 ⊢
      exact k9
    · have hS := hS c_14
      refine fs_aload_n dX6_putInOrder_17 rfl rfl ?_
      refine fs_iload dX6_putInOrder_18 rfl ?_
      refine fs_iload dX6_putInOrder_20 rfl ?_
      obtain ⟨ho1, hS⟩ := hS
      refine fs_callV1 dX6_putInOrder_22 sv_X6_76 rfl ⟨_, rfl, rfl⟩ (c_X6_hangsOn G l ht I A J it dyn v5 v5 ho1) rfl rfl (Nat.le_of_ble_eq_true rfl) (Nat.le_of_ble_eq_true rfl) (Nat.le_of_ble_eq_true rfl) (Nat.le_of_ble_eq_true rfl) ?_
      obtain ⟨hR_25, hS⟩ := hS
      have key_46 : fsW G l mX6_putInOrder 2 0 0 0 0 Q 46 [(0, .inr (.inr (some 5))), (1, .inr (.inl v1)), (3, .inr (.inl (if (L_X6_hangsOn_r ht I A J it dyn v5 v5) = 0 then v3 else (v3 &&& ((L_X6_setOf_r ht (L_X6_append_I ht I A J it dyn v5) (L_X6_append_A ht I A J it dyn v5) J it dyn v5) ^^^ (-1))) : Int64))), (5, .inl v5)] [] (fs_mk ht (if (L_X6_hangsOn_r ht I A J it dyn v5 v5) = 0 then I else (L_X6_append_I ht I A J it dyn v5)) (if (L_X6_hangsOn_r ht I A J it dyn v5 v5) = 0 then A else (L_X6_append_A ht I A J it dyn v5)) J it dyn) := by
        refine fs_iinc (v := (v5 + 1)) (L' := [(5, .inl (v5 + 1)), (0, .inr (.inr (some 5))), (1, .inr (.inl v1)), (3, .inr (.inl (if (L_X6_hangsOn_r ht I A J it dyn v5 v5) = 0 then v3 else (v3 &&& ((L_X6_setOf_r ht (L_X6_append_I ht I A J it dyn v5) (L_X6_append_A ht I A J it dyn v5) J it dyn v5) ^^^ (-1))) : Int64)))]) dX6_putInOrder_46 rfl rfl (by decide) rfl ?_
        refine fs_goto 10 dX6_putInOrder_49 (by decide) ?_
        refine fs_reL [1, 2, 3, 0] rfl ?_
        have k9 := hq
        try simp only [if_neg c_14] at hS k9 ⊢
        exact ih _ _ _ _ _ _ _ _ _ hS k9
      refine fs_if_eq 46 dX6_putInOrder_25 (by decide) (fun c_25 : (L_X6_hangsOn_r ht I A J it dyn v5 v5) = 0 => ?_) (fun c_25 : ¬ ((L_X6_hangsOn_r ht I A J it dyn v5 v5) = 0) => ?_)
      · have k9 := key_46
        try simp only [if_neg c_14, if_pos c_25] at k9 ⊢
        exact k9
      · have hS := hR_25 c_25
        refine fs_aload_n dX6_putInOrder_28 rfl rfl ?_
        refine fs_iload dX6_putInOrder_29 rfl ?_
        have ho1 := hS
        refine fs_callV0 dX6_putInOrder_31 sv_X6_132 rfl ⟨_, rfl, rfl⟩ (c_X6_append G l ht I A J it dyn v5 ho1) rfl rfl (Nat.le_of_ble_eq_true rfl) (Nat.le_of_ble_eq_true rfl) (Nat.le_of_ble_eq_true rfl) (Nat.le_of_ble_eq_true rfl) ?_
        refine fs_lload_n dX6_putInOrder_34 rfl rfl ?_
        refine fs_iload dX6_putInOrder_35 rfl ?_
        refine fs_callS1 dX6_putInOrder_37 sv_X6_100 (c_X6_setOf G l ht (L_X6_append_I ht I A J it dyn v5) (L_X6_append_A ht I A J it dyn v5) J it dyn v5) rfl rfl (Nat.le_of_ble_eq_true rfl) (Nat.le_of_ble_eq_true rfl) (Nat.le_of_ble_eq_true rfl) (Nat.le_of_ble_eq_true rfl) ?_
        refine fs_ldc2 (v := (-1)) dX6_putInOrder_40 sk_X6_135 ?_
        refine fs_lxor dX6_putInOrder_43 ?_
        refine fs_land dX6_putInOrder_44 ?_
        refine fs_lstore_n (L' := [(3, .inr (.inl (v3 &&& ((L_X6_setOf_r ht (L_X6_append_I ht I A J it dyn v5) (L_X6_append_A ht I A J it dyn v5) J it dyn v5) ^^^ (-1))))), (0, .inr (.inr (some 5))), (1, .inr (.inl v1)), (5, .inl v5)]) dX6_putInOrder_45 rfl (by decide) rfl ?_
        refine fs_reL [1, 2, 0, 3] rfl ?_
        have k9 := key_46
        try simp only [if_neg c_14, if_neg c_25] at k9 ⊢
        exact k9
def Lb_X6_putInOrder_71_I : Nat → Nat → (Nat → Int32) → (Nat → Nat → Int32) → (Nat → Nat → Int64) → (Nat → Option Nat) → fsH → Int64 → Int64 → Int32 → Int32 → (Nat → Int32)
  | 0, ht, I, A, J, it, dyn, v1, v3, v5, v6 => I
  | n + 1, ht, I, A, J, it, dyn, v1, v3, v5, v6 => (if 64 ≤ v6 then I else (Lb_X6_putInOrder_71_I n ht (if (lg_cmp (v3 &&& (L_X6_setOf_r ht I A J it dyn v6)) 0) = 0 then I else (if (lg_cmp ((J 7 v6.toNatClampNeg) &&& v3) 0) = 0 then (L_X6_append_I ht I A J it dyn v6) else I)) (if (lg_cmp (v3 &&& (L_X6_setOf_r ht I A J it dyn v6)) 0) = 0 then A else (if (lg_cmp ((J 7 v6.toNatClampNeg) &&& v3) 0) = 0 then (L_X6_append_A ht I A J it dyn v6) else A)) J it dyn v1 (if (lg_cmp (v3 &&& (L_X6_setOf_r ht I A J it dyn v6)) 0) = 0 then v3 else (if (lg_cmp ((J 7 v6.toNatClampNeg) &&& v3) 0) = 0 then (v3 &&& ((L_X6_setOf_r ht (L_X6_append_I ht I A J it dyn v6) (L_X6_append_A ht I A J it dyn v6) J it dyn v6) ^^^ (-1))) else v3 : Int64) : Int64) v5 (v6 + 1)))
def Lb_X6_putInOrder_71_A : Nat → Nat → (Nat → Int32) → (Nat → Nat → Int32) → (Nat → Nat → Int64) → (Nat → Option Nat) → fsH → Int64 → Int64 → Int32 → Int32 → (Nat → Nat → Int32)
  | 0, ht, I, A, J, it, dyn, v1, v3, v5, v6 => A
  | n + 1, ht, I, A, J, it, dyn, v1, v3, v5, v6 => (if 64 ≤ v6 then A else (Lb_X6_putInOrder_71_A n ht (if (lg_cmp (v3 &&& (L_X6_setOf_r ht I A J it dyn v6)) 0) = 0 then I else (if (lg_cmp ((J 7 v6.toNatClampNeg) &&& v3) 0) = 0 then (L_X6_append_I ht I A J it dyn v6) else I)) (if (lg_cmp (v3 &&& (L_X6_setOf_r ht I A J it dyn v6)) 0) = 0 then A else (if (lg_cmp ((J 7 v6.toNatClampNeg) &&& v3) 0) = 0 then (L_X6_append_A ht I A J it dyn v6) else A)) J it dyn v1 (if (lg_cmp (v3 &&& (L_X6_setOf_r ht I A J it dyn v6)) 0) = 0 then v3 else (if (lg_cmp ((J 7 v6.toNatClampNeg) &&& v3) 0) = 0 then (v3 &&& ((L_X6_setOf_r ht (L_X6_append_I ht I A J it dyn v6) (L_X6_append_A ht I A J it dyn v6) J it dyn v6) ^^^ (-1))) else v3 : Int64) : Int64) v5 (v6 + 1)))
def Lb_X6_putInOrder_71_v3 : Nat → Nat → (Nat → Int32) → (Nat → Nat → Int32) → (Nat → Nat → Int64) → (Nat → Option Nat) → fsH → Int64 → Int64 → Int32 → Int32 → Int64
  | 0, ht, I, A, J, it, dyn, v1, v3, v5, v6 => v3
  | n + 1, ht, I, A, J, it, dyn, v1, v3, v5, v6 => (if 64 ≤ v6 then v3 else (Lb_X6_putInOrder_71_v3 n ht (if (lg_cmp (v3 &&& (L_X6_setOf_r ht I A J it dyn v6)) 0) = 0 then I else (if (lg_cmp ((J 7 v6.toNatClampNeg) &&& v3) 0) = 0 then (L_X6_append_I ht I A J it dyn v6) else I)) (if (lg_cmp (v3 &&& (L_X6_setOf_r ht I A J it dyn v6)) 0) = 0 then A else (if (lg_cmp ((J 7 v6.toNatClampNeg) &&& v3) 0) = 0 then (L_X6_append_A ht I A J it dyn v6) else A)) J it dyn v1 (if (lg_cmp (v3 &&& (L_X6_setOf_r ht I A J it dyn v6)) 0) = 0 then v3 else (if (lg_cmp ((J 7 v6.toNatClampNeg) &&& v3) 0) = 0 then (v3 &&& ((L_X6_setOf_r ht (L_X6_append_I ht I A J it dyn v6) (L_X6_append_A ht I A J it dyn v6) J it dyn v6) ^^^ (-1))) else v3 : Int64) : Int64) v5 (v6 + 1)))
def Lb_X6_putInOrder_71_v6 : Nat → Nat → (Nat → Int32) → (Nat → Nat → Int32) → (Nat → Nat → Int64) → (Nat → Option Nat) → fsH → Int64 → Int64 → Int32 → Int32 → Int32
  | 0, ht, I, A, J, it, dyn, v1, v3, v5, v6 => v6
  | n + 1, ht, I, A, J, it, dyn, v1, v3, v5, v6 => (if 64 ≤ v6 then v6 else (Lb_X6_putInOrder_71_v6 n ht (if (lg_cmp (v3 &&& (L_X6_setOf_r ht I A J it dyn v6)) 0) = 0 then I else (if (lg_cmp ((J 7 v6.toNatClampNeg) &&& v3) 0) = 0 then (L_X6_append_I ht I A J it dyn v6) else I)) (if (lg_cmp (v3 &&& (L_X6_setOf_r ht I A J it dyn v6)) 0) = 0 then A else (if (lg_cmp ((J 7 v6.toNatClampNeg) &&& v3) 0) = 0 then (L_X6_append_A ht I A J it dyn v6) else A)) J it dyn v1 (if (lg_cmp (v3 &&& (L_X6_setOf_r ht I A J it dyn v6)) 0) = 0 then v3 else (if (lg_cmp ((J 7 v6.toNatClampNeg) &&& v3) 0) = 0 then (v3 &&& ((L_X6_setOf_r ht (L_X6_append_I ht I A J it dyn v6) (L_X6_append_A ht I A J it dyn v6) J it dyn v6) ^^^ (-1))) else v3 : Int64) : Int64) v5 (v6 + 1)))
def S_Lb_X6_putInOrder_71 : Nat → Nat → (Nat → Int32) → (Nat → Nat → Int32) → (Nat → Nat → Int64) → (Nat → Option Nat) → fsH → Int64 → Int64 → Int32 → Int32 → Prop
  | 0, _, _, _, _, _, _, _, _, _, _ => False
  | n + 1, ht, I, A, J, it, dyn, v1, v3, v5, v6 => (¬ (64 ≤ v6) → ((¬ ((lg_cmp (v3 &&& (L_X6_setOf_r ht I A J it dyn v6)) 0) = 0) → ((vp_in v6 64) ∧ (((lg_cmp ((J 7 v6.toNatClampNeg) &&& v3) 0) = 0) → (S_X6_append ht I A J it dyn v6)))) ∧ (S_Lb_X6_putInOrder_71 n ht (if (lg_cmp (v3 &&& (L_X6_setOf_r ht I A J it dyn v6)) 0) = 0 then I else (if (lg_cmp ((J 7 v6.toNatClampNeg) &&& v3) 0) = 0 then (L_X6_append_I ht I A J it dyn v6) else I)) (if (lg_cmp (v3 &&& (L_X6_setOf_r ht I A J it dyn v6)) 0) = 0 then A else (if (lg_cmp ((J 7 v6.toNatClampNeg) &&& v3) 0) = 0 then (L_X6_append_A ht I A J it dyn v6) else A)) J it dyn v1 (if (lg_cmp (v3 &&& (L_X6_setOf_r ht I A J it dyn v6)) 0) = 0 then v3 else (if (lg_cmp ((J 7 v6.toNatClampNeg) &&& v3) 0) = 0 then (v3 &&& ((L_X6_setOf_r ht (L_X6_append_I ht I A J it dyn v6) (L_X6_append_A ht I A J it dyn v6) J it dyn v6) ^^^ (-1))) else v3 : Int64) : Int64) v5 (v6 + 1))))
set_option maxRecDepth 100000 in
set_option maxHeartbeats 4000000 in
theorem lp_Lb_X6_putInOrder_71 (G : fsG) (l : Launch) (Q : Option fsV → fsH → Prop) : ∀ (n : Nat) (ht : Nat) (I : Nat → Int32) (A : Nat → Nat → Int32) (J : Nat → Nat → Int64) (it : Nat → Option Nat) (dyn : fsH) (v1 : Int64) (v3 : Int64) (v5 : Int32) (v6 : Int32), S_Lb_X6_putInOrder_71 n ht I A J it dyn v1 v3 v5 v6 → (fsW G l mX6_putInOrder 2 0 0 0 0 Q 128 [(0, .inr (.inr (some 5))), (1, .inr (.inl v1)), (3, .inr (.inl (Lb_X6_putInOrder_71_v3 n ht I A J it dyn v1 v3 v5 v6))), (5, .inl v5), (6, .inl (Lb_X6_putInOrder_71_v6 n ht I A J it dyn v1 v3 v5 v6))] [] (fs_mk ht (Lb_X6_putInOrder_71_I n ht I A J it dyn v1 v3 v5 v6) (Lb_X6_putInOrder_71_A n ht I A J it dyn v1 v3 v5 v6) J it dyn)) → fsW G l mX6_putInOrder 2 0 0 0 0 Q 71 [(0, .inr (.inr (some 5))), (1, .inr (.inl v1)), (3, .inr (.inl v3)), (5, .inl v5), (6, .inl v6)] [] (fs_mk ht I A J it dyn) := by
  intro n
  induction n with
  | zero =>
    intro ht I A J it dyn v1 v3 v5 v6 hS
    exact hS.elim
  | succ n ih =>
    intro ht I A J it dyn v1 v3 v5 v6 hS hq
    have hS : (¬ (64 ≤ v6) → ((¬ ((lg_cmp (v3 &&& (L_X6_setOf_r ht I A J it dyn v6)) 0) = 0) → ((vp_in v6 64) ∧ (((lg_cmp ((J 7 v6.toNatClampNeg) &&& v3) 0) = 0) → (S_X6_append ht I A J it dyn v6)))) ∧ (S_Lb_X6_putInOrder_71 n ht (if (lg_cmp (v3 &&& (L_X6_setOf_r ht I A J it dyn v6)) 0) = 0 then I else (if (lg_cmp ((J 7 v6.toNatClampNeg) &&& v3) 0) = 0 then (L_X6_append_I ht I A J it dyn v6) else I)) (if (lg_cmp (v3 &&& (L_X6_setOf_r ht I A J it dyn v6)) 0) = 0 then A else (if (lg_cmp ((J 7 v6.toNatClampNeg) &&& v3) 0) = 0 then (L_X6_append_A ht I A J it dyn v6) else A)) J it dyn v1 (if (lg_cmp (v3 &&& (L_X6_setOf_r ht I A J it dyn v6)) 0) = 0 then v3 else (if (lg_cmp ((J 7 v6.toNatClampNeg) &&& v3) 0) = 0 then (v3 &&& ((L_X6_setOf_r ht (L_X6_append_I ht I A J it dyn v6) (L_X6_append_A ht I A J it dyn v6) J it dyn v6) ^^^ (-1))) else v3 : Int64) : Int64) v5 (v6 + 1)))) := hS
    have hq : fsW G l mX6_putInOrder 2 0 0 0 0 Q 128 [(0, .inr (.inr (some 5))), (1, .inr (.inl v1)), (3, .inr (.inl (if 64 ≤ v6 then v3 else (Lb_X6_putInOrder_71_v3 n ht (if (lg_cmp (v3 &&& (L_X6_setOf_r ht I A J it dyn v6)) 0) = 0 then I else (if (lg_cmp ((J 7 v6.toNatClampNeg) &&& v3) 0) = 0 then (L_X6_append_I ht I A J it dyn v6) else I)) (if (lg_cmp (v3 &&& (L_X6_setOf_r ht I A J it dyn v6)) 0) = 0 then A else (if (lg_cmp ((J 7 v6.toNatClampNeg) &&& v3) 0) = 0 then (L_X6_append_A ht I A J it dyn v6) else A)) J it dyn v1 (if (lg_cmp (v3 &&& (L_X6_setOf_r ht I A J it dyn v6)) 0) = 0 then v3 else (if (lg_cmp ((J 7 v6.toNatClampNeg) &&& v3) 0) = 0 then (v3 &&& ((L_X6_setOf_r ht (L_X6_append_I ht I A J it dyn v6) (L_X6_append_A ht I A J it dyn v6) J it dyn v6) ^^^ (-1))) else v3 : Int64) : Int64) v5 (v6 + 1))))), (5, .inl v5), (6, .inl (if 64 ≤ v6 then v6 else (Lb_X6_putInOrder_71_v6 n ht (if (lg_cmp (v3 &&& (L_X6_setOf_r ht I A J it dyn v6)) 0) = 0 then I else (if (lg_cmp ((J 7 v6.toNatClampNeg) &&& v3) 0) = 0 then (L_X6_append_I ht I A J it dyn v6) else I)) (if (lg_cmp (v3 &&& (L_X6_setOf_r ht I A J it dyn v6)) 0) = 0 then A else (if (lg_cmp ((J 7 v6.toNatClampNeg) &&& v3) 0) = 0 then (L_X6_append_A ht I A J it dyn v6) else A)) J it dyn v1 (if (lg_cmp (v3 &&& (L_X6_setOf_r ht I A J it dyn v6)) 0) = 0 then v3 else (if (lg_cmp ((J 7 v6.toNatClampNeg) &&& v3) 0) = 0 then (v3 &&& ((L_X6_setOf_r ht (L_X6_append_I ht I A J it dyn v6) (L_X6_append_A ht I A J it dyn v6) J it dyn v6) ^^^ (-1))) else v3 : Int64) : Int64) v5 (v6 + 1))))] [] (fs_mk ht (if 64 ≤ v6 then I else (Lb_X6_putInOrder_71_I n ht (if (lg_cmp (v3 &&& (L_X6_setOf_r ht I A J it dyn v6)) 0) = 0 then I else (if (lg_cmp ((J 7 v6.toNatClampNeg) &&& v3) 0) = 0 then (L_X6_append_I ht I A J it dyn v6) else I)) (if (lg_cmp (v3 &&& (L_X6_setOf_r ht I A J it dyn v6)) 0) = 0 then A else (if (lg_cmp ((J 7 v6.toNatClampNeg) &&& v3) 0) = 0 then (L_X6_append_A ht I A J it dyn v6) else A)) J it dyn v1 (if (lg_cmp (v3 &&& (L_X6_setOf_r ht I A J it dyn v6)) 0) = 0 then v3 else (if (lg_cmp ((J 7 v6.toNatClampNeg) &&& v3) 0) = 0 then (v3 &&& ((L_X6_setOf_r ht (L_X6_append_I ht I A J it dyn v6) (L_X6_append_A ht I A J it dyn v6) J it dyn v6) ^^^ (-1))) else v3 : Int64) : Int64) v5 (v6 + 1))) (if 64 ≤ v6 then A else (Lb_X6_putInOrder_71_A n ht (if (lg_cmp (v3 &&& (L_X6_setOf_r ht I A J it dyn v6)) 0) = 0 then I else (if (lg_cmp ((J 7 v6.toNatClampNeg) &&& v3) 0) = 0 then (L_X6_append_I ht I A J it dyn v6) else I)) (if (lg_cmp (v3 &&& (L_X6_setOf_r ht I A J it dyn v6)) 0) = 0 then A else (if (lg_cmp ((J 7 v6.toNatClampNeg) &&& v3) 0) = 0 then (L_X6_append_A ht I A J it dyn v6) else A)) J it dyn v1 (if (lg_cmp (v3 &&& (L_X6_setOf_r ht I A J it dyn v6)) 0) = 0 then v3 else (if (lg_cmp ((J 7 v6.toNatClampNeg) &&& v3) 0) = 0 then (v3 &&& ((L_X6_setOf_r ht (L_X6_append_I ht I A J it dyn v6) (L_X6_append_A ht I A J it dyn v6) J it dyn v6) ^^^ (-1))) else v3 : Int64) : Int64) v5 (v6 + 1))) J it dyn) := hq
    refine fs_iload dX6_putInOrder_71 rfl ?_
    refine fs_bipush (v := 64) dX6_putInOrder_73 rfl ?_
    refine fs_icmp_ge 128 dX6_putInOrder_75 (by decide) (fun c_75 : 64 ≤ v6 => ?_) (fun c_75 : ¬ (64 ≤ v6) => ?_)
    · have k9 := hq
      try simp only [if_pos c_75] at k9 ⊢
      exact k9
    · have hS := hS c_75
      refine fs_lload_n dX6_putInOrder_78 rfl rfl ?_
      refine fs_iload dX6_putInOrder_79 rfl ?_
      refine fs_callS1 dX6_putInOrder_81 sv_X6_100 (c_X6_setOf G l ht I A J it dyn v6) rfl rfl (Nat.le_of_ble_eq_true rfl) (Nat.le_of_ble_eq_true rfl) (Nat.le_of_ble_eq_true rfl) (Nat.le_of_ble_eq_true rfl) ?_
      refine fs_land dX6_putInOrder_84 ?_
      refine fs_lconst (v := 0) dX6_putInOrder_85 rfl ?_
      refine fs_lcmp dX6_putInOrder_86 ?_
      obtain ⟨hR_87, hS⟩ := hS
      have key_122 : fsW G l mX6_putInOrder 2 0 0 0 0 Q 122 [(0, .inr (.inr (some 5))), (1, .inr (.inl v1)), (3, .inr (.inl (if (lg_cmp (v3 &&& (L_X6_setOf_r ht I A J it dyn v6)) 0) = 0 then v3 else (if (lg_cmp ((J 7 v6.toNatClampNeg) &&& v3) 0) = 0 then (v3 &&& ((L_X6_setOf_r ht (L_X6_append_I ht I A J it dyn v6) (L_X6_append_A ht I A J it dyn v6) J it dyn v6) ^^^ (-1))) else v3 : Int64) : Int64))), (5, .inl v5), (6, .inl v6)] [] (fs_mk ht (if (lg_cmp (v3 &&& (L_X6_setOf_r ht I A J it dyn v6)) 0) = 0 then I else (if (lg_cmp ((J 7 v6.toNatClampNeg) &&& v3) 0) = 0 then (L_X6_append_I ht I A J it dyn v6) else I)) (if (lg_cmp (v3 &&& (L_X6_setOf_r ht I A J it dyn v6)) 0) = 0 then A else (if (lg_cmp ((J 7 v6.toNatClampNeg) &&& v3) 0) = 0 then (L_X6_append_A ht I A J it dyn v6) else A)) J it dyn) := by
        refine fs_iinc (v := (v6 + 1)) (L' := [(6, .inl (v6 + 1)), (0, .inr (.inr (some 5))), (1, .inr (.inl v1)), (3, .inr (.inl (if (lg_cmp (v3 &&& (L_X6_setOf_r ht I A J it dyn v6)) 0) = 0 then v3 else (if (lg_cmp ((J 7 v6.toNatClampNeg) &&& v3) 0) = 0 then (v3 &&& ((L_X6_setOf_r ht (L_X6_append_I ht I A J it dyn v6) (L_X6_append_A ht I A J it dyn v6) J it dyn v6) ^^^ (-1))) else v3 : Int64) : Int64))), (5, .inl v5)]) dX6_putInOrder_122 rfl rfl (by decide) rfl ?_
        refine fs_goto 71 dX6_putInOrder_125 (by decide) ?_
        refine fs_reL [1, 2, 3, 4, 0] rfl ?_
        have k9 := hq
        try simp only [if_neg c_75] at hS k9 ⊢
        exact ih _ _ _ _ _ _ _ _ _ _ hS k9
      refine fs_if_eq 122 dX6_putInOrder_87 (by decide) (fun c_87 : (lg_cmp (v3 &&& (L_X6_setOf_r ht I A J it dyn v6)) 0) = 0 => ?_) (fun c_87 : ¬ ((lg_cmp (v3 &&& (L_X6_setOf_r ht I A J it dyn v6)) 0) = 0) => ?_)
      · have k9 := key_122
        try simp only [if_neg c_75, if_pos c_87] at k9 ⊢
        exact k9
      · have hS := hR_87 c_87
        refine fs_aload_n dX6_putInOrder_90 rfl rfl ?_
        refine fs_getfield (v := .inr (.inr (some 7))) dX6_putInOrder_91 sf_X6_15 rfl rfl ?_
        refine fs_iload dX6_putInOrder_94 rfl ?_
        obtain ⟨ho1, hS⟩ := hS
        refine fs_laload dX6_putInOrder_96 rfl ho1 ?_
        refine fs_lload_n dX6_putInOrder_97 rfl rfl ?_
        refine fs_land dX6_putInOrder_98 ?_
        refine fs_lconst (v := 0) dX6_putInOrder_99 rfl ?_
        refine fs_lcmp dX6_putInOrder_100 ?_
        refine fs_if_ne 122 dX6_putInOrder_101 (by decide) (fun c_101 : ¬ (lg_cmp ((J 7 v6.toNatClampNeg) &&& v3) 0) = 0 => ?_) (fun c_101 : (lg_cmp ((J 7 v6.toNatClampNeg) &&& v3) 0) = 0 => ?_)
        · have k9 := key_122
          try simp only [if_neg c_75, if_neg c_87, if_neg c_101] at k9 ⊢
          exact k9
        · have hS := hS c_101
          refine fs_aload_n dX6_putInOrder_104 rfl rfl ?_
          refine fs_iload dX6_putInOrder_105 rfl ?_
          have ho1 := hS
          refine fs_callV0 dX6_putInOrder_107 sv_X6_132 rfl ⟨_, rfl, rfl⟩ (c_X6_append G l ht I A J it dyn v6 ho1) rfl rfl (Nat.le_of_ble_eq_true rfl) (Nat.le_of_ble_eq_true rfl) (Nat.le_of_ble_eq_true rfl) (Nat.le_of_ble_eq_true rfl) ?_
          refine fs_lload_n dX6_putInOrder_110 rfl rfl ?_
          refine fs_iload dX6_putInOrder_111 rfl ?_
          refine fs_callS1 dX6_putInOrder_113 sv_X6_100 (c_X6_setOf G l ht (L_X6_append_I ht I A J it dyn v6) (L_X6_append_A ht I A J it dyn v6) J it dyn v6) rfl rfl (Nat.le_of_ble_eq_true rfl) (Nat.le_of_ble_eq_true rfl) (Nat.le_of_ble_eq_true rfl) (Nat.le_of_ble_eq_true rfl) ?_
          refine fs_ldc2 (v := (-1)) dX6_putInOrder_116 sk_X6_135 ?_
          refine fs_lxor dX6_putInOrder_119 ?_
          refine fs_land dX6_putInOrder_120 ?_
          refine fs_lstore_n (L' := [(3, .inr (.inl (v3 &&& ((L_X6_setOf_r ht (L_X6_append_I ht I A J it dyn v6) (L_X6_append_A ht I A J it dyn v6) J it dyn v6) ^^^ (-1))))), (0, .inr (.inr (some 5))), (1, .inr (.inl v1)), (5, .inl v5), (6, .inl v6)]) dX6_putInOrder_121 rfl (by decide) rfl ?_
          refine fs_reL [1, 2, 0, 3, 4] rfl ?_
          have k9 := key_122
          try simp only [if_neg c_75, if_neg c_87, if_pos c_101] at k9 ⊢
          exact k9
def Lb_X6_putInOrder_55_I : Nat → Nat → (Nat → Int32) → (Nat → Nat → Int32) → (Nat → Nat → Int64) → (Nat → Option Nat) → fsH → Int64 → Int64 → Int32 → (Nat → Int32)
  | 0, ht, I, A, J, it, dyn, v1, v3, v5 => I
  | n + 1, ht, I, A, J, it, dyn, v1, v3, v5 => (if 64 ≤ v5 then I else (if (lg_cmp v3 0) = 0 then I else (Lb_X6_putInOrder_55_I n ht (Lb_X6_putInOrder_71_I 70 ht I A J it dyn v1 v3 v5 0) (Lb_X6_putInOrder_71_A 70 ht I A J it dyn v1 v3 v5 0) J it dyn v1 (Lb_X6_putInOrder_71_v3 70 ht I A J it dyn v1 v3 v5 0) (v5 + 1))))
def Lb_X6_putInOrder_55_A : Nat → Nat → (Nat → Int32) → (Nat → Nat → Int32) → (Nat → Nat → Int64) → (Nat → Option Nat) → fsH → Int64 → Int64 → Int32 → (Nat → Nat → Int32)
  | 0, ht, I, A, J, it, dyn, v1, v3, v5 => A
  | n + 1, ht, I, A, J, it, dyn, v1, v3, v5 => (if 64 ≤ v5 then A else (if (lg_cmp v3 0) = 0 then A else (Lb_X6_putInOrder_55_A n ht (Lb_X6_putInOrder_71_I 70 ht I A J it dyn v1 v3 v5 0) (Lb_X6_putInOrder_71_A 70 ht I A J it dyn v1 v3 v5 0) J it dyn v1 (Lb_X6_putInOrder_71_v3 70 ht I A J it dyn v1 v3 v5 0) (v5 + 1))))
def Lb_X6_putInOrder_55_v3 : Nat → Nat → (Nat → Int32) → (Nat → Nat → Int32) → (Nat → Nat → Int64) → (Nat → Option Nat) → fsH → Int64 → Int64 → Int32 → Int64
  | 0, ht, I, A, J, it, dyn, v1, v3, v5 => v3
  | n + 1, ht, I, A, J, it, dyn, v1, v3, v5 => (if 64 ≤ v5 then v3 else (if (lg_cmp v3 0) = 0 then v3 else (Lb_X6_putInOrder_55_v3 n ht (Lb_X6_putInOrder_71_I 70 ht I A J it dyn v1 v3 v5 0) (Lb_X6_putInOrder_71_A 70 ht I A J it dyn v1 v3 v5 0) J it dyn v1 (Lb_X6_putInOrder_71_v3 70 ht I A J it dyn v1 v3 v5 0) (v5 + 1))))
def Lb_X6_putInOrder_55_v5 : Nat → Nat → (Nat → Int32) → (Nat → Nat → Int32) → (Nat → Nat → Int64) → (Nat → Option Nat) → fsH → Int64 → Int64 → Int32 → Int32
  | 0, ht, I, A, J, it, dyn, v1, v3, v5 => v5
  | n + 1, ht, I, A, J, it, dyn, v1, v3, v5 => (if 64 ≤ v5 then v5 else (if (lg_cmp v3 0) = 0 then v5 else (Lb_X6_putInOrder_55_v5 n ht (Lb_X6_putInOrder_71_I 70 ht I A J it dyn v1 v3 v5 0) (Lb_X6_putInOrder_71_A 70 ht I A J it dyn v1 v3 v5 0) J it dyn v1 (Lb_X6_putInOrder_71_v3 70 ht I A J it dyn v1 v3 v5 0) (v5 + 1))))
def S_Lb_X6_putInOrder_55 : Nat → Nat → (Nat → Int32) → (Nat → Nat → Int32) → (Nat → Nat → Int64) → (Nat → Option Nat) → fsH → Int64 → Int64 → Int32 → Prop
  | 0, _, _, _, _, _, _, _, _, _ => False
  | n + 1, ht, I, A, J, it, dyn, v1, v3, v5 => (¬ (64 ≤ v5) → (¬ ((lg_cmp v3 0) = 0) → ((S_Lb_X6_putInOrder_71 70 ht I A J it dyn v1 v3 v5 0) ∧ (S_Lb_X6_putInOrder_55 n ht (Lb_X6_putInOrder_71_I 70 ht I A J it dyn v1 v3 v5 0) (Lb_X6_putInOrder_71_A 70 ht I A J it dyn v1 v3 v5 0) J it dyn v1 (Lb_X6_putInOrder_71_v3 70 ht I A J it dyn v1 v3 v5 0) (v5 + 1)))))
set_option maxRecDepth 100000 in
set_option maxHeartbeats 4000000 in
theorem lp_Lb_X6_putInOrder_55 (G : fsG) (l : Launch) (Q : Option fsV → fsH → Prop) : ∀ (n : Nat) (ht : Nat) (I : Nat → Int32) (A : Nat → Nat → Int32) (J : Nat → Nat → Int64) (it : Nat → Option Nat) (dyn : fsH) (v1 : Int64) (v3 : Int64) (v5 : Int32), S_Lb_X6_putInOrder_55 n ht I A J it dyn v1 v3 v5 → (fsW G l mX6_putInOrder 2 0 0 0 0 Q 134 [(0, .inr (.inr (some 5))), (1, .inr (.inl v1)), (3, .inr (.inl (Lb_X6_putInOrder_55_v3 n ht I A J it dyn v1 v3 v5))), (5, .inl (Lb_X6_putInOrder_55_v5 n ht I A J it dyn v1 v3 v5))] [] (fs_mk ht (Lb_X6_putInOrder_55_I n ht I A J it dyn v1 v3 v5) (Lb_X6_putInOrder_55_A n ht I A J it dyn v1 v3 v5) J it dyn)) → fsW G l mX6_putInOrder 2 0 0 0 0 Q 55 [(0, .inr (.inr (some 5))), (1, .inr (.inl v1)), (3, .inr (.inl v3)), (5, .inl v5)] [] (fs_mk ht I A J it dyn) := by
  intro n
  induction n with
  | zero =>
    intro ht I A J it dyn v1 v3 v5 hS
    exact hS.elim
  | succ n ih =>
    intro ht I A J it dyn v1 v3 v5 hS hq
    have hS : (¬ (64 ≤ v5) → (¬ ((lg_cmp v3 0) = 0) → ((S_Lb_X6_putInOrder_71 70 ht I A J it dyn v1 v3 v5 0) ∧ (S_Lb_X6_putInOrder_55 n ht (Lb_X6_putInOrder_71_I 70 ht I A J it dyn v1 v3 v5 0) (Lb_X6_putInOrder_71_A 70 ht I A J it dyn v1 v3 v5 0) J it dyn v1 (Lb_X6_putInOrder_71_v3 70 ht I A J it dyn v1 v3 v5 0) (v5 + 1))))) := hS
    have hq : fsW G l mX6_putInOrder 2 0 0 0 0 Q 134 [(0, .inr (.inr (some 5))), (1, .inr (.inl v1)), (3, .inr (.inl (if 64 ≤ v5 then v3 else (if (lg_cmp v3 0) = 0 then v3 else (Lb_X6_putInOrder_55_v3 n ht (Lb_X6_putInOrder_71_I 70 ht I A J it dyn v1 v3 v5 0) (Lb_X6_putInOrder_71_A 70 ht I A J it dyn v1 v3 v5 0) J it dyn v1 (Lb_X6_putInOrder_71_v3 70 ht I A J it dyn v1 v3 v5 0) (v5 + 1)))))), (5, .inl (if 64 ≤ v5 then v5 else (if (lg_cmp v3 0) = 0 then v5 else (Lb_X6_putInOrder_55_v5 n ht (Lb_X6_putInOrder_71_I 70 ht I A J it dyn v1 v3 v5 0) (Lb_X6_putInOrder_71_A 70 ht I A J it dyn v1 v3 v5 0) J it dyn v1 (Lb_X6_putInOrder_71_v3 70 ht I A J it dyn v1 v3 v5 0) (v5 + 1)))))] [] (fs_mk ht (if 64 ≤ v5 then I else (if (lg_cmp v3 0) = 0 then I else (Lb_X6_putInOrder_55_I n ht (Lb_X6_putInOrder_71_I 70 ht I A J it dyn v1 v3 v5 0) (Lb_X6_putInOrder_71_A 70 ht I A J it dyn v1 v3 v5 0) J it dyn v1 (Lb_X6_putInOrder_71_v3 70 ht I A J it dyn v1 v3 v5 0) (v5 + 1)))) (if 64 ≤ v5 then A else (if (lg_cmp v3 0) = 0 then A else (Lb_X6_putInOrder_55_A n ht (Lb_X6_putInOrder_71_I 70 ht I A J it dyn v1 v3 v5 0) (Lb_X6_putInOrder_71_A 70 ht I A J it dyn v1 v3 v5 0) J it dyn v1 (Lb_X6_putInOrder_71_v3 70 ht I A J it dyn v1 v3 v5 0) (v5 + 1)))) J it dyn) := hq
    refine fs_iload dX6_putInOrder_55 rfl ?_
    refine fs_bipush (v := 64) dX6_putInOrder_57 rfl ?_
    refine fs_icmp_ge 134 dX6_putInOrder_59 (by decide) (fun c_59 : 64 ≤ v5 => ?_) (fun c_59 : ¬ (64 ≤ v5) => ?_)
    · have k9 := hq
      try simp only [if_pos c_59] at k9 ⊢
      exact k9
    · have hS := hS c_59
      refine fs_lload_n dX6_putInOrder_62 rfl rfl ?_
      refine fs_lconst (v := 0) dX6_putInOrder_63 rfl ?_
      refine fs_lcmp dX6_putInOrder_64 ?_
      refine fs_if_eq 134 dX6_putInOrder_65 (by decide) (fun c_65 : (lg_cmp v3 0) = 0 => ?_) (fun c_65 : ¬ ((lg_cmp v3 0) = 0) => ?_)
      · have k9 := hq
        try simp only [if_neg c_59, if_pos c_65] at k9 ⊢
        exact k9
      · have hS := hS c_65
        refine fs_iconst (v := 0) dX6_putInOrder_68 rfl ?_
        refine fs_istore (L' := [(6, .inl 0), (0, .inr (.inr (some 5))), (1, .inr (.inl v1)), (3, .inr (.inl v3)), (5, .inl v5)]) dX6_putInOrder_69 (by decide) rfl ?_
        refine fs_reL [1, 2, 3, 4, 0] rfl ?_
        obtain ⟨ho1, hS⟩ := hS
        refine lp_Lb_X6_putInOrder_71 G l Q 70 ht I A J it dyn v1 v3 v5 0 ho1 ?_
        refine fs_iinc (v := (v5 + 1)) (L' := [(5, .inl (v5 + 1)), (0, .inr (.inr (some 5))), (1, .inr (.inl v1)), (3, .inr (.inl (Lb_X6_putInOrder_71_v3 70 ht I A J it dyn v1 v3 v5 0))), (6, .inl (Lb_X6_putInOrder_71_v6 70 ht I A J it dyn v1 v3 v5 0))]) dX6_putInOrder_128 rfl rfl (by decide) rfl ?_
        refine fs_goto 55 dX6_putInOrder_131 (by decide) ?_
        refine fs_reL [1, 2, 3, 0] rfl ?_
        have k9 := hq
        try simp only [if_neg c_59, if_neg c_65] at hS k9 ⊢
        exact ih _ _ _ _ _ _ _ _ _ hS k9
def L_X6_putInOrder_I (ht : Nat) (I : Nat → Int32) (A : Nat → Nat → Int32) (J : Nat → Nat → Int64) (it : Nat → Option Nat) (dyn : fsH) (x1 : Int64) : Nat → Int32 := (Lb_X6_putInOrder_55_I 70 ht (Lb_X6_putInOrder_10_I 70 ht (upd I 6 0) A J it dyn x1 x1 0) (Lb_X6_putInOrder_10_A 70 ht (upd I 6 0) A J it dyn x1 x1 0) J it dyn x1 (Lb_X6_putInOrder_10_v3 70 ht (upd I 6 0) A J it dyn x1 x1 0) 0)
def L_X6_putInOrder_A (ht : Nat) (I : Nat → Int32) (A : Nat → Nat → Int32) (J : Nat → Nat → Int64) (it : Nat → Option Nat) (dyn : fsH) (x1 : Int64) : Nat → Nat → Int32 := (Lb_X6_putInOrder_55_A 70 ht (Lb_X6_putInOrder_10_I 70 ht (upd I 6 0) A J it dyn x1 x1 0) (Lb_X6_putInOrder_10_A 70 ht (upd I 6 0) A J it dyn x1 x1 0) J it dyn x1 (Lb_X6_putInOrder_10_v3 70 ht (upd I 6 0) A J it dyn x1 x1 0) 0)
def S_X6_putInOrder (ht : Nat) (I : Nat → Int32) (A : Nat → Nat → Int32) (J : Nat → Nat → Int64) (it : Nat → Option Nat) (dyn : fsH) (x1 : Int64) : Prop := ((S_Lb_X6_putInOrder_10 70 ht (upd I 6 0) A J it dyn x1 x1 0) ∧ (S_Lb_X6_putInOrder_55 70 ht (Lb_X6_putInOrder_10_I 70 ht (upd I 6 0) A J it dyn x1 x1 0) (Lb_X6_putInOrder_10_A 70 ht (upd I 6 0) A J it dyn x1 x1 0) J it dyn x1 (Lb_X6_putInOrder_10_v3 70 ht (upd I 6 0) A J it dyn x1 x1 0) 0))
set_option maxRecDepth 100000 in
set_option maxHeartbeats 4000000 in
theorem c_X6_putInOrder (G : fsG) (l : Launch) (ht : Nat) (I : Nat → Int32) (A : Nat → Nat → Int32) (J : Nat → Nat → Int64) (it : Nat → Option Nat) (dyn : fsH) (x1 : Int64) (hS : S_X6_putInOrder ht I A J it dyn x1) : fsFn G l mX6_putInOrder 2 0 0 [.inr (.inr (some 5)), .inr (.inl x1)] (fs_mk ht I A J it dyn) none (fs_mk ht (L_X6_putInOrder_I ht I A J it dyn x1) (L_X6_putInOrder_A ht I A J it dyn x1) J it dyn) := by
  refine fsMet_of (by decide) (Nat.le_of_ble_eq_true rfl) ?_
  generalize hQ : (fun (r1 : Option fsV) (h1 : fsH) => r1 = none ∧ h1 = (fs_mk ht (L_X6_putInOrder_I ht I A J it dyn x1) (L_X6_putInOrder_A ht I A J it dyn x1) J it dyn)) = Q
  have hq : Q none (fs_mk ht (L_X6_putInOrder_I ht I A J it dyn x1) (L_X6_putInOrder_A ht I A J it dyn x1) J it dyn) := by rw [← hQ]; exact ⟨rfl, rfl⟩
  clear hQ
  have hq : Q none (fs_mk ht (Lb_X6_putInOrder_55_I 70 ht (Lb_X6_putInOrder_10_I 70 ht (upd I 6 0) A J it dyn x1 x1 0) (Lb_X6_putInOrder_10_A 70 ht (upd I 6 0) A J it dyn x1 x1 0) J it dyn x1 (Lb_X6_putInOrder_10_v3 70 ht (upd I 6 0) A J it dyn x1 x1 0) 0) (Lb_X6_putInOrder_55_A 70 ht (Lb_X6_putInOrder_10_I 70 ht (upd I 6 0) A J it dyn x1 x1 0) (Lb_X6_putInOrder_10_A 70 ht (upd I 6 0) A J it dyn x1 x1 0) J it dyn x1 (Lb_X6_putInOrder_10_v3 70 ht (upd I 6 0) A J it dyn x1 x1 0) 0) J it dyn) := hq
  have hS : ((S_Lb_X6_putInOrder_10 70 ht (upd I 6 0) A J it dyn x1 x1 0) ∧ (S_Lb_X6_putInOrder_55 70 ht (Lb_X6_putInOrder_10_I 70 ht (upd I 6 0) A J it dyn x1 x1 0) (Lb_X6_putInOrder_10_A 70 ht (upd I 6 0) A J it dyn x1 x1 0) J it dyn x1 (Lb_X6_putInOrder_10_v3 70 ht (upd I 6 0) A J it dyn x1 x1 0) 0)) := hS
  refine (show fsW G l mX6_putInOrder 2 0 0 0 0 Q 0 [(0, .inr (.inr (some 5))), (1, .inr (.inl x1))] [] (fs_mk ht I A J it dyn) from ?_)
  refine fs_lload_n dX6_putInOrder_0 rfl rfl ?_
  refine fs_lstore_n (L' := [(3, .inr (.inl x1)), (0, .inr (.inr (some 5))), (1, .inr (.inl x1))]) dX6_putInOrder_1 rfl (by decide) rfl ?_
  refine fs_aload_n dX6_putInOrder_2 rfl rfl ?_
  refine fs_iconst (v := 0) dX6_putInOrder_3 rfl ?_
  refine fsp_6 dX6_putInOrder_4 sp_X6_22 ?_
  refine fs_iconst (v := 0) dX6_putInOrder_7 rfl ?_
  refine fs_istore (L' := [(5, .inl 0), (3, .inr (.inl x1)), (0, .inr (.inr (some 5))), (1, .inr (.inl x1))]) dX6_putInOrder_8 (by decide) rfl ?_
  refine fs_reL [2, 3, 1, 0] rfl ?_
  obtain ⟨ho1, hS⟩ := hS
  refine lp_Lb_X6_putInOrder_10 G l Q 70 ht (upd I 6 0) A J it dyn x1 x1 0 ho1 ?_
  refine fs_iconst (v := 0) dX6_putInOrder_52 rfl ?_
  refine fs_istore (L' := [(5, .inl 0), (0, .inr (.inr (some 5))), (1, .inr (.inl x1)), (3, .inr (.inl (Lb_X6_putInOrder_10_v3 70 ht (upd I 6 0) A J it dyn x1 x1 0)))]) dX6_putInOrder_53 (by decide) rfl ?_
  refine fs_reL [1, 2, 3, 0] rfl ?_
  have ho1 := hS
  refine lp_Lb_X6_putInOrder_55 G l Q 70 ht (Lb_X6_putInOrder_10_I 70 ht (upd I 6 0) A J it dyn x1 x1 0) (Lb_X6_putInOrder_10_A 70 ht (upd I 6 0) A J it dyn x1 x1 0) J it dyn x1 (Lb_X6_putInOrder_10_v3 70 ht (upd I 6 0) A J it dyn x1 x1 0) 0 ho1 ?_
  have k9 := hq
  exact fs_ret dX6_putInOrder_134 rfl k9
def La_X6_total_5_r : Nat → Nat → (Nat → Int32) → (Nat → Nat → Int32) → (Nat → Nat → Int64) → (Nat → Option Nat) → fsH → Int32 → Int64 → Int32 → Int64
  | 0, ht, I, A, J, it, dyn, v1, v2, v4 => 0
  | n + 1, ht, I, A, J, it, dyn, v1, v2, v4 => (if (L_X1_rowsOf_r ht I A J it dyn v1) ≤ v4 then (L_X0_limited_r ht I A J it dyn v2) else (if (L_X7_isFault_r ht I A J it dyn (J 6 (L_X7_cellOf_r ht I A J it dyn v1 v4).toNatClampNeg)) = 0 then (La_X6_total_5_r n ht I A J it dyn v1 (v2 + (J 6 (L_X7_cellOf_r ht I A J it dyn v1 v4).toNatClampNeg)) (v4 + 1)) else (J 6 (L_X7_cellOf_r ht I A J it dyn v1 v4).toNatClampNeg)))
def S_La_X6_total_5 : Nat → Nat → (Nat → Int32) → (Nat → Nat → Int32) → (Nat → Nat → Int64) → (Nat → Option Nat) → fsH → Int32 → Int64 → Int32 → Prop
  | 0, _, _, _, _, _, _, _, _, _ => False
  | n + 1, ht, I, A, J, it, dyn, v1, v2, v4 => ((S_X1_rowsOf ht I A J it dyn v1) ∧ (¬ ((L_X1_rowsOf_r ht I A J it dyn v1) ≤ v4) → ((vp_in (L_X7_cellOf_r ht I A J it dyn v1 v4) 64) ∧ (((L_X7_isFault_r ht I A J it dyn (J 6 (L_X7_cellOf_r ht I A J it dyn v1 v4).toNatClampNeg)) = 0) → (S_La_X6_total_5 n ht I A J it dyn v1 (v2 + (J 6 (L_X7_cellOf_r ht I A J it dyn v1 v4).toNatClampNeg)) (v4 + 1))))))
set_option maxRecDepth 100000 in
set_option maxHeartbeats 4000000 in
theorem lp_La_X6_total_5 (G : fsG) (l : Launch) (Q : Option fsV → fsH → Prop) : ∀ (n : Nat) (ht : Nat) (I : Nat → Int32) (A : Nat → Nat → Int32) (J : Nat → Nat → Int64) (it : Nat → Option Nat) (dyn : fsH) (v1 : Int32) (v2 : Int64) (v4 : Int32), S_La_X6_total_5 n ht I A J it dyn v1 v2 v4 → (Q (some (.inr (.inl (La_X6_total_5_r n ht I A J it dyn v1 v2 v4)))) (fs_mk ht I A J it dyn)) → fsW G l mX6_total 1 0 0 0 0 Q 5 [(0, .inr (.inr (some 5))), (1, .inl v1), (2, .inr (.inl v2)), (4, .inl v4)] [] (fs_mk ht I A J it dyn) := by
  intro n
  induction n with
  | zero =>
    intro ht I A J it dyn v1 v2 v4 hS
    exact hS.elim
  | succ n ih =>
    intro ht I A J it dyn v1 v2 v4 hS hq
    have hS : ((S_X1_rowsOf ht I A J it dyn v1) ∧ (¬ ((L_X1_rowsOf_r ht I A J it dyn v1) ≤ v4) → ((vp_in (L_X7_cellOf_r ht I A J it dyn v1 v4) 64) ∧ (((L_X7_isFault_r ht I A J it dyn (J 6 (L_X7_cellOf_r ht I A J it dyn v1 v4).toNatClampNeg)) = 0) → (S_La_X6_total_5 n ht I A J it dyn v1 (v2 + (J 6 (L_X7_cellOf_r ht I A J it dyn v1 v4).toNatClampNeg)) (v4 + 1)))))) := hS
    have hq : Q (some (.inr (.inl (if (L_X1_rowsOf_r ht I A J it dyn v1) ≤ v4 then (L_X0_limited_r ht I A J it dyn v2) else (if (L_X7_isFault_r ht I A J it dyn (J 6 (L_X7_cellOf_r ht I A J it dyn v1 v4).toNatClampNeg)) = 0 then (La_X6_total_5_r n ht I A J it dyn v1 (v2 + (J 6 (L_X7_cellOf_r ht I A J it dyn v1 v4).toNatClampNeg)) (v4 + 1)) else (J 6 (L_X7_cellOf_r ht I A J it dyn v1 v4).toNatClampNeg)))))) (fs_mk ht I A J it dyn) := hq
    refine fs_iload dX6_total_5 rfl ?_
    refine fs_aload_n dX6_total_7 rfl rfl ?_
    refine fs_getfield (v := .inr (.inr (some 3))) dX6_total_8 sf_X6_26 rfl rfl ?_
    refine fs_iload_n dX6_total_11 rfl rfl ?_
    obtain ⟨ho1, hS⟩ := hS
    refine fs_callV1 dX6_total_12 sv_X6_69 rfl ⟨_, rfl, rfl⟩ (c_X1_rowsOf G l ht I A J it dyn v1 ho1) rfl rfl (Nat.le_of_ble_eq_true rfl) (Nat.le_of_ble_eq_true rfl) (Nat.le_of_ble_eq_true rfl) (Nat.le_of_ble_eq_true rfl) ?_
    refine fs_icmp_ge 53 dX6_total_15 (by decide) (fun c_15 : (L_X1_rowsOf_r ht I A J it dyn v1) ≤ v4 => ?_) (fun c_15 : ¬ ((L_X1_rowsOf_r ht I A J it dyn v1) ≤ v4) => ?_)
    · refine fs_lload_n dX6_total_53 rfl rfl ?_
      refine fs_callS1 dX6_total_54 sv_X6_153 (c_X0_limited G l ht I A J it dyn v2) rfl rfl (Nat.le_of_ble_eq_true rfl) (Nat.le_of_ble_eq_true rfl) (Nat.le_of_ble_eq_true rfl) (Nat.le_of_ble_eq_true rfl) ?_
      have k9 := hq
      try simp only [if_pos c_15] at k9 ⊢
      exact fs_lret dX6_total_57 rfl k9
    · have hS := hS c_15
      refine fs_aload_n dX6_total_18 rfl rfl ?_
      refine fs_getfield (v := .inr (.inr (some 6))) dX6_total_19 sf_X6_9 rfl rfl ?_
      refine fs_iload_n dX6_total_22 rfl rfl ?_
      refine fs_iload dX6_total_23 rfl ?_
      refine fs_callSN1 dX6_total_25 sv_X6_51 (c_X7_cellOf G l ht I A J it dyn v1 v4) rfl rfl (Nat.le_of_ble_eq_true rfl) (Nat.le_of_ble_eq_true rfl) (Nat.le_of_ble_eq_true rfl) (Nat.le_of_ble_eq_true rfl) ?_
      obtain ⟨ho1, hS⟩ := hS
      refine fs_laload dX6_total_28 rfl ho1 ?_
      refine fs_lstore (L' := [(5, .inr (.inl (J 6 (L_X7_cellOf_r ht I A J it dyn v1 v4).toNatClampNeg))), (0, .inr (.inr (some 5))), (1, .inl v1), (2, .inr (.inl v2)), (4, .inl v4)]) dX6_total_29 (by decide) rfl ?_
      refine fs_lload dX6_total_31 rfl ?_
      refine fs_callSN1 dX6_total_33 sv_X6_65 (c_X7_isFault G l ht I A J it dyn (J 6 (L_X7_cellOf_r ht I A J it dyn v1 v4).toNatClampNeg)) rfl rfl (Nat.le_of_ble_eq_true rfl) (Nat.le_of_ble_eq_true rfl) (Nat.le_of_ble_eq_true rfl) (Nat.le_of_ble_eq_true rfl) ?_
      refine fs_if_eq 42 dX6_total_36 (by decide) (fun c_36 : (L_X7_isFault_r ht I A J it dyn (J 6 (L_X7_cellOf_r ht I A J it dyn v1 v4).toNatClampNeg)) = 0 => ?_) (fun c_36 : ¬ ((L_X7_isFault_r ht I A J it dyn (J 6 (L_X7_cellOf_r ht I A J it dyn v1 v4).toNatClampNeg)) = 0) => ?_)
      · have hS := hS c_36
        refine fs_lload_n dX6_total_42 rfl rfl ?_
        refine fs_lload dX6_total_43 rfl ?_
        refine fs_ladd dX6_total_45 ?_
        refine fs_lstore_n (L' := [(2, .inr (.inl (v2 + (J 6 (L_X7_cellOf_r ht I A J it dyn v1 v4).toNatClampNeg)))), (5, .inr (.inl (J 6 (L_X7_cellOf_r ht I A J it dyn v1 v4).toNatClampNeg))), (0, .inr (.inr (some 5))), (1, .inl v1), (4, .inl v4)]) dX6_total_46 rfl (by decide) rfl ?_
        refine fs_iinc (v := (v4 + 1)) (L' := [(4, .inl (v4 + 1)), (2, .inr (.inl (v2 + (J 6 (L_X7_cellOf_r ht I A J it dyn v1 v4).toNatClampNeg)))), (5, .inr (.inl (J 6 (L_X7_cellOf_r ht I A J it dyn v1 v4).toNatClampNeg))), (0, .inr (.inr (some 5))), (1, .inl v1)]) dX6_total_47 rfl rfl (by decide) rfl ?_
        refine fs_goto 5 dX6_total_50 (by decide) ?_
        refine fs_reL [3, 4, 1, 0] rfl ?_
        have k9 := hq
        try simp only [if_neg c_15, if_pos c_36] at hS k9 ⊢
        exact ih _ _ _ _ _ _ _ _ _ hS k9
      · refine fs_lload dX6_total_39 rfl ?_
        have k9 := hq
        try simp only [if_neg c_15, if_neg c_36] at k9 ⊢
        exact fs_lret dX6_total_41 rfl k9
def L_X6_total_r (ht : Nat) (I : Nat → Int32) (A : Nat → Nat → Int32) (J : Nat → Nat → Int64) (it : Nat → Option Nat) (dyn : fsH) (x1 : Int32) : Int64 := (La_X6_total_5_r 70 ht I A J it dyn x1 0 0)
def S_X6_total (ht : Nat) (I : Nat → Int32) (A : Nat → Nat → Int32) (J : Nat → Nat → Int64) (it : Nat → Option Nat) (dyn : fsH) (x1 : Int32) : Prop := (S_La_X6_total_5 70 ht I A J it dyn x1 0 0)
set_option maxRecDepth 100000 in
set_option maxHeartbeats 4000000 in
theorem c_X6_total (G : fsG) (l : Launch) (ht : Nat) (I : Nat → Int32) (A : Nat → Nat → Int32) (J : Nat → Nat → Int64) (it : Nat → Option Nat) (dyn : fsH) (x1 : Int32) (hS : S_X6_total ht I A J it dyn x1) : fsFn G l mX6_total 1 0 0 [.inr (.inr (some 5)), .inl x1] (fs_mk ht I A J it dyn) (some (.inr (.inl (L_X6_total_r ht I A J it dyn x1)))) (fs_mk ht I A J it dyn) := by
  refine fsMet_of (by decide) (Nat.le_of_ble_eq_true rfl) ?_
  generalize hQ : (fun (r1 : Option fsV) (h1 : fsH) => r1 = (some (.inr (.inl (L_X6_total_r ht I A J it dyn x1)))) ∧ h1 = (fs_mk ht I A J it dyn)) = Q
  have hq : Q (some (.inr (.inl (L_X6_total_r ht I A J it dyn x1)))) (fs_mk ht I A J it dyn) := by rw [← hQ]; exact ⟨rfl, rfl⟩
  clear hQ
  have hq : Q (some (.inr (.inl (La_X6_total_5_r 70 ht I A J it dyn x1 0 0)))) (fs_mk ht I A J it dyn) := hq
  have hS : (S_La_X6_total_5 70 ht I A J it dyn x1 0 0) := hS
  refine (show fsW G l mX6_total 1 0 0 0 0 Q 0 [(0, .inr (.inr (some 5))), (1, .inl x1)] [] (fs_mk ht I A J it dyn) from ?_)
  refine fs_lconst (v := 0) dX6_total_0 rfl ?_
  refine fs_lstore_n (L' := [(2, .inr (.inl 0)), (0, .inr (.inr (some 5))), (1, .inl x1)]) dX6_total_1 rfl (by decide) rfl ?_
  refine fs_iconst (v := 0) dX6_total_2 rfl ?_
  refine fs_istore (L' := [(4, .inl 0), (2, .inr (.inl 0)), (0, .inr (.inr (some 5))), (1, .inl x1)]) dX6_total_3 (by decide) rfl ?_
  refine fs_reL [2, 3, 1, 0] rfl ?_
  have ho1 := hS
  have k9 := hq
  exact lp_La_X6_total_5 G l Q 70 _ _ _ _ _ _ _ _ _ ho1 k9
def L_X6_forgetAll_J (ht : Nat) (I : Nat → Int32) (A : Nat → Nat → Int32) (J : Nat → Nat → Int64) (it : Nat → Option Nat) (dyn : fsH)  : Nat → Nat → Int64 := (L_J7_fillJ_6_J ht I A J it dyn 0)
def S_X6_forgetAll (ht : Nat) (I : Nat → Int32) (A : Nat → Nat → Int32) (J : Nat → Nat → Int64) (it : Nat → Option Nat) (dyn : fsH)  : Prop := (S_J7_fillJ_6 ht I A J it dyn 0)
set_option maxRecDepth 100000 in
set_option maxHeartbeats 4000000 in
theorem c_X6_forgetAll (G : fsG) (l : Launch) (ht : Nat) (I : Nat → Int32) (A : Nat → Nat → Int32) (J : Nat → Nat → Int64) (it : Nat → Option Nat) (dyn : fsH)  (hS : S_X6_forgetAll ht I A J it dyn ) : fsFn G l mX6_forgetAll 1 0 0 [.inr (.inr (some 5))] (fs_mk ht I A J it dyn) none (fs_mk ht I A (L_X6_forgetAll_J ht I A J it dyn ) it dyn) := by
  refine fsMet_of (by decide) (Nat.le_of_ble_eq_true rfl) ?_
  generalize hQ : (fun (r1 : Option fsV) (h1 : fsH) => r1 = none ∧ h1 = (fs_mk ht I A (L_X6_forgetAll_J ht I A J it dyn ) it dyn)) = Q
  have hq : Q none (fs_mk ht I A (L_X6_forgetAll_J ht I A J it dyn ) it dyn) := by rw [← hQ]; exact ⟨rfl, rfl⟩
  clear hQ
  have hq : Q none (fs_mk ht I A (L_J7_fillJ_6_J ht I A J it dyn 0) it dyn) := hq
  have hS : (S_J7_fillJ_6 ht I A J it dyn 0) := hS
  refine (show fsW G l mX6_forgetAll 1 0 0 0 0 Q 0 [(0, .inr (.inr (some 5)))] [] (fs_mk ht I A J it dyn) from ?_)
  refine fs_aload_n dX6_forgetAll_0 rfl rfl ?_
  refine fs_getfield (v := .inr (.inr (some 6))) dX6_forgetAll_1 sf_X6_9 rfl rfl ?_
  refine fs_lconst (v := 0) dX6_forgetAll_4 rfl ?_
  have ho1 := hS
  refine fs_callS0 dX6_forgetAll_5 sv_X6_30 (c_J7_fillJ_6 G l ht I A J it dyn 0 ho1) rfl rfl (Nat.le_of_ble_eq_true rfl) (Nat.le_of_ble_eq_true rfl) (Nat.le_of_ble_eq_true rfl) (Nat.le_of_ble_eq_true rfl) ?_
  have k9 := hq
  exact fs_ret dX6_forgetAll_8 rfl k9
def Lb_X6_cellsNamed_42_v3 : Nat → Nat → (Nat → Int32) → (Nat → Nat → Int32) → (Nat → Nat → Int64) → (Nat → Option Nat) → fsH → Option Nat → Int32 → Int64 → Int32 → Int64
  | 0, ht, I, A, J, it, dyn, v1, v2, v3, v5 => v3
  | n + 1, ht, I, A, J, it, dyn, v1, v2, v3, v5 => (if (L_X1_rowsOf_r ht I A J it dyn (fs_dI dyn v1 6)) ≤ v5 then v3 else (Lb_X6_cellsNamed_42_v3 n ht I A J it dyn v1 v2 (v3 ||| (L_X6_setOf_r ht I A J it dyn (L_X7_cellOf_r ht I A J it dyn (fs_dI dyn v1 6) v5))) (v5 + 1)))
def Lb_X6_cellsNamed_42_v5 : Nat → Nat → (Nat → Int32) → (Nat → Nat → Int32) → (Nat → Nat → Int64) → (Nat → Option Nat) → fsH → Option Nat → Int32 → Int64 → Int32 → Int32
  | 0, ht, I, A, J, it, dyn, v1, v2, v3, v5 => v5
  | n + 1, ht, I, A, J, it, dyn, v1, v2, v3, v5 => (if (L_X1_rowsOf_r ht I A J it dyn (fs_dI dyn v1 6)) ≤ v5 then v5 else (Lb_X6_cellsNamed_42_v5 n ht I A J it dyn v1 v2 (v3 ||| (L_X6_setOf_r ht I A J it dyn (L_X7_cellOf_r ht I A J it dyn (fs_dI dyn v1 6) v5))) (v5 + 1)))
def S_Lb_X6_cellsNamed_42 : Nat → Nat → (Nat → Int32) → (Nat → Nat → Int32) → (Nat → Nat → Int64) → (Nat → Option Nat) → fsH → Option Nat → Int32 → Int64 → Int32 → Prop
  | 0, _, _, _, _, _, _, _, _, _, _ => False
  | n + 1, ht, I, A, J, it, dyn, v1, v2, v3, v5 => ((fs_okP dyn v1) ∧ ((S_X1_rowsOf ht I A J it dyn (fs_dI dyn v1 6)) ∧ (¬ ((L_X1_rowsOf_r ht I A J it dyn (fs_dI dyn v1 6)) ≤ v5) → ((fs_okP dyn v1) ∧ (S_Lb_X6_cellsNamed_42 n ht I A J it dyn v1 v2 (v3 ||| (L_X6_setOf_r ht I A J it dyn (L_X7_cellOf_r ht I A J it dyn (fs_dI dyn v1 6) v5))) (v5 + 1))))))
set_option maxRecDepth 100000 in
set_option maxHeartbeats 4000000 in
theorem lp_Lb_X6_cellsNamed_42 (G : fsG) (l : Launch) (dE : Nat) (Q : Option fsV → fsH → Prop) : ∀ (n : Nat) (ht : Nat) (I : Nat → Int32) (A : Nat → Nat → Int32) (J : Nat → Nat → Int64) (it : Nat → Option Nat) (dyn : fsH) (v1 : Option Nat) (v2 : Int32) (v3 : Int64) (v5 : Int32), S_Lb_X6_cellsNamed_42 n ht I A J it dyn v1 v2 v3 v5 → (fsW G l mX6_cellsNamed (dE + 2) 0 0 0 0 Q 79 [(0, .inr (.inr (some 5))), (1, .inr (.inr v1)), (2, .inl v2), (3, .inr (.inl (Lb_X6_cellsNamed_42_v3 n ht I A J it dyn v1 v2 v3 v5))), (5, .inl (Lb_X6_cellsNamed_42_v5 n ht I A J it dyn v1 v2 v3 v5))] [] (fs_mk ht I A J it dyn)) → fsW G l mX6_cellsNamed (dE + 2) 0 0 0 0 Q 42 [(0, .inr (.inr (some 5))), (1, .inr (.inr v1)), (2, .inl v2), (3, .inr (.inl v3)), (5, .inl v5)] [] (fs_mk ht I A J it dyn) := by
  intro n
  induction n with
  | zero =>
    intro ht I A J it dyn v1 v2 v3 v5 hS
    exact hS.elim
  | succ n ih =>
    intro ht I A J it dyn v1 v2 v3 v5 hS hq
    have hS : ((fs_okP dyn v1) ∧ ((S_X1_rowsOf ht I A J it dyn (fs_dI dyn v1 6)) ∧ (¬ ((L_X1_rowsOf_r ht I A J it dyn (fs_dI dyn v1 6)) ≤ v5) → ((fs_okP dyn v1) ∧ (S_Lb_X6_cellsNamed_42 n ht I A J it dyn v1 v2 (v3 ||| (L_X6_setOf_r ht I A J it dyn (L_X7_cellOf_r ht I A J it dyn (fs_dI dyn v1 6) v5))) (v5 + 1)))))) := hS
    have hq : fsW G l mX6_cellsNamed (dE + 2) 0 0 0 0 Q 79 [(0, .inr (.inr (some 5))), (1, .inr (.inr v1)), (2, .inl v2), (3, .inr (.inl (if (L_X1_rowsOf_r ht I A J it dyn (fs_dI dyn v1 6)) ≤ v5 then v3 else (Lb_X6_cellsNamed_42_v3 n ht I A J it dyn v1 v2 (v3 ||| (L_X6_setOf_r ht I A J it dyn (L_X7_cellOf_r ht I A J it dyn (fs_dI dyn v1 6) v5))) (v5 + 1))))), (5, .inl (if (L_X1_rowsOf_r ht I A J it dyn (fs_dI dyn v1 6)) ≤ v5 then v5 else (Lb_X6_cellsNamed_42_v5 n ht I A J it dyn v1 v2 (v3 ||| (L_X6_setOf_r ht I A J it dyn (L_X7_cellOf_r ht I A J it dyn (fs_dI dyn v1 6) v5))) (v5 + 1))))] [] (fs_mk ht I A J it dyn) := hq
    refine fs_iload dX6_cellsNamed_42 rfl ?_
    refine fs_aload_n dX6_cellsNamed_44 rfl rfl ?_
    refine fs_getfield (v := .inr (.inr (some 3))) dX6_cellsNamed_45 sf_X6_26 rfl rfl ?_
    refine fs_aload_n dX6_cellsNamed_48 rfl rfl ?_
    obtain ⟨ho1, hS⟩ := hS
    refine fsg_P6 dX6_cellsNamed_49 sf_X6_117 ho1 ?_
    obtain ⟨ho1, hS⟩ := hS
    refine fs_callV1 dX6_cellsNamed_52 sv_X6_69 rfl ⟨_, rfl, rfl⟩ (c_X1_rowsOf G l ht I A J it dyn (fs_dI dyn v1 6) ho1) rfl rfl (Nat.le_of_ble_eq_true rfl) (by omega) (by omega) (by omega) ?_
    refine fs_icmp_ge 79 dX6_cellsNamed_55 (by decide) (fun c_55 : (L_X1_rowsOf_r ht I A J it dyn (fs_dI dyn v1 6)) ≤ v5 => ?_) (fun c_55 : ¬ ((L_X1_rowsOf_r ht I A J it dyn (fs_dI dyn v1 6)) ≤ v5) => ?_)
    · have k9 := hq
      try simp only [if_pos c_55] at k9 ⊢
      exact k9
    · have hS := hS c_55
      refine fs_lload_n dX6_cellsNamed_58 rfl rfl ?_
      refine fs_aload_n dX6_cellsNamed_59 rfl rfl ?_
      obtain ⟨ho1, hS⟩ := hS
      refine fsg_P6 dX6_cellsNamed_60 sf_X6_117 ho1 ?_
      refine fs_iload dX6_cellsNamed_63 rfl ?_
      refine fs_callSN1 dX6_cellsNamed_65 sv_X6_51 (c_X7_cellOf G l ht I A J it dyn (fs_dI dyn v1 6) v5) rfl rfl (Nat.le_of_ble_eq_true rfl) (by omega) (by omega) (by omega) ?_
      refine fs_callS1 dX6_cellsNamed_68 sv_X6_100 (c_X6_setOf G l ht I A J it dyn (L_X7_cellOf_r ht I A J it dyn (fs_dI dyn v1 6) v5)) rfl rfl (Nat.le_of_ble_eq_true rfl) (by omega) (by omega) (by omega) ?_
      refine fs_lor dX6_cellsNamed_71 ?_
      refine fs_lstore_n (L' := [(3, .inr (.inl (v3 ||| (L_X6_setOf_r ht I A J it dyn (L_X7_cellOf_r ht I A J it dyn (fs_dI dyn v1 6) v5))))), (0, .inr (.inr (some 5))), (1, .inr (.inr v1)), (2, .inl v2), (5, .inl v5)]) dX6_cellsNamed_72 rfl (by decide) rfl ?_
      refine fs_iinc (v := (v5 + 1)) (L' := [(5, .inl (v5 + 1)), (3, .inr (.inl (v3 ||| (L_X6_setOf_r ht I A J it dyn (L_X7_cellOf_r ht I A J it dyn (fs_dI dyn v1 6) v5))))), (0, .inr (.inr (some 5))), (1, .inr (.inr v1)), (2, .inl v2)]) dX6_cellsNamed_73 rfl rfl (by decide) rfl ?_
      refine fs_goto 42 dX6_cellsNamed_76 (by decide) ?_
      refine fs_reL [2, 3, 4, 1, 0] rfl ?_
      have k9 := hq
      try simp only [if_neg c_55] at hS k9 ⊢
      exact ih _ _ _ _ _ _ _ _ _ _ hS k9
def L_X6_cellsNamed_st_r (Er : Nat → (Nat → Int32) → (Nat → Nat → Int32) → (Nat → Nat → Int64) → (Nat → Option Nat) → fsH → Option Nat → Int32 → Int64) (ht : Nat) (I : Nat → Int32) (A : Nat → Nat → Int32) (J : Nat → Nat → Int64) (it : Nat → Option Nat) (dyn : fsH) (x1 : Option Nat) (x2 : Int32) : Int64 := (if x1 = none then 0 else (if (fs_dI dyn x1 0) = 97 then (L_X6_setOf_r ht I A J it dyn (L_X6_cellNamed_r ht I A J it dyn (fs_dI dyn x1 6) x2)) else (if (fs_dI dyn x1 0) = 35 then (Lb_X6_cellsNamed_42_v3 70 ht I A J it dyn x1 x2 0 0) else (((Er ht I A J it dyn (fs_dR dyn x1 3) x2) ||| (Er ht I A J it dyn (fs_dR dyn x1 4) x2)) ||| (Er ht I A J it dyn (fs_dR dyn x1 5) x2)))))
def S_X6_cellsNamed_st (Er : Nat → (Nat → Int32) → (Nat → Nat → Int32) → (Nat → Nat → Int64) → (Nat → Option Nat) → fsH → Option Nat → Int32 → Int64) (ES : Nat → (Nat → Int32) → (Nat → Nat → Int32) → (Nat → Nat → Int64) → (Nat → Option Nat) → fsH → Option Nat → Int32 → Prop) (ht : Nat) (I : Nat → Int32) (A : Nat → Nat → Int32) (J : Nat → Nat → Int64) (it : Nat → Option Nat) (dyn : fsH) (x1 : Option Nat) (x2 : Int32) : Prop := (¬ (x1 = none) → ((fs_okP dyn x1) ∧ ((((fs_dI dyn x1 0) = 97) → ((fs_okP dyn x1) ∧ (S_X6_cellNamed ht I A J it dyn (fs_dI dyn x1 6) x2))) ∧ (¬ ((fs_dI dyn x1 0) = 97) → ((fs_okP dyn x1) ∧ ((((fs_dI dyn x1 0) = 35) → (S_Lb_X6_cellsNamed_42 70 ht I A J it dyn x1 x2 0 0)) ∧ (¬ ((fs_dI dyn x1 0) = 35) → ((fs_okP dyn x1) ∧ ((ES ht I A J it dyn (fs_dR dyn x1 3) x2) ∧ ((fs_okP dyn x1) ∧ ((ES ht I A J it dyn (fs_dR dyn x1 4) x2) ∧ ((fs_okP dyn x1) ∧ (ES ht I A J it dyn (fs_dR dyn x1 5) x2)))))))))))))
set_option maxRecDepth 100000 in
set_option maxHeartbeats 4000000 in
theorem c_X6_cellsNamed_st (G : fsG) (l : Launch) (Er : Nat → (Nat → Int32) → (Nat → Nat → Int32) → (Nat → Nat → Int64) → (Nat → Option Nat) → fsH → Option Nat → Int32 → Int64) (ES : Nat → (Nat → Int32) → (Nat → Nat → Int32) → (Nat → Nat → Int64) → (Nat → Option Nat) → fsH → Option Nat → Int32 → Prop) (dE mE : Nat) (hE : ∀ (ht : Nat) (I : Nat → Int32) (A : Nat → Nat → Int32) (J : Nat → Nat → Int64) (it : Nat → Option Nat) (dyn : fsH) (y1 : Option Nat) (y2 : Int32), ES ht I A J it dyn y1 y2 → fsFn G l mX6_cellsNamed dE 0 0 [.inr (.inr (some 5)), .inr (.inr y1), .inl y2] (fs_mk ht I A J it dyn) (some (.inr (.inl (Er ht I A J it dyn y1 y2)))) (fs_mk ht I A J it dyn)) (ht : Nat) (I : Nat → Int32) (A : Nat → Nat → Int32) (J : Nat → Nat → Int64) (it : Nat → Option Nat) (dyn : fsH) (x1 : Option Nat) (x2 : Int32) (hS : S_X6_cellsNamed_st Er ES ht I A J it dyn x1 x2) : fsFn G l mX6_cellsNamed (dE + 2) 0 0 [.inr (.inr (some 5)), .inr (.inr x1), .inl x2] (fs_mk ht I A J it dyn) (some (.inr (.inl (L_X6_cellsNamed_st_r Er ht I A J it dyn x1 x2)))) (fs_mk ht I A J it dyn) := by
  refine fsMet_of (by decide) (Nat.le_of_ble_eq_true rfl) ?_
  generalize hQ : (fun (r1 : Option fsV) (h1 : fsH) => r1 = (some (.inr (.inl (L_X6_cellsNamed_st_r Er ht I A J it dyn x1 x2)))) ∧ h1 = (fs_mk ht I A J it dyn)) = Q
  have hq : Q (some (.inr (.inl (L_X6_cellsNamed_st_r Er ht I A J it dyn x1 x2)))) (fs_mk ht I A J it dyn) := by rw [← hQ]; exact ⟨rfl, rfl⟩
  clear hQ
  have hq : Q (some (.inr (.inl (if x1 = none then 0 else (if (fs_dI dyn x1 0) = 97 then (L_X6_setOf_r ht I A J it dyn (L_X6_cellNamed_r ht I A J it dyn (fs_dI dyn x1 6) x2)) else (if (fs_dI dyn x1 0) = 35 then (Lb_X6_cellsNamed_42_v3 70 ht I A J it dyn x1 x2 0 0) else (((Er ht I A J it dyn (fs_dR dyn x1 3) x2) ||| (Er ht I A J it dyn (fs_dR dyn x1 4) x2)) ||| (Er ht I A J it dyn (fs_dR dyn x1 5) x2)) : Int64) : Int64) : Int64)))) (fs_mk ht I A J it dyn) := hq
  have hS : (¬ (x1 = none) → ((fs_okP dyn x1) ∧ ((((fs_dI dyn x1 0) = 97) → ((fs_okP dyn x1) ∧ (S_X6_cellNamed ht I A J it dyn (fs_dI dyn x1 6) x2))) ∧ (¬ ((fs_dI dyn x1 0) = 97) → ((fs_okP dyn x1) ∧ ((((fs_dI dyn x1 0) = 35) → (S_Lb_X6_cellsNamed_42 70 ht I A J it dyn x1 x2 0 0)) ∧ (¬ ((fs_dI dyn x1 0) = 35) → ((fs_okP dyn x1) ∧ ((ES ht I A J it dyn (fs_dR dyn x1 3) x2) ∧ ((fs_okP dyn x1) ∧ ((ES ht I A J it dyn (fs_dR dyn x1 4) x2) ∧ ((fs_okP dyn x1) ∧ (ES ht I A J it dyn (fs_dR dyn x1 5) x2))))))))))))) := hS
  refine (show fsW G l mX6_cellsNamed (dE + 2) 0 0 0 0 Q 0 [(0, .inr (.inr (some 5))), (1, .inr (.inr x1)), (2, .inl x2)] [] (fs_mk ht I A J it dyn) from ?_)
  refine fs_aload_n dX6_cellsNamed_0 rfl rfl ?_
  refine fs_ifnonnull' 6 dX6_cellsNamed_1 (by decide) (fun c_1 : ¬ x1 = none => ?_) (fun c_1 : x1 = none => ?_)
  · have hS := hS c_1
    refine fs_aload_n dX6_cellsNamed_6 rfl rfl ?_
    obtain ⟨ho1, hS⟩ := hS
    refine fsg_P0 dX6_cellsNamed_7 sf_X6_111 ho1 ?_
    refine fs_bipush (v := 97) dX6_cellsNamed_10 rfl ?_
    refine fs_icmp_ne 28 dX6_cellsNamed_12 (by decide) (fun c_12 : ¬ (fs_dI dyn x1 0) = 97 => ?_) (fun c_12 : (fs_dI dyn x1 0) = 97 => ?_)
    · have hS := hS.2 c_12
      refine fs_aload_n dX6_cellsNamed_28 rfl rfl ?_
      obtain ⟨ho1, hS⟩ := hS
      refine fsg_P0 dX6_cellsNamed_29 sf_X6_111 ho1 ?_
      refine fs_bipush (v := 35) dX6_cellsNamed_32 rfl ?_
      refine fs_icmp_ne 81 dX6_cellsNamed_34 (by decide) (fun c_34 : ¬ (fs_dI dyn x1 0) = 35 => ?_) (fun c_34 : (fs_dI dyn x1 0) = 35 => ?_)
      · have hS := hS.2 c_34
        refine fs_aload_n dX6_cellsNamed_81 rfl rfl ?_
        refine fs_aload_n dX6_cellsNamed_82 rfl rfl ?_
        obtain ⟨ho1, hS⟩ := hS
        refine fsg_P3 dX6_cellsNamed_83 sf_X6_123 ho1 ?_
        refine fs_iload_n dX6_cellsNamed_86 rfl rfl ?_
        obtain ⟨ho1, hS⟩ := hS
        refine fs_callV1 dX6_cellsNamed_87 sv_X6_96 rfl ⟨_, rfl, rfl⟩ (hE ht I A J it dyn (fs_dR dyn x1 3) x2 ho1) rfl rfl (Nat.le_of_ble_eq_true rfl) (by omega) (by omega) (by omega) ?_
        refine fs_aload_n dX6_cellsNamed_90 rfl rfl ?_
        refine fs_aload_n dX6_cellsNamed_91 rfl rfl ?_
        obtain ⟨ho1, hS⟩ := hS
        refine fsg_P4 dX6_cellsNamed_92 sf_X6_126 ho1 ?_
        refine fs_iload_n dX6_cellsNamed_95 rfl rfl ?_
        obtain ⟨ho1, hS⟩ := hS
        refine fs_callV1 dX6_cellsNamed_96 sv_X6_96 rfl ⟨_, rfl, rfl⟩ (hE ht I A J it dyn (fs_dR dyn x1 4) x2 ho1) rfl rfl (Nat.le_of_ble_eq_true rfl) (by omega) (by omega) (by omega) ?_
        refine fs_lor dX6_cellsNamed_99 ?_
        refine fs_aload_n dX6_cellsNamed_100 rfl rfl ?_
        refine fs_aload_n dX6_cellsNamed_101 rfl rfl ?_
        obtain ⟨ho1, hS⟩ := hS
        refine fsg_P5 dX6_cellsNamed_102 sf_X6_129 ho1 ?_
        refine fs_iload_n dX6_cellsNamed_105 rfl rfl ?_
        have ho1 := hS
        refine fs_callV1 dX6_cellsNamed_106 sv_X6_96 rfl ⟨_, rfl, rfl⟩ (hE ht I A J it dyn (fs_dR dyn x1 5) x2 ho1) rfl rfl (Nat.le_of_ble_eq_true rfl) (by omega) (by omega) (by omega) ?_
        refine fs_lor dX6_cellsNamed_109 ?_
        have k9 := hq
        try simp only [if_neg c_1, if_neg c_12, if_neg c_34] at k9 ⊢
        exact fs_lret dX6_cellsNamed_110 rfl k9
      · have hS := hS.1 c_34
        refine fs_lconst (v := 0) dX6_cellsNamed_37 rfl ?_
        refine fs_lstore_n (L' := [(3, .inr (.inl 0)), (0, .inr (.inr (some 5))), (1, .inr (.inr x1)), (2, .inl x2)]) dX6_cellsNamed_38 rfl (by decide) rfl ?_
        refine fs_iconst (v := 0) dX6_cellsNamed_39 rfl ?_
        refine fs_istore (L' := [(5, .inl 0), (3, .inr (.inl 0)), (0, .inr (.inr (some 5))), (1, .inr (.inr x1)), (2, .inl x2)]) dX6_cellsNamed_40 (by decide) rfl ?_
        refine fs_reL [2, 3, 4, 1, 0] rfl ?_
        have ho1 := hS
        refine lp_Lb_X6_cellsNamed_42 G l dE Q 70 ht I A J it dyn x1 x2 0 0 ho1 ?_
        refine fs_lload_n dX6_cellsNamed_79 rfl rfl ?_
        have k9 := hq
        try simp only [if_neg c_1, if_neg c_12, if_pos c_34] at k9 ⊢
        exact fs_lret dX6_cellsNamed_80 rfl k9
    · have hS := hS.1 c_12
      refine fs_aload_n dX6_cellsNamed_15 rfl rfl ?_
      refine fs_aload_n dX6_cellsNamed_16 rfl rfl ?_
      obtain ⟨ho1, hS⟩ := hS
      refine fsg_P6 dX6_cellsNamed_17 sf_X6_117 ho1 ?_
      refine fs_iload_n dX6_cellsNamed_20 rfl rfl ?_
      have ho1 := hS
      refine fs_callV1 dX6_cellsNamed_21 sv_X6_120 rfl ⟨_, rfl, rfl⟩ (c_X6_cellNamed G l ht I A J it dyn (fs_dI dyn x1 6) x2 ho1) rfl rfl (Nat.le_of_ble_eq_true rfl) (by omega) (by omega) (by omega) ?_
      refine fs_callS1 dX6_cellsNamed_24 sv_X6_100 (c_X6_setOf G l ht I A J it dyn (L_X6_cellNamed_r ht I A J it dyn (fs_dI dyn x1 6) x2)) rfl rfl (Nat.le_of_ble_eq_true rfl) (by omega) (by omega) (by omega) ?_
      have k9 := hq
      try simp only [if_neg c_1, if_pos c_12] at k9 ⊢
      exact fs_lret dX6_cellsNamed_27 rfl k9
  · refine fs_lconst (v := 0) dX6_cellsNamed_4 rfl ?_
    have k9 := hq
    try simp only [if_pos c_1] at k9 ⊢
    exact fs_lret dX6_cellsNamed_5 rfl k9
def T_X6_cellsNamed : Nat → Nat → (Nat → Int32) → (Nat → Nat → Int32) → (Nat → Nat → Int64) → (Nat → Option Nat) → fsH → Option Nat → Int32 → Int64 × Prop
  | 0, ht, I, A, J, it, dyn, x1, x2 => (0, False)
  | n + 1, ht, I, A, J, it, dyn, x1, x2 => (L_X6_cellsNamed_st_r (fun ht I A J it dyn zx1 zx2 => (T_X6_cellsNamed n ht I A J it dyn zx1 zx2).1) ht I A J it dyn x1 x2, S_X6_cellsNamed_st (fun ht I A J it dyn zx1 zx2 => (T_X6_cellsNamed n ht I A J it dyn zx1 zx2).1) (fun ht I A J it dyn zx1 zx2 => (T_X6_cellsNamed n ht I A J it dyn zx1 zx2).2) ht I A J it dyn x1 x2)
theorem ci_X6_cellsNamed (G : fsG) (l : Launch) : ∀ (n : Nat) (ht : Nat) (I : Nat → Int32) (A : Nat → Nat → Int32) (J : Nat → Nat → Int64) (it : Nat → Option Nat) (dyn : fsH) (x1 : Option Nat) (x2 : Int32), (T_X6_cellsNamed n ht I A J it dyn x1 x2).2 → fsFn G l mX6_cellsNamed (2 * n) 0 0 [.inr (.inr (some 5)), .inr (.inr x1), .inl x2] (fs_mk ht I A J it dyn) (some (.inr (.inl ((T_X6_cellsNamed n ht I A J it dyn x1 x2).1)))) (fs_mk ht I A J it dyn) := by
  intro n
  induction n with
  | zero =>
    intro ht I A J it dyn x1 x2 hS
    exact hS.elim
  | succ n ih =>
    intro ht I A J it dyn x1 x2 hS
    have h := c_X6_cellsNamed_st G l (fun ht I A J it dyn zx1 zx2 => (T_X6_cellsNamed n ht I A J it dyn zx1 zx2).1) (fun ht I A J it dyn zx1 zx2 => (T_X6_cellsNamed n ht I A J it dyn zx1 zx2).2) (2 * n) 0 (fun ht I A J it dyn zx1 zx2 h9 => ih ht I A J it dyn zx1 zx2 h9) ht I A J it dyn x1 x2 hS
    skip
    skip
    exact h
def L_X6_cellsNamed_r (ht : Nat) (I : Nat → Int32) (A : Nat → Nat → Int32) (J : Nat → Nat → Int64) (it : Nat → Option Nat) (dyn : fsH) (x1 : Option Nat) (x2 : Int32) : Int64 := (T_X6_cellsNamed 10 ht I A J it dyn x1 x2).1
def S_X6_cellsNamed (ht : Nat) (I : Nat → Int32) (A : Nat → Nat → Int32) (J : Nat → Nat → Int64) (it : Nat → Option Nat) (dyn : fsH) (x1 : Option Nat) (x2 : Int32) : Prop := (T_X6_cellsNamed 10 ht I A J it dyn x1 x2).2
theorem c_X6_cellsNamed (G : fsG) (l : Launch) (ht : Nat) (I : Nat → Int32) (A : Nat → Nat → Int32) (J : Nat → Nat → Int64) (it : Nat → Option Nat) (dyn : fsH) (x1 : Option Nat) (x2 : Int32) (hS : S_X6_cellsNamed ht I A J it dyn x1 x2) : fsFn G l mX6_cellsNamed 20 0 0 [.inr (.inr (some 5)), .inr (.inr x1), .inl x2] (fs_mk ht I A J it dyn) (some (.inr (.inl (L_X6_cellsNamed_r ht I A J it dyn x1 x2)))) (fs_mk ht I A J it dyn) := ci_X6_cellsNamed G l 10 ht I A J it dyn x1 x2 hS
def Lb_X6_link_40_J : Nat → Nat → (Nat → Int32) → (Nat → Nat → Int32) → (Nat → Nat → Int64) → (Nat → Option Nat) → fsH → Int64 → Int32 → Option Nat → Int32 → (Nat → Nat → Int64)
  | 0, ht, I, A, J, it, dyn, v1, v3, v4, v5 => J
  | n + 1, ht, I, A, J, it, dyn, v1, v3, v4, v5 => (if (L_X1_rowsOf_r ht I A J it dyn v3) ≤ v5 then J else (if v4 = none then J else (Lb_X6_link_40_J n ht I A (va_up J 7 (vp_updL (J 7) (L_X7_cellOf_r ht I A J it dyn v3 v5).toNatClampNeg (L_X6_cellsNamed_r ht I A J it dyn v4 v5))) it dyn (v1 ||| (L_X6_setOf_r ht I A (va_up J 7 (vp_updL (J 7) (L_X7_cellOf_r ht I A J it dyn v3 v5).toNatClampNeg (L_X6_cellsNamed_r ht I A J it dyn v4 v5))) it dyn (L_X7_cellOf_r ht I A (va_up J 7 (vp_updL (J 7) (L_X7_cellOf_r ht I A J it dyn v3 v5).toNatClampNeg (L_X6_cellsNamed_r ht I A J it dyn v4 v5))) it dyn v3 v5))) v3 v4 (v5 + 1))))
def Lb_X6_link_40_v1 : Nat → Nat → (Nat → Int32) → (Nat → Nat → Int32) → (Nat → Nat → Int64) → (Nat → Option Nat) → fsH → Int64 → Int32 → Option Nat → Int32 → Int64
  | 0, ht, I, A, J, it, dyn, v1, v3, v4, v5 => v1
  | n + 1, ht, I, A, J, it, dyn, v1, v3, v4, v5 => (if (L_X1_rowsOf_r ht I A J it dyn v3) ≤ v5 then v1 else (if v4 = none then v1 else (Lb_X6_link_40_v1 n ht I A (va_up J 7 (vp_updL (J 7) (L_X7_cellOf_r ht I A J it dyn v3 v5).toNatClampNeg (L_X6_cellsNamed_r ht I A J it dyn v4 v5))) it dyn (v1 ||| (L_X6_setOf_r ht I A (va_up J 7 (vp_updL (J 7) (L_X7_cellOf_r ht I A J it dyn v3 v5).toNatClampNeg (L_X6_cellsNamed_r ht I A J it dyn v4 v5))) it dyn (L_X7_cellOf_r ht I A (va_up J 7 (vp_updL (J 7) (L_X7_cellOf_r ht I A J it dyn v3 v5).toNatClampNeg (L_X6_cellsNamed_r ht I A J it dyn v4 v5))) it dyn v3 v5))) v3 v4 (v5 + 1))))
def Lb_X6_link_40_v5 : Nat → Nat → (Nat → Int32) → (Nat → Nat → Int32) → (Nat → Nat → Int64) → (Nat → Option Nat) → fsH → Int64 → Int32 → Option Nat → Int32 → Int32
  | 0, ht, I, A, J, it, dyn, v1, v3, v4, v5 => v5
  | n + 1, ht, I, A, J, it, dyn, v1, v3, v4, v5 => (if (L_X1_rowsOf_r ht I A J it dyn v3) ≤ v5 then v5 else (if v4 = none then v5 else (Lb_X6_link_40_v5 n ht I A (va_up J 7 (vp_updL (J 7) (L_X7_cellOf_r ht I A J it dyn v3 v5).toNatClampNeg (L_X6_cellsNamed_r ht I A J it dyn v4 v5))) it dyn (v1 ||| (L_X6_setOf_r ht I A (va_up J 7 (vp_updL (J 7) (L_X7_cellOf_r ht I A J it dyn v3 v5).toNatClampNeg (L_X6_cellsNamed_r ht I A J it dyn v4 v5))) it dyn (L_X7_cellOf_r ht I A (va_up J 7 (vp_updL (J 7) (L_X7_cellOf_r ht I A J it dyn v3 v5).toNatClampNeg (L_X6_cellsNamed_r ht I A J it dyn v4 v5))) it dyn v3 v5))) v3 v4 (v5 + 1))))
def S_Lb_X6_link_40 : Nat → Nat → (Nat → Int32) → (Nat → Nat → Int32) → (Nat → Nat → Int64) → (Nat → Option Nat) → fsH → Int64 → Int32 → Option Nat → Int32 → Prop
  | 0, _, _, _, _, _, _, _, _, _, _ => False
  | n + 1, ht, I, A, J, it, dyn, v1, v3, v4, v5 => ((S_X1_rowsOf ht I A J it dyn v3) ∧ (¬ ((L_X1_rowsOf_r ht I A J it dyn v3) ≤ v5) → (¬ (v4 = none) → ((S_X6_cellsNamed ht I A J it dyn v4 v5) ∧ ((vp_in (L_X7_cellOf_r ht I A J it dyn v3 v5) 64) ∧ (S_Lb_X6_link_40 n ht I A (va_up J 7 (vp_updL (J 7) (L_X7_cellOf_r ht I A J it dyn v3 v5).toNatClampNeg (L_X6_cellsNamed_r ht I A J it dyn v4 v5))) it dyn (v1 ||| (L_X6_setOf_r ht I A (va_up J 7 (vp_updL (J 7) (L_X7_cellOf_r ht I A J it dyn v3 v5).toNatClampNeg (L_X6_cellsNamed_r ht I A J it dyn v4 v5))) it dyn (L_X7_cellOf_r ht I A (va_up J 7 (vp_updL (J 7) (L_X7_cellOf_r ht I A J it dyn v3 v5).toNatClampNeg (L_X6_cellsNamed_r ht I A J it dyn v4 v5))) it dyn v3 v5))) v3 v4 (v5 + 1)))))))
set_option maxRecDepth 100000 in
set_option maxHeartbeats 4000000 in
theorem lp_Lb_X6_link_40 (G : fsG) (l : Launch) (Q : Option fsV → fsH → Prop) : ∀ (n : Nat) (ht : Nat) (I : Nat → Int32) (A : Nat → Nat → Int32) (J : Nat → Nat → Int64) (it : Nat → Option Nat) (dyn : fsH) (v1 : Int64) (v3 : Int32) (v4 : Option Nat) (v5 : Int32), S_Lb_X6_link_40 n ht I A J it dyn v1 v3 v4 v5 → (fsW G l mX6_link 21 0 0 0 0 Q 95 [(0, .inr (.inr (some 5))), (1, .inr (.inl (Lb_X6_link_40_v1 n ht I A J it dyn v1 v3 v4 v5))), (3, .inl v3), (4, .inr (.inr v4)), (5, .inl (Lb_X6_link_40_v5 n ht I A J it dyn v1 v3 v4 v5))] [] (fs_mk ht I A (Lb_X6_link_40_J n ht I A J it dyn v1 v3 v4 v5) it dyn)) → fsW G l mX6_link 21 0 0 0 0 Q 40 [(0, .inr (.inr (some 5))), (1, .inr (.inl v1)), (3, .inl v3), (4, .inr (.inr v4)), (5, .inl v5)] [] (fs_mk ht I A J it dyn) := by
  intro n
  induction n with
  | zero =>
    intro ht I A J it dyn v1 v3 v4 v5 hS
    exact hS.elim
  | succ n ih =>
    intro ht I A J it dyn v1 v3 v4 v5 hS hq
    have hS : ((S_X1_rowsOf ht I A J it dyn v3) ∧ (¬ ((L_X1_rowsOf_r ht I A J it dyn v3) ≤ v5) → (¬ (v4 = none) → ((S_X6_cellsNamed ht I A J it dyn v4 v5) ∧ ((vp_in (L_X7_cellOf_r ht I A J it dyn v3 v5) 64) ∧ (S_Lb_X6_link_40 n ht I A (va_up J 7 (vp_updL (J 7) (L_X7_cellOf_r ht I A J it dyn v3 v5).toNatClampNeg (L_X6_cellsNamed_r ht I A J it dyn v4 v5))) it dyn (v1 ||| (L_X6_setOf_r ht I A (va_up J 7 (vp_updL (J 7) (L_X7_cellOf_r ht I A J it dyn v3 v5).toNatClampNeg (L_X6_cellsNamed_r ht I A J it dyn v4 v5))) it dyn (L_X7_cellOf_r ht I A (va_up J 7 (vp_updL (J 7) (L_X7_cellOf_r ht I A J it dyn v3 v5).toNatClampNeg (L_X6_cellsNamed_r ht I A J it dyn v4 v5))) it dyn v3 v5))) v3 v4 (v5 + 1))))))) := hS
    have hq : fsW G l mX6_link 21 0 0 0 0 Q 95 [(0, .inr (.inr (some 5))), (1, .inr (.inl (if (L_X1_rowsOf_r ht I A J it dyn v3) ≤ v5 then v1 else (if v4 = none then v1 else (Lb_X6_link_40_v1 n ht I A (va_up J 7 (vp_updL (J 7) (L_X7_cellOf_r ht I A J it dyn v3 v5).toNatClampNeg (L_X6_cellsNamed_r ht I A J it dyn v4 v5))) it dyn (v1 ||| (L_X6_setOf_r ht I A (va_up J 7 (vp_updL (J 7) (L_X7_cellOf_r ht I A J it dyn v3 v5).toNatClampNeg (L_X6_cellsNamed_r ht I A J it dyn v4 v5))) it dyn (L_X7_cellOf_r ht I A (va_up J 7 (vp_updL (J 7) (L_X7_cellOf_r ht I A J it dyn v3 v5).toNatClampNeg (L_X6_cellsNamed_r ht I A J it dyn v4 v5))) it dyn v3 v5))) v3 v4 (v5 + 1)))))), (3, .inl v3), (4, .inr (.inr v4)), (5, .inl (if (L_X1_rowsOf_r ht I A J it dyn v3) ≤ v5 then v5 else (if v4 = none then v5 else (Lb_X6_link_40_v5 n ht I A (va_up J 7 (vp_updL (J 7) (L_X7_cellOf_r ht I A J it dyn v3 v5).toNatClampNeg (L_X6_cellsNamed_r ht I A J it dyn v4 v5))) it dyn (v1 ||| (L_X6_setOf_r ht I A (va_up J 7 (vp_updL (J 7) (L_X7_cellOf_r ht I A J it dyn v3 v5).toNatClampNeg (L_X6_cellsNamed_r ht I A J it dyn v4 v5))) it dyn (L_X7_cellOf_r ht I A (va_up J 7 (vp_updL (J 7) (L_X7_cellOf_r ht I A J it dyn v3 v5).toNatClampNeg (L_X6_cellsNamed_r ht I A J it dyn v4 v5))) it dyn v3 v5))) v3 v4 (v5 + 1)))))] [] (fs_mk ht I A (if (L_X1_rowsOf_r ht I A J it dyn v3) ≤ v5 then J else (if v4 = none then J else (Lb_X6_link_40_J n ht I A (va_up J 7 (vp_updL (J 7) (L_X7_cellOf_r ht I A J it dyn v3 v5).toNatClampNeg (L_X6_cellsNamed_r ht I A J it dyn v4 v5))) it dyn (v1 ||| (L_X6_setOf_r ht I A (va_up J 7 (vp_updL (J 7) (L_X7_cellOf_r ht I A J it dyn v3 v5).toNatClampNeg (L_X6_cellsNamed_r ht I A J it dyn v4 v5))) it dyn (L_X7_cellOf_r ht I A (va_up J 7 (vp_updL (J 7) (L_X7_cellOf_r ht I A J it dyn v3 v5).toNatClampNeg (L_X6_cellsNamed_r ht I A J it dyn v4 v5))) it dyn v3 v5))) v3 v4 (v5 + 1)))) it dyn) := hq
    refine fs_iload dX6_link_40 rfl ?_
    refine fs_aload_n dX6_link_42 rfl rfl ?_
    refine fs_getfield (v := .inr (.inr (some 3))) dX6_link_43 sf_X6_26 rfl rfl ?_
    refine fs_iload_n dX6_link_46 rfl rfl ?_
    obtain ⟨ho1, hS⟩ := hS
    refine fs_callV1 dX6_link_47 sv_X6_69 rfl ⟨_, rfl, rfl⟩ (c_X1_rowsOf G l ht I A J it dyn v3 ho1) rfl rfl (Nat.le_of_ble_eq_true rfl) (Nat.le_of_ble_eq_true rfl) (Nat.le_of_ble_eq_true rfl) (Nat.le_of_ble_eq_true rfl) ?_
    refine fs_icmp_ge 95 dX6_link_50 (by decide) (fun c_50 : (L_X1_rowsOf_r ht I A J it dyn v3) ≤ v5 => ?_) (fun c_50 : ¬ ((L_X1_rowsOf_r ht I A J it dyn v3) ≤ v5) => ?_)
    · have k9 := hq
      try simp only [if_pos c_50] at k9 ⊢
      exact k9
    · have hS := hS c_50
      refine fs_aload dX6_link_53 rfl ?_
      refine fs_ifnull' 95 dX6_link_55 (by decide) (fun c_55 : v4 = none => ?_) (fun c_55 : ¬ (v4 = none) => ?_)
      · have k9 := hq
        try simp only [if_neg c_50, if_pos c_55] at k9 ⊢
        exact k9
      · have hS := hS c_55
        refine fs_aload_n dX6_link_58 rfl rfl ?_
        refine fs_getfield (v := .inr (.inr (some 7))) dX6_link_59 sf_X6_15 rfl rfl ?_
        refine fs_iload_n dX6_link_62 rfl rfl ?_
        refine fs_iload dX6_link_63 rfl ?_
        refine fs_callSN1 dX6_link_65 sv_X6_51 (c_X7_cellOf G l ht I A J it dyn v3 v5) rfl rfl (Nat.le_of_ble_eq_true rfl) (Nat.le_of_ble_eq_true rfl) (Nat.le_of_ble_eq_true rfl) (Nat.le_of_ble_eq_true rfl) ?_
        refine fs_aload_n dX6_link_68 rfl rfl ?_
        refine fs_aload dX6_link_69 rfl ?_
        refine fs_iload dX6_link_71 rfl ?_
        obtain ⟨ho1, hS⟩ := hS
        refine fs_callV1 dX6_link_73 sv_X6_96 rfl ⟨_, rfl, rfl⟩ (c_X6_cellsNamed G l ht I A J it dyn v4 v5 ho1) rfl rfl (Nat.le_of_ble_eq_true rfl) (Nat.le_of_ble_eq_true rfl) (Nat.le_of_ble_eq_true rfl) (Nat.le_of_ble_eq_true rfl) ?_
        obtain ⟨ho1, hS⟩ := hS
        refine fss_7 dX6_link_76 ho1 ?_
        refine fs_lload_n dX6_link_77 rfl rfl ?_
        refine fs_iload_n dX6_link_78 rfl rfl ?_
        refine fs_iload dX6_link_79 rfl ?_
        refine fs_callSN1 dX6_link_81 sv_X6_51 (c_X7_cellOf G l ht I A (va_up J 7 (vp_updL (J 7) (L_X7_cellOf_r ht I A J it dyn v3 v5).toNatClampNeg (L_X6_cellsNamed_r ht I A J it dyn v4 v5))) it dyn v3 v5) rfl rfl (Nat.le_of_ble_eq_true rfl) (Nat.le_of_ble_eq_true rfl) (Nat.le_of_ble_eq_true rfl) (Nat.le_of_ble_eq_true rfl) ?_
        refine fs_callS1 dX6_link_84 sv_X6_100 (c_X6_setOf G l ht I A (va_up J 7 (vp_updL (J 7) (L_X7_cellOf_r ht I A J it dyn v3 v5).toNatClampNeg (L_X6_cellsNamed_r ht I A J it dyn v4 v5))) it dyn (L_X7_cellOf_r ht I A (va_up J 7 (vp_updL (J 7) (L_X7_cellOf_r ht I A J it dyn v3 v5).toNatClampNeg (L_X6_cellsNamed_r ht I A J it dyn v4 v5))) it dyn v3 v5)) rfl rfl (Nat.le_of_ble_eq_true rfl) (Nat.le_of_ble_eq_true rfl) (Nat.le_of_ble_eq_true rfl) (Nat.le_of_ble_eq_true rfl) ?_
        refine fs_lor dX6_link_87 ?_
        refine fs_lstore_n (L' := [(1, .inr (.inl (v1 ||| (L_X6_setOf_r ht I A (va_up J 7 (vp_updL (J 7) (L_X7_cellOf_r ht I A J it dyn v3 v5).toNatClampNeg (L_X6_cellsNamed_r ht I A J it dyn v4 v5))) it dyn (L_X7_cellOf_r ht I A (va_up J 7 (vp_updL (J 7) (L_X7_cellOf_r ht I A J it dyn v3 v5).toNatClampNeg (L_X6_cellsNamed_r ht I A J it dyn v4 v5))) it dyn v3 v5))))), (0, .inr (.inr (some 5))), (3, .inl v3), (4, .inr (.inr v4)), (5, .inl v5)]) dX6_link_88 rfl (by decide) rfl ?_
        refine fs_iinc (v := (v5 + 1)) (L' := [(5, .inl (v5 + 1)), (1, .inr (.inl (v1 ||| (L_X6_setOf_r ht I A (va_up J 7 (vp_updL (J 7) (L_X7_cellOf_r ht I A J it dyn v3 v5).toNatClampNeg (L_X6_cellsNamed_r ht I A J it dyn v4 v5))) it dyn (L_X7_cellOf_r ht I A (va_up J 7 (vp_updL (J 7) (L_X7_cellOf_r ht I A J it dyn v3 v5).toNatClampNeg (L_X6_cellsNamed_r ht I A J it dyn v4 v5))) it dyn v3 v5))))), (0, .inr (.inr (some 5))), (3, .inl v3), (4, .inr (.inr v4))]) dX6_link_89 rfl rfl (by decide) rfl ?_
        refine fs_goto 40 dX6_link_92 (by decide) ?_
        refine fs_reL [2, 1, 3, 4, 0] rfl ?_
        have k9 := hq
        try simp only [if_neg c_50, if_neg c_55] at hS k9 ⊢
        exact ih _ _ _ _ _ _ _ _ _ _ hS k9
def Lb_X6_link_12_J : Nat → Nat → (Nat → Int32) → (Nat → Nat → Int32) → (Nat → Nat → Int64) → (Nat → Option Nat) → fsH → Int64 → Int32 → (Nat → Nat → Int64)
  | 0, ht, I, A, J, it, dyn, v1, v3 => J
  | n + 1, ht, I, A, J, it, dyn, v1, v3 => (if (I 4) ≤ v3 then J else (Lb_X6_link_12_J n ht I A (Lb_X6_link_40_J 70 ht I A J it dyn v1 v3 (fs_dR dyn (it v3.toNatClampNeg) 3) 0) it dyn (Lb_X6_link_40_v1 70 ht I A J it dyn v1 v3 (fs_dR dyn (it v3.toNatClampNeg) 3) 0) (v3 + 1)))
def Lb_X6_link_12_v1 : Nat → Nat → (Nat → Int32) → (Nat → Nat → Int32) → (Nat → Nat → Int64) → (Nat → Option Nat) → fsH → Int64 → Int32 → Int64
  | 0, ht, I, A, J, it, dyn, v1, v3 => v1
  | n + 1, ht, I, A, J, it, dyn, v1, v3 => (if (I 4) ≤ v3 then v1 else (Lb_X6_link_12_v1 n ht I A (Lb_X6_link_40_J 70 ht I A J it dyn v1 v3 (fs_dR dyn (it v3.toNatClampNeg) 3) 0) it dyn (Lb_X6_link_40_v1 70 ht I A J it dyn v1 v3 (fs_dR dyn (it v3.toNatClampNeg) 3) 0) (v3 + 1)))
def Lb_X6_link_12_v3 : Nat → Nat → (Nat → Int32) → (Nat → Nat → Int32) → (Nat → Nat → Int64) → (Nat → Option Nat) → fsH → Int64 → Int32 → Int32
  | 0, ht, I, A, J, it, dyn, v1, v3 => v3
  | n + 1, ht, I, A, J, it, dyn, v1, v3 => (if (I 4) ≤ v3 then v3 else (Lb_X6_link_12_v3 n ht I A (Lb_X6_link_40_J 70 ht I A J it dyn v1 v3 (fs_dR dyn (it v3.toNatClampNeg) 3) 0) it dyn (Lb_X6_link_40_v1 70 ht I A J it dyn v1 v3 (fs_dR dyn (it v3.toNatClampNeg) 3) 0) (v3 + 1)))
def S_Lb_X6_link_12 : Nat → Nat → (Nat → Int32) → (Nat → Nat → Int32) → (Nat → Nat → Int64) → (Nat → Option Nat) → fsH → Int64 → Int32 → Prop
  | 0, _, _, _, _, _, _, _, _ => False
  | n + 1, ht, I, A, J, it, dyn, v1, v3 => (¬ ((I 4) ≤ v3) → ((vp_in v3 16) ∧ ((fs_okI dyn (it v3.toNatClampNeg)) ∧ ((S_Lb_X6_link_40 70 ht I A J it dyn v1 v3 (fs_dR dyn (it v3.toNatClampNeg) 3) 0) ∧ (S_Lb_X6_link_12 n ht I A (Lb_X6_link_40_J 70 ht I A J it dyn v1 v3 (fs_dR dyn (it v3.toNatClampNeg) 3) 0) it dyn (Lb_X6_link_40_v1 70 ht I A J it dyn v1 v3 (fs_dR dyn (it v3.toNatClampNeg) 3) 0) (v3 + 1))))))
set_option maxRecDepth 100000 in
set_option maxHeartbeats 4000000 in
theorem lp_Lb_X6_link_12 (G : fsG) (l : Launch) (Q : Option fsV → fsH → Prop) : ∀ (n : Nat) (ht : Nat) (I : Nat → Int32) (A : Nat → Nat → Int32) (J : Nat → Nat → Int64) (it : Nat → Option Nat) (dyn : fsH) (v1 : Int64) (v3 : Int32), S_Lb_X6_link_12 n ht I A J it dyn v1 v3 → (fsW G l mX6_link 21 0 0 0 0 Q 101 [(0, .inr (.inr (some 5))), (1, .inr (.inl (Lb_X6_link_12_v1 n ht I A J it dyn v1 v3))), (3, .inl (Lb_X6_link_12_v3 n ht I A J it dyn v1 v3))] [] (fs_mk ht I A (Lb_X6_link_12_J n ht I A J it dyn v1 v3) it dyn)) → fsW G l mX6_link 21 0 0 0 0 Q 12 [(0, .inr (.inr (some 5))), (1, .inr (.inl v1)), (3, .inl v3)] [] (fs_mk ht I A J it dyn) := by
  intro n
  induction n with
  | zero =>
    intro ht I A J it dyn v1 v3 hS
    exact hS.elim
  | succ n ih =>
    intro ht I A J it dyn v1 v3 hS hq
    have hS : (¬ ((I 4) ≤ v3) → ((vp_in v3 16) ∧ ((fs_okI dyn (it v3.toNatClampNeg)) ∧ ((S_Lb_X6_link_40 70 ht I A J it dyn v1 v3 (fs_dR dyn (it v3.toNatClampNeg) 3) 0) ∧ (S_Lb_X6_link_12 n ht I A (Lb_X6_link_40_J 70 ht I A J it dyn v1 v3 (fs_dR dyn (it v3.toNatClampNeg) 3) 0) it dyn (Lb_X6_link_40_v1 70 ht I A J it dyn v1 v3 (fs_dR dyn (it v3.toNatClampNeg) 3) 0) (v3 + 1)))))) := hS
    have hq : fsW G l mX6_link 21 0 0 0 0 Q 101 [(0, .inr (.inr (some 5))), (1, .inr (.inl (if (I 4) ≤ v3 then v1 else (Lb_X6_link_12_v1 n ht I A (Lb_X6_link_40_J 70 ht I A J it dyn v1 v3 (fs_dR dyn (it v3.toNatClampNeg) 3) 0) it dyn (Lb_X6_link_40_v1 70 ht I A J it dyn v1 v3 (fs_dR dyn (it v3.toNatClampNeg) 3) 0) (v3 + 1))))), (3, .inl (if (I 4) ≤ v3 then v3 else (Lb_X6_link_12_v3 n ht I A (Lb_X6_link_40_J 70 ht I A J it dyn v1 v3 (fs_dR dyn (it v3.toNatClampNeg) 3) 0) it dyn (Lb_X6_link_40_v1 70 ht I A J it dyn v1 v3 (fs_dR dyn (it v3.toNatClampNeg) 3) 0) (v3 + 1))))] [] (fs_mk ht I A (if (I 4) ≤ v3 then J else (Lb_X6_link_12_J n ht I A (Lb_X6_link_40_J 70 ht I A J it dyn v1 v3 (fs_dR dyn (it v3.toNatClampNeg) 3) 0) it dyn (Lb_X6_link_40_v1 70 ht I A J it dyn v1 v3 (fs_dR dyn (it v3.toNatClampNeg) 3) 0) (v3 + 1))) it dyn) := hq
    refine fs_iload_n dX6_link_12 rfl rfl ?_
    refine fs_aload_n dX6_link_13 rfl rfl ?_
    refine fs_getfield (v := .inr (.inr (some 3))) dX6_link_14 sf_X6_26 rfl rfl ?_
    refine fs_getfield (v := .inl (I 4)) dX6_link_17 sf_X6_36 rfl rfl ?_
    refine fs_icmp_ge 101 dX6_link_20 (by decide) (fun c_20 : (I 4) ≤ v3 => ?_) (fun c_20 : ¬ ((I 4) ≤ v3) => ?_)
    · have k9 := hq
      try simp only [if_pos c_20] at k9 ⊢
      exact k9
    · have hS := hS c_20
      refine fs_aload_n dX6_link_23 rfl rfl ?_
      refine fs_getfield (v := .inr (.inr (some 3))) dX6_link_24 sf_X6_26 rfl rfl ?_
      refine fs_getfield (v := .inr (.inr (some 4))) dX6_link_27 sf_X6_86 rfl rfl ?_
      refine fs_iload_n dX6_link_30 rfl rfl ?_
      obtain ⟨ho1, hS⟩ := hS
      refine fs_aaload dX6_link_31 rfl ho1 ?_
      obtain ⟨ho1, hS⟩ := hS
      refine fsg_I3 dX6_link_32 sf_X6_90 ho1 ?_
      refine fs_astore (L' := [(4, .inr (.inr (fs_dR dyn (it v3.toNatClampNeg) 3))), (0, .inr (.inr (some 5))), (1, .inr (.inl v1)), (3, .inl v3)]) dX6_link_35 (by decide) rfl ?_
      refine fs_iconst (v := 0) dX6_link_37 rfl ?_
      refine fs_istore (L' := [(5, .inl 0), (4, .inr (.inr (fs_dR dyn (it v3.toNatClampNeg) 3))), (0, .inr (.inr (some 5))), (1, .inr (.inl v1)), (3, .inl v3)]) dX6_link_38 (by decide) rfl ?_
      refine fs_reL [2, 3, 4, 1, 0] rfl ?_
      obtain ⟨ho1, hS⟩ := hS
      refine lp_Lb_X6_link_40 G l Q 70 ht I A J it dyn v1 v3 (fs_dR dyn (it v3.toNatClampNeg) 3) 0 ho1 ?_
      refine fs_iinc (v := (v3 + 1)) (L' := [(3, .inl (v3 + 1)), (0, .inr (.inr (some 5))), (1, .inr (.inl (Lb_X6_link_40_v1 70 ht I A J it dyn v1 v3 (fs_dR dyn (it v3.toNatClampNeg) 3) 0))), (4, .inr (.inr (fs_dR dyn (it v3.toNatClampNeg) 3))), (5, .inl (Lb_X6_link_40_v5 70 ht I A J it dyn v1 v3 (fs_dR dyn (it v3.toNatClampNeg) 3) 0))]) dX6_link_95 rfl rfl (by decide) rfl ?_
      refine fs_goto 12 dX6_link_98 (by decide) ?_
      refine fs_reL [1, 2, 0] rfl ?_
      have k9 := hq
      try simp only [if_neg c_20] at hS k9 ⊢
      exact ih _ _ _ _ _ _ _ _ hS k9
def L_X6_link_I (ht : Nat) (I : Nat → Int32) (A : Nat → Nat → Int32) (J : Nat → Nat → Int64) (it : Nat → Option Nat) (dyn : fsH)  : Nat → Int32 := (L_X6_putInOrder_I ht I A (L_X6_followHangs_J ht I A (Lb_X6_link_12_J 70 ht I A (L_J7_fillJ_7_J ht I A J it dyn 0) it dyn 0 0) it dyn) it dyn (Lb_X6_link_12_v1 70 ht I A (L_J7_fillJ_7_J ht I A J it dyn 0) it dyn 0 0))
def L_X6_link_A (ht : Nat) (I : Nat → Int32) (A : Nat → Nat → Int32) (J : Nat → Nat → Int64) (it : Nat → Option Nat) (dyn : fsH)  : Nat → Nat → Int32 := (L_X6_putInOrder_A ht I A (L_X6_followHangs_J ht I A (Lb_X6_link_12_J 70 ht I A (L_J7_fillJ_7_J ht I A J it dyn 0) it dyn 0 0) it dyn) it dyn (Lb_X6_link_12_v1 70 ht I A (L_J7_fillJ_7_J ht I A J it dyn 0) it dyn 0 0))
def L_X6_link_J (ht : Nat) (I : Nat → Int32) (A : Nat → Nat → Int32) (J : Nat → Nat → Int64) (it : Nat → Option Nat) (dyn : fsH)  : Nat → Nat → Int64 := (L_X6_followHangs_J ht I A (Lb_X6_link_12_J 70 ht I A (L_J7_fillJ_7_J ht I A J it dyn 0) it dyn 0 0) it dyn)
def S_X6_link (ht : Nat) (I : Nat → Int32) (A : Nat → Nat → Int32) (J : Nat → Nat → Int64) (it : Nat → Option Nat) (dyn : fsH)  : Prop := ((S_J7_fillJ_7 ht I A J it dyn 0) ∧ ((S_Lb_X6_link_12 70 ht I A (L_J7_fillJ_7_J ht I A J it dyn 0) it dyn 0 0) ∧ ((S_X6_followHangs ht I A (Lb_X6_link_12_J 70 ht I A (L_J7_fillJ_7_J ht I A J it dyn 0) it dyn 0 0) it dyn) ∧ (S_X6_putInOrder ht I A (L_X6_followHangs_J ht I A (Lb_X6_link_12_J 70 ht I A (L_J7_fillJ_7_J ht I A J it dyn 0) it dyn 0 0) it dyn) it dyn (Lb_X6_link_12_v1 70 ht I A (L_J7_fillJ_7_J ht I A J it dyn 0) it dyn 0 0)))))
set_option maxRecDepth 100000 in
set_option maxHeartbeats 4000000 in
theorem c_X6_link (G : fsG) (l : Launch) (ht : Nat) (I : Nat → Int32) (A : Nat → Nat → Int32) (J : Nat → Nat → Int64) (it : Nat → Option Nat) (dyn : fsH)  (hS : S_X6_link ht I A J it dyn ) : fsFn G l mX6_link 21 0 0 [.inr (.inr (some 5))] (fs_mk ht I A J it dyn) none (fs_mk ht (L_X6_link_I ht I A J it dyn ) (L_X6_link_A ht I A J it dyn ) (L_X6_link_J ht I A J it dyn ) it dyn) := by
  refine fsMet_of (by decide) (Nat.le_of_ble_eq_true rfl) ?_
  generalize hQ : (fun (r1 : Option fsV) (h1 : fsH) => r1 = none ∧ h1 = (fs_mk ht (L_X6_link_I ht I A J it dyn ) (L_X6_link_A ht I A J it dyn ) (L_X6_link_J ht I A J it dyn ) it dyn)) = Q
  have hq : Q none (fs_mk ht (L_X6_link_I ht I A J it dyn ) (L_X6_link_A ht I A J it dyn ) (L_X6_link_J ht I A J it dyn ) it dyn) := by rw [← hQ]; exact ⟨rfl, rfl⟩
  clear hQ
  have hq : Q none (fs_mk ht (L_X6_putInOrder_I ht I A (L_X6_followHangs_J ht I A (Lb_X6_link_12_J 70 ht I A (L_J7_fillJ_7_J ht I A J it dyn 0) it dyn 0 0) it dyn) it dyn (Lb_X6_link_12_v1 70 ht I A (L_J7_fillJ_7_J ht I A J it dyn 0) it dyn 0 0)) (L_X6_putInOrder_A ht I A (L_X6_followHangs_J ht I A (Lb_X6_link_12_J 70 ht I A (L_J7_fillJ_7_J ht I A J it dyn 0) it dyn 0 0) it dyn) it dyn (Lb_X6_link_12_v1 70 ht I A (L_J7_fillJ_7_J ht I A J it dyn 0) it dyn 0 0)) (L_X6_followHangs_J ht I A (Lb_X6_link_12_J 70 ht I A (L_J7_fillJ_7_J ht I A J it dyn 0) it dyn 0 0) it dyn) it dyn) := hq
  have hS : ((S_J7_fillJ_7 ht I A J it dyn 0) ∧ ((S_Lb_X6_link_12 70 ht I A (L_J7_fillJ_7_J ht I A J it dyn 0) it dyn 0 0) ∧ ((S_X6_followHangs ht I A (Lb_X6_link_12_J 70 ht I A (L_J7_fillJ_7_J ht I A J it dyn 0) it dyn 0 0) it dyn) ∧ (S_X6_putInOrder ht I A (L_X6_followHangs_J ht I A (Lb_X6_link_12_J 70 ht I A (L_J7_fillJ_7_J ht I A J it dyn 0) it dyn 0 0) it dyn) it dyn (Lb_X6_link_12_v1 70 ht I A (L_J7_fillJ_7_J ht I A J it dyn 0) it dyn 0 0))))) := hS
  refine (show fsW G l mX6_link 21 0 0 0 0 Q 0 [(0, .inr (.inr (some 5)))] [] (fs_mk ht I A J it dyn) from ?_)
  refine fs_aload_n dX6_link_0 rfl rfl ?_
  refine fs_getfield (v := .inr (.inr (some 7))) dX6_link_1 sf_X6_15 rfl rfl ?_
  refine fs_lconst (v := 0) dX6_link_4 rfl ?_
  obtain ⟨ho1, hS⟩ := hS
  refine fs_callS0 dX6_link_5 sv_X6_30 (c_J7_fillJ_7 G l ht I A J it dyn 0 ho1) rfl rfl (Nat.le_of_ble_eq_true rfl) (Nat.le_of_ble_eq_true rfl) (Nat.le_of_ble_eq_true rfl) (Nat.le_of_ble_eq_true rfl) ?_
  refine fs_lconst (v := 0) dX6_link_8 rfl ?_
  refine fs_lstore_n (L' := [(1, .inr (.inl 0)), (0, .inr (.inr (some 5)))]) dX6_link_9 rfl (by decide) rfl ?_
  refine fs_iconst (v := 0) dX6_link_10 rfl ?_
  refine fs_istore_n (L' := [(3, .inl 0), (1, .inr (.inl 0)), (0, .inr (.inr (some 5)))]) dX6_link_11 rfl (by decide) rfl ?_
  refine fs_reL [2, 1, 0] rfl ?_
  obtain ⟨ho1, hS⟩ := hS
  refine lp_Lb_X6_link_12 G l Q 70 ht I A (L_J7_fillJ_7_J ht I A J it dyn 0) it dyn 0 0 ho1 ?_
  refine fs_aload_n dX6_link_101 rfl rfl ?_
  obtain ⟨ho1, hS⟩ := hS
  refine fs_callV0 dX6_link_102 sv_X6_104 rfl ⟨_, rfl, rfl⟩ (c_X6_followHangs G l ht I A (Lb_X6_link_12_J 70 ht I A (L_J7_fillJ_7_J ht I A J it dyn 0) it dyn 0 0) it dyn ho1) rfl rfl (Nat.le_of_ble_eq_true rfl) (Nat.le_of_ble_eq_true rfl) (Nat.le_of_ble_eq_true rfl) (Nat.le_of_ble_eq_true rfl) ?_
  refine fs_aload_n dX6_link_105 rfl rfl ?_
  refine fs_lload_n dX6_link_106 rfl rfl ?_
  have ho1 := hS
  refine fs_callV0 dX6_link_107 sv_X6_107 rfl ⟨_, rfl, rfl⟩ (c_X6_putInOrder G l ht I A (L_X6_followHangs_J ht I A (Lb_X6_link_12_J 70 ht I A (L_J7_fillJ_7_J ht I A J it dyn 0) it dyn 0 0) it dyn) it dyn (Lb_X6_link_12_v1 70 ht I A (L_J7_fillJ_7_J ht I A J it dyn 0) it dyn 0 0) ho1) rfl rfl (Nat.le_of_ble_eq_true rfl) (Nat.le_of_ble_eq_true rfl) (Nat.le_of_ble_eq_true rfl) (Nat.le_of_ble_eq_true rfl) ?_
  have k9 := hq
  exact fs_ret dX6_link_110 rfl k9
def L_X6_worth_st_r (Er : Nat → (Nat → Int32) → (Nat → Nat → Int32) → (Nat → Nat → Int64) → (Nat → Option Nat) → fsH → Option Nat → Int32 → Int64) (ht : Nat) (I : Nat → Int32) (A : Nat → Nat → Int32) (J : Nat → Nat → Int64) (it : Nat → Option Nat) (dyn : fsH) (x1 : Option Nat) (x2 : Int32) : Int64 := (if x1 = none then 0 else (if (fs_dI dyn x1 0) = 35 then (L_X6_total_r ht I A J it dyn (fs_dI dyn x1 6)) else (if (fs_dI dyn x1 0) = 48 then (fs_dJ dyn x1 1) else (if (fs_dI dyn x1 0) = 97 then (L_X6_outcomeOf_r ht I A J it dyn (fs_dI dyn x1 6) (if (L_X1_repeats_r ht I A J it dyn (fs_dI dyn x1 6)) = 0 then 0 else x2 : Int32)) else (if (L_X7_isFault_r ht I A J it dyn (Er ht I A J it dyn (fs_dR dyn x1 3) x2)) = 0 then (if (fs_dI dyn x1 0) = 63 then (Er ht I A J it dyn (if (lg_cmp (Er ht I A J it dyn (fs_dR dyn x1 3) x2) 0) = 0 then (fs_dR dyn x1 5) else (fs_dR dyn x1 4) : Option Nat) x2) else (if (L_X7_isFault_r ht I A J it dyn (Er ht I A J it dyn (fs_dR dyn x1 4) x2)) = 0 then (L_X6_operate_r ht I A J it dyn (fs_dI dyn x1 0) (Er ht I A J it dyn (fs_dR dyn x1 3) x2) (Er ht I A J it dyn (fs_dR dyn x1 4) x2)) else (Er ht I A J it dyn (fs_dR dyn x1 4) x2) : Int64)) else (Er ht I A J it dyn (fs_dR dyn x1 3) x2))))))
def S_X6_worth_st (Er : Nat → (Nat → Int32) → (Nat → Nat → Int32) → (Nat → Nat → Int64) → (Nat → Option Nat) → fsH → Option Nat → Int32 → Int64) (ES : Nat → (Nat → Int32) → (Nat → Nat → Int32) → (Nat → Nat → Int64) → (Nat → Option Nat) → fsH → Option Nat → Int32 → Prop) (ht : Nat) (I : Nat → Int32) (A : Nat → Nat → Int32) (J : Nat → Nat → Int64) (it : Nat → Option Nat) (dyn : fsH) (x1 : Option Nat) (x2 : Int32) : Prop := (¬ (x1 = none) → ((fs_okP dyn x1) ∧ ((((fs_dI dyn x1 0) = 35) → ((fs_okP dyn x1) ∧ (S_X6_total ht I A J it dyn (fs_dI dyn x1 6)))) ∧ (¬ ((fs_dI dyn x1 0) = 35) → ((((fs_dI dyn x1 0) = 48) → (fs_okP dyn x1)) ∧ (¬ ((fs_dI dyn x1 0) = 48) → ((((fs_dI dyn x1 0) = 97) → ((fs_okP dyn x1) ∧ ((fs_okP dyn x1) ∧ ((S_X1_repeats ht I A J it dyn (fs_dI dyn x1 6)) ∧ (S_X6_outcomeOf ht I A J it dyn (fs_dI dyn x1 6) (if (L_X1_repeats_r ht I A J it dyn (fs_dI dyn x1 6)) = 0 then 0 else x2 : Int32)))))) ∧ (¬ ((fs_dI dyn x1 0) = 97) → ((fs_okP dyn x1) ∧ ((ES ht I A J it dyn (fs_dR dyn x1 3) x2) ∧ (((L_X7_isFault_r ht I A J it dyn (Er ht I A J it dyn (fs_dR dyn x1 3) x2)) = 0) → ((fs_okP dyn x1) ∧ ((((fs_dI dyn x1 0) = 63) → (((((lg_cmp (Er ht I A J it dyn (fs_dR dyn x1 3) x2) 0) = 0) → (fs_okP dyn x1)) ∧ (¬ ((lg_cmp (Er ht I A J it dyn (fs_dR dyn x1 3) x2) 0) = 0) → (fs_okP dyn x1))) ∧ (ES ht I A J it dyn (if (lg_cmp (Er ht I A J it dyn (fs_dR dyn x1 3) x2) 0) = 0 then (fs_dR dyn x1 5) else (fs_dR dyn x1 4) : Option Nat) x2))) ∧ (¬ ((fs_dI dyn x1 0) = 63) → ((fs_okP dyn x1) ∧ ((ES ht I A J it dyn (fs_dR dyn x1 4) x2) ∧ (((L_X7_isFault_r ht I A J it dyn (Er ht I A J it dyn (fs_dR dyn x1 4) x2)) = 0) → ((fs_okP dyn x1) ∧ (S_X6_operate ht I A J it dyn (fs_dI dyn x1 0) (Er ht I A J it dyn (fs_dR dyn x1 3) x2) (Er ht I A J it dyn (fs_dR dyn x1 4) x2))))))))))))))))))))
set_option maxRecDepth 100000 in
set_option maxHeartbeats 4000000 in
theorem c_X6_worth_st (G : fsG) (l : Launch) (Er : Nat → (Nat → Int32) → (Nat → Nat → Int32) → (Nat → Nat → Int64) → (Nat → Option Nat) → fsH → Option Nat → Int32 → Int64) (ES : Nat → (Nat → Int32) → (Nat → Nat → Int32) → (Nat → Nat → Int64) → (Nat → Option Nat) → fsH → Option Nat → Int32 → Prop) (dE mE : Nat) (hE : ∀ (ht : Nat) (I : Nat → Int32) (A : Nat → Nat → Int32) (J : Nat → Nat → Int64) (it : Nat → Option Nat) (dyn : fsH) (y1 : Option Nat) (y2 : Int32), ES ht I A J it dyn y1 y2 → fsFn G l mX6_worth dE 0 0 [.inr (.inr (some 5)), .inr (.inr y1), .inl y2] (fs_mk ht I A J it dyn) (some (.inr (.inl (Er ht I A J it dyn y1 y2)))) (fs_mk ht I A J it dyn)) (ht : Nat) (I : Nat → Int32) (A : Nat → Nat → Int32) (J : Nat → Nat → Int64) (it : Nat → Option Nat) (dyn : fsH) (x1 : Option Nat) (x2 : Int32) (hS : S_X6_worth_st Er ES ht I A J it dyn x1 x2) : fsFn G l mX6_worth (dE + 3) 0 0 [.inr (.inr (some 5)), .inr (.inr x1), .inl x2] (fs_mk ht I A J it dyn) (some (.inr (.inl (L_X6_worth_st_r Er ht I A J it dyn x1 x2)))) (fs_mk ht I A J it dyn) := by
  refine fsMet_of (by decide) (Nat.le_of_ble_eq_true rfl) ?_
  generalize hQ : (fun (r1 : Option fsV) (h1 : fsH) => r1 = (some (.inr (.inl (L_X6_worth_st_r Er ht I A J it dyn x1 x2)))) ∧ h1 = (fs_mk ht I A J it dyn)) = Q
  have hq : Q (some (.inr (.inl (L_X6_worth_st_r Er ht I A J it dyn x1 x2)))) (fs_mk ht I A J it dyn) := by rw [← hQ]; exact ⟨rfl, rfl⟩
  clear hQ
  have hq : Q (some (.inr (.inl (if x1 = none then 0 else (if (fs_dI dyn x1 0) = 35 then (L_X6_total_r ht I A J it dyn (fs_dI dyn x1 6)) else (if (fs_dI dyn x1 0) = 48 then (fs_dJ dyn x1 1) else (if (fs_dI dyn x1 0) = 97 then (L_X6_outcomeOf_r ht I A J it dyn (fs_dI dyn x1 6) (if (L_X1_repeats_r ht I A J it dyn (fs_dI dyn x1 6)) = 0 then 0 else x2 : Int32)) else (if (L_X7_isFault_r ht I A J it dyn (Er ht I A J it dyn (fs_dR dyn x1 3) x2)) = 0 then (if (fs_dI dyn x1 0) = 63 then (Er ht I A J it dyn (if (lg_cmp (Er ht I A J it dyn (fs_dR dyn x1 3) x2) 0) = 0 then (fs_dR dyn x1 5) else (fs_dR dyn x1 4) : Option Nat) x2) else (if (L_X7_isFault_r ht I A J it dyn (Er ht I A J it dyn (fs_dR dyn x1 4) x2)) = 0 then (L_X6_operate_r ht I A J it dyn (fs_dI dyn x1 0) (Er ht I A J it dyn (fs_dR dyn x1 3) x2) (Er ht I A J it dyn (fs_dR dyn x1 4) x2)) else (Er ht I A J it dyn (fs_dR dyn x1 4) x2) : Int64) : Int64) else (Er ht I A J it dyn (fs_dR dyn x1 3) x2) : Int64) : Int64) : Int64) : Int64) : Int64)))) (fs_mk ht I A J it dyn) := hq
  have hS : (¬ (x1 = none) → ((fs_okP dyn x1) ∧ ((((fs_dI dyn x1 0) = 35) → ((fs_okP dyn x1) ∧ (S_X6_total ht I A J it dyn (fs_dI dyn x1 6)))) ∧ (¬ ((fs_dI dyn x1 0) = 35) → ((((fs_dI dyn x1 0) = 48) → (fs_okP dyn x1)) ∧ (¬ ((fs_dI dyn x1 0) = 48) → ((((fs_dI dyn x1 0) = 97) → ((fs_okP dyn x1) ∧ ((fs_okP dyn x1) ∧ ((S_X1_repeats ht I A J it dyn (fs_dI dyn x1 6)) ∧ (S_X6_outcomeOf ht I A J it dyn (fs_dI dyn x1 6) (if (L_X1_repeats_r ht I A J it dyn (fs_dI dyn x1 6)) = 0 then 0 else x2 : Int32)))))) ∧ (¬ ((fs_dI dyn x1 0) = 97) → ((fs_okP dyn x1) ∧ ((ES ht I A J it dyn (fs_dR dyn x1 3) x2) ∧ (((L_X7_isFault_r ht I A J it dyn (Er ht I A J it dyn (fs_dR dyn x1 3) x2)) = 0) → ((fs_okP dyn x1) ∧ ((((fs_dI dyn x1 0) = 63) → (((((lg_cmp (Er ht I A J it dyn (fs_dR dyn x1 3) x2) 0) = 0) → (fs_okP dyn x1)) ∧ (¬ ((lg_cmp (Er ht I A J it dyn (fs_dR dyn x1 3) x2) 0) = 0) → (fs_okP dyn x1))) ∧ (ES ht I A J it dyn (if (lg_cmp (Er ht I A J it dyn (fs_dR dyn x1 3) x2) 0) = 0 then (fs_dR dyn x1 5) else (fs_dR dyn x1 4) : Option Nat) x2))) ∧ (¬ ((fs_dI dyn x1 0) = 63) → ((fs_okP dyn x1) ∧ ((ES ht I A J it dyn (fs_dR dyn x1 4) x2) ∧ (((L_X7_isFault_r ht I A J it dyn (Er ht I A J it dyn (fs_dR dyn x1 4) x2)) = 0) → ((fs_okP dyn x1) ∧ (S_X6_operate ht I A J it dyn (fs_dI dyn x1 0) (Er ht I A J it dyn (fs_dR dyn x1 3) x2) (Er ht I A J it dyn (fs_dR dyn x1 4) x2)))))))))))))))))))) := hS
  refine (show fsW G l mX6_worth (dE + 3) 0 0 0 0 Q 0 [(0, .inr (.inr (some 5))), (1, .inr (.inr x1)), (2, .inl x2)] [] (fs_mk ht I A J it dyn) from ?_)
  refine fs_aload_n dX6_worth_0 rfl rfl ?_
  refine fs_ifnonnull' 6 dX6_worth_1 (by decide) (fun c_1 : ¬ x1 = none => ?_) (fun c_1 : x1 = none => ?_)
  · have hS := hS c_1
    refine fs_aload_n dX6_worth_6 rfl rfl ?_
    obtain ⟨ho1, hS⟩ := hS
    refine fsg_P0 dX6_worth_7 sf_X6_111 ho1 ?_
    by_cases cs_10_0 : (fs_dI dyn x1 0) = 35
    · have hS := hS.1 cs_10_0
      refine fs_lookup 77 dX6_worth_10 (by decide) (off := 67) (by rw [cs_10_0]; rfl) (by decide) ?_
      refine fs_aload_n dX6_worth_77 rfl rfl ?_
      refine fs_aload_n dX6_worth_78 rfl rfl ?_
      obtain ⟨ho1, hS⟩ := hS
      refine fsg_P6 dX6_worth_79 sf_X6_117 ho1 ?_
      have ho1 := hS
      refine fs_callV1 dX6_worth_82 sv_X6_146 rfl ⟨_, rfl, rfl⟩ (c_X6_total G l ht I A J it dyn (fs_dI dyn x1 6) ho1) rfl rfl (Nat.le_of_ble_eq_true rfl) (by omega) (by omega) (by omega) ?_
      have k9 := hq
      try simp only [if_neg c_1, if_pos cs_10_0] at k9 ⊢
      exact fs_lret dX6_worth_85 rfl k9
    · have hS := hS.2 cs_10_0
      by_cases cs_10_1 : (fs_dI dyn x1 0) = 48
      · have hS := hS.1 cs_10_1
        refine fs_lookup 44 dX6_worth_10 (by decide) (off := 34) (by rw [cs_10_1]; rfl) (by decide) ?_
        refine fs_aload_n dX6_worth_44 rfl rfl ?_
        have ho1 := hS
        refine fsg_P1 dX6_worth_45 sf_X6_142 ho1 ?_
        have k9 := hq
        try simp only [if_neg c_1, if_neg cs_10_0, if_pos cs_10_1] at k9 ⊢
        exact fs_lret dX6_worth_48 rfl k9
      · have hS := hS.2 cs_10_1
        by_cases cs_10_2 : (fs_dI dyn x1 0) = 97
        · have hS := hS.1 cs_10_2
          refine fs_lookup 49 dX6_worth_10 (by decide) (off := 39) (by rw [cs_10_2]; rfl) (by decide) ?_
          refine fs_aload_n dX6_worth_49 rfl rfl ?_
          refine fs_aload_n dX6_worth_50 rfl rfl ?_
          obtain ⟨ho1, hS⟩ := hS
          refine fsg_P6 dX6_worth_51 sf_X6_117 ho1 ?_
          refine fs_aload_n dX6_worth_54 rfl rfl ?_
          refine fs_getfield (v := .inr (.inr (some 3))) dX6_worth_55 sf_X6_26 rfl rfl ?_
          refine fs_aload_n dX6_worth_58 rfl rfl ?_
          obtain ⟨ho1, hS⟩ := hS
          refine fsg_P6 dX6_worth_59 sf_X6_117 ho1 ?_
          obtain ⟨ho1, hS⟩ := hS
          refine fs_callV1 dX6_worth_62 sv_X6_47 rfl ⟨_, rfl, rfl⟩ (c_X1_repeats G l ht I A J it dyn (fs_dI dyn x1 6) ho1) rfl rfl (Nat.le_of_ble_eq_true rfl) (by omega) (by omega) (by omega) ?_
          have key_73 : fsW G l mX6_worth (dE + 3) 0 0 0 0 Q 73 [(0, .inr (.inr (some 5))), (1, .inr (.inr x1)), (2, .inl x2)] [.inl (if (L_X1_repeats_r ht I A J it dyn (fs_dI dyn x1 6)) = 0 then 0 else x2 : Int32), .inl (fs_dI dyn x1 6), .inr (.inr (some 5))] (fs_mk ht I A J it dyn) := by
            have ho1 := hS
            refine fs_callV1 dX6_worth_73 sv_X6_61 rfl ⟨_, rfl, rfl⟩ (c_X6_outcomeOf G l ht I A J it dyn (fs_dI dyn x1 6) (if (L_X1_repeats_r ht I A J it dyn (fs_dI dyn x1 6)) = 0 then 0 else x2 : Int32) ho1) rfl rfl (Nat.le_of_ble_eq_true rfl) (by omega) (by omega) (by omega) ?_
            have k9 := hq
            try simp only [if_neg c_1, if_neg cs_10_0, if_neg cs_10_1, if_pos cs_10_2] at k9 ⊢
            exact fs_lret dX6_worth_76 rfl k9
          refine fs_if_eq 72 dX6_worth_65 (by decide) (fun c_65 : (L_X1_repeats_r ht I A J it dyn (fs_dI dyn x1 6)) = 0 => ?_) (fun c_65 : ¬ ((L_X1_repeats_r ht I A J it dyn (fs_dI dyn x1 6)) = 0) => ?_)
          · refine fs_iconst (v := 0) dX6_worth_72 rfl ?_
            have k9 := key_73
            try simp only [if_neg c_1, if_neg cs_10_0, if_neg cs_10_1, if_pos cs_10_2, if_pos c_65] at k9 ⊢
            exact k9
          · refine fs_iload_n dX6_worth_68 rfl rfl ?_
            refine fs_goto 73 dX6_worth_69 (by decide) ?_
            have k9 := key_73
            try simp only [if_neg c_1, if_neg cs_10_0, if_neg cs_10_1, if_pos cs_10_2, if_neg c_65] at k9 ⊢
            exact k9
        · have hS := hS.2 cs_10_2
          refine fs_lookup 86 dX6_worth_10 (by decide) (by show Op.lookupswitch.offset [(35, 67), (48, 34), (97, 39)] 76 (fs_dI dyn x1 0).toInt = 76; rw [lv_osw (a := 35) cs_10_0 rfl, lv_osw (a := 48) cs_10_1 rfl, lv_osw (a := 97) cs_10_2 rfl]; rfl) (by decide) ?_
          refine fs_aload_n dX6_worth_86 rfl rfl ?_
          refine fs_aload_n dX6_worth_87 rfl rfl ?_
          obtain ⟨ho1, hS⟩ := hS
          refine fsg_P3 dX6_worth_88 sf_X6_123 ho1 ?_
          refine fs_iload_n dX6_worth_91 rfl rfl ?_
          obtain ⟨ho1, hS⟩ := hS
          refine fs_callV1 dX6_worth_92 sv_X6_139 rfl ⟨_, rfl, rfl⟩ (hE ht I A J it dyn (fs_dR dyn x1 3) x2 ho1) rfl rfl (Nat.le_of_ble_eq_true rfl) (by omega) (by omega) (by omega) ?_
          refine fs_lstore_n (L' := [(3, .inr (.inl (Er ht I A J it dyn (fs_dR dyn x1 3) x2))), (0, .inr (.inr (some 5))), (1, .inr (.inr x1)), (2, .inl x2)]) dX6_worth_95 rfl (by decide) rfl ?_
          refine fs_lload_n dX6_worth_96 rfl rfl ?_
          refine fs_callSN1 dX6_worth_97 sv_X6_65 (c_X7_isFault G l ht I A J it dyn (Er ht I A J it dyn (fs_dR dyn x1 3) x2)) rfl rfl (Nat.le_of_ble_eq_true rfl) (by omega) (by omega) (by omega) ?_
          refine fs_if_eq 105 dX6_worth_100 (by decide) (fun c_100 : (L_X7_isFault_r ht I A J it dyn (Er ht I A J it dyn (fs_dR dyn x1 3) x2)) = 0 => ?_) (fun c_100 : ¬ ((L_X7_isFault_r ht I A J it dyn (Er ht I A J it dyn (fs_dR dyn x1 3) x2)) = 0) => ?_)
          · have hS := hS c_100
            refine fs_aload_n dX6_worth_105 rfl rfl ?_
            obtain ⟨ho1, hS⟩ := hS
            refine fsg_P0 dX6_worth_106 sf_X6_111 ho1 ?_
            refine fs_bipush (v := 63) dX6_worth_109 rfl ?_
            refine fs_icmp_ne 137 dX6_worth_111 (by decide) (fun c_111 : ¬ (fs_dI dyn x1 0) = 63 => ?_) (fun c_111 : (fs_dI dyn x1 0) = 63 => ?_)
            · have hS := hS.2 c_111
              refine fs_aload_n dX6_worth_137 rfl rfl ?_
              refine fs_aload_n dX6_worth_138 rfl rfl ?_
              obtain ⟨ho1, hS⟩ := hS
              refine fsg_P4 dX6_worth_139 sf_X6_126 ho1 ?_
              refine fs_iload_n dX6_worth_142 rfl rfl ?_
              obtain ⟨ho1, hS⟩ := hS
              refine fs_callV1 dX6_worth_143 sv_X6_139 rfl ⟨_, rfl, rfl⟩ (hE ht I A J it dyn (fs_dR dyn x1 4) x2 ho1) rfl rfl (Nat.le_of_ble_eq_true rfl) (by omega) (by omega) (by omega) ?_
              refine fs_lstore (L' := [(5, .inr (.inl (Er ht I A J it dyn (fs_dR dyn x1 4) x2))), (3, .inr (.inl (Er ht I A J it dyn (fs_dR dyn x1 3) x2))), (0, .inr (.inr (some 5))), (1, .inr (.inr x1)), (2, .inl x2)]) dX6_worth_146 (by decide) rfl ?_
              refine fs_lload dX6_worth_148 rfl ?_
              refine fs_callSN1 dX6_worth_150 sv_X6_65 (c_X7_isFault G l ht I A J it dyn (Er ht I A J it dyn (fs_dR dyn x1 4) x2)) rfl rfl (Nat.le_of_ble_eq_true rfl) (by omega) (by omega) (by omega) ?_
              have hR_153 := hS
              have key_171 : fsW G l mX6_worth (dE + 3) 0 0 0 0 Q 171 [(0, .inr (.inr (some 5))), (1, .inr (.inr x1)), (2, .inl x2), (3, .inr (.inl (Er ht I A J it dyn (fs_dR dyn x1 3) x2))), (5, .inr (.inl (Er ht I A J it dyn (fs_dR dyn x1 4) x2)))] [.inr (.inl (if (L_X7_isFault_r ht I A J it dyn (Er ht I A J it dyn (fs_dR dyn x1 4) x2)) = 0 then (L_X6_operate_r ht I A J it dyn (fs_dI dyn x1 0) (Er ht I A J it dyn (fs_dR dyn x1 3) x2) (Er ht I A J it dyn (fs_dR dyn x1 4) x2)) else (Er ht I A J it dyn (fs_dR dyn x1 4) x2) : Int64))] (fs_mk ht I A J it dyn) := by
                have k9 := hq
                try simp only [if_neg c_1, if_neg cs_10_0, if_neg cs_10_1, if_neg cs_10_2, if_pos c_100, if_neg c_111] at k9 ⊢
                exact fs_lret dX6_worth_171 rfl k9
              refine fs_if_eq 161 dX6_worth_153 (by decide) (fun c_153 : (L_X7_isFault_r ht I A J it dyn (Er ht I A J it dyn (fs_dR dyn x1 4) x2)) = 0 => ?_) (fun c_153 : ¬ ((L_X7_isFault_r ht I A J it dyn (Er ht I A J it dyn (fs_dR dyn x1 4) x2)) = 0) => ?_)
              · have hS := hR_153 c_153
                refine fs_aload_n dX6_worth_161 rfl rfl ?_
                obtain ⟨ho1, hS⟩ := hS
                refine fsg_P0 dX6_worth_162 sf_X6_111 ho1 ?_
                refine fs_lload_n dX6_worth_165 rfl rfl ?_
                refine fs_lload dX6_worth_166 rfl ?_
                have ho1 := hS
                refine fs_callS1 dX6_worth_168 sv_X6_149 (c_X6_operate G l ht I A J it dyn (fs_dI dyn x1 0) (Er ht I A J it dyn (fs_dR dyn x1 3) x2) (Er ht I A J it dyn (fs_dR dyn x1 4) x2) ho1) rfl rfl (Nat.le_of_ble_eq_true rfl) (by omega) (by omega) (by omega) ?_
                refine fs_reL [2, 3, 4, 1, 0] rfl ?_
                have k9 := key_171
                try simp only [if_neg c_1, if_neg cs_10_0, if_neg cs_10_1, if_neg cs_10_2, if_pos c_100, if_neg c_111, if_pos c_153] at k9 ⊢
                exact k9
              · refine fs_lload dX6_worth_156 rfl ?_
                refine fs_goto 171 dX6_worth_158 (by decide) ?_
                refine fs_reL [2, 3, 4, 1, 0] rfl ?_
                have k9 := key_171
                try simp only [if_neg c_1, if_neg cs_10_0, if_neg cs_10_1, if_neg cs_10_2, if_pos c_100, if_neg c_111, if_neg c_153] at k9 ⊢
                exact k9
            · have hS := hS.1 c_111
              refine fs_aload_n dX6_worth_114 rfl rfl ?_
              refine fs_lload_n dX6_worth_115 rfl rfl ?_
              refine fs_lconst (v := 0) dX6_worth_116 rfl ?_
              refine fs_lcmp dX6_worth_117 ?_
              obtain ⟨hR_118, hS⟩ := hS
              have key_132 : fsW G l mX6_worth (dE + 3) 0 0 0 0 Q 132 [(0, .inr (.inr (some 5))), (1, .inr (.inr x1)), (2, .inl x2), (3, .inr (.inl (Er ht I A J it dyn (fs_dR dyn x1 3) x2)))] [.inr (.inr (if (lg_cmp (Er ht I A J it dyn (fs_dR dyn x1 3) x2) 0) = 0 then (fs_dR dyn x1 5) else (fs_dR dyn x1 4) : Option Nat)), .inr (.inr (some 5))] (fs_mk ht I A J it dyn) := by
                refine fs_iload_n dX6_worth_132 rfl rfl ?_
                have ho1 := hS
                refine fs_callV1 dX6_worth_133 sv_X6_139 rfl ⟨_, rfl, rfl⟩ (hE ht I A J it dyn (if (lg_cmp (Er ht I A J it dyn (fs_dR dyn x1 3) x2) 0) = 0 then (fs_dR dyn x1 5) else (fs_dR dyn x1 4) : Option Nat) x2 ho1) rfl rfl (Nat.le_of_ble_eq_true rfl) (by omega) (by omega) (by omega) ?_
                have k9 := hq
                try simp only [if_neg c_1, if_neg cs_10_0, if_neg cs_10_1, if_neg cs_10_2, if_pos c_100, if_pos c_111] at k9 ⊢
                exact fs_lret dX6_worth_136 rfl k9
              refine fs_if_eq 128 dX6_worth_118 (by decide) (fun c_118 : (lg_cmp (Er ht I A J it dyn (fs_dR dyn x1 3) x2) 0) = 0 => ?_) (fun c_118 : ¬ ((lg_cmp (Er ht I A J it dyn (fs_dR dyn x1 3) x2) 0) = 0) => ?_)
              · have hS := hR_118.1 c_118
                refine fs_aload_n dX6_worth_128 rfl rfl ?_
                have ho1 := hS
                refine fsg_P5 dX6_worth_129 sf_X6_129 ho1 ?_
                refine fs_reL [1, 2, 3, 0] rfl ?_
                have k9 := key_132
                try simp only [if_neg c_1, if_neg cs_10_0, if_neg cs_10_1, if_neg cs_10_2, if_pos c_100, if_pos c_111, if_pos c_118] at k9 ⊢
                exact k9
              · have hS := hR_118.2 c_118
                refine fs_aload_n dX6_worth_121 rfl rfl ?_
                have ho1 := hS
                refine fsg_P4 dX6_worth_122 sf_X6_126 ho1 ?_
                refine fs_goto 132 dX6_worth_125 (by decide) ?_
                refine fs_reL [1, 2, 3, 0] rfl ?_
                have k9 := key_132
                try simp only [if_neg c_1, if_neg cs_10_0, if_neg cs_10_1, if_neg cs_10_2, if_pos c_100, if_pos c_111, if_neg c_118] at k9 ⊢
                exact k9
          · refine fs_lload_n dX6_worth_103 rfl rfl ?_
            have k9 := hq
            try simp only [if_neg c_1, if_neg cs_10_0, if_neg cs_10_1, if_neg cs_10_2, if_neg c_100] at k9 ⊢
            exact fs_lret dX6_worth_104 rfl k9
  · refine fs_lconst (v := 0) dX6_worth_4 rfl ?_
    have k9 := hq
    try simp only [if_pos c_1] at k9 ⊢
    exact fs_lret dX6_worth_5 rfl k9
def T_X6_worth : Nat → Nat → (Nat → Int32) → (Nat → Nat → Int32) → (Nat → Nat → Int64) → (Nat → Option Nat) → fsH → Option Nat → Int32 → Int64 × Prop
  | 0, ht, I, A, J, it, dyn, x1, x2 => (0, False)
  | n + 1, ht, I, A, J, it, dyn, x1, x2 => (L_X6_worth_st_r (fun ht I A J it dyn zx1 zx2 => (T_X6_worth n ht I A J it dyn zx1 zx2).1) ht I A J it dyn x1 x2, S_X6_worth_st (fun ht I A J it dyn zx1 zx2 => (T_X6_worth n ht I A J it dyn zx1 zx2).1) (fun ht I A J it dyn zx1 zx2 => (T_X6_worth n ht I A J it dyn zx1 zx2).2) ht I A J it dyn x1 x2)
theorem ci_X6_worth (G : fsG) (l : Launch) : ∀ (n : Nat) (ht : Nat) (I : Nat → Int32) (A : Nat → Nat → Int32) (J : Nat → Nat → Int64) (it : Nat → Option Nat) (dyn : fsH) (x1 : Option Nat) (x2 : Int32), (T_X6_worth n ht I A J it dyn x1 x2).2 → fsFn G l mX6_worth (3 * n) 0 0 [.inr (.inr (some 5)), .inr (.inr x1), .inl x2] (fs_mk ht I A J it dyn) (some (.inr (.inl ((T_X6_worth n ht I A J it dyn x1 x2).1)))) (fs_mk ht I A J it dyn) := by
  intro n
  induction n with
  | zero =>
    intro ht I A J it dyn x1 x2 hS
    exact hS.elim
  | succ n ih =>
    intro ht I A J it dyn x1 x2 hS
    have h := c_X6_worth_st G l (fun ht I A J it dyn zx1 zx2 => (T_X6_worth n ht I A J it dyn zx1 zx2).1) (fun ht I A J it dyn zx1 zx2 => (T_X6_worth n ht I A J it dyn zx1 zx2).2) (3 * n) 0 (fun ht I A J it dyn zx1 zx2 h9 => ih ht I A J it dyn zx1 zx2 h9) ht I A J it dyn x1 x2 hS
    skip
    skip
    exact h
def L_X6_worth_r (ht : Nat) (I : Nat → Int32) (A : Nat → Nat → Int32) (J : Nat → Nat → Int64) (it : Nat → Option Nat) (dyn : fsH) (x1 : Option Nat) (x2 : Int32) : Int64 := (T_X6_worth 10 ht I A J it dyn x1 x2).1
def S_X6_worth (ht : Nat) (I : Nat → Int32) (A : Nat → Nat → Int32) (J : Nat → Nat → Int64) (it : Nat → Option Nat) (dyn : fsH) (x1 : Option Nat) (x2 : Int32) : Prop := (T_X6_worth 10 ht I A J it dyn x1 x2).2
theorem c_X6_worth (G : fsG) (l : Launch) (ht : Nat) (I : Nat → Int32) (A : Nat → Nat → Int32) (J : Nat → Nat → Int64) (it : Nat → Option Nat) (dyn : fsH) (x1 : Option Nat) (x2 : Int32) (hS : S_X6_worth ht I A J it dyn x1 x2) : fsFn G l mX6_worth 30 0 0 [.inr (.inr (some 5)), .inr (.inr x1), .inl x2] (fs_mk ht I A J it dyn) (some (.inr (.inl (L_X6_worth_r ht I A J it dyn x1 x2)))) (fs_mk ht I A J it dyn) := ci_X6_worth G l 10 ht I A J it dyn x1 x2 hS
def L_X6_workOut_J (ht : Nat) (I : Nat → Int32) (A : Nat → Nat → Int32) (J : Nat → Nat → Int64) (it : Nat → Option Nat) (dyn : fsH) (x1 : Int32) : Nat → Nat → Int64 := (if (L_X1_has_r ht I A J it dyn (x1 / 4) (x1 - x1 / 4 * 4)) = 0 then J else (va_up J 6 (vp_updL (J 6) x1.toNatClampNeg (if (L_X6_hangsOn_r ht I A J it dyn x1 x1) = 0 then (L_X6_worth_r ht I A J it dyn (fs_dR dyn (it (x1 / 4).toNatClampNeg) 3) (x1 - x1 / 4 * 4)) else (10000000000000003) : Int64))))
def S_X6_workOut (ht : Nat) (I : Nat → Int32) (A : Nat → Nat → Int32) (J : Nat → Nat → Int64) (it : Nat → Option Nat) (dyn : fsH) (x1 : Int32) : Prop := ((S_X1_has ht I A J it dyn (x1 / 4) (x1 - x1 / 4 * 4)) ∧ (¬ ((L_X1_has_r ht I A J it dyn (x1 / 4) (x1 - x1 / 4 * 4)) = 0) → ((S_X6_hangsOn ht I A J it dyn x1 x1) ∧ ((((L_X6_hangsOn_r ht I A J it dyn x1 x1) = 0) → ((vp_in (x1 / 4) 16) ∧ ((fs_okI dyn (it (x1 / 4).toNatClampNeg)) ∧ (S_X6_worth ht I A J it dyn (fs_dR dyn (it (x1 / 4).toNatClampNeg) 3) (x1 - x1 / 4 * 4))))) ∧ (vp_in x1 64)))))
set_option maxRecDepth 100000 in
set_option maxHeartbeats 4000000 in
theorem c_X6_workOut (G : fsG) (l : Launch) (ht : Nat) (I : Nat → Int32) (A : Nat → Nat → Int32) (J : Nat → Nat → Int64) (it : Nat → Option Nat) (dyn : fsH) (x1 : Int32) (hS : S_X6_workOut ht I A J it dyn x1) : fsFn G l mX6_workOut 31 0 0 [.inr (.inr (some 5)), .inl x1] (fs_mk ht I A J it dyn) none (fs_mk ht I A (L_X6_workOut_J ht I A J it dyn x1) it dyn) := by
  refine fsMet_of (by decide) (Nat.le_of_ble_eq_true rfl) ?_
  generalize hQ : (fun (r1 : Option fsV) (h1 : fsH) => r1 = none ∧ h1 = (fs_mk ht I A (L_X6_workOut_J ht I A J it dyn x1) it dyn)) = Q
  have hq : Q none (fs_mk ht I A (L_X6_workOut_J ht I A J it dyn x1) it dyn) := by rw [← hQ]; exact ⟨rfl, rfl⟩
  clear hQ
  have hq : Q none (fs_mk ht I A (if (L_X1_has_r ht I A J it dyn (x1 / 4) (x1 - x1 / 4 * 4)) = 0 then J else (va_up J 6 (vp_updL (J 6) x1.toNatClampNeg (if (L_X6_hangsOn_r ht I A J it dyn x1 x1) = 0 then (L_X6_worth_r ht I A J it dyn (fs_dR dyn (it (x1 / 4).toNatClampNeg) 3) (x1 - x1 / 4 * 4)) else (10000000000000003) : Int64)))) it dyn) := hq
  have hS : ((S_X1_has ht I A J it dyn (x1 / 4) (x1 - x1 / 4 * 4)) ∧ (¬ ((L_X1_has_r ht I A J it dyn (x1 / 4) (x1 - x1 / 4 * 4)) = 0) → ((S_X6_hangsOn ht I A J it dyn x1 x1) ∧ ((((L_X6_hangsOn_r ht I A J it dyn x1 x1) = 0) → ((vp_in (x1 / 4) 16) ∧ ((fs_okI dyn (it (x1 / 4).toNatClampNeg)) ∧ (S_X6_worth ht I A J it dyn (fs_dR dyn (it (x1 / 4).toNatClampNeg) 3) (x1 - x1 / 4 * 4))))) ∧ (vp_in x1 64))))) := hS
  refine (show fsW G l mX6_workOut 31 0 0 0 0 Q 0 [(0, .inr (.inr (some 5))), (1, .inl x1)] [] (fs_mk ht I A J it dyn) from ?_)
  refine fs_iload_n dX6_workOut_0 rfl rfl ?_
  refine fs_iconst (v := 4) dX6_workOut_1 rfl ?_
  refine fs_idiv dX6_workOut_2 (by decide) ?_
  refine fs_istore_n (L' := [(2, .inl (x1 / 4)), (0, .inr (.inr (some 5))), (1, .inl x1)]) dX6_workOut_3 rfl (by decide) rfl ?_
  refine fs_aload_n dX6_workOut_4 rfl rfl ?_
  refine fs_getfield (v := .inr (.inr (some 3))) dX6_workOut_5 sf_X6_26 rfl rfl ?_
  refine fs_iload_n dX6_workOut_8 rfl rfl ?_
  refine fs_iload_n dX6_workOut_9 rfl rfl ?_
  refine fs_iconst (v := 4) dX6_workOut_10 rfl ?_
  refine fs_irem dX6_workOut_11 (by decide) ?_
  obtain ⟨ho1, hS⟩ := hS
  refine fs_callV1 dX6_workOut_12 sv_X6_54 rfl ⟨_, rfl, rfl⟩ (c_X1_has G l ht I A J it dyn (x1 / 4) (x1 - x1 / 4 * 4) ho1) rfl rfl (Nat.le_of_ble_eq_true rfl) (Nat.le_of_ble_eq_true rfl) (Nat.le_of_ble_eq_true rfl) (Nat.le_of_ble_eq_true rfl) ?_
  have hR_15 := hS
  have key_58 : fsW G l mX6_workOut 31 0 0 0 0 Q 58 [(0, .inr (.inr (some 5))), (1, .inl x1), (2, .inl (x1 / 4))] [] (fs_mk ht I A (if (L_X1_has_r ht I A J it dyn (x1 / 4) (x1 - x1 / 4 * 4)) = 0 then J else (va_up J 6 (vp_updL (J 6) x1.toNatClampNeg (if (L_X6_hangsOn_r ht I A J it dyn x1 x1) = 0 then (L_X6_worth_r ht I A J it dyn (fs_dR dyn (it (x1 / 4).toNatClampNeg) 3) (x1 - x1 / 4 * 4)) else (10000000000000003) : Int64)))) it dyn) := by
    have k9 := hq
    exact fs_ret dX6_workOut_58 rfl k9
  refine fs_if_eq 58 dX6_workOut_15 (by decide) (fun c_15 : (L_X1_has_r ht I A J it dyn (x1 / 4) (x1 - x1 / 4 * 4)) = 0 => ?_) (fun c_15 : ¬ ((L_X1_has_r ht I A J it dyn (x1 / 4) (x1 - x1 / 4 * 4)) = 0) => ?_)
  · refine fs_reL [1, 2, 0] rfl ?_
    have k9 := key_58
    try simp only [if_pos c_15] at k9 ⊢
    exact k9
  · have hS := hR_15 c_15
    refine fs_aload_n dX6_workOut_18 rfl rfl ?_
    refine fs_getfield (v := .inr (.inr (some 6))) dX6_workOut_19 sf_X6_9 rfl rfl ?_
    refine fs_iload_n dX6_workOut_22 rfl rfl ?_
    refine fs_aload_n dX6_workOut_23 rfl rfl ?_
    refine fs_iload_n dX6_workOut_24 rfl rfl ?_
    refine fs_iload_n dX6_workOut_25 rfl rfl ?_
    obtain ⟨ho1, hS⟩ := hS
    refine fs_callV1 dX6_workOut_26 sv_X6_76 rfl ⟨_, rfl, rfl⟩ (c_X6_hangsOn G l ht I A J it dyn x1 x1 ho1) rfl rfl (Nat.le_of_ble_eq_true rfl) (Nat.le_of_ble_eq_true rfl) (Nat.le_of_ble_eq_true rfl) (Nat.le_of_ble_eq_true rfl) ?_
    obtain ⟨hR_29, hS⟩ := hS
    have key_57 : fsW G l mX6_workOut 31 0 0 0 0 Q 57 [(0, .inr (.inr (some 5))), (1, .inl x1), (2, .inl (x1 / 4))] [.inr (.inl (if (L_X6_hangsOn_r ht I A J it dyn x1 x1) = 0 then (L_X6_worth_r ht I A J it dyn (fs_dR dyn (it (x1 / 4).toNatClampNeg) 3) (x1 - x1 / 4 * 4)) else (10000000000000003) : Int64)), .inl x1, .inr (.inr (some 6))] (fs_mk ht I A J it dyn) := by
      have ho1 := hS
      refine fss_6 dX6_workOut_57 ho1 ?_
      have k9 := key_58
      try simp only [if_neg c_15] at k9 ⊢
      exact k9
    refine fs_if_eq 38 dX6_workOut_29 (by decide) (fun c_29 : (L_X6_hangsOn_r ht I A J it dyn x1 x1) = 0 => ?_) (fun c_29 : ¬ ((L_X6_hangsOn_r ht I A J it dyn x1 x1) = 0) => ?_)
    · have hS := hR_29 c_29
      refine fs_aload_n dX6_workOut_38 rfl rfl ?_
      refine fs_aload_n dX6_workOut_39 rfl rfl ?_
      refine fs_getfield (v := .inr (.inr (some 3))) dX6_workOut_40 sf_X6_26 rfl rfl ?_
      refine fs_getfield (v := .inr (.inr (some 4))) dX6_workOut_43 sf_X6_86 rfl rfl ?_
      refine fs_iload_n dX6_workOut_46 rfl rfl ?_
      obtain ⟨ho1, hS⟩ := hS
      refine fs_aaload dX6_workOut_47 rfl ho1 ?_
      obtain ⟨ho1, hS⟩ := hS
      refine fsg_I3 dX6_workOut_48 sf_X6_90 ho1 ?_
      refine fs_iload_n dX6_workOut_51 rfl rfl ?_
      refine fs_iconst (v := 4) dX6_workOut_52 rfl ?_
      refine fs_irem dX6_workOut_53 (by decide) ?_
      have ho1 := hS
      refine fs_callV1 dX6_workOut_54 sv_X6_139 rfl ⟨_, rfl, rfl⟩ (c_X6_worth G l ht I A J it dyn (fs_dR dyn (it (x1 / 4).toNatClampNeg) 3) (x1 - x1 / 4 * 4) ho1) rfl rfl (Nat.le_of_ble_eq_true rfl) (Nat.le_of_ble_eq_true rfl) (Nat.le_of_ble_eq_true rfl) (Nat.le_of_ble_eq_true rfl) ?_
      refine fs_reL [1, 2, 0] rfl ?_
      have k9 := key_57
      try simp only [if_neg c_15, if_pos c_29] at k9 ⊢
      exact k9
    · refine fs_ldc2 (v := (10000000000000003)) dX6_workOut_32 sk_X6_137 ?_
      refine fs_goto 57 dX6_workOut_35 (by decide) ?_
      refine fs_reL [1, 2, 0] rfl ?_
      have k9 := key_57
      try simp only [if_neg c_15, if_neg c_29] at k9 ⊢
      exact k9
def Lb_X6_workOutAll_6_J : Nat → Nat → (Nat → Int32) → (Nat → Nat → Int32) → (Nat → Nat → Int64) → (Nat → Option Nat) → fsH → Int32 → (Nat → Nat → Int64)
  | 0, ht, I, A, J, it, dyn, v1 => J
  | n + 1, ht, I, A, J, it, dyn, v1 => (if (I 6) ≤ v1 then J else (Lb_X6_workOutAll_6_J n ht I A (L_X6_workOut_J ht I A J it dyn (A 8 v1.toNatClampNeg)) it dyn (v1 + 1)))
def Lb_X6_workOutAll_6_v1 : Nat → Nat → (Nat → Int32) → (Nat → Nat → Int32) → (Nat → Nat → Int64) → (Nat → Option Nat) → fsH → Int32 → Int32
  | 0, ht, I, A, J, it, dyn, v1 => v1
  | n + 1, ht, I, A, J, it, dyn, v1 => (if (I 6) ≤ v1 then v1 else (Lb_X6_workOutAll_6_v1 n ht I A (L_X6_workOut_J ht I A J it dyn (A 8 v1.toNatClampNeg)) it dyn (v1 + 1)))
def S_Lb_X6_workOutAll_6 : Nat → Nat → (Nat → Int32) → (Nat → Nat → Int32) → (Nat → Nat → Int64) → (Nat → Option Nat) → fsH → Int32 → Prop
  | 0, _, _, _, _, _, _, _ => False
  | n + 1, ht, I, A, J, it, dyn, v1 => (¬ ((I 6) ≤ v1) → ((vp_in v1 64) ∧ ((S_X6_workOut ht I A J it dyn (A 8 v1.toNatClampNeg)) ∧ (S_Lb_X6_workOutAll_6 n ht I A (L_X6_workOut_J ht I A J it dyn (A 8 v1.toNatClampNeg)) it dyn (v1 + 1)))))
set_option maxRecDepth 100000 in
set_option maxHeartbeats 4000000 in
theorem lp_Lb_X6_workOutAll_6 (G : fsG) (l : Launch) (Q : Option fsV → fsH → Prop) : ∀ (n : Nat) (ht : Nat) (I : Nat → Int32) (A : Nat → Nat → Int32) (J : Nat → Nat → Int64) (it : Nat → Option Nat) (dyn : fsH) (v1 : Int32), S_Lb_X6_workOutAll_6 n ht I A J it dyn v1 → (fsW G l mX6_workOutAll 32 0 0 0 0 Q 30 [(0, .inr (.inr (some 5))), (1, .inl (Lb_X6_workOutAll_6_v1 n ht I A J it dyn v1))] [] (fs_mk ht I A (Lb_X6_workOutAll_6_J n ht I A J it dyn v1) it dyn)) → fsW G l mX6_workOutAll 32 0 0 0 0 Q 6 [(0, .inr (.inr (some 5))), (1, .inl v1)] [] (fs_mk ht I A J it dyn) := by
  intro n
  induction n with
  | zero =>
    intro ht I A J it dyn v1 hS
    exact hS.elim
  | succ n ih =>
    intro ht I A J it dyn v1 hS hq
    have hS : (¬ ((I 6) ≤ v1) → ((vp_in v1 64) ∧ ((S_X6_workOut ht I A J it dyn (A 8 v1.toNatClampNeg)) ∧ (S_Lb_X6_workOutAll_6 n ht I A (L_X6_workOut_J ht I A J it dyn (A 8 v1.toNatClampNeg)) it dyn (v1 + 1))))) := hS
    have hq : fsW G l mX6_workOutAll 32 0 0 0 0 Q 30 [(0, .inr (.inr (some 5))), (1, .inl (if (I 6) ≤ v1 then v1 else (Lb_X6_workOutAll_6_v1 n ht I A (L_X6_workOut_J ht I A J it dyn (A 8 v1.toNatClampNeg)) it dyn (v1 + 1))))] [] (fs_mk ht I A (if (I 6) ≤ v1 then J else (Lb_X6_workOutAll_6_J n ht I A (L_X6_workOut_J ht I A J it dyn (A 8 v1.toNatClampNeg)) it dyn (v1 + 1))) it dyn) := hq
    refine fs_iload_n dX6_workOutAll_6 rfl rfl ?_
    refine fs_aload_n dX6_workOutAll_7 rfl rfl ?_
    refine fs_getfield (v := .inl (I 6)) dX6_workOutAll_8 sf_X6_22 rfl rfl ?_
    refine fs_icmp_ge 30 dX6_workOutAll_11 (by decide) (fun c_11 : (I 6) ≤ v1 => ?_) (fun c_11 : ¬ ((I 6) ≤ v1) => ?_)
    · have k9 := hq
      try simp only [if_pos c_11] at k9 ⊢
      exact k9
    · have hS := hS c_11
      refine fs_aload_n dX6_workOutAll_14 rfl rfl ?_
      refine fs_aload_n dX6_workOutAll_15 rfl rfl ?_
      refine fs_getfield (v := .inr (.inr (some 8))) dX6_workOutAll_16 sf_X6_18 rfl rfl ?_
      refine fs_iload_n dX6_workOutAll_19 rfl rfl ?_
      obtain ⟨ho1, hS⟩ := hS
      refine fs_iaload dX6_workOutAll_20 rfl ho1 ?_
      obtain ⟨ho1, hS⟩ := hS
      refine fs_callV0 dX6_workOutAll_21 sv_X6_79 rfl ⟨_, rfl, rfl⟩ (c_X6_workOut G l ht I A J it dyn (A 8 v1.toNatClampNeg) ho1) rfl rfl (Nat.le_of_ble_eq_true rfl) (Nat.le_of_ble_eq_true rfl) (Nat.le_of_ble_eq_true rfl) (Nat.le_of_ble_eq_true rfl) ?_
      refine fs_iinc (v := (v1 + 1)) (L' := [(1, .inl (v1 + 1)), (0, .inr (.inr (some 5)))]) dX6_workOutAll_24 rfl rfl (by decide) rfl ?_
      refine fs_goto 6 dX6_workOutAll_27 (by decide) ?_
      refine fs_reL [1, 0] rfl ?_
      have k9 := hq
      try simp only [if_neg c_11] at hS k9 ⊢
      exact ih _ _ _ _ _ _ _ hS k9
def L_X6_workOutAll_I (ht : Nat) (I : Nat → Int32) (A : Nat → Nat → Int32) (J : Nat → Nat → Int64) (it : Nat → Option Nat) (dyn : fsH)  : Nat → Int32 := (L_X6_link_I ht I A J it dyn)
def L_X6_workOutAll_A (ht : Nat) (I : Nat → Int32) (A : Nat → Nat → Int32) (J : Nat → Nat → Int64) (it : Nat → Option Nat) (dyn : fsH)  : Nat → Nat → Int32 := (L_X6_link_A ht I A J it dyn)
def L_X6_workOutAll_J (ht : Nat) (I : Nat → Int32) (A : Nat → Nat → Int32) (J : Nat → Nat → Int64) (it : Nat → Option Nat) (dyn : fsH)  : Nat → Nat → Int64 := (Lb_X6_workOutAll_6_J 70 ht (L_X6_link_I ht I A J it dyn) (L_X6_link_A ht I A J it dyn) (L_X6_link_J ht I A J it dyn) it dyn 0)
def S_X6_workOutAll (ht : Nat) (I : Nat → Int32) (A : Nat → Nat → Int32) (J : Nat → Nat → Int64) (it : Nat → Option Nat) (dyn : fsH)  : Prop := ((S_X6_link ht I A J it dyn) ∧ (S_Lb_X6_workOutAll_6 70 ht (L_X6_link_I ht I A J it dyn) (L_X6_link_A ht I A J it dyn) (L_X6_link_J ht I A J it dyn) it dyn 0))
set_option maxRecDepth 100000 in
set_option maxHeartbeats 4000000 in
theorem c_X6_workOutAll (G : fsG) (l : Launch) (ht : Nat) (I : Nat → Int32) (A : Nat → Nat → Int32) (J : Nat → Nat → Int64) (it : Nat → Option Nat) (dyn : fsH)  (hS : S_X6_workOutAll ht I A J it dyn ) : fsFn G l mX6_workOutAll 32 0 0 [.inr (.inr (some 5))] (fs_mk ht I A J it dyn) none (fs_mk ht (L_X6_workOutAll_I ht I A J it dyn ) (L_X6_workOutAll_A ht I A J it dyn ) (L_X6_workOutAll_J ht I A J it dyn ) it dyn) := by
  refine fsMet_of (by decide) (Nat.le_of_ble_eq_true rfl) ?_
  generalize hQ : (fun (r1 : Option fsV) (h1 : fsH) => r1 = none ∧ h1 = (fs_mk ht (L_X6_workOutAll_I ht I A J it dyn ) (L_X6_workOutAll_A ht I A J it dyn ) (L_X6_workOutAll_J ht I A J it dyn ) it dyn)) = Q
  have hq : Q none (fs_mk ht (L_X6_workOutAll_I ht I A J it dyn ) (L_X6_workOutAll_A ht I A J it dyn ) (L_X6_workOutAll_J ht I A J it dyn ) it dyn) := by rw [← hQ]; exact ⟨rfl, rfl⟩
  clear hQ
  have hq : Q none (fs_mk ht (L_X6_link_I ht I A J it dyn) (L_X6_link_A ht I A J it dyn) (Lb_X6_workOutAll_6_J 70 ht (L_X6_link_I ht I A J it dyn) (L_X6_link_A ht I A J it dyn) (L_X6_link_J ht I A J it dyn) it dyn 0) it dyn) := hq
  have hS : ((S_X6_link ht I A J it dyn) ∧ (S_Lb_X6_workOutAll_6 70 ht (L_X6_link_I ht I A J it dyn) (L_X6_link_A ht I A J it dyn) (L_X6_link_J ht I A J it dyn) it dyn 0)) := hS
  refine (show fsW G l mX6_workOutAll 32 0 0 0 0 Q 0 [(0, .inr (.inr (some 5)))] [] (fs_mk ht I A J it dyn) from ?_)
  refine fs_aload_n dX6_workOutAll_0 rfl rfl ?_
  obtain ⟨ho1, hS⟩ := hS
  refine fs_callV0 dX6_workOutAll_1 sv_X6_83 rfl ⟨_, rfl, rfl⟩ (c_X6_link G l ht I A J it dyn ho1) rfl rfl (Nat.le_of_ble_eq_true rfl) (Nat.le_of_ble_eq_true rfl) (Nat.le_of_ble_eq_true rfl) (Nat.le_of_ble_eq_true rfl) ?_
  refine fs_iconst (v := 0) dX6_workOutAll_4 rfl ?_
  refine fs_istore_n (L' := [(1, .inl 0), (0, .inr (.inr (some 5)))]) dX6_workOutAll_5 rfl (by decide) rfl ?_
  refine fs_reL [1, 0] rfl ?_
  have ho1 := hS
  refine lp_Lb_X6_workOutAll_6 G l Q 70 ht (L_X6_link_I ht I A J it dyn) (L_X6_link_A ht I A J it dyn) (L_X6_link_J ht I A J it dyn) it dyn 0 ho1 ?_
  have k9 := hq
  exact fs_ret dX6_workOutAll_30 rfl k9
def Lb_X6_tell_25_J : Nat → Nat → (Nat → Int32) → (Nat → Nat → Int32) → (Nat → Nat → Int64) → (Nat → Option Nat) → fsH → Int32 → Int64 → Int32 → Int32 → (Nat → Nat → Int64)
  | 0, ht, I, A, J, it, dyn, v1, v2, v4, v5 => J
  | n + 1, ht, I, A, J, it, dyn, v1, v2, v4, v5 => (if (I 6) ≤ v5 then J else (Lb_X6_tell_25_J n ht I A (if (L_X6_hangsOn_r ht I A J it dyn (A 8 v5.toNatClampNeg) v1) = 0 then J else (L_X6_workOut_J ht I A J it dyn (A 8 v5.toNatClampNeg))) it dyn v1 v2 (if (L_X6_hangsOn_r ht I A J it dyn (A 8 v5.toNatClampNeg) v1) = 0 then v4 else (v4 + (if (L_X1_isField_r ht I A (L_X6_workOut_J ht I A J it dyn (A 8 v5.toNatClampNeg)) it dyn ((A 8 v5.toNatClampNeg) / 4)) = 0 then 0 else 1 : Int32)) : Int32) (v5 + 1)))
def Lb_X6_tell_25_v4 : Nat → Nat → (Nat → Int32) → (Nat → Nat → Int32) → (Nat → Nat → Int64) → (Nat → Option Nat) → fsH → Int32 → Int64 → Int32 → Int32 → Int32
  | 0, ht, I, A, J, it, dyn, v1, v2, v4, v5 => v4
  | n + 1, ht, I, A, J, it, dyn, v1, v2, v4, v5 => (if (I 6) ≤ v5 then v4 else (Lb_X6_tell_25_v4 n ht I A (if (L_X6_hangsOn_r ht I A J it dyn (A 8 v5.toNatClampNeg) v1) = 0 then J else (L_X6_workOut_J ht I A J it dyn (A 8 v5.toNatClampNeg))) it dyn v1 v2 (if (L_X6_hangsOn_r ht I A J it dyn (A 8 v5.toNatClampNeg) v1) = 0 then v4 else (v4 + (if (L_X1_isField_r ht I A (L_X6_workOut_J ht I A J it dyn (A 8 v5.toNatClampNeg)) it dyn ((A 8 v5.toNatClampNeg) / 4)) = 0 then 0 else 1 : Int32)) : Int32) (v5 + 1)))
def Lb_X6_tell_25_v5 : Nat → Nat → (Nat → Int32) → (Nat → Nat → Int32) → (Nat → Nat → Int64) → (Nat → Option Nat) → fsH → Int32 → Int64 → Int32 → Int32 → Int32
  | 0, ht, I, A, J, it, dyn, v1, v2, v4, v5 => v5
  | n + 1, ht, I, A, J, it, dyn, v1, v2, v4, v5 => (if (I 6) ≤ v5 then v5 else (Lb_X6_tell_25_v5 n ht I A (if (L_X6_hangsOn_r ht I A J it dyn (A 8 v5.toNatClampNeg) v1) = 0 then J else (L_X6_workOut_J ht I A J it dyn (A 8 v5.toNatClampNeg))) it dyn v1 v2 (if (L_X6_hangsOn_r ht I A J it dyn (A 8 v5.toNatClampNeg) v1) = 0 then v4 else (v4 + (if (L_X1_isField_r ht I A (L_X6_workOut_J ht I A J it dyn (A 8 v5.toNatClampNeg)) it dyn ((A 8 v5.toNatClampNeg) / 4)) = 0 then 0 else 1 : Int32)) : Int32) (v5 + 1)))
def S_Lb_X6_tell_25 : Nat → Nat → (Nat → Int32) → (Nat → Nat → Int32) → (Nat → Nat → Int64) → (Nat → Option Nat) → fsH → Int32 → Int64 → Int32 → Int32 → Prop
  | 0, _, _, _, _, _, _, _, _, _, _ => False
  | n + 1, ht, I, A, J, it, dyn, v1, v2, v4, v5 => (¬ ((I 6) ≤ v5) → ((vp_in v5 64) ∧ ((S_X6_hangsOn ht I A J it dyn (A 8 v5.toNatClampNeg) v1) ∧ ((¬ ((L_X6_hangsOn_r ht I A J it dyn (A 8 v5.toNatClampNeg) v1) = 0) → ((vp_in v5 64) ∧ ((S_X6_workOut ht I A J it dyn (A 8 v5.toNatClampNeg)) ∧ ((vp_in v5 64) ∧ (S_X1_isField ht I A (L_X6_workOut_J ht I A J it dyn (A 8 v5.toNatClampNeg)) it dyn ((A 8 v5.toNatClampNeg) / 4)))))) ∧ (S_Lb_X6_tell_25 n ht I A (if (L_X6_hangsOn_r ht I A J it dyn (A 8 v5.toNatClampNeg) v1) = 0 then J else (L_X6_workOut_J ht I A J it dyn (A 8 v5.toNatClampNeg))) it dyn v1 v2 (if (L_X6_hangsOn_r ht I A J it dyn (A 8 v5.toNatClampNeg) v1) = 0 then v4 else (v4 + (if (L_X1_isField_r ht I A (L_X6_workOut_J ht I A J it dyn (A 8 v5.toNatClampNeg)) it dyn ((A 8 v5.toNatClampNeg) / 4)) = 0 then 0 else 1 : Int32)) : Int32) (v5 + 1))))))
set_option maxRecDepth 100000 in
set_option maxHeartbeats 4000000 in
theorem lp_Lb_X6_tell_25 (G : fsG) (l : Launch) (Q : Option fsV → fsH → Prop) : ∀ (n : Nat) (ht : Nat) (I : Nat → Int32) (A : Nat → Nat → Int32) (J : Nat → Nat → Int64) (it : Nat → Option Nat) (dyn : fsH) (v1 : Int32) (v2 : Int64) (v4 : Int32) (v5 : Int32), S_Lb_X6_tell_25 n ht I A J it dyn v1 v2 v4 v5 → (fsW G l mX6_tell 32 0 0 0 0 Q 95 [(0, .inr (.inr (some 5))), (1, .inl v1), (2, .inr (.inl v2)), (4, .inl (Lb_X6_tell_25_v4 n ht I A J it dyn v1 v2 v4 v5)), (5, .inl (Lb_X6_tell_25_v5 n ht I A J it dyn v1 v2 v4 v5))] [] (fs_mk ht I A (Lb_X6_tell_25_J n ht I A J it dyn v1 v2 v4 v5) it dyn)) → fsW G l mX6_tell 32 0 0 0 0 Q 25 [(0, .inr (.inr (some 5))), (1, .inl v1), (2, .inr (.inl v2)), (4, .inl v4), (5, .inl v5)] [] (fs_mk ht I A J it dyn) := by
  intro n
  induction n with
  | zero =>
    intro ht I A J it dyn v1 v2 v4 v5 hS
    exact hS.elim
  | succ n ih =>
    intro ht I A J it dyn v1 v2 v4 v5 hS hq
    have hS : (¬ ((I 6) ≤ v5) → ((vp_in v5 64) ∧ ((S_X6_hangsOn ht I A J it dyn (A 8 v5.toNatClampNeg) v1) ∧ ((¬ ((L_X6_hangsOn_r ht I A J it dyn (A 8 v5.toNatClampNeg) v1) = 0) → ((vp_in v5 64) ∧ ((S_X6_workOut ht I A J it dyn (A 8 v5.toNatClampNeg)) ∧ ((vp_in v5 64) ∧ (S_X1_isField ht I A (L_X6_workOut_J ht I A J it dyn (A 8 v5.toNatClampNeg)) it dyn ((A 8 v5.toNatClampNeg) / 4)))))) ∧ (S_Lb_X6_tell_25 n ht I A (if (L_X6_hangsOn_r ht I A J it dyn (A 8 v5.toNatClampNeg) v1) = 0 then J else (L_X6_workOut_J ht I A J it dyn (A 8 v5.toNatClampNeg))) it dyn v1 v2 (if (L_X6_hangsOn_r ht I A J it dyn (A 8 v5.toNatClampNeg) v1) = 0 then v4 else (v4 + (if (L_X1_isField_r ht I A (L_X6_workOut_J ht I A J it dyn (A 8 v5.toNatClampNeg)) it dyn ((A 8 v5.toNatClampNeg) / 4)) = 0 then 0 else 1 : Int32)) : Int32) (v5 + 1)))))) := hS
    have hq : fsW G l mX6_tell 32 0 0 0 0 Q 95 [(0, .inr (.inr (some 5))), (1, .inl v1), (2, .inr (.inl v2)), (4, .inl (if (I 6) ≤ v5 then v4 else (Lb_X6_tell_25_v4 n ht I A (if (L_X6_hangsOn_r ht I A J it dyn (A 8 v5.toNatClampNeg) v1) = 0 then J else (L_X6_workOut_J ht I A J it dyn (A 8 v5.toNatClampNeg))) it dyn v1 v2 (if (L_X6_hangsOn_r ht I A J it dyn (A 8 v5.toNatClampNeg) v1) = 0 then v4 else (v4 + (if (L_X1_isField_r ht I A (L_X6_workOut_J ht I A J it dyn (A 8 v5.toNatClampNeg)) it dyn ((A 8 v5.toNatClampNeg) / 4)) = 0 then 0 else 1 : Int32)) : Int32) (v5 + 1)))), (5, .inl (if (I 6) ≤ v5 then v5 else (Lb_X6_tell_25_v5 n ht I A (if (L_X6_hangsOn_r ht I A J it dyn (A 8 v5.toNatClampNeg) v1) = 0 then J else (L_X6_workOut_J ht I A J it dyn (A 8 v5.toNatClampNeg))) it dyn v1 v2 (if (L_X6_hangsOn_r ht I A J it dyn (A 8 v5.toNatClampNeg) v1) = 0 then v4 else (v4 + (if (L_X1_isField_r ht I A (L_X6_workOut_J ht I A J it dyn (A 8 v5.toNatClampNeg)) it dyn ((A 8 v5.toNatClampNeg) / 4)) = 0 then 0 else 1 : Int32)) : Int32) (v5 + 1))))] [] (fs_mk ht I A (if (I 6) ≤ v5 then J else (Lb_X6_tell_25_J n ht I A (if (L_X6_hangsOn_r ht I A J it dyn (A 8 v5.toNatClampNeg) v1) = 0 then J else (L_X6_workOut_J ht I A J it dyn (A 8 v5.toNatClampNeg))) it dyn v1 v2 (if (L_X6_hangsOn_r ht I A J it dyn (A 8 v5.toNatClampNeg) v1) = 0 then v4 else (v4 + (if (L_X1_isField_r ht I A (L_X6_workOut_J ht I A J it dyn (A 8 v5.toNatClampNeg)) it dyn ((A 8 v5.toNatClampNeg) / 4)) = 0 then 0 else 1 : Int32)) : Int32) (v5 + 1))) it dyn) := hq
    refine fs_iload dX6_tell_25 rfl ?_
    refine fs_aload_n dX6_tell_27 rfl rfl ?_
    refine fs_getfield (v := .inl (I 6)) dX6_tell_28 sf_X6_22 rfl rfl ?_
    refine fs_icmp_ge 95 dX6_tell_31 (by decide) (fun c_31 : (I 6) ≤ v5 => ?_) (fun c_31 : ¬ ((I 6) ≤ v5) => ?_)
    · have k9 := hq
      try simp only [if_pos c_31] at k9 ⊢
      exact k9
    · have hS := hS c_31
      refine fs_aload_n dX6_tell_34 rfl rfl ?_
      refine fs_aload_n dX6_tell_35 rfl rfl ?_
      refine fs_getfield (v := .inr (.inr (some 8))) dX6_tell_36 sf_X6_18 rfl rfl ?_
      refine fs_iload dX6_tell_39 rfl ?_
      obtain ⟨ho1, hS⟩ := hS
      refine fs_iaload dX6_tell_41 rfl ho1 ?_
      refine fs_iload_n dX6_tell_42 rfl rfl ?_
      obtain ⟨ho1, hS⟩ := hS
      refine fs_callV1 dX6_tell_43 sv_X6_76 rfl ⟨_, rfl, rfl⟩ (c_X6_hangsOn G l ht I A J it dyn (A 8 v5.toNatClampNeg) v1 ho1) rfl rfl (Nat.le_of_ble_eq_true rfl) (Nat.le_of_ble_eq_true rfl) (Nat.le_of_ble_eq_true rfl) (Nat.le_of_ble_eq_true rfl) ?_
      obtain ⟨hR_46, hS⟩ := hS
      have key_89 : fsW G l mX6_tell 32 0 0 0 0 Q 89 [(0, .inr (.inr (some 5))), (1, .inl v1), (2, .inr (.inl v2)), (4, .inl (if (L_X6_hangsOn_r ht I A J it dyn (A 8 v5.toNatClampNeg) v1) = 0 then v4 else (v4 + (if (L_X1_isField_r ht I A (L_X6_workOut_J ht I A J it dyn (A 8 v5.toNatClampNeg)) it dyn ((A 8 v5.toNatClampNeg) / 4)) = 0 then 0 else 1 : Int32)) : Int32)), (5, .inl v5)] [] (fs_mk ht I A (if (L_X6_hangsOn_r ht I A J it dyn (A 8 v5.toNatClampNeg) v1) = 0 then J else (L_X6_workOut_J ht I A J it dyn (A 8 v5.toNatClampNeg))) it dyn) := by
        refine fs_iinc (v := (v5 + 1)) (L' := [(5, .inl (v5 + 1)), (0, .inr (.inr (some 5))), (1, .inl v1), (2, .inr (.inl v2)), (4, .inl (if (L_X6_hangsOn_r ht I A J it dyn (A 8 v5.toNatClampNeg) v1) = 0 then v4 else (v4 + (if (L_X1_isField_r ht I A (L_X6_workOut_J ht I A J it dyn (A 8 v5.toNatClampNeg)) it dyn ((A 8 v5.toNatClampNeg) / 4)) = 0 then 0 else 1 : Int32)) : Int32))]) dX6_tell_89 rfl rfl (by decide) rfl ?_
        refine fs_goto 25 dX6_tell_92 (by decide) ?_
        refine fs_reL [1, 2, 3, 4, 0] rfl ?_
        have k9 := hq
        try simp only [if_neg c_31] at hS k9 ⊢
        exact ih _ _ _ _ _ _ _ _ _ _ hS k9
      refine fs_if_eq 89 dX6_tell_46 (by decide) (fun c_46 : (L_X6_hangsOn_r ht I A J it dyn (A 8 v5.toNatClampNeg) v1) = 0 => ?_) (fun c_46 : ¬ ((L_X6_hangsOn_r ht I A J it dyn (A 8 v5.toNatClampNeg) v1) = 0) => ?_)
      · have k9 := key_89
        try simp only [if_neg c_31, if_pos c_46] at k9 ⊢
        exact k9
      · have hS := hR_46 c_46
        refine fs_aload_n dX6_tell_49 rfl rfl ?_
        refine fs_aload_n dX6_tell_50 rfl rfl ?_
        refine fs_getfield (v := .inr (.inr (some 8))) dX6_tell_51 sf_X6_18 rfl rfl ?_
        refine fs_iload dX6_tell_54 rfl ?_
        obtain ⟨ho1, hS⟩ := hS
        refine fs_iaload dX6_tell_56 rfl ho1 ?_
        obtain ⟨ho1, hS⟩ := hS
        refine fs_callV0 dX6_tell_57 sv_X6_79 rfl ⟨_, rfl, rfl⟩ (c_X6_workOut G l ht I A J it dyn (A 8 v5.toNatClampNeg) ho1) rfl rfl (Nat.le_of_ble_eq_true rfl) (Nat.le_of_ble_eq_true rfl) (Nat.le_of_ble_eq_true rfl) (Nat.le_of_ble_eq_true rfl) ?_
        refine fs_iload dX6_tell_60 rfl ?_
        refine fs_aload_n dX6_tell_62 rfl rfl ?_
        refine fs_getfield (v := .inr (.inr (some 3))) dX6_tell_63 sf_X6_26 rfl rfl ?_
        refine fs_aload_n dX6_tell_66 rfl rfl ?_
        refine fs_getfield (v := .inr (.inr (some 8))) dX6_tell_67 sf_X6_18 rfl rfl ?_
        refine fs_iload dX6_tell_70 rfl ?_
        obtain ⟨ho1, hS⟩ := hS
        refine fs_iaload dX6_tell_72 rfl ho1 ?_
        refine fs_iconst (v := 4) dX6_tell_73 rfl ?_
        refine fs_idiv dX6_tell_74 (by decide) ?_
        have ho1 := hS
        refine fs_callV1 dX6_tell_75 sv_X6_73 rfl ⟨_, rfl, rfl⟩ (c_X1_isField G l ht I A (L_X6_workOut_J ht I A J it dyn (A 8 v5.toNatClampNeg)) it dyn ((A 8 v5.toNatClampNeg) / 4) ho1) rfl rfl (Nat.le_of_ble_eq_true rfl) (Nat.le_of_ble_eq_true rfl) (Nat.le_of_ble_eq_true rfl) (Nat.le_of_ble_eq_true rfl) ?_
        have key_86 : fsW G l mX6_tell 32 0 0 0 0 Q 86 [(0, .inr (.inr (some 5))), (1, .inl v1), (2, .inr (.inl v2)), (4, .inl v4), (5, .inl v5)] [.inl (if (L_X1_isField_r ht I A (L_X6_workOut_J ht I A J it dyn (A 8 v5.toNatClampNeg)) it dyn ((A 8 v5.toNatClampNeg) / 4)) = 0 then 0 else 1 : Int32), .inl v4] (fs_mk ht I A (L_X6_workOut_J ht I A J it dyn (A 8 v5.toNatClampNeg)) it dyn) := by
          refine fs_iadd dX6_tell_86 ?_
          refine fs_istore (L' := [(4, .inl (v4 + (if (L_X1_isField_r ht I A (L_X6_workOut_J ht I A J it dyn (A 8 v5.toNatClampNeg)) it dyn ((A 8 v5.toNatClampNeg) / 4)) = 0 then 0 else 1 : Int32))), (0, .inr (.inr (some 5))), (1, .inl v1), (2, .inr (.inl v2)), (5, .inl v5)]) dX6_tell_87 (by decide) rfl ?_
          refine fs_reL [1, 2, 3, 0, 4] rfl ?_
          have k9 := key_89
          try simp only [if_neg c_31, if_neg c_46] at k9 ⊢
          exact k9
        refine fs_if_eq 85 dX6_tell_78 (by decide) (fun c_78 : (L_X1_isField_r ht I A (L_X6_workOut_J ht I A J it dyn (A 8 v5.toNatClampNeg)) it dyn ((A 8 v5.toNatClampNeg) / 4)) = 0 => ?_) (fun c_78 : ¬ ((L_X1_isField_r ht I A (L_X6_workOut_J ht I A J it dyn (A 8 v5.toNatClampNeg)) it dyn ((A 8 v5.toNatClampNeg) / 4)) = 0) => ?_)
        · refine fs_iconst (v := 0) dX6_tell_85 rfl ?_
          have k9 := key_86
          try simp only [if_neg c_31, if_neg c_46, if_pos c_78] at k9 ⊢
          exact k9
        · refine fs_iconst (v := 1) dX6_tell_81 rfl ?_
          refine fs_goto 86 dX6_tell_82 (by decide) ?_
          have k9 := key_86
          try simp only [if_neg c_31, if_neg c_46, if_neg c_78] at k9 ⊢
          exact k9
def L_X6_tell_r (ht : Nat) (I : Nat → Int32) (A : Nat → Nat → Int32) (J : Nat → Nat → Int64) (it : Nat → Option Nat) (dyn : fsH) (x1 : Int32) (x2 : Int64) : Int32 := (if x1 < 0 then 0 else (if x1 < 64 then (Lb_X6_tell_25_v4 70 ht I A (va_up J 6 (vp_updL (J 6) x1.toNatClampNeg x2)) it dyn x1 x2 0 0) else 0))
def L_X6_tell_J (ht : Nat) (I : Nat → Int32) (A : Nat → Nat → Int32) (J : Nat → Nat → Int64) (it : Nat → Option Nat) (dyn : fsH) (x1 : Int32) (x2 : Int64) : Nat → Nat → Int64 := (if x1 < 0 then J else (if x1 < 64 then (Lb_X6_tell_25_J 70 ht I A (va_up J 6 (vp_updL (J 6) x1.toNatClampNeg x2)) it dyn x1 x2 0 0) else J))
def S_X6_tell (ht : Nat) (I : Nat → Int32) (A : Nat → Nat → Int32) (J : Nat → Nat → Int64) (it : Nat → Option Nat) (dyn : fsH) (x1 : Int32) (x2 : Int64) : Prop := (¬ (x1 < 0) → ((x1 < 64) → ((vp_in x1 64) ∧ (S_Lb_X6_tell_25 70 ht I A (va_up J 6 (vp_updL (J 6) x1.toNatClampNeg x2)) it dyn x1 x2 0 0))))
set_option maxRecDepth 100000 in
set_option maxHeartbeats 4000000 in
theorem c_X6_tell (G : fsG) (l : Launch) (ht : Nat) (I : Nat → Int32) (A : Nat → Nat → Int32) (J : Nat → Nat → Int64) (it : Nat → Option Nat) (dyn : fsH) (x1 : Int32) (x2 : Int64) (hS : S_X6_tell ht I A J it dyn x1 x2) : fsFn G l mX6_tell 32 0 0 [.inr (.inr (some 5)), .inl x1, .inr (.inl x2)] (fs_mk ht I A J it dyn) (some (.inl (L_X6_tell_r ht I A J it dyn x1 x2))) (fs_mk ht I A (L_X6_tell_J ht I A J it dyn x1 x2) it dyn) := by
  refine fsMet_of (by decide) (Nat.le_of_ble_eq_true rfl) ?_
  generalize hQ : (fun (r1 : Option fsV) (h1 : fsH) => r1 = (some (.inl (L_X6_tell_r ht I A J it dyn x1 x2))) ∧ h1 = (fs_mk ht I A (L_X6_tell_J ht I A J it dyn x1 x2) it dyn)) = Q
  have hq : Q (some (.inl (L_X6_tell_r ht I A J it dyn x1 x2))) (fs_mk ht I A (L_X6_tell_J ht I A J it dyn x1 x2) it dyn) := by rw [← hQ]; exact ⟨rfl, rfl⟩
  clear hQ
  have hq : Q (some (.inl (if x1 < 0 then 0 else (if x1 < 64 then (Lb_X6_tell_25_v4 70 ht I A (va_up J 6 (vp_updL (J 6) x1.toNatClampNeg x2)) it dyn x1 x2 0 0) else 0 : Int32) : Int32))) (fs_mk ht I A (if x1 < 0 then J else (if x1 < 64 then (Lb_X6_tell_25_J 70 ht I A (va_up J 6 (vp_updL (J 6) x1.toNatClampNeg x2)) it dyn x1 x2 0 0) else J)) it dyn) := hq
  have hS : (¬ (x1 < 0) → ((x1 < 64) → ((vp_in x1 64) ∧ (S_Lb_X6_tell_25 70 ht I A (va_up J 6 (vp_updL (J 6) x1.toNatClampNeg x2)) it dyn x1 x2 0 0)))) := hS
  refine (show fsW G l mX6_tell 32 0 0 0 0 Q 0 [(0, .inr (.inr (some 5))), (1, .inl x1), (2, .inr (.inl x2))] [] (fs_mk ht I A J it dyn) from ?_)
  refine fs_iload_n dX6_tell_0 rfl rfl ?_
  refine fs_if_lt 10 dX6_tell_1 (by decide) (fun c_1 : x1 < 0 => ?_) (fun c_1 : ¬ (x1 < 0) => ?_)
  · refine fs_iconst (v := 0) dX6_tell_10 rfl ?_
    have k9 := hq
    try simp only [if_pos c_1] at k9 ⊢
    exact fs_iret dX6_tell_11 rfl rfl k9
  · have hS := hS c_1
    refine fs_iload_n dX6_tell_4 rfl rfl ?_
    refine fs_bipush (v := 64) dX6_tell_5 rfl ?_
    refine fs_icmp_lt 12 dX6_tell_7 (by decide) (fun c_7 : x1 < 64 => ?_) (fun c_7 : ¬ (x1 < 64) => ?_)
    · have hS := hS c_7
      refine fs_aload_n dX6_tell_12 rfl rfl ?_
      refine fs_getfield (v := .inr (.inr (some 6))) dX6_tell_13 sf_X6_9 rfl rfl ?_
      refine fs_iload_n dX6_tell_16 rfl rfl ?_
      refine fs_lload_n dX6_tell_17 rfl rfl ?_
      obtain ⟨ho1, hS⟩ := hS
      refine fss_6 dX6_tell_18 ho1 ?_
      refine fs_iconst (v := 0) dX6_tell_19 rfl ?_
      refine fs_istore (L' := [(4, .inl 0), (0, .inr (.inr (some 5))), (1, .inl x1), (2, .inr (.inl x2))]) dX6_tell_20 (by decide) rfl ?_
      refine fs_iconst (v := 0) dX6_tell_22 rfl ?_
      refine fs_istore (L' := [(5, .inl 0), (4, .inl 0), (0, .inr (.inr (some 5))), (1, .inl x1), (2, .inr (.inl x2))]) dX6_tell_23 (by decide) rfl ?_
      refine fs_reL [2, 3, 4, 1, 0] rfl ?_
      have ho1 := hS
      refine lp_Lb_X6_tell_25 G l Q 70 ht I A (va_up J 6 (vp_updL (J 6) x1.toNatClampNeg x2)) it dyn x1 x2 0 0 ho1 ?_
      refine fs_iload dX6_tell_95 rfl ?_
      have k9 := hq
      try simp only [if_neg c_1, if_pos c_7] at k9 ⊢
      exact fs_iret dX6_tell_97 rfl rfl k9
    · refine fs_iconst (v := 0) dX6_tell_10 rfl ?_
      have k9 := hq
      try simp only [if_neg c_1, if_neg c_7] at k9 ⊢
      exact fs_iret dX6_tell_11 rfl rfl k9
