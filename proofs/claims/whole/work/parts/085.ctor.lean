/-! CONSTRUCTORS of Part and Item, on the cell just made -/
set_option maxRecDepth 100000 in
theorem c_X4_init (G : fsG) (l : Launch) (ht : Nat) (I : Nat → Int32) (A : Nat → Nat → Int32) (J : Nat → Nat → Int64) (it : Nat → Option Nat) (dyn : fsH) (x1 : Int32) (x2 : Int64) (x3 : Int32) (h1 : fs_chr x1) : fsFn G l mX4_init 1 0 0 [.inr (.inr (some (dyn.length + 41))), .inl x1, .inr (.inl x2), .inl x3] (fs_mk ht I A J it (dyn ++ [some (.inr (3, [fsI 0, fsJ 0, fsI 0, fsR none, fsR none, fsR none, fsI 0]))])) none (fs_mk ht I A J it (dyn ++ [some (.inr (3, [fsI x1, fsJ x2, fsI x3, fsR none, fsR none, fsR none, fsI (-1)]))])) := by
  refine fsMet_of (by decide) (Nat.le_of_ble_eq_true rfl) ?_
  refine (show fsW G l mX4_init 1 0 0 0 0 _ 0 [(0, .inr (.inr (some (dyn.length + 41)))), (1, .inl x1), (2, .inr (.inl x2)), (4, .inl x3)] [] (fs_mk ht I A J it (dyn ++ [some (.inr (3, [fsI 0, fsJ 0, fsI 0, fsR none, fsR none, fsR none, fsI 0]))])) from ?_)
  refine fs_aload_n dX4_init_0 rfl rfl ?_
  refine fs_objInit dX4_init_1 so_X4_3 w_oi1 w_oi2 (Nat.le_of_ble_eq_true rfl) (Nat.le_of_ble_eq_true rfl) ?_
  refine fs_aload_n dX4_init_4 rfl rfl ?_
  refine fs_iconst (v := (-1)) dX4_init_5 rfl ?_
  refine fsq_N dX4_init_6 sp_X4_9 rfl rfl (Nat.le_of_ble_eq_true rfl) ?_
  refine fs_aload_n dX4_init_9 rfl rfl ?_
  refine fs_iload_n dX4_init_10 rfl rfl ?_
  refine fsq_F dX4_init_11 sp_X4_15 rfl h1.1 h1.2 (Nat.le_of_ble_eq_true rfl) ?_
  refine fs_aload_n dX4_init_14 rfl rfl ?_
  refine fs_lload_n dX4_init_15 rfl rfl ?_
  refine fsq_F dX4_init_16 sp_X4_19 rfl rfl rfl (Nat.le_of_ble_eq_true rfl) ?_
  refine fs_aload_n dX4_init_19 rfl rfl ?_
  refine fs_iload dX4_init_20 rfl ?_
  refine fsq_F dX4_init_22 sp_X4_23 rfl rfl rfl (Nat.le_of_ble_eq_true rfl) ?_
  refine fs_aload_n dX4_init_25 rfl rfl ?_
  refine fs_null dX4_init_26 ?_
  refine fsq_F dX4_init_27 sp_X4_26 rfl (fs_fitR "FormSheet$Part" G.1 none).1 (fs_fitR "FormSheet$Part" G.1 none).2 (Nat.le_of_ble_eq_true rfl) ?_
  refine fs_aload_n dX4_init_30 rfl rfl ?_
  refine fs_null dX4_init_31 ?_
  refine fsq_F dX4_init_32 sp_X4_30 rfl (fs_fitR "FormSheet$Part" G.1 none).1 (fs_fitR "FormSheet$Part" G.1 none).2 (Nat.le_of_ble_eq_true rfl) ?_
  refine fs_aload_n dX4_init_35 rfl rfl ?_
  refine fs_null dX4_init_36 ?_
  refine fsq_F dX4_init_37 sp_X4_33 rfl (fs_fitR "FormSheet$Part" G.1 none).1 (fs_fitR "FormSheet$Part" G.1 none).2 (Nat.le_of_ble_eq_true rfl) ?_
  exact fs_ret dX4_init_40 rfl ⟨rfl, rfl⟩
set_option maxRecDepth 100000 in
theorem c_X4_init_ (G : fsG) (l : Launch) (ht : Nat) (I : Nat → Int32) (A : Nat → Nat → Int32) (J : Nat → Nat → Int64) (it : Nat → Option Nat) (dyn : fsH) (x1 : Int32) (x2 : Option Nat) (x3 : Option Nat) (x4 : Option Nat) (h1 : fs_chr x1) : fsFn G l mX4_init_ 1 0 0 [.inr (.inr (some (dyn.length + 41))), .inl x1, .inr (.inr x2), .inr (.inr x3), .inr (.inr x4)] (fs_mk ht I A J it (dyn ++ [some (.inr (3, [fsI 0, fsJ 0, fsI 0, fsR none, fsR none, fsR none, fsI 0]))])) none (fs_mk ht I A J it (dyn ++ [some (.inr (3, [fsI x1, fsJ 0, fsI 0, fsR x2, fsR x3, fsR x4, fsI (-1)]))])) := by
  refine fsMet_of (by decide) (Nat.le_of_ble_eq_true rfl) ?_
  refine (show fsW G l mX4_init_ 1 0 0 0 0 _ 0 [(0, .inr (.inr (some (dyn.length + 41)))), (1, .inl x1), (2, .inr (.inr x2)), (3, .inr (.inr x3)), (4, .inr (.inr x4))] [] (fs_mk ht I A J it (dyn ++ [some (.inr (3, [fsI 0, fsJ 0, fsI 0, fsR none, fsR none, fsR none, fsI 0]))])) from ?_)
  refine fs_aload_n dX4_init__0 rfl rfl ?_
  refine fs_objInit dX4_init__1 so_X4_3 w_oi1 w_oi2 (Nat.le_of_ble_eq_true rfl) (Nat.le_of_ble_eq_true rfl) ?_
  refine fs_aload_n dX4_init__4 rfl rfl ?_
  refine fs_iconst (v := (-1)) dX4_init__5 rfl ?_
  refine fsq_N dX4_init__6 sp_X4_9 rfl rfl (Nat.le_of_ble_eq_true rfl) ?_
  refine fs_aload_n dX4_init__9 rfl rfl ?_
  refine fs_iload_n dX4_init__10 rfl rfl ?_
  refine fsq_F dX4_init__11 sp_X4_15 rfl h1.1 h1.2 (Nat.le_of_ble_eq_true rfl) ?_
  refine fs_aload_n dX4_init__14 rfl rfl ?_
  refine fs_lconst (v := 0) dX4_init__15 rfl ?_
  refine fsq_F dX4_init__16 sp_X4_19 rfl rfl rfl (Nat.le_of_ble_eq_true rfl) ?_
  refine fs_aload_n dX4_init__19 rfl rfl ?_
  refine fs_iconst (v := 0) dX4_init__20 rfl ?_
  refine fsq_F dX4_init__21 sp_X4_23 rfl rfl rfl (Nat.le_of_ble_eq_true rfl) ?_
  refine fs_aload_n dX4_init__24 rfl rfl ?_
  refine fs_aload_n dX4_init__25 rfl rfl ?_
  refine fsq_F dX4_init__26 sp_X4_26 rfl (fs_fitR "FormSheet$Part" G.1 x2).1 (fs_fitR "FormSheet$Part" G.1 x2).2 (Nat.le_of_ble_eq_true rfl) ?_
  refine fs_aload_n dX4_init__29 rfl rfl ?_
  refine fs_aload_n dX4_init__30 rfl rfl ?_
  refine fsq_F dX4_init__31 sp_X4_30 rfl (fs_fitR "FormSheet$Part" G.1 x3).1 (fs_fitR "FormSheet$Part" G.1 x3).2 (Nat.le_of_ble_eq_true rfl) ?_
  refine fs_aload_n dX4_init__34 rfl rfl ?_
  refine fs_aload dX4_init__35 rfl ?_
  refine fsq_F dX4_init__37 sp_X4_33 rfl (fs_fitR "FormSheet$Part" G.1 x4).1 (fs_fitR "FormSheet$Part" G.1 x4).2 (Nat.le_of_ble_eq_true rfl) ?_
  exact fs_ret dX4_init__40 rfl ⟨rfl, rfl⟩
set_option maxRecDepth 100000 in
theorem c_X2_init (G : fsG) (l : Launch) (ht : Nat) (I : Nat → Int32) (A : Nat → Nat → Int32) (J : Nat → Nat → Int64) (it : Nat → Option Nat) (dyn : fsH) (x1 : Int32) (x2 : Int32) (x3 : Int32) (x4 : Option Nat) (x5 : Int32) (h1 : fs_chr x1) (h2 : x3 = 0 ∨ x3 = 1) : fsFn G l mX2_init 1 0 0 [.inr (.inr (some (dyn.length + 41))), .inl x1, .inl x2, .inl x3, .inr (.inr x4), .inl x5] (fs_mk ht I A J it (dyn ++ [some (.inr (1, [fsI 0, fsI 0, fsI 0, fsR none, fsI 0]))])) none (fs_mk ht I A J it (dyn ++ [some (.inr (1, [fsI x1, fsI x2, fsI x3, fsR x4, fsI x5]))])) := by
  refine fsMet_of (by decide) (Nat.le_of_ble_eq_true rfl) ?_
  refine (show fsW G l mX2_init 1 0 0 0 0 _ 0 [(0, .inr (.inr (some (dyn.length + 41)))), (1, .inl x1), (2, .inl x2), (3, .inl x3), (4, .inr (.inr x4)), (5, .inl x5)] [] (fs_mk ht I A J it (dyn ++ [some (.inr (1, [fsI 0, fsI 0, fsI 0, fsR none, fsI 0]))])) from ?_)
  refine fs_aload_n dX2_init_0 rfl rfl ?_
  refine fs_objInit dX2_init_1 so_X2_1 w_oi1 w_oi2 (Nat.le_of_ble_eq_true rfl) (Nat.le_of_ble_eq_true rfl) ?_
  refine fs_aload_n dX2_init_4 rfl rfl ?_
  refine fs_iload_n dX2_init_5 rfl rfl ?_
  refine fsq_F dX2_init_6 sp_X2_7 rfl h1.1 h1.2 (Nat.le_of_ble_eq_true rfl) ?_
  refine fs_aload_n dX2_init_9 rfl rfl ?_
  refine fs_iload_n dX2_init_10 rfl rfl ?_
  refine fsq_F dX2_init_11 sp_X2_13 rfl rfl rfl (Nat.le_of_ble_eq_true rfl) ?_
  refine fs_aload_n dX2_init_14 rfl rfl ?_
  refine fs_iload_n dX2_init_15 rfl rfl ?_
  refine fsq_F dX2_init_16 sp_X2_17 rfl (by rcases h2 with rfl | rfl <;> rfl) (by rcases h2 with rfl | rfl <;> rfl) (Nat.le_of_ble_eq_true rfl) ?_
  refine fs_aload_n dX2_init_19 rfl rfl ?_
  refine fs_aload dX2_init_20 rfl ?_
  refine fsq_F dX2_init_22 sp_X2_21 rfl (fs_fitR "FormSheet$Part" G.1 x4).1 (fs_fitR "FormSheet$Part" G.1 x4).2 (Nat.le_of_ble_eq_true rfl) ?_
  refine fs_aload_n dX2_init_25 rfl rfl ?_
  refine fs_iload dX2_init_26 rfl ?_
  refine fsq_F dX2_init_28 sp_X2_25 rfl rfl rfl (Nat.le_of_ble_eq_true rfl) ?_
  exact fs_ret dX2_init_31 rfl ⟨rfl, rfl⟩
