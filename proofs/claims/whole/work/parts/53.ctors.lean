/-! The constructors, by program (wip/whole/mk53.py) -/
def k_z : Nat → Int32 := fun _ => 0
def k_zl : Nat → Int64 := fun _ => 0
def k_t9 : Nat → Int32 := upd (upd (upd k_z 0 9) 1 9) 2 9
def k_s1 : Nat → Int32 := upd (upd k_z 0 (-1)) 1 (-1)
def k_la : Nat → Int32 := fun k => ([3, 0, 0, 5] : List Int32).getD k 0
def k_pu : Nat → Int32 := fun k => ([0, 0, 0, 0, 0, 0, 0, 0, -1, 13] : List Int32).getD k 0
def k_mo : Nat → Int32 := fun k => ([0, 0, 0, 0, 0, 0, 3, 0, 0, 0, 0, 5] : List Int32).getD k 0
def k_w13 : Wd := (fun c => ([k_z, k_z, k_z, k_la, k_z, k_t9, k_s1] : List (Nat → Int32)).getD c k_z, fun _ => k_zl)
def k_w37 : Wd := (fun c => ([k_mo, k_z, k_z, k_z, k_z, k_z, k_t9, k_s1] : List (Nat → Int32)).getD (c - 37) k_z, fun _ => k_zl)
def k_L0 : List Nat := 0 :: 1 :: 2 :: 3 :: 4 :: 5 :: 6 :: 7 :: 8 :: 9 :: 10 :: 11 :: 12 :: 13 :: 14 :: 15 :: 16 :: 17 :: 18 :: 19 :: 20 :: 21 :: 22 :: 23 :: 24 :: 25 :: 26 :: 27 :: 28 :: 29 :: 30 :: 31 :: 32 :: 33 :: 34 :: 35 :: 36 :: []
def k_L37 : List Nat := [37, 38, 39, 40, 41, 42, 43, 44, 45, 46, 47, 48, 49]
/-- the class's world, just made; the reference's -/
def StX (x : Wd) : Prop := x.1 0 9 = 0 ∧ x.1 1 1 = 0 ∧ x.1 3 0 = 3 ∧ x.1 3 1 = 0 ∧ x.1 3 2 = 0 ∧ x.1 3 3 = 5 ∧ (∀ k, k < 3 → x.1 5 k = 9) ∧ (∀ i, i < 2 → x.1 6 i = -1) ∧ x.1 32 2 = 0 ∧ ScX x 13 (zB 0 (fun _ => 9) (fun _ => -1))
def StM (m : Wd) : Prop := m.1 37 3 = 0 ∧ m.1 37 6 = 3 ∧ m.1 37 8 = 0 ∧ m.1 37 9 = 0 ∧ m.1 37 11 = 5 ∧ (∀ k, k < 3 → m.1 43 k = 9) ∧ (∀ i, i < 2 → m.1 44 i = -1) ∧ m.1 37 22 = 0 ∧ (∀ i, i < 2 → m.1 39 i = 0) ∧ ScM m 0 (zB 0 (fun _ => 9) (fun _ => -1))
theorem oi_i : Cond.instanceMethod objectInit ∈ TB := tb_of 76 (by decide +kernel) rfl
theorem oi_c : Cond.code objectInit ⟨#[0xb1]⟩ 1 none ∈ TB := tb_of 77 (by decide +kernel) rfl
theorem ac_int : Cond.arrayClass .int ∈ TB := tb_of 137 (by decide +kernel) rfl
theorem ac_char : Cond.arrayClass .char ∈ TB := tb_of 93 (by decide +kernel) rfl
theorem ac_long : Cond.arrayClass .long ∈ TB := tb_of 341 (by decide +kernel) rfl
theorem ac_boolean : Cond.arrayClass .boolean ∈ TB := tb_of 942 (by decide +kernel) rfl
theorem lo_RX6_3 : Cond.methodLink RX6 3 objectInit ∈ TB := tb_of 83 (by decide +kernel) rfl
theorem lo_RX1_3 : Cond.methodLink RX1 3 objectInit ∈ TB := tb_of 99 (by decide +kernel) rfl
theorem lo_RX3_3 : Cond.methodLink RX3 3 objectInit ∈ TB := tb_of 143 (by decide +kernel) rfl
theorem nw_RX3_9 : Cond.classLink RX3 9 RX1 ∈ TB ∧ Cond.instantiable RX1 7 ∈ TB ∧ Cond.initialized RX1 ∈ TB := ⟨tb_of 144 (by decide +kernel) rfl, tb_of 95 (by decide +kernel) rfl, tb_of 55 (by decide +kernel) rfl⟩
theorem lc_RX3_11 : (RX3, 11, yX1_init) ∈ nstM ∧ Cond.instanceMethod yX1_init ∈ TB := ⟨by decide +kernel, tb_of 97 (by decide +kernel) rfl⟩
theorem cb_X1_init : CwB yX1_init cX1_init 1 none 0 := ⟨tb_of 98 (by decide +kernel) rfl, tb_of 55 (by decide +kernel) rfl, by decide +kernel⟩
theorem lo_RX0_3 : Cond.methodLink RX0 3 objectInit ∈ TB := tb_of 252 (by decide +kernel) rfl
theorem lo_RX2_5 : Cond.methodLink RX2 5 objectInit ∈ TB := tb_of 281 (by decide +kernel) rfl
theorem lo_RX4_3 : Cond.methodLink RX4 3 objectInit ∈ TB := tb_of 320 (by decide +kernel) rfl
theorem lo_RX5_3 : Cond.methodLink RX5 3 objectInit ∈ TB := tb_of 175 (by decide +kernel) rfl
theorem lm_RX5_25 : Cond.methodLink RX5 25 yX5_begin ∈ TB ∧ Cond.instanceMethod yX5_begin ∈ TB ∧ Cond.selects yX5_begin.cls yX5_begin yX5_begin ∈ TB := ⟨tb_of 176 (by decide +kernel) rfl, tb_of 177 (by decide +kernel) rfl, tb_of 178 (by decide +kernel) rfl⟩
theorem lo_RX7_3 : Cond.methodLink RX7 3 objectInit ∈ TB := tb_of 75 (by decide +kernel) rfl
theorem nw_RX7_9 : Cond.classLink RX7 9 RX6 ∈ TB ∧ Cond.instantiable RX6 2 ∈ TB ∧ Cond.initialized RX6 ∈ TB := ⟨tb_of 78 (by decide +kernel) rfl, tb_of 79 (by decide +kernel) rfl, tb_of 54 (by decide +kernel) rfl⟩
theorem lc_RX7_11 : (RX7, 11, yX6_init) ∈ nstM ∧ Cond.instanceMethod yX6_init ∈ TB := ⟨by decide +kernel, tb_of 81 (by decide +kernel) rfl⟩
theorem cb_X6_init : CwB yX6_init cX6_init 1 none 0 := ⟨tb_of 82 (by decide +kernel) rfl, tb_of 54 (by decide +kernel) rfl, by decide +kernel⟩
theorem nw_RX7_16 : Cond.classLink RX7 16 RX1 ∈ TB ∧ Cond.instantiable RX1 7 ∈ TB ∧ Cond.initialized RX1 ∈ TB := ⟨tb_of 94 (by decide +kernel) rfl, tb_of 95 (by decide +kernel) rfl, tb_of 55 (by decide +kernel) rfl⟩
theorem lc_RX7_18 : (RX7, 18, yX1_init) ∈ nstM ∧ Cond.instanceMethod yX1_init ∈ TB := ⟨by decide +kernel, tb_of 97 (by decide +kernel) rfl⟩
theorem nw_RX7_23 : Cond.classLink RX7 23 RX3 ∈ TB ∧ Cond.instantiable RX3 7 ∈ TB ∧ Cond.initialized RX3 ∈ TB := ⟨tb_of 138 (by decide +kernel) rfl, tb_of 139 (by decide +kernel) rfl, tb_of 56 (by decide +kernel) rfl⟩
theorem lc_RX7_25 : Cond.methodLink RX7 25 yX3_init ∈ TB ∧ Cond.instanceMethod yX3_init ∈ TB := ⟨tb_of 140 (by decide +kernel) rfl, tb_of 141 (by decide +kernel) rfl⟩
theorem cb_X3_init : CwB yX3_init cX3_init 2 none 1 := ⟨tb_of 142 (by decide +kernel) rfl, tb_of 56 (by decide +kernel) rfl, by decide +kernel⟩
theorem nw_RX7_32 : Cond.classLink RX7 32 RX5 ∈ TB ∧ Cond.instantiable RX5 12 ∈ TB ∧ Cond.initialized RX5 ∈ TB := ⟨tb_of 170 (by decide +kernel) rfl, tb_of 171 (by decide +kernel) rfl, tb_of 57 (by decide +kernel) rfl⟩
theorem lc_RX7_34 : Cond.methodLink RX7 34 yX5_init ∈ TB ∧ Cond.instanceMethod yX5_init ∈ TB := ⟨tb_of 172 (by decide +kernel) rfl, tb_of 173 (by decide +kernel) rfl⟩
theorem cb_X5_init : CwB yX5_init cX5_init 2 none 1 := ⟨tb_of 174 (by decide +kernel) rfl, tb_of 57 (by decide +kernel) rfl, by decide +kernel⟩
theorem nw_RX7_47 : Cond.classLink RX7 47 RX0 ∈ TB ∧ Cond.instantiable RX0 6 ∈ TB ∧ Cond.initialized RX0 ∈ TB := ⟨tb_of 247 (by decide +kernel) rfl, tb_of 248 (by decide +kernel) rfl, tb_of 60 (by decide +kernel) rfl⟩
theorem lc_RX7_49 : Cond.methodLink RX7 49 yX0_init ∈ TB ∧ Cond.instanceMethod yX0_init ∈ TB := ⟨tb_of 249 (by decide +kernel) rfl, tb_of 250 (by decide +kernel) rfl⟩
theorem cb_X0_init : CwB yX0_init cX0_init 3 none 2 := ⟨tb_of 251 (by decide +kernel) rfl, tb_of 60 (by decide +kernel) rfl, by decide +kernel⟩
theorem nw_RX7_56 : Cond.classLink RX7 56 RX2 ∈ TB ∧ Cond.instantiable RX2 10 ∈ TB ∧ Cond.initialized RX2 ∈ TB := ⟨tb_of 276 (by decide +kernel) rfl, tb_of 277 (by decide +kernel) rfl, tb_of 61 (by decide +kernel) rfl⟩
theorem lc_RX7_58 : Cond.methodLink RX7 58 yX2_init ∈ TB ∧ Cond.instanceMethod yX2_init ∈ TB := ⟨tb_of 278 (by decide +kernel) rfl, tb_of 279 (by decide +kernel) rfl⟩
theorem cb_X2_init : CwB yX2_init cX2_init 3 none 2 := ⟨tb_of 280 (by decide +kernel) rfl, tb_of 61 (by decide +kernel) rfl, by decide +kernel⟩
theorem nw_RX7_63 : Cond.classLink RX7 63 RX4 ∈ TB ∧ Cond.instantiable RX4 6 ∈ TB ∧ Cond.initialized RX4 ∈ TB := ⟨tb_of 315 (by decide +kernel) rfl, tb_of 316 (by decide +kernel) rfl, tb_of 62 (by decide +kernel) rfl⟩
theorem lc_RX7_65 : Cond.methodLink RX7 65 yX4_init ∈ TB ∧ Cond.instanceMethod yX4_init ∈ TB := ⟨tb_of 317 (by decide +kernel) rfl, tb_of 318 (by decide +kernel) rfl⟩
theorem cb_X4_init : CwB yX4_init cX4_init 2 none 1 := ⟨tb_of 319 (by decide +kernel) rfl, tb_of 62 (by decide +kernel) rfl, by decide +kernel⟩
theorem lo_RX8_1 : Cond.methodLink RX8 1 objectInit ∈ TB := tb_of 858 (by decide +kernel) rfl
theorem dX6_init_0 : decode cX6_init 0 = .ok (.aload_n 0, 1) := by decide +kernel
theorem dX6_init_1 : decode cX6_init 1 = .ok (.invokespecial 3, 3) := by decide +kernel
theorem dX6_init_4 : decode cX6_init 4 = .ok (.aload_n 0, 1) := by decide +kernel
theorem dX6_init_5 : decode cX6_init 5 = .ok (.sipush 200, 3) := by decide +kernel
theorem dX6_init_8 : decode cX6_init 8 = .ok (.newarray .char, 2) := by decide +kernel
theorem dX6_init_10 : decode cX6_init 10 = .ok (.putfield 9, 3) := by decide +kernel
theorem dX6_init_13 : decode cX6_init 13 = .ok (.aload_n 0, 1) := by decide +kernel
theorem dX6_init_14 : decode cX6_init 14 = .ok (.iconst 0, 1) := by decide +kernel
theorem dX6_init_15 : decode cX6_init 15 = .ok (.putfield 15, 3) := by decide +kernel
theorem dX6_init_18 : decode cX6_init 18 = .ok (.return_, 1) := by decide +kernel
set_option maxRecDepth 100000 in
set_option maxHeartbeats 4000000 in
theorem c_Te (l : Launch) (g : GG) (h : Nat) : ncC l g yX6_init cX6_init 1 1 12 1 200 [.ref h] [(h, .inr (6, [.null, .int 0]))] (fun w1 => ∃ q1 : Nat, w1 = [(h, .inr (6, [.ref q1, .int 0])), (q1, .inl (g.2.1.2.1, 200, .inl k_z))]) := by
  refine nc_of (own := RX6) (by decide) rfl rfl (Nat.le_of_ble_eq_true rfl) (fun K e1 e2 F => ?_)
  subst e1 e2
  show ncJ K _ _ _ 0 0 _ 0 [(0, .ref h)] []
  refine nc_aload_n F dX6_init_0 rfl 0 rfl ?_
  refine nc_obj F lo_RX6_3 oi_i oi_c (Nat.le_of_ble_eq_true rfl) (Nat.le_of_ble_eq_true rfl) dX6_init_1 ?_
  refine nc_aload_n F dX6_init_4 rfl 0 rfl ?_
  refine nc_sipush F 200 dX6_init_5 (by decide) ?_
  refine nc_newa F (atype := .char) (ty := .char) (N := 200) (a0 := (200, .inl k_z)) 1 ac_char rfl rfl ra_char (fun _ => rfl) (by decide) (by decide) (Nat.le_of_ble_eq_true rfl) (Nat.le_of_ble_eq_true rfl) (Nat.le_of_ble_eq_true rfl) dX6_init_8 (fun q1 => ?_)
  show ncJ K _ _ _ 1 200 [(h, .inr (6, [.null, .int 0])), (q1, .inl (_, 200, .inl k_z))] 10 _ _
  refine nc_putF F ck_6 lf_RX6_9 (by decide) rfl rfl rfl rfl 0 rfl (Nat.le_of_ble_eq_true rfl) dX6_init_10 ?_
  show ncJ K _ _ _ 1 200 [(h, .inr (6, [.ref q1, .int 0])), (q1, .inl (_, 200, .inl k_z))] 13 _ _
  refine nc_aload_n F dX6_init_13 rfl 0 rfl ?_
  refine nc_iconst F 0 dX6_init_14 (by decide) ?_
  refine nc_put F ck_6 lf_RX6_15 (by decide) rfl rfl rfl 0 rfl (Nat.le_of_ble_eq_true rfl) dX6_init_15 ?_
  show ncJ K _ _ _ 1 200 [(h, .inr (6, [.ref q1, .int 0])), (q1, .inl (_, 200, .inl k_z))] 18 _ _
  exact nc_ret F [0, 1] (wr := [(h, .inr (6, [.ref q1, .int 0])), (q1, .inl (_, 200, .inl k_z))]) rfl rfl ⟨q1, rfl⟩ dX6_init_18
theorem dX1_init_0 : decode cX1_init 0 = .ok (.aload_n 0, 1) := by decide +kernel
theorem dX1_init_1 : decode cX1_init 1 = .ok (.invokespecial 3, 3) := by decide +kernel
theorem dX1_init_4 : decode cX1_init 4 = .ok (.aload_n 0, 1) := by decide +kernel
theorem dX1_init_5 : decode cX1_init 5 = .ok (.iconst 3, 1) := by decide +kernel
theorem dX1_init_6 : decode cX1_init 6 = .ok (.putfield 9, 3) := by decide +kernel
theorem dX1_init_9 : decode cX1_init 9 = .ok (.aload_n 0, 1) := by decide +kernel
theorem dX1_init_10 : decode cX1_init 10 = .ok (.iconst 0, 1) := by decide +kernel
theorem dX1_init_11 : decode cX1_init 11 = .ok (.putfield 15, 3) := by decide +kernel
theorem dX1_init_14 : decode cX1_init 14 = .ok (.aload_n 0, 1) := by decide +kernel
theorem dX1_init_15 : decode cX1_init 15 = .ok (.iconst 0, 1) := by decide +kernel
theorem dX1_init_16 : decode cX1_init 16 = .ok (.putfield 18, 3) := by decide +kernel
theorem dX1_init_19 : decode cX1_init 19 = .ok (.aload_n 0, 1) := by decide +kernel
theorem dX1_init_20 : decode cX1_init 20 = .ok (.iconst 5, 1) := by decide +kernel
theorem dX1_init_21 : decode cX1_init 21 = .ok (.putfield 21, 3) := by decide +kernel
theorem dX1_init_24 : decode cX1_init 24 = .ok (.aload_n 0, 1) := by decide +kernel
theorem dX1_init_25 : decode cX1_init 25 = .ok (.bipush 72, 2) := by decide +kernel
theorem dX1_init_27 : decode cX1_init 27 = .ok (.newarray .int, 2) := by decide +kernel
theorem dX1_init_29 : decode cX1_init 29 = .ok (.putfield 24, 3) := by decide +kernel
theorem dX1_init_32 : decode cX1_init 32 = .ok (.aload_n 0, 1) := by decide +kernel
theorem dX1_init_33 : decode cX1_init 33 = .ok (.iconst 3, 1) := by decide +kernel
theorem dX1_init_34 : decode cX1_init 34 = .ok (.newarray .int, 2) := by decide +kernel
theorem dX1_init_36 : decode cX1_init 36 = .ok (.dup, 1) := by decide +kernel
theorem dX1_init_37 : decode cX1_init 37 = .ok (.iconst 0, 1) := by decide +kernel
theorem dX1_init_38 : decode cX1_init 38 = .ok (.bipush 9, 2) := by decide +kernel
theorem dX1_init_40 : decode cX1_init 40 = .ok (.iastore, 1) := by decide +kernel
theorem dX1_init_41 : decode cX1_init 41 = .ok (.dup, 1) := by decide +kernel
theorem dX1_init_42 : decode cX1_init 42 = .ok (.iconst 1, 1) := by decide +kernel
theorem dX1_init_43 : decode cX1_init 43 = .ok (.bipush 9, 2) := by decide +kernel
theorem dX1_init_45 : decode cX1_init 45 = .ok (.iastore, 1) := by decide +kernel
theorem dX1_init_46 : decode cX1_init 46 = .ok (.dup, 1) := by decide +kernel
theorem dX1_init_47 : decode cX1_init 47 = .ok (.iconst 2, 1) := by decide +kernel
theorem dX1_init_48 : decode cX1_init 48 = .ok (.bipush 9, 2) := by decide +kernel
theorem dX1_init_50 : decode cX1_init 50 = .ok (.iastore, 1) := by decide +kernel
theorem dX1_init_51 : decode cX1_init 51 = .ok (.putfield 28, 3) := by decide +kernel
theorem dX1_init_54 : decode cX1_init 54 = .ok (.aload_n 0, 1) := by decide +kernel
theorem dX1_init_55 : decode cX1_init 55 = .ok (.iconst 2, 1) := by decide +kernel
theorem dX1_init_56 : decode cX1_init 56 = .ok (.newarray .int, 2) := by decide +kernel
theorem dX1_init_58 : decode cX1_init 58 = .ok (.dup, 1) := by decide +kernel
theorem dX1_init_59 : decode cX1_init 59 = .ok (.iconst 0, 1) := by decide +kernel
theorem dX1_init_60 : decode cX1_init 60 = .ok (.iconst (-1), 1) := by decide +kernel
theorem dX1_init_61 : decode cX1_init 61 = .ok (.iastore, 1) := by decide +kernel
theorem dX1_init_62 : decode cX1_init 62 = .ok (.dup, 1) := by decide +kernel
theorem dX1_init_63 : decode cX1_init 63 = .ok (.iconst 1, 1) := by decide +kernel
theorem dX1_init_64 : decode cX1_init 64 = .ok (.iconst (-1), 1) := by decide +kernel
theorem dX1_init_65 : decode cX1_init 65 = .ok (.iastore, 1) := by decide +kernel
theorem dX1_init_66 : decode cX1_init 66 = .ok (.putfield 31, 3) := by decide +kernel
theorem dX1_init_69 : decode cX1_init 69 = .ok (.return_, 1) := by decide +kernel
set_option maxRecDepth 100000 in
set_option maxHeartbeats 4000000 in
theorem c_La (l : Launch) (g : GG) (h : Nat) : ncC l g yX1_init cX1_init 1 1 12 3 77 [.ref h] [(h, .inr (1, [.int 0, .int 0, .int 0, .int 0, .null, .null, .null]))] (fun w1 => ∃ q1 q2 q3 : Nat, w1 = [(h, .inr (1, [.int 3, .int 0, .int 0, .int 5, .ref q1, .ref q2, .ref q3])), (q1, .inl (g.2.1.1, 72, .inl k_z)), (q2, .inl (g.2.1.1, 3, .inl k_t9)), (q3, .inl (g.2.1.1, 2, .inl k_s1))]) := by
  refine nc_of (own := RX1) (by decide) rfl rfl (Nat.le_of_ble_eq_true rfl) (fun K e1 e2 F => ?_)
  subst e1 e2
  show ncJ K _ _ _ 0 0 _ 0 [(0, .ref h)] []
  refine nc_aload_n F dX1_init_0 rfl 0 rfl ?_
  refine nc_obj F lo_RX1_3 oi_i oi_c (Nat.le_of_ble_eq_true rfl) (Nat.le_of_ble_eq_true rfl) dX1_init_1 ?_
  refine nc_aload_n F dX1_init_4 rfl 0 rfl ?_
  refine nc_iconst F 3 dX1_init_5 (by decide) ?_
  refine nc_put F ck_1 lf_RX1_9 (by decide) rfl rfl rfl 0 rfl (Nat.le_of_ble_eq_true rfl) dX1_init_6 ?_
  show ncJ K _ _ _ 0 0 [(h, .inr (1, [.int 3, .int 0, .int 0, .int 0, .null, .null, .null]))] 9 _ _
  refine nc_aload_n F dX1_init_9 rfl 0 rfl ?_
  refine nc_iconst F 0 dX1_init_10 (by decide) ?_
  refine nc_put F ck_1 lf_RX1_15 (by decide) rfl rfl rfl 0 rfl (Nat.le_of_ble_eq_true rfl) dX1_init_11 ?_
  show ncJ K _ _ _ 0 0 [(h, .inr (1, [.int 3, .int 0, .int 0, .int 0, .null, .null, .null]))] 14 _ _
  refine nc_aload_n F dX1_init_14 rfl 0 rfl ?_
  refine nc_iconst F 0 dX1_init_15 (by decide) ?_
  refine nc_put F ck_1 lf_RX1_18 (by decide) rfl rfl rfl 0 rfl (Nat.le_of_ble_eq_true rfl) dX1_init_16 ?_
  show ncJ K _ _ _ 0 0 [(h, .inr (1, [.int 3, .int 0, .int 0, .int 0, .null, .null, .null]))] 19 _ _
  refine nc_aload_n F dX1_init_19 rfl 0 rfl ?_
  refine nc_iconst F 5 dX1_init_20 (by decide) ?_
  refine nc_put F ck_1 lf_RX1_21 (by decide) rfl rfl rfl 0 rfl (Nat.le_of_ble_eq_true rfl) dX1_init_21 ?_
  show ncJ K _ _ _ 0 0 [(h, .inr (1, [.int 3, .int 0, .int 0, .int 5, .null, .null, .null]))] 24 _ _
  refine nc_aload_n F dX1_init_24 rfl 0 rfl ?_
  refine nc_bipush F 72 dX1_init_25 (by decide) ?_
  refine nc_newa F (atype := .int) (ty := .int) (N := 72) (a0 := (72, .inl k_z)) 0 ac_int rfl rfl ra_int (fun _ => rfl) (by decide) (by decide) (Nat.le_of_ble_eq_true rfl) (Nat.le_of_ble_eq_true rfl) (Nat.le_of_ble_eq_true rfl) dX1_init_27 (fun q1 => ?_)
  show ncJ K _ _ _ 1 72 [(h, .inr (1, [.int 3, .int 0, .int 0, .int 5, .null, .null, .null])), (q1, .inl (_, 72, .inl k_z))] 29 _ _
  refine nc_putF F ck_1 lf_RX1_24 (by decide) rfl rfl rfl rfl 0 rfl (Nat.le_of_ble_eq_true rfl) dX1_init_29 ?_
  show ncJ K _ _ _ 1 72 [(h, .inr (1, [.int 3, .int 0, .int 0, .int 5, .ref q1, .null, .null])), (q1, .inl (_, 72, .inl k_z))] 32 _ _
  refine nc_aload_n F dX1_init_32 rfl 0 rfl ?_
  refine nc_iconst F 3 dX1_init_33 (by decide) ?_
  refine nc_newa F (atype := .int) (ty := .int) (N := 3) (a0 := (3, .inl k_z)) 0 ac_int rfl rfl ra_int (fun _ => rfl) (by decide) (by decide) (Nat.le_of_ble_eq_true rfl) (Nat.le_of_ble_eq_true rfl) (Nat.le_of_ble_eq_true rfl) dX1_init_34 (fun q2 => ?_)
  show ncJ K _ _ _ 2 75 [(h, .inr (1, [.int 3, .int 0, .int 0, .int 5, .ref q1, .null, .null])), (q1, .inl (_, 72, .inl k_z)), (q2, .inl (_, 3, .inl k_z))] 36 _ _
  refine nc_dup F dX1_init_36 rfl ?_
  refine nc_iconst F 0 dX1_init_37 (by decide) ?_
  refine nc_bipush F 9 dX1_init_38 (by decide) ?_
  refine nc_iast F 2 rfl rfl (ib_in (by decide)) dX1_init_40 ?_
  show ncJ K _ _ _ 2 75 [(h, .inr (1, [.int 3, .int 0, .int 0, .int 5, .ref q1, .null, .null])), (q1, .inl (_, 72, .inl k_z)), (q2, .inl (_, 3, .inl (upd k_z 0 9)))] 41 _ _
  refine nc_dup F dX1_init_41 rfl ?_
  refine nc_iconst F 1 dX1_init_42 (by decide) ?_
  refine nc_bipush F 9 dX1_init_43 (by decide) ?_
  refine nc_iast F 2 rfl rfl (ib_in (by decide)) dX1_init_45 ?_
  show ncJ K _ _ _ 2 75 [(h, .inr (1, [.int 3, .int 0, .int 0, .int 5, .ref q1, .null, .null])), (q1, .inl (_, 72, .inl k_z)), (q2, .inl (_, 3, .inl (upd (upd k_z 0 9) 1 9)))] 46 _ _
  refine nc_dup F dX1_init_46 rfl ?_
  refine nc_iconst F 2 dX1_init_47 (by decide) ?_
  refine nc_bipush F 9 dX1_init_48 (by decide) ?_
  refine nc_iast F 2 rfl rfl (ib_in (by decide)) dX1_init_50 ?_
  show ncJ K _ _ _ 2 75 [(h, .inr (1, [.int 3, .int 0, .int 0, .int 5, .ref q1, .null, .null])), (q1, .inl (_, 72, .inl k_z)), (q2, .inl (_, 3, .inl (upd (upd (upd k_z 0 9) 1 9) 2 9)))] 51 _ _
  refine nc_putF F ck_1 lf_RX1_28 (by decide) rfl rfl rfl rfl 0 rfl (Nat.le_of_ble_eq_true rfl) dX1_init_51 ?_
  show ncJ K _ _ _ 2 75 [(h, .inr (1, [.int 3, .int 0, .int 0, .int 5, .ref q1, .ref q2, .null])), (q1, .inl (_, 72, .inl k_z)), (q2, .inl (_, 3, .inl (upd (upd (upd k_z 0 9) 1 9) 2 9)))] 54 _ _
  refine nc_aload_n F dX1_init_54 rfl 0 rfl ?_
  refine nc_iconst F 2 dX1_init_55 (by decide) ?_
  refine nc_newa F (atype := .int) (ty := .int) (N := 2) (a0 := (2, .inl k_z)) 0 ac_int rfl rfl ra_int (fun _ => rfl) (by decide) (by decide) (Nat.le_of_ble_eq_true rfl) (Nat.le_of_ble_eq_true rfl) (Nat.le_of_ble_eq_true rfl) dX1_init_56 (fun q3 => ?_)
  show ncJ K _ _ _ 3 77 [(h, .inr (1, [.int 3, .int 0, .int 0, .int 5, .ref q1, .ref q2, .null])), (q1, .inl (_, 72, .inl k_z)), (q2, .inl (_, 3, .inl (upd (upd (upd k_z 0 9) 1 9) 2 9))), (q3, .inl (_, 2, .inl k_z))] 58 _ _
  refine nc_dup F dX1_init_58 rfl ?_
  refine nc_iconst F 0 dX1_init_59 (by decide) ?_
  refine nc_iconst F (-1) dX1_init_60 (by decide) ?_
  refine nc_iast F 3 rfl rfl (ib_in (by decide)) dX1_init_61 ?_
  show ncJ K _ _ _ 3 77 [(h, .inr (1, [.int 3, .int 0, .int 0, .int 5, .ref q1, .ref q2, .null])), (q1, .inl (_, 72, .inl k_z)), (q2, .inl (_, 3, .inl (upd (upd (upd k_z 0 9) 1 9) 2 9))), (q3, .inl (_, 2, .inl (upd k_z 0 (-1))))] 62 _ _
  refine nc_dup F dX1_init_62 rfl ?_
  refine nc_iconst F 1 dX1_init_63 (by decide) ?_
  refine nc_iconst F (-1) dX1_init_64 (by decide) ?_
  refine nc_iast F 3 rfl rfl (ib_in (by decide)) dX1_init_65 ?_
  show ncJ K _ _ _ 3 77 [(h, .inr (1, [.int 3, .int 0, .int 0, .int 5, .ref q1, .ref q2, .null])), (q1, .inl (_, 72, .inl k_z)), (q2, .inl (_, 3, .inl (upd (upd (upd k_z 0 9) 1 9) 2 9))), (q3, .inl (_, 2, .inl (upd (upd k_z 0 (-1)) 1 (-1))))] 66 _ _
  refine nc_putF F ck_1 lf_RX1_31 (by decide) rfl rfl rfl rfl 0 rfl (Nat.le_of_ble_eq_true rfl) dX1_init_66 ?_
  show ncJ K _ _ _ 3 77 [(h, .inr (1, [.int 3, .int 0, .int 0, .int 5, .ref q1, .ref q2, .ref q3])), (q1, .inl (_, 72, .inl k_z)), (q2, .inl (_, 3, .inl (upd (upd (upd k_z 0 9) 1 9) 2 9))), (q3, .inl (_, 2, .inl (upd (upd k_z 0 (-1)) 1 (-1))))] 69 _ _
  exact nc_ret F [0, 1, 2, 3] (wr := [(h, .inr (1, [.int 3, .int 0, .int 0, .int 5, .ref q1, .ref q2, .ref q3])), (q1, .inl (_, 72, .inl k_z)), (q2, .inl (_, 3, .inl k_t9)), (q3, .inl (_, 2, .inl k_s1))]) rfl rfl ⟨q1, q2, q3, rfl⟩ dX1_init_69
theorem dX3_init_0 : decode cX3_init 0 = .ok (.aload_n 0, 1) := by decide +kernel
theorem dX3_init_1 : decode cX3_init 1 = .ok (.invokespecial 3, 3) := by decide +kernel
theorem dX3_init_4 : decode cX3_init 4 = .ok (.aload_n 0, 1) := by decide +kernel
theorem dX3_init_5 : decode cX3_init 5 = .ok (.new 9, 3) := by decide +kernel
theorem dX3_init_8 : decode cX3_init 8 = .ok (.dup, 1) := by decide +kernel
theorem dX3_init_9 : decode cX3_init 9 = .ok (.invokespecial 11, 3) := by decide +kernel
theorem dX3_init_12 : decode cX3_init 12 = .ok (.putfield 12, 3) := by decide +kernel
theorem dX3_init_15 : decode cX3_init 15 = .ok (.aload_n 0, 1) := by decide +kernel
theorem dX3_init_16 : decode cX3_init 16 = .ok (.iconst 0, 1) := by decide +kernel
theorem dX3_init_17 : decode cX3_init 17 = .ok (.putfield 18, 3) := by decide +kernel
theorem dX3_init_20 : decode cX3_init 20 = .ok (.aload_n 0, 1) := by decide +kernel
theorem dX3_init_21 : decode cX3_init 21 = .ok (.bipush 6, 2) := by decide +kernel
theorem dX3_init_23 : decode cX3_init 23 = .ok (.newarray .int, 2) := by decide +kernel
theorem dX3_init_25 : decode cX3_init 25 = .ok (.putfield 22, 3) := by decide +kernel
theorem dX3_init_28 : decode cX3_init 28 = .ok (.aload_n 0, 1) := by decide +kernel
theorem dX3_init_29 : decode cX3_init 29 = .ok (.iconst 0, 1) := by decide +kernel
theorem dX3_init_30 : decode cX3_init 30 = .ok (.putfield 26, 3) := by decide +kernel
theorem dX3_init_33 : decode cX3_init 33 = .ok (.aload_n 0, 1) := by decide +kernel
theorem dX3_init_34 : decode cX3_init 34 = .ok (.iconst 0, 1) := by decide +kernel
theorem dX3_init_35 : decode cX3_init 35 = .ok (.putfield 29, 3) := by decide +kernel
theorem dX3_init_38 : decode cX3_init 38 = .ok (.aload_n 0, 1) := by decide +kernel
theorem dX3_init_39 : decode cX3_init 39 = .ok (.iconst 0, 1) := by decide +kernel
theorem dX3_init_40 : decode cX3_init 40 = .ok (.putfield 32, 3) := by decide +kernel
theorem dX3_init_43 : decode cX3_init 43 = .ok (.aload_n 0, 1) := by decide +kernel
theorem dX3_init_44 : decode cX3_init 44 = .ok (.aload_n 1, 1) := by decide +kernel
theorem dX3_init_45 : decode cX3_init 45 = .ok (.putfield 35, 3) := by decide +kernel
theorem dX3_init_48 : decode cX3_init 48 = .ok (.return_, 1) := by decide +kernel
set_option maxRecDepth 100000 in
set_option maxHeartbeats 4000000 in
theorem c_Re (l : Launch) (g : GG) (h a1 : Nat) : ncC l g yX3_init cX3_init 2 2 32 5 90 [.ref h, .ref a1] [(h, .inr (3, [.null, .null, .int 0, .null, .int 0, .int 0, .int 0]))] (fun w1 => ∃ q1 q2 q3 q4 q5 : Nat, w1 = [(h, .inr (3, [.ref a1, .ref q1, .int 0, .ref q5, .int 0, .int 0, .int 0])), (q1, .inr (1, [.int 3, .int 0, .int 0, .int 5, .ref q2, .ref q3, .ref q4])), (q2, .inl (g.2.1.1, 72, .inl k_z)), (q3, .inl (g.2.1.1, 3, .inl k_t9)), (q4, .inl (g.2.1.1, 2, .inl k_s1)), (q5, .inl (g.2.1.1, 6, .inl k_z))]) := by
  refine nc_of (own := RX3) (by decide) rfl rfl (Nat.le_of_ble_eq_true rfl) (fun K e1 e2 F => ?_)
  subst e1 e2
  show ncJ K _ _ _ 0 0 _ 0 [(0, .ref h), (1, .ref a1)] []
  refine nc_aload_n F dX3_init_0 rfl 0 rfl ?_
  refine nc_obj F lo_RX3_3 oi_i oi_c (Nat.le_of_ble_eq_true rfl) (Nat.le_of_ble_eq_true rfl) dX3_init_1 ?_
  refine nc_aload_n F dX3_init_4 rfl 0 rfl ?_
  refine nc_new F (fs := [.int 0, .int 0, .int 0, .int 0, .null, .null, .null]) ck_1 nw_RX3_9 (fun j hj => by rcases (show j = 0 ∨ j = 1 ∨ j = 2 ∨ j = 3 ∨ j = 4 ∨ j = 5 ∨ j = 6 by omega) with rfl | rfl | rfl | rfl | rfl | rfl | rfl <;> rfl) (Nat.le_of_ble_eq_true rfl) (Nat.le_of_ble_eq_true rfl) dX3_init_5 (fun q1 => ?_)
  show ncJ K _ _ _ 1 7 [(h, .inr (3, [.null, .null, .int 0, .null, .int 0, .int 0, .int 0])), (q1, .inr (1, [.int 0, .int 0, .int 0, .int 0, .null, .null, .null]))] 8 _ _
  refine nc_dup F dX3_init_8 rfl ?_
  refine nc_callN F (wr := [(h, .inr (3, [.null, .null, .int 0, .null, .int 0, .int 0, .int 0]))]) cb_X1_init lc_RX3_11 rfl (c_La K.2.1 K.2.2.2.2.2.2.2.2.2.2.1 q1) [1] [0] rfl rfl rfl rfl (by decide) rfl rfl (Nat.le_of_ble_eq_true rfl) ⟨Nat.le_of_ble_eq_true rfl, Nat.le_of_ble_eq_true rfl⟩ ⟨Nat.le_of_ble_eq_true rfl, Nat.le_of_ble_eq_true rfl⟩ dX3_init_9 (fun w1 hw1 => ?_)
  obtain ⟨q2, q3, q4, rfl⟩ := hw1
  show ncJ K _ _ _ 4 84 [(h, .inr (3, [.null, .null, .int 0, .null, .int 0, .int 0, .int 0])), (q1, .inr (1, [.int 3, .int 0, .int 0, .int 5, .ref q2, .ref q3, .ref q4])), (q2, .inl (_, 72, .inl k_z)), (q3, .inl (_, 3, .inl k_t9)), (q4, .inl (_, 2, .inl k_s1))] 12 _ _
  refine nc_putF F ck_3 lf_RX3_12 (by decide) rfl rfl rfl rfl 0 rfl (Nat.le_of_ble_eq_true rfl) dX3_init_12 ?_
  show ncJ K _ _ _ 4 84 [(h, .inr (3, [.null, .ref q1, .int 0, .null, .int 0, .int 0, .int 0])), (q1, .inr (1, [.int 3, .int 0, .int 0, .int 5, .ref q2, .ref q3, .ref q4])), (q2, .inl (_, 72, .inl k_z)), (q3, .inl (_, 3, .inl k_t9)), (q4, .inl (_, 2, .inl k_s1))] 15 _ _
  refine nc_aload_n F dX3_init_15 rfl 0 rfl ?_
  refine nc_iconst F 0 dX3_init_16 (by decide) ?_
  refine nc_put F ck_3 lf_RX3_18 (by decide) rfl rfl rfl 0 rfl (Nat.le_of_ble_eq_true rfl) dX3_init_17 ?_
  show ncJ K _ _ _ 4 84 [(h, .inr (3, [.null, .ref q1, .int 0, .null, .int 0, .int 0, .int 0])), (q1, .inr (1, [.int 3, .int 0, .int 0, .int 5, .ref q2, .ref q3, .ref q4])), (q2, .inl (_, 72, .inl k_z)), (q3, .inl (_, 3, .inl k_t9)), (q4, .inl (_, 2, .inl k_s1))] 20 _ _
  refine nc_aload_n F dX3_init_20 rfl 0 rfl ?_
  refine nc_bipush F 6 dX3_init_21 (by decide) ?_
  refine nc_newa F (atype := .int) (ty := .int) (N := 6) (a0 := (6, .inl k_z)) 0 ac_int rfl rfl ra_int (fun _ => rfl) (by decide) (by decide) (Nat.le_of_ble_eq_true rfl) (Nat.le_of_ble_eq_true rfl) (Nat.le_of_ble_eq_true rfl) dX3_init_23 (fun q5 => ?_)
  show ncJ K _ _ _ 5 90 [(h, .inr (3, [.null, .ref q1, .int 0, .null, .int 0, .int 0, .int 0])), (q1, .inr (1, [.int 3, .int 0, .int 0, .int 5, .ref q2, .ref q3, .ref q4])), (q2, .inl (_, 72, .inl k_z)), (q3, .inl (_, 3, .inl k_t9)), (q4, .inl (_, 2, .inl k_s1)), (q5, .inl (_, 6, .inl k_z))] 25 _ _
  refine nc_putF F ck_3 lf_RX3_22 (by decide) rfl rfl rfl rfl 0 rfl (Nat.le_of_ble_eq_true rfl) dX3_init_25 ?_
  show ncJ K _ _ _ 5 90 [(h, .inr (3, [.null, .ref q1, .int 0, .ref q5, .int 0, .int 0, .int 0])), (q1, .inr (1, [.int 3, .int 0, .int 0, .int 5, .ref q2, .ref q3, .ref q4])), (q2, .inl (_, 72, .inl k_z)), (q3, .inl (_, 3, .inl k_t9)), (q4, .inl (_, 2, .inl k_s1)), (q5, .inl (_, 6, .inl k_z))] 28 _ _
  refine nc_aload_n F dX3_init_28 rfl 0 rfl ?_
  refine nc_iconst F 0 dX3_init_29 (by decide) ?_
  refine nc_put F ck_3 lf_RX3_26 (by decide) rfl rfl rfl 0 rfl (Nat.le_of_ble_eq_true rfl) dX3_init_30 ?_
  show ncJ K _ _ _ 5 90 [(h, .inr (3, [.null, .ref q1, .int 0, .ref q5, .int 0, .int 0, .int 0])), (q1, .inr (1, [.int 3, .int 0, .int 0, .int 5, .ref q2, .ref q3, .ref q4])), (q2, .inl (_, 72, .inl k_z)), (q3, .inl (_, 3, .inl k_t9)), (q4, .inl (_, 2, .inl k_s1)), (q5, .inl (_, 6, .inl k_z))] 33 _ _
  refine nc_aload_n F dX3_init_33 rfl 0 rfl ?_
  refine nc_iconst F 0 dX3_init_34 (by decide) ?_
  refine nc_put F ck_3 lf_RX3_29 (by decide) rfl rfl rfl 0 rfl (Nat.le_of_ble_eq_true rfl) dX3_init_35 ?_
  show ncJ K _ _ _ 5 90 [(h, .inr (3, [.null, .ref q1, .int 0, .ref q5, .int 0, .int 0, .int 0])), (q1, .inr (1, [.int 3, .int 0, .int 0, .int 5, .ref q2, .ref q3, .ref q4])), (q2, .inl (_, 72, .inl k_z)), (q3, .inl (_, 3, .inl k_t9)), (q4, .inl (_, 2, .inl k_s1)), (q5, .inl (_, 6, .inl k_z))] 38 _ _
  refine nc_aload_n F dX3_init_38 rfl 0 rfl ?_
  refine nc_iconst F 0 dX3_init_39 (by decide) ?_
  refine nc_put F ck_3 lf_RX3_32 (by decide) rfl rfl rfl 0 rfl (Nat.le_of_ble_eq_true rfl) dX3_init_40 ?_
  show ncJ K _ _ _ 5 90 [(h, .inr (3, [.null, .ref q1, .int 0, .ref q5, .int 0, .int 0, .int 0])), (q1, .inr (1, [.int 3, .int 0, .int 0, .int 5, .ref q2, .ref q3, .ref q4])), (q2, .inl (_, 72, .inl k_z)), (q3, .inl (_, 3, .inl k_t9)), (q4, .inl (_, 2, .inl k_s1)), (q5, .inl (_, 6, .inl k_z))] 43 _ _
  refine nc_aload_n F dX3_init_43 rfl 0 rfl ?_
  refine nc_aload_n F dX3_init_44 rfl 1 rfl ?_
  refine nc_putF F ck_3 lf_RX3_35 (by decide) rfl rfl rfl rfl 0 rfl (Nat.le_of_ble_eq_true rfl) dX3_init_45 ?_
  show ncJ K _ _ _ 5 90 [(h, .inr (3, [.ref a1, .ref q1, .int 0, .ref q5, .int 0, .int 0, .int 0])), (q1, .inr (1, [.int 3, .int 0, .int 0, .int 5, .ref q2, .ref q3, .ref q4])), (q2, .inl (_, 72, .inl k_z)), (q3, .inl (_, 3, .inl k_t9)), (q4, .inl (_, 2, .inl k_s1)), (q5, .inl (_, 6, .inl k_z))] 48 _ _
  exact nc_ret F [0, 1, 2, 3, 4, 5] (wr := [(h, .inr (3, [.ref a1, .ref q1, .int 0, .ref q5, .int 0, .int 0, .int 0])), (q1, .inr (1, [.int 3, .int 0, .int 0, .int 5, .ref q2, .ref q3, .ref q4])), (q2, .inl (_, 72, .inl k_z)), (q3, .inl (_, 3, .inl k_t9)), (q4, .inl (_, 2, .inl k_s1)), (q5, .inl (_, 6, .inl k_z))]) rfl rfl ⟨q1, q2, q3, q4, q5, rfl⟩ dX3_init_48
theorem dX0_init_0 : decode cX0_init 0 = .ok (.aload_n 0, 1) := by decide +kernel
theorem dX0_init_1 : decode cX0_init 1 = .ok (.invokespecial 3, 3) := by decide +kernel
theorem dX0_init_4 : decode cX0_init 4 = .ok (.aload_n 0, 1) := by decide +kernel
theorem dX0_init_5 : decode cX0_init 5 = .ok (.aload_n 1, 1) := by decide +kernel
theorem dX0_init_6 : decode cX0_init 6 = .ok (.putfield 9, 3) := by decide +kernel
theorem dX0_init_9 : decode cX0_init 9 = .ok (.aload_n 0, 1) := by decide +kernel
theorem dX0_init_10 : decode cX0_init 10 = .ok (.aload_n 2, 1) := by decide +kernel
theorem dX0_init_11 : decode cX0_init 11 = .ok (.putfield 15, 3) := by decide +kernel
theorem dX0_init_14 : decode cX0_init 14 = .ok (.return_, 1) := by decide +kernel
set_option maxRecDepth 100000 in
set_option maxHeartbeats 4000000 in
theorem c_Fo (l : Launch) (g : GG) (h a1 a2 : Nat) : ncC l g yX0_init cX0_init 3 1 12 0 0 [.ref h, .ref a1, .ref a2] [(h, .inr (0, [.null, .null, .int 0, .int 0, .int 0, .int 0]))] (fun w1 => w1 = [(h, .inr (0, [.ref a1, .ref a2, .int 0, .int 0, .int 0, .int 0]))]) := by
  refine nc_of (own := RX0) (by decide) rfl rfl (Nat.le_of_ble_eq_true rfl) (fun K e1 e2 F => ?_)
  subst e1 e2
  show ncJ K _ _ _ 0 0 _ 0 [(0, .ref h), (1, .ref a1), (2, .ref a2)] []
  refine nc_aload_n F dX0_init_0 rfl 0 rfl ?_
  refine nc_obj F lo_RX0_3 oi_i oi_c (Nat.le_of_ble_eq_true rfl) (Nat.le_of_ble_eq_true rfl) dX0_init_1 ?_
  refine nc_aload_n F dX0_init_4 rfl 0 rfl ?_
  refine nc_aload_n F dX0_init_5 rfl 1 rfl ?_
  refine nc_putF F ck_0 lf_RX0_9 (by decide) rfl rfl rfl rfl 0 rfl (Nat.le_of_ble_eq_true rfl) dX0_init_6 ?_
  show ncJ K _ _ _ 0 0 [(h, .inr (0, [.ref a1, .null, .int 0, .int 0, .int 0, .int 0]))] 9 _ _
  refine nc_aload_n F dX0_init_9 rfl 0 rfl ?_
  refine nc_aload_n F dX0_init_10 rfl 2 rfl ?_
  refine nc_putF F ck_0 lf_RX0_15 (by decide) rfl rfl rfl rfl 0 rfl (Nat.le_of_ble_eq_true rfl) dX0_init_11 ?_
  show ncJ K _ _ _ 0 0 [(h, .inr (0, [.ref a1, .ref a2, .int 0, .int 0, .int 0, .int 0]))] 14 _ _
  exact nc_ret F [0] (wr := [(h, .inr (0, [.ref a1, .ref a2, .int 0, .int 0, .int 0, .int 0]))]) rfl rfl rfl dX0_init_14
theorem dX2_init_0 : decode cX2_init 0 = .ok (.aload_n 0, 1) := by decide +kernel
theorem dX2_init_1 : decode cX2_init 1 = .ok (.invokespecial 5, 3) := by decide +kernel
theorem dX2_init_4 : decode cX2_init 4 = .ok (.aload_n 0, 1) := by decide +kernel
theorem dX2_init_5 : decode cX2_init 5 = .ok (.sipush 448, 3) := by decide +kernel
theorem dX2_init_8 : decode cX2_init 8 = .ok (.newarray .int, 2) := by decide +kernel
theorem dX2_init_10 : decode cX2_init 10 = .ok (.putfield 11, 3) := by decide +kernel
theorem dX2_init_13 : decode cX2_init 13 = .ok (.aload_n 0, 1) := by decide +kernel
theorem dX2_init_14 : decode cX2_init 14 = .ok (.sipush 448, 3) := by decide +kernel
theorem dX2_init_17 : decode cX2_init 17 = .ok (.newarray .int, 2) := by decide +kernel
theorem dX2_init_19 : decode cX2_init 19 = .ok (.putfield 15, 3) := by decide +kernel
theorem dX2_init_22 : decode cX2_init 22 = .ok (.aload_n 0, 1) := by decide +kernel
theorem dX2_init_23 : decode cX2_init 23 = .ok (.sipush 448, 3) := by decide +kernel
theorem dX2_init_26 : decode cX2_init 26 = .ok (.newarray .int, 2) := by decide +kernel
theorem dX2_init_28 : decode cX2_init 28 = .ok (.putfield 18, 3) := by decide +kernel
theorem dX2_init_31 : decode cX2_init 31 = .ok (.aload_n 0, 1) := by decide +kernel
theorem dX2_init_32 : decode cX2_init 32 = .ok (.bipush 12, 2) := by decide +kernel
theorem dX2_init_34 : decode cX2_init 34 = .ok (.newarray .int, 2) := by decide +kernel
theorem dX2_init_36 : decode cX2_init 36 = .ok (.putfield 21, 3) := by decide +kernel
theorem dX2_init_39 : decode cX2_init 39 = .ok (.aload_n 0, 1) := by decide +kernel
theorem dX2_init_40 : decode cX2_init 40 = .ok (.bipush 12, 2) := by decide +kernel
theorem dX2_init_42 : decode cX2_init 42 = .ok (.newarray .int, 2) := by decide +kernel
theorem dX2_init_44 : decode cX2_init 44 = .ok (.putfield 24, 3) := by decide +kernel
theorem dX2_init_47 : decode cX2_init 47 = .ok (.aload_n 0, 1) := by decide +kernel
theorem dX2_init_48 : decode cX2_init 48 = .ok (.iconst 0, 1) := by decide +kernel
theorem dX2_init_49 : decode cX2_init 49 = .ok (.putfield 27, 3) := by decide +kernel
theorem dX2_init_52 : decode cX2_init 52 = .ok (.aload_n 0, 1) := by decide +kernel
theorem dX2_init_53 : decode cX2_init 53 = .ok (.iconst (-1), 1) := by decide +kernel
theorem dX2_init_54 : decode cX2_init 54 = .ok (.putfield 31, 3) := by decide +kernel
theorem dX2_init_57 : decode cX2_init 57 = .ok (.aload_n 0, 1) := by decide +kernel
theorem dX2_init_58 : decode cX2_init 58 = .ok (.bipush 13, 2) := by decide +kernel
theorem dX2_init_60 : decode cX2_init 60 = .ok (.putfield 34, 3) := by decide +kernel
theorem dX2_init_63 : decode cX2_init 63 = .ok (.aload_n 0, 1) := by decide +kernel
theorem dX2_init_64 : decode cX2_init 64 = .ok (.aload_n 1, 1) := by decide +kernel
theorem dX2_init_65 : decode cX2_init 65 = .ok (.putfield 37, 3) := by decide +kernel
theorem dX2_init_68 : decode cX2_init 68 = .ok (.aload_n 0, 1) := by decide +kernel
theorem dX2_init_69 : decode cX2_init 69 = .ok (.aload_n 2, 1) := by decide +kernel
theorem dX2_init_70 : decode cX2_init 70 = .ok (.putfield 41, 3) := by decide +kernel
theorem dX2_init_73 : decode cX2_init 73 = .ok (.return_, 1) := by decide +kernel
set_option maxRecDepth 100000 in
set_option maxHeartbeats 4000000 in
theorem c_Pu (l : Launch) (g : GG) (h a1 a2 : Nat) : ncC l g yX2_init cX2_init 3 1 12 5 1368 [.ref h, .ref a1, .ref a2] [(h, .inr (2, [.null, .null, .null, .null, .null, .null, .null, .int 0, .int 0, .int 0]))] (fun w1 => ∃ q1 q2 q3 q4 q5 : Nat, w1 = [(h, .inr (2, [.ref a1, .ref a2, .ref q1, .ref q2, .ref q3, .ref q4, .ref q5, .int 0, .int (-1), .int 13])), (q1, .inl (g.2.1.1, 448, .inl k_z)), (q2, .inl (g.2.1.1, 448, .inl k_z)), (q3, .inl (g.2.1.1, 448, .inl k_z)), (q4, .inl (g.2.1.1, 12, .inl k_z)), (q5, .inl (g.2.1.1, 12, .inl k_z))]) := by
  refine nc_of (own := RX2) (by decide) rfl rfl (Nat.le_of_ble_eq_true rfl) (fun K e1 e2 F => ?_)
  subst e1 e2
  show ncJ K _ _ _ 0 0 _ 0 [(0, .ref h), (1, .ref a1), (2, .ref a2)] []
  refine nc_aload_n F dX2_init_0 rfl 0 rfl ?_
  refine nc_obj F lo_RX2_5 oi_i oi_c (Nat.le_of_ble_eq_true rfl) (Nat.le_of_ble_eq_true rfl) dX2_init_1 ?_
  refine nc_aload_n F dX2_init_4 rfl 0 rfl ?_
  refine nc_sipush F 448 dX2_init_5 (by decide) ?_
  refine nc_newa F (atype := .int) (ty := .int) (N := 448) (a0 := (448, .inl k_z)) 0 ac_int rfl rfl ra_int (fun _ => rfl) (by decide) (by decide) (Nat.le_of_ble_eq_true rfl) (Nat.le_of_ble_eq_true rfl) (Nat.le_of_ble_eq_true rfl) dX2_init_8 (fun q1 => ?_)
  show ncJ K _ _ _ 1 448 [(h, .inr (2, [.null, .null, .null, .null, .null, .null, .null, .int 0, .int 0, .int 0])), (q1, .inl (_, 448, .inl k_z))] 10 _ _
  refine nc_putF F ck_2 lf_RX2_11 (by decide) rfl rfl rfl rfl 0 rfl (Nat.le_of_ble_eq_true rfl) dX2_init_10 ?_
  show ncJ K _ _ _ 1 448 [(h, .inr (2, [.null, .null, .ref q1, .null, .null, .null, .null, .int 0, .int 0, .int 0])), (q1, .inl (_, 448, .inl k_z))] 13 _ _
  refine nc_aload_n F dX2_init_13 rfl 0 rfl ?_
  refine nc_sipush F 448 dX2_init_14 (by decide) ?_
  refine nc_newa F (atype := .int) (ty := .int) (N := 448) (a0 := (448, .inl k_z)) 0 ac_int rfl rfl ra_int (fun _ => rfl) (by decide) (by decide) (Nat.le_of_ble_eq_true rfl) (Nat.le_of_ble_eq_true rfl) (Nat.le_of_ble_eq_true rfl) dX2_init_17 (fun q2 => ?_)
  show ncJ K _ _ _ 2 896 [(h, .inr (2, [.null, .null, .ref q1, .null, .null, .null, .null, .int 0, .int 0, .int 0])), (q1, .inl (_, 448, .inl k_z)), (q2, .inl (_, 448, .inl k_z))] 19 _ _
  refine nc_putF F ck_2 lf_RX2_15 (by decide) rfl rfl rfl rfl 0 rfl (Nat.le_of_ble_eq_true rfl) dX2_init_19 ?_
  show ncJ K _ _ _ 2 896 [(h, .inr (2, [.null, .null, .ref q1, .ref q2, .null, .null, .null, .int 0, .int 0, .int 0])), (q1, .inl (_, 448, .inl k_z)), (q2, .inl (_, 448, .inl k_z))] 22 _ _
  refine nc_aload_n F dX2_init_22 rfl 0 rfl ?_
  refine nc_sipush F 448 dX2_init_23 (by decide) ?_
  refine nc_newa F (atype := .int) (ty := .int) (N := 448) (a0 := (448, .inl k_z)) 0 ac_int rfl rfl ra_int (fun _ => rfl) (by decide) (by decide) (Nat.le_of_ble_eq_true rfl) (Nat.le_of_ble_eq_true rfl) (Nat.le_of_ble_eq_true rfl) dX2_init_26 (fun q3 => ?_)
  show ncJ K _ _ _ 3 1344 [(h, .inr (2, [.null, .null, .ref q1, .ref q2, .null, .null, .null, .int 0, .int 0, .int 0])), (q1, .inl (_, 448, .inl k_z)), (q2, .inl (_, 448, .inl k_z)), (q3, .inl (_, 448, .inl k_z))] 28 _ _
  refine nc_putF F ck_2 lf_RX2_18 (by decide) rfl rfl rfl rfl 0 rfl (Nat.le_of_ble_eq_true rfl) dX2_init_28 ?_
  show ncJ K _ _ _ 3 1344 [(h, .inr (2, [.null, .null, .ref q1, .ref q2, .ref q3, .null, .null, .int 0, .int 0, .int 0])), (q1, .inl (_, 448, .inl k_z)), (q2, .inl (_, 448, .inl k_z)), (q3, .inl (_, 448, .inl k_z))] 31 _ _
  refine nc_aload_n F dX2_init_31 rfl 0 rfl ?_
  refine nc_bipush F 12 dX2_init_32 (by decide) ?_
  refine nc_newa F (atype := .int) (ty := .int) (N := 12) (a0 := (12, .inl k_z)) 0 ac_int rfl rfl ra_int (fun _ => rfl) (by decide) (by decide) (Nat.le_of_ble_eq_true rfl) (Nat.le_of_ble_eq_true rfl) (Nat.le_of_ble_eq_true rfl) dX2_init_34 (fun q4 => ?_)
  show ncJ K _ _ _ 4 1356 [(h, .inr (2, [.null, .null, .ref q1, .ref q2, .ref q3, .null, .null, .int 0, .int 0, .int 0])), (q1, .inl (_, 448, .inl k_z)), (q2, .inl (_, 448, .inl k_z)), (q3, .inl (_, 448, .inl k_z)), (q4, .inl (_, 12, .inl k_z))] 36 _ _
  refine nc_putF F ck_2 lf_RX2_21 (by decide) rfl rfl rfl rfl 0 rfl (Nat.le_of_ble_eq_true rfl) dX2_init_36 ?_
  show ncJ K _ _ _ 4 1356 [(h, .inr (2, [.null, .null, .ref q1, .ref q2, .ref q3, .ref q4, .null, .int 0, .int 0, .int 0])), (q1, .inl (_, 448, .inl k_z)), (q2, .inl (_, 448, .inl k_z)), (q3, .inl (_, 448, .inl k_z)), (q4, .inl (_, 12, .inl k_z))] 39 _ _
  refine nc_aload_n F dX2_init_39 rfl 0 rfl ?_
  refine nc_bipush F 12 dX2_init_40 (by decide) ?_
  refine nc_newa F (atype := .int) (ty := .int) (N := 12) (a0 := (12, .inl k_z)) 0 ac_int rfl rfl ra_int (fun _ => rfl) (by decide) (by decide) (Nat.le_of_ble_eq_true rfl) (Nat.le_of_ble_eq_true rfl) (Nat.le_of_ble_eq_true rfl) dX2_init_42 (fun q5 => ?_)
  show ncJ K _ _ _ 5 1368 [(h, .inr (2, [.null, .null, .ref q1, .ref q2, .ref q3, .ref q4, .null, .int 0, .int 0, .int 0])), (q1, .inl (_, 448, .inl k_z)), (q2, .inl (_, 448, .inl k_z)), (q3, .inl (_, 448, .inl k_z)), (q4, .inl (_, 12, .inl k_z)), (q5, .inl (_, 12, .inl k_z))] 44 _ _
  refine nc_putF F ck_2 lf_RX2_24 (by decide) rfl rfl rfl rfl 0 rfl (Nat.le_of_ble_eq_true rfl) dX2_init_44 ?_
  show ncJ K _ _ _ 5 1368 [(h, .inr (2, [.null, .null, .ref q1, .ref q2, .ref q3, .ref q4, .ref q5, .int 0, .int 0, .int 0])), (q1, .inl (_, 448, .inl k_z)), (q2, .inl (_, 448, .inl k_z)), (q3, .inl (_, 448, .inl k_z)), (q4, .inl (_, 12, .inl k_z)), (q5, .inl (_, 12, .inl k_z))] 47 _ _
  refine nc_aload_n F dX2_init_47 rfl 0 rfl ?_
  refine nc_iconst F 0 dX2_init_48 (by decide) ?_
  refine nc_put F ck_2 lf_RX2_27 (by decide) rfl rfl rfl 0 rfl (Nat.le_of_ble_eq_true rfl) dX2_init_49 ?_
  show ncJ K _ _ _ 5 1368 [(h, .inr (2, [.null, .null, .ref q1, .ref q2, .ref q3, .ref q4, .ref q5, .int 0, .int 0, .int 0])), (q1, .inl (_, 448, .inl k_z)), (q2, .inl (_, 448, .inl k_z)), (q3, .inl (_, 448, .inl k_z)), (q4, .inl (_, 12, .inl k_z)), (q5, .inl (_, 12, .inl k_z))] 52 _ _
  refine nc_aload_n F dX2_init_52 rfl 0 rfl ?_
  refine nc_iconst F (-1) dX2_init_53 (by decide) ?_
  refine nc_put F ck_2 lf_RX2_31 (by decide) rfl rfl rfl 0 rfl (Nat.le_of_ble_eq_true rfl) dX2_init_54 ?_
  show ncJ K _ _ _ 5 1368 [(h, .inr (2, [.null, .null, .ref q1, .ref q2, .ref q3, .ref q4, .ref q5, .int 0, .int (-1), .int 0])), (q1, .inl (_, 448, .inl k_z)), (q2, .inl (_, 448, .inl k_z)), (q3, .inl (_, 448, .inl k_z)), (q4, .inl (_, 12, .inl k_z)), (q5, .inl (_, 12, .inl k_z))] 57 _ _
  refine nc_aload_n F dX2_init_57 rfl 0 rfl ?_
  refine nc_bipush F 13 dX2_init_58 (by decide) ?_
  refine nc_put F ck_2 lf_RX2_34 (by decide) rfl rfl rfl 0 rfl (Nat.le_of_ble_eq_true rfl) dX2_init_60 ?_
  show ncJ K _ _ _ 5 1368 [(h, .inr (2, [.null, .null, .ref q1, .ref q2, .ref q3, .ref q4, .ref q5, .int 0, .int (-1), .int 13])), (q1, .inl (_, 448, .inl k_z)), (q2, .inl (_, 448, .inl k_z)), (q3, .inl (_, 448, .inl k_z)), (q4, .inl (_, 12, .inl k_z)), (q5, .inl (_, 12, .inl k_z))] 63 _ _
  refine nc_aload_n F dX2_init_63 rfl 0 rfl ?_
  refine nc_aload_n F dX2_init_64 rfl 1 rfl ?_
  refine nc_putF F ck_2 lf_RX2_37 (by decide) rfl rfl rfl rfl 0 rfl (Nat.le_of_ble_eq_true rfl) dX2_init_65 ?_
  show ncJ K _ _ _ 5 1368 [(h, .inr (2, [.ref a1, .null, .ref q1, .ref q2, .ref q3, .ref q4, .ref q5, .int 0, .int (-1), .int 13])), (q1, .inl (_, 448, .inl k_z)), (q2, .inl (_, 448, .inl k_z)), (q3, .inl (_, 448, .inl k_z)), (q4, .inl (_, 12, .inl k_z)), (q5, .inl (_, 12, .inl k_z))] 68 _ _
  refine nc_aload_n F dX2_init_68 rfl 0 rfl ?_
  refine nc_aload_n F dX2_init_69 rfl 2 rfl ?_
  refine nc_putF F ck_2 lf_RX2_41 (by decide) rfl rfl rfl rfl 0 rfl (Nat.le_of_ble_eq_true rfl) dX2_init_70 ?_
  show ncJ K _ _ _ 5 1368 [(h, .inr (2, [.ref a1, .ref a2, .ref q1, .ref q2, .ref q3, .ref q4, .ref q5, .int 0, .int (-1), .int 13])), (q1, .inl (_, 448, .inl k_z)), (q2, .inl (_, 448, .inl k_z)), (q3, .inl (_, 448, .inl k_z)), (q4, .inl (_, 12, .inl k_z)), (q5, .inl (_, 12, .inl k_z))] 73 _ _
  exact nc_ret F [0, 1, 2, 3, 4, 5] (wr := [(h, .inr (2, [.ref a1, .ref a2, .ref q1, .ref q2, .ref q3, .ref q4, .ref q5, .int 0, .int (-1), .int 13])), (q1, .inl (_, 448, .inl k_z)), (q2, .inl (_, 448, .inl k_z)), (q3, .inl (_, 448, .inl k_z)), (q4, .inl (_, 12, .inl k_z)), (q5, .inl (_, 12, .inl k_z))]) rfl rfl ⟨q1, q2, q3, q4, q5, rfl⟩ dX2_init_73
theorem dX4_init_0 : decode cX4_init 0 = .ok (.aload_n 0, 1) := by decide +kernel
theorem dX4_init_1 : decode cX4_init 1 = .ok (.invokespecial 3, 3) := by decide +kernel
theorem dX4_init_4 : decode cX4_init 4 = .ok (.aload_n 0, 1) := by decide +kernel
theorem dX4_init_5 : decode cX4_init 5 = .ok (.bipush 12, 2) := by decide +kernel
theorem dX4_init_7 : decode cX4_init 7 = .ok (.newarray .int, 2) := by decide +kernel
theorem dX4_init_9 : decode cX4_init 9 = .ok (.putfield 9, 3) := by decide +kernel
theorem dX4_init_12 : decode cX4_init 12 = .ok (.aload_n 0, 1) := by decide +kernel
theorem dX4_init_13 : decode cX4_init 13 = .ok (.iconst 0, 1) := by decide +kernel
theorem dX4_init_14 : decode cX4_init 14 = .ok (.putfield 15, 3) := by decide +kernel
theorem dX4_init_17 : decode cX4_init 17 = .ok (.aload_n 0, 1) := by decide +kernel
theorem dX4_init_18 : decode cX4_init 18 = .ok (.iconst 3, 1) := by decide +kernel
theorem dX4_init_19 : decode cX4_init 19 = .ok (.newarray .int, 2) := by decide +kernel
theorem dX4_init_21 : decode cX4_init 21 = .ok (.putfield 19, 3) := by decide +kernel
theorem dX4_init_24 : decode cX4_init 24 = .ok (.aload_n 0, 1) := by decide +kernel
theorem dX4_init_25 : decode cX4_init 25 = .ok (.bipush 41, 2) := by decide +kernel
theorem dX4_init_27 : decode cX4_init 27 = .ok (.newarray .long, 2) := by decide +kernel
theorem dX4_init_29 : decode cX4_init 29 = .ok (.putfield 22, 3) := by decide +kernel
theorem dX4_init_32 : decode cX4_init 32 = .ok (.aload_n 0, 1) := by decide +kernel
theorem dX4_init_33 : decode cX4_init 33 = .ok (.bipush 41, 2) := by decide +kernel
theorem dX4_init_35 : decode cX4_init 35 = .ok (.newarray .long, 2) := by decide +kernel
theorem dX4_init_37 : decode cX4_init 37 = .ok (.putfield 26, 3) := by decide +kernel
theorem dX4_init_40 : decode cX4_init 40 = .ok (.aload_n 0, 1) := by decide +kernel
theorem dX4_init_41 : decode cX4_init 41 = .ok (.aload_n 1, 1) := by decide +kernel
theorem dX4_init_42 : decode cX4_init 42 = .ok (.putfield 29, 3) := by decide +kernel
theorem dX4_init_45 : decode cX4_init 45 = .ok (.return_, 1) := by decide +kernel
set_option maxRecDepth 100000 in
set_option maxHeartbeats 4000000 in
theorem c_Ri (l : Launch) (g : GG) (h a1 : Nat) : ncC l g yX4_init cX4_init 2 1 12 4 97 [.ref h, .ref a1] [(h, .inr (4, [.null, .null, .int 0, .null, .null, .null]))] (fun w1 => ∃ q1 q2 q3 q4 : Nat, w1 = [(h, .inr (4, [.ref a1, .ref q1, .int 0, .ref q2, .ref q3, .ref q4])), (q1, .inl (g.2.1.1, 12, .inl k_z)), (q2, .inl (g.2.1.1, 3, .inl k_z)), (q3, .inl (g.2.1.2.2.1, 41, .inr (.inl k_zl))), (q4, .inl (g.2.1.2.2.1, 41, .inr (.inl k_zl)))]) := by
  refine nc_of (own := RX4) (by decide) rfl rfl (Nat.le_of_ble_eq_true rfl) (fun K e1 e2 F => ?_)
  subst e1 e2
  show ncJ K _ _ _ 0 0 _ 0 [(0, .ref h), (1, .ref a1)] []
  refine nc_aload_n F dX4_init_0 rfl 0 rfl ?_
  refine nc_obj F lo_RX4_3 oi_i oi_c (Nat.le_of_ble_eq_true rfl) (Nat.le_of_ble_eq_true rfl) dX4_init_1 ?_
  refine nc_aload_n F dX4_init_4 rfl 0 rfl ?_
  refine nc_bipush F 12 dX4_init_5 (by decide) ?_
  refine nc_newa F (atype := .int) (ty := .int) (N := 12) (a0 := (12, .inl k_z)) 0 ac_int rfl rfl ra_int (fun _ => rfl) (by decide) (by decide) (Nat.le_of_ble_eq_true rfl) (Nat.le_of_ble_eq_true rfl) (Nat.le_of_ble_eq_true rfl) dX4_init_7 (fun q1 => ?_)
  show ncJ K _ _ _ 1 12 [(h, .inr (4, [.null, .null, .int 0, .null, .null, .null])), (q1, .inl (_, 12, .inl k_z))] 9 _ _
  refine nc_putF F ck_4 lf_RX4_9 (by decide) rfl rfl rfl rfl 0 rfl (Nat.le_of_ble_eq_true rfl) dX4_init_9 ?_
  show ncJ K _ _ _ 1 12 [(h, .inr (4, [.null, .ref q1, .int 0, .null, .null, .null])), (q1, .inl (_, 12, .inl k_z))] 12 _ _
  refine nc_aload_n F dX4_init_12 rfl 0 rfl ?_
  refine nc_iconst F 0 dX4_init_13 (by decide) ?_
  refine nc_put F ck_4 lf_RX4_15 (by decide) rfl rfl rfl 0 rfl (Nat.le_of_ble_eq_true rfl) dX4_init_14 ?_
  show ncJ K _ _ _ 1 12 [(h, .inr (4, [.null, .ref q1, .int 0, .null, .null, .null])), (q1, .inl (_, 12, .inl k_z))] 17 _ _
  refine nc_aload_n F dX4_init_17 rfl 0 rfl ?_
  refine nc_iconst F 3 dX4_init_18 (by decide) ?_
  refine nc_newa F (atype := .int) (ty := .int) (N := 3) (a0 := (3, .inl k_z)) 0 ac_int rfl rfl ra_int (fun _ => rfl) (by decide) (by decide) (Nat.le_of_ble_eq_true rfl) (Nat.le_of_ble_eq_true rfl) (Nat.le_of_ble_eq_true rfl) dX4_init_19 (fun q2 => ?_)
  show ncJ K _ _ _ 2 15 [(h, .inr (4, [.null, .ref q1, .int 0, .null, .null, .null])), (q1, .inl (_, 12, .inl k_z)), (q2, .inl (_, 3, .inl k_z))] 21 _ _
  refine nc_putF F ck_4 lf_RX4_19 (by decide) rfl rfl rfl rfl 0 rfl (Nat.le_of_ble_eq_true rfl) dX4_init_21 ?_
  show ncJ K _ _ _ 2 15 [(h, .inr (4, [.null, .ref q1, .int 0, .ref q2, .null, .null])), (q1, .inl (_, 12, .inl k_z)), (q2, .inl (_, 3, .inl k_z))] 24 _ _
  refine nc_aload_n F dX4_init_24 rfl 0 rfl ?_
  refine nc_bipush F 41 dX4_init_25 (by decide) ?_
  refine nc_newa F (atype := .long) (ty := .long) (N := 41) (a0 := (41, .inr (.inl k_zl))) 2 ac_long rfl rfl ra_long (fun _ => rfl) (by decide) (by decide) (Nat.le_of_ble_eq_true rfl) (Nat.le_of_ble_eq_true rfl) (Nat.le_of_ble_eq_true rfl) dX4_init_27 (fun q3 => ?_)
  show ncJ K _ _ _ 3 56 [(h, .inr (4, [.null, .ref q1, .int 0, .ref q2, .null, .null])), (q1, .inl (_, 12, .inl k_z)), (q2, .inl (_, 3, .inl k_z)), (q3, .inl (_, 41, .inr (.inl k_zl)))] 29 _ _
  refine nc_putF F ck_4 lf_RX4_22 (by decide) rfl rfl rfl rfl 0 rfl (Nat.le_of_ble_eq_true rfl) dX4_init_29 ?_
  show ncJ K _ _ _ 3 56 [(h, .inr (4, [.null, .ref q1, .int 0, .ref q2, .ref q3, .null])), (q1, .inl (_, 12, .inl k_z)), (q2, .inl (_, 3, .inl k_z)), (q3, .inl (_, 41, .inr (.inl k_zl)))] 32 _ _
  refine nc_aload_n F dX4_init_32 rfl 0 rfl ?_
  refine nc_bipush F 41 dX4_init_33 (by decide) ?_
  refine nc_newa F (atype := .long) (ty := .long) (N := 41) (a0 := (41, .inr (.inl k_zl))) 2 ac_long rfl rfl ra_long (fun _ => rfl) (by decide) (by decide) (Nat.le_of_ble_eq_true rfl) (Nat.le_of_ble_eq_true rfl) (Nat.le_of_ble_eq_true rfl) dX4_init_35 (fun q4 => ?_)
  show ncJ K _ _ _ 4 97 [(h, .inr (4, [.null, .ref q1, .int 0, .ref q2, .ref q3, .null])), (q1, .inl (_, 12, .inl k_z)), (q2, .inl (_, 3, .inl k_z)), (q3, .inl (_, 41, .inr (.inl k_zl))), (q4, .inl (_, 41, .inr (.inl k_zl)))] 37 _ _
  refine nc_putF F ck_4 lf_RX4_26 (by decide) rfl rfl rfl rfl 0 rfl (Nat.le_of_ble_eq_true rfl) dX4_init_37 ?_
  show ncJ K _ _ _ 4 97 [(h, .inr (4, [.null, .ref q1, .int 0, .ref q2, .ref q3, .ref q4])), (q1, .inl (_, 12, .inl k_z)), (q2, .inl (_, 3, .inl k_z)), (q3, .inl (_, 41, .inr (.inl k_zl))), (q4, .inl (_, 41, .inr (.inl k_zl)))] 40 _ _
  refine nc_aload_n F dX4_init_40 rfl 0 rfl ?_
  refine nc_aload_n F dX4_init_41 rfl 1 rfl ?_
  refine nc_putF F ck_4 lf_RX4_29 (by decide) rfl rfl rfl rfl 0 rfl (Nat.le_of_ble_eq_true rfl) dX4_init_42 ?_
  show ncJ K _ _ _ 4 97 [(h, .inr (4, [.ref a1, .ref q1, .int 0, .ref q2, .ref q3, .ref q4])), (q1, .inl (_, 12, .inl k_z)), (q2, .inl (_, 3, .inl k_z)), (q3, .inl (_, 41, .inr (.inl k_zl))), (q4, .inl (_, 41, .inr (.inl k_zl)))] 45 _ _
  exact nc_ret F [0, 1, 2, 3, 4] (wr := [(h, .inr (4, [.ref a1, .ref q1, .int 0, .ref q2, .ref q3, .ref q4])), (q1, .inl (_, 12, .inl k_z)), (q2, .inl (_, 3, .inl k_z)), (q3, .inl (_, 41, .inr (.inl k_zl))), (q4, .inl (_, 41, .inr (.inl k_zl)))]) rfl rfl ⟨q1, q2, q3, q4, rfl⟩ dX4_init_45
theorem dX5_init_0 : decode cX5_init 0 = .ok (.aload_n 0, 1) := by decide +kernel
theorem dX5_init_1 : decode cX5_init 1 = .ok (.invokespecial 3, 3) := by decide +kernel
theorem dX5_init_4 : decode cX5_init 4 = .ok (.aload_n 0, 1) := by decide +kernel
theorem dX5_init_5 : decode cX5_init 5 = .ok (.iconst 3, 1) := by decide +kernel
theorem dX5_init_6 : decode cX5_init 6 = .ok (.newarray .int, 2) := by decide +kernel
theorem dX5_init_8 : decode cX5_init 8 = .ok (.putfield 9, 3) := by decide +kernel
theorem dX5_init_11 : decode cX5_init 11 = .ok (.aload_n 0, 1) := by decide +kernel
theorem dX5_init_12 : decode cX5_init 12 = .ok (.iconst 2, 1) := by decide +kernel
theorem dX5_init_13 : decode cX5_init 13 = .ok (.newarray .int, 2) := by decide +kernel
theorem dX5_init_15 : decode cX5_init 15 = .ok (.putfield 15, 3) := by decide +kernel
theorem dX5_init_18 : decode cX5_init 18 = .ok (.aload_n 0, 1) := by decide +kernel
theorem dX5_init_19 : decode cX5_init 19 = .ok (.iconst 2, 1) := by decide +kernel
theorem dX5_init_20 : decode cX5_init 20 = .ok (.newarray .int, 2) := by decide +kernel
theorem dX5_init_22 : decode cX5_init 22 = .ok (.putfield 18, 3) := by decide +kernel
theorem dX5_init_25 : decode cX5_init 25 = .ok (.aload_n 0, 1) := by decide +kernel
theorem dX5_init_26 : decode cX5_init 26 = .ok (.aload_n 1, 1) := by decide +kernel
theorem dX5_init_27 : decode cX5_init 27 = .ok (.putfield 21, 3) := by decide +kernel
theorem dX5_init_30 : decode cX5_init 30 = .ok (.aload_n 0, 1) := by decide +kernel
theorem dX5_init_31 : decode cX5_init 31 = .ok (.invokevirtual 25, 3) := by decide +kernel
theorem dX5_init_34 : decode cX5_init 34 = .ok (.return_, 1) := by decide +kernel
set_option maxRecDepth 100000 in
set_option maxHeartbeats 4000000 in
theorem c_Sc (l : Launch) (g : GG) (h qL qR qT qS : Nat) : ncC l g yX5_init cX5_init 2 3 63 3 7 [.ref h, .ref qL] [(h, .inr (5, [.null, .int 0, .int 0, .int 0, .int 0, .int 0, .null, .null, .null, .int 0, .int 0, .int 0])), (qL, .inr (1, [.int 3, .int 0, .int 0, .int 5, .ref qR, .ref qT, .ref qS])), (qT, .inl (g.2.1.1, 3, .inl k_t9)), (qS, .inl (g.2.1.1, 2, .inl k_s1))] (fun w1 => ∃ (q1 q2 q3 : Nat) (w : Wd), ScX w 13 (zB 0 (fun _ => 9) (fun _ => -1)) ∧ w1 = [(h, .inr (5, [.ref qL, .int (w.1 13 1), .int (w.1 13 2), .int (w.1 13 3), .int (w.1 13 4), .int (w.1 13 5), .ref q1, .ref q2, .ref q3, .int (w.1 13 9), .int (w.1 13 10), .int (w.1 13 11)])), (qL, .inr (1, [.int 3, .int 0, .int 0, .int 5, .ref qR, .ref qT, .ref qS])), (qT, .inl (g.2.1.1, 3, .inl k_t9)), (qS, .inl (g.2.1.1, 2, .inl k_s1)), (q1, .inl (g.2.1.1, 3, .inl (w.1 14))), (q2, .inl (g.2.1.1, 2, .inl (w.1 15))), (q3, .inl (g.2.1.1, 2, .inl (w.1 16)))]) := by
  refine nc_of (own := RX5) (by decide) rfl rfl (Nat.le_of_ble_eq_true rfl) (fun K e1 e2 F => ?_)
  subst e1 e2
  show ncJ K _ _ _ 0 0 _ 0 [(0, .ref h), (1, .ref qL)] []
  refine nc_aload_n F dX5_init_0 rfl 0 rfl ?_
  refine nc_obj F lo_RX5_3 oi_i oi_c (Nat.le_of_ble_eq_true rfl) (Nat.le_of_ble_eq_true rfl) dX5_init_1 ?_
  refine nc_aload_n F dX5_init_4 rfl 0 rfl ?_
  refine nc_iconst F 3 dX5_init_5 (by decide) ?_
  refine nc_newa F (atype := .int) (ty := .int) (N := 3) (a0 := (3, .inl k_z)) 0 ac_int rfl rfl ra_int (fun _ => rfl) (by decide) (by decide) (Nat.le_of_ble_eq_true rfl) (Nat.le_of_ble_eq_true rfl) (Nat.le_of_ble_eq_true rfl) dX5_init_6 (fun q1 => ?_)
  show ncJ K _ _ _ 1 3 [(h, .inr (5, [.null, .int 0, .int 0, .int 0, .int 0, .int 0, .null, .null, .null, .int 0, .int 0, .int 0])), (qL, .inr (1, [.int 3, .int 0, .int 0, .int 5, .ref qR, .ref qT, .ref qS])), (qT, .inl (_, 3, .inl k_t9)), (qS, .inl (_, 2, .inl k_s1)), (q1, .inl (_, 3, .inl k_z))] 8 _ _
  refine nc_putF F ck_5 lf_RX5_9 (by decide) rfl rfl rfl rfl 0 rfl (Nat.le_of_ble_eq_true rfl) dX5_init_8 ?_
  show ncJ K _ _ _ 1 3 [(h, .inr (5, [.null, .int 0, .int 0, .int 0, .int 0, .int 0, .ref q1, .null, .null, .int 0, .int 0, .int 0])), (qL, .inr (1, [.int 3, .int 0, .int 0, .int 5, .ref qR, .ref qT, .ref qS])), (qT, .inl (_, 3, .inl k_t9)), (qS, .inl (_, 2, .inl k_s1)), (q1, .inl (_, 3, .inl k_z))] 11 _ _
  refine nc_aload_n F dX5_init_11 rfl 0 rfl ?_
  refine nc_iconst F 2 dX5_init_12 (by decide) ?_
  refine nc_newa F (atype := .int) (ty := .int) (N := 2) (a0 := (2, .inl k_z)) 0 ac_int rfl rfl ra_int (fun _ => rfl) (by decide) (by decide) (Nat.le_of_ble_eq_true rfl) (Nat.le_of_ble_eq_true rfl) (Nat.le_of_ble_eq_true rfl) dX5_init_13 (fun q2 => ?_)
  show ncJ K _ _ _ 2 5 [(h, .inr (5, [.null, .int 0, .int 0, .int 0, .int 0, .int 0, .ref q1, .null, .null, .int 0, .int 0, .int 0])), (qL, .inr (1, [.int 3, .int 0, .int 0, .int 5, .ref qR, .ref qT, .ref qS])), (qT, .inl (_, 3, .inl k_t9)), (qS, .inl (_, 2, .inl k_s1)), (q1, .inl (_, 3, .inl k_z)), (q2, .inl (_, 2, .inl k_z))] 15 _ _
  refine nc_putF F ck_5 lf_RX5_15 (by decide) rfl rfl rfl rfl 0 rfl (Nat.le_of_ble_eq_true rfl) dX5_init_15 ?_
  show ncJ K _ _ _ 2 5 [(h, .inr (5, [.null, .int 0, .int 0, .int 0, .int 0, .int 0, .ref q1, .ref q2, .null, .int 0, .int 0, .int 0])), (qL, .inr (1, [.int 3, .int 0, .int 0, .int 5, .ref qR, .ref qT, .ref qS])), (qT, .inl (_, 3, .inl k_t9)), (qS, .inl (_, 2, .inl k_s1)), (q1, .inl (_, 3, .inl k_z)), (q2, .inl (_, 2, .inl k_z))] 18 _ _
  refine nc_aload_n F dX5_init_18 rfl 0 rfl ?_
  refine nc_iconst F 2 dX5_init_19 (by decide) ?_
  refine nc_newa F (atype := .int) (ty := .int) (N := 2) (a0 := (2, .inl k_z)) 0 ac_int rfl rfl ra_int (fun _ => rfl) (by decide) (by decide) (Nat.le_of_ble_eq_true rfl) (Nat.le_of_ble_eq_true rfl) (Nat.le_of_ble_eq_true rfl) dX5_init_20 (fun q3 => ?_)
  show ncJ K _ _ _ 3 7 [(h, .inr (5, [.null, .int 0, .int 0, .int 0, .int 0, .int 0, .ref q1, .ref q2, .null, .int 0, .int 0, .int 0])), (qL, .inr (1, [.int 3, .int 0, .int 0, .int 5, .ref qR, .ref qT, .ref qS])), (qT, .inl (_, 3, .inl k_t9)), (qS, .inl (_, 2, .inl k_s1)), (q1, .inl (_, 3, .inl k_z)), (q2, .inl (_, 2, .inl k_z)), (q3, .inl (_, 2, .inl k_z))] 22 _ _
  refine nc_putF F ck_5 lf_RX5_18 (by decide) rfl rfl rfl rfl 0 rfl (Nat.le_of_ble_eq_true rfl) dX5_init_22 ?_
  show ncJ K _ _ _ 3 7 [(h, .inr (5, [.null, .int 0, .int 0, .int 0, .int 0, .int 0, .ref q1, .ref q2, .ref q3, .int 0, .int 0, .int 0])), (qL, .inr (1, [.int 3, .int 0, .int 0, .int 5, .ref qR, .ref qT, .ref qS])), (qT, .inl (_, 3, .inl k_t9)), (qS, .inl (_, 2, .inl k_s1)), (q1, .inl (_, 3, .inl k_z)), (q2, .inl (_, 2, .inl k_z)), (q3, .inl (_, 2, .inl k_z))] 25 _ _
  refine nc_aload_n F dX5_init_25 rfl 0 rfl ?_
  refine nc_aload_n F dX5_init_26 rfl 1 rfl ?_
  refine nc_putF F ck_5 lf_RX5_21 (by decide) rfl rfl rfl rfl 0 rfl (Nat.le_of_ble_eq_true rfl) dX5_init_27 ?_
  show ncJ K _ _ _ 3 7 [(h, .inr (5, [.ref qL, .int 0, .int 0, .int 0, .int 0, .int 0, .ref q1, .ref q2, .ref q3, .int 0, .int 0, .int 0])), (qL, .inr (1, [.int 3, .int 0, .int 0, .int 5, .ref qR, .ref qT, .ref qS])), (qT, .inl (_, 3, .inl k_t9)), (qS, .inl (_, 2, .inl k_s1)), (q1, .inl (_, 3, .inl k_z)), (q2, .inl (_, 2, .inl k_z)), (q3, .inl (_, 2, .inl k_z))] 30 _ _
  refine nc_aload_n F dX5_init_30 rfl 0 rfl ?_
  have hq := sc_begin (x := k_w13) (s0 := 0) (tk := fun _ => 9) (sk := fun _ => -1) (by decide) rfl (fun k hk => by match k, hk with | 0, _ => rfl | 1, _ => rfl | 2, _ => rfl) (fun i hi => by match i, hi with | 0, _ => rfl | 1, _ => rfl)
  obtain ⟨w, hq, hz, hu⟩ := hq
  have hE : EE (gW K.2.2.2.2.2.2.2.2.2.2.1 (fun c => ([0, 0, 0, qL, qR, qT, qS, 0, 0, 0, 0, 0, 0, h, q1, q2, q3] : List Nat).getD c 0)) ([13, 3, 5, 6, 14, 15, 16], true, k_w13) w = [(h, .inr (5, [.ref qL, .int (w.1 13 1), .int (w.1 13 2), .int (w.1 13 3), .int (w.1 13 4), .int (w.1 13 5), .ref q1, .ref q2, .ref q3, .int (w.1 13 9), .int (w.1 13 10), .int (w.1 13 11)])), (qL, .inr (1, [.int 3, .int 0, .int 0, .int 5, .ref qR, .ref qT, .ref qS])), (qT, .inl (K.2.2.2.2.2.2.2.2.2.2.1.2.1.1, 3, .inl k_t9)), (qS, .inl (K.2.2.2.2.2.2.2.2.2.2.1.2.1.1, 2, .inl k_s1)), (q1, .inl (K.2.2.2.2.2.2.2.2.2.2.1.2.1.1, 3, .inl (w.1 14))), (q2, .inl (K.2.2.2.2.2.2.2.2.2.2.1.2.1.1, 2, .inl (w.1 15))), (q3, .inl (K.2.2.2.2.2.2.2.2.2.2.1.2.1.1, 2, .inl (w.1 16)))] := by
    show ([(h, Sum.inr (5, [.ref qL, .int (w.1 13 1), .int (w.1 13 2), .int (w.1 13 3), .int (w.1 13 4), .int (w.1 13 5), .ref q1, .ref q2, .ref q3, .int (w.1 13 9), .int (w.1 13 10), .int (w.1 13 11)])), (qL, Sum.inr (1, [.int (w.1 3 0), .int (w.1 3 1), .int (w.1 3 2), .int (w.1 3 3), .ref qR, .ref qT, .ref qS])), (qT, Sum.inl (K.2.2.2.2.2.2.2.2.2.2.1.2.1.1, 3, Sum.inl (w.1 5))), (qS, Sum.inl (K.2.2.2.2.2.2.2.2.2.2.1.2.1.1, 2, Sum.inl (w.1 6))), (q1, Sum.inl (K.2.2.2.2.2.2.2.2.2.2.1.2.1.1, 3, Sum.inl (w.1 14))), (q2, Sum.inl (K.2.2.2.2.2.2.2.2.2.2.1.2.1.1, 2, Sum.inl (w.1 15))), (q3, Sum.inl (K.2.2.2.2.2.2.2.2.2.2.1.2.1.1, 2, Sum.inl (w.1 16)))] : va_W) = _
    rw [hu 3 (by omega), hu 5 (by omega), hu 6 (by omega)]
    rfl
  refine nc_callB F (f := fun c => ([0, 0, 0, qL, qR, qT, qS, 0, 0, 0, 0, 0, 0, h, q1, q2, q3] : List Nat).getD c 0) (σ := ([13, 3, 5, 6, 14, 15, 16], true, k_w13)) (w := k_w13) (w' := w) (wr := []) cb_X5_begin lm_RX5_25 (by decide) (fun hg => ct_Sc_begin hg rfl (by decide) k_w13 hq) [0, 1, 2, 3, 4, 5, 6] [] rfl rfl rfl rfl (by decide) 0 rfl ⟨_, _, rfl⟩ (Nat.le_of_ble_eq_true rfl) ⟨Nat.le_of_ble_eq_true rfl, Nat.le_of_ble_eq_true rfl⟩ ⟨Nat.le_of_ble_eq_true rfl, Nat.le_of_ble_eq_true rfl⟩ dX5_init_31 ?_
  rw [hE]
  show ncJ K _ _ _ 3 7 [(h, .inr (5, [.ref qL, .int (w.1 13 1), .int (w.1 13 2), .int (w.1 13 3), .int (w.1 13 4), .int (w.1 13 5), .ref q1, .ref q2, .ref q3, .int (w.1 13 9), .int (w.1 13 10), .int (w.1 13 11)])), (qL, .inr (1, [.int 3, .int 0, .int 0, .int 5, .ref qR, .ref qT, .ref qS])), (qT, .inl (_, 3, .inl k_t9)), (qS, .inl (_, 2, .inl k_s1)), (q1, .inl (_, 3, .inl (w.1 14))), (q2, .inl (_, 2, .inl (w.1 15))), (q3, .inl (_, 2, .inl (w.1 16)))] 34 _ _
  exact nc_ret F [0, 1, 2, 3, 4, 5, 6] (wr := [(h, .inr (5, [.ref qL, .int (w.1 13 1), .int (w.1 13 2), .int (w.1 13 3), .int (w.1 13 4), .int (w.1 13 5), .ref q1, .ref q2, .ref q3, .int (w.1 13 9), .int (w.1 13 10), .int (w.1 13 11)])), (qL, .inr (1, [.int 3, .int 0, .int 0, .int 5, .ref qR, .ref qT, .ref qS])), (qT, .inl (_, 3, .inl k_t9)), (qS, .inl (_, 2, .inl k_s1)), (q1, .inl (_, 3, .inl (w.1 14))), (q2, .inl (_, 2, .inl (w.1 15))), (q3, .inl (_, 2, .inl (w.1 16)))]) rfl rfl ⟨q1, q2, q3, w, hz, rfl⟩ dX5_init_34
