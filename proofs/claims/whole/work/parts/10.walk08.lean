theorem dX8_land_0 : decode cX8_land 0 = .ok (.aload_n 0, 1) := by decide +kernel
theorem dX8_land_1 : decode cX8_land 1 = .ok (.invokevirtual 137, 3) := by decide +kernel
theorem dX8_land_4 : decode cX8_land 4 = .ok (.iconst (-1), 1) := by decide +kernel
theorem dX8_land_5 : decode cX8_land 5 = .ok (.if_icmp .eq 6, 3) := by decide +kernel
theorem dX8_land_8 : decode cX8_land 8 = .ok (.bipush (-4), 2) := by decide +kernel
theorem dX8_land_10 : decode cX8_land 10 = .ok (.ireturn, 1) := by decide +kernel
theorem dX8_land_11 : decode cX8_land 11 = .ok (.iconst 0, 1) := by decide +kernel
theorem dX8_land_12 : decode cX8_land 12 = .ok (.istore_n 1, 1) := by decide +kernel
theorem dX8_land_13 : decode cX8_land 13 = .ok (.iload_n 1, 1) := by decide +kernel
theorem dX8_land_14 : decode cX8_land 14 = .ok (.aload_n 0, 1) := by decide +kernel
theorem dX8_land_15 : decode cX8_land 15 = .ok (.getfield 103, 3) := by decide +kernel
theorem dX8_land_18 : decode cX8_land 18 = .ok (.if_icmp .ge 17, 3) := by decide +kernel
theorem dX8_land_21 : decode cX8_land 21 = .ok (.aload_n 0, 1) := by decide +kernel
theorem dX8_land_22 : decode cX8_land 22 = .ok (.bipush 7, 2) := by decide +kernel
theorem dX8_land_24 : decode cX8_land 24 = .ok (.iload_n 1, 1) := by decide +kernel
theorem dX8_land_25 : decode cX8_land 25 = .ok (.imul, 1) := by decide +kernel
theorem dX8_land_26 : decode cX8_land 26 = .ok (.invokevirtual 140, 3) := by decide +kernel
theorem dX8_land_29 : decode cX8_land 29 = .ok (.iinc 1 1, 3) := by decide +kernel
theorem dX8_land_32 : decode cX8_land 32 = .ok (.goto (-19), 3) := by decide +kernel
theorem dX8_land_35 : decode cX8_land 35 = .ok (.aload_n 0, 1) := by decide +kernel
theorem dX8_land_36 : decode cX8_land 36 = .ok (.invokevirtual 55, 3) := by decide +kernel
theorem dX8_land_39 : decode cX8_land 39 = .ok (.aload_n 0, 1) := by decide +kernel
theorem dX8_land_40 : decode cX8_land 40 = .ok (.iconst 0, 1) := by decide +kernel
theorem dX8_land_41 : decode cX8_land 41 = .ok (.putfield 144, 3) := by decide +kernel
theorem dX8_land_44 : decode cX8_land 44 = .ok (.aload_n 0, 1) := by decide +kernel
theorem dX8_land_45 : decode cX8_land 45 = .ok (.getfield 13, 3) := by decide +kernel
theorem dX8_land_48 : decode cX8_land 48 = .ok (.iconst 0, 1) := by decide +kernel
theorem dX8_land_49 : decode cX8_land 49 = .ok (.iconst 0, 1) := by decide +kernel
theorem dX8_land_50 : decode cX8_land 50 = .ok (.bastore, 1) := by decide +kernel
theorem dX8_land_51 : decode cX8_land 51 = .ok (.aload_n 0, 1) := by decide +kernel
theorem dX8_land_52 : decode cX8_land 52 = .ok (.getfield 13, 3) := by decide +kernel
theorem dX8_land_55 : decode cX8_land 55 = .ok (.iconst 1, 1) := by decide +kernel
theorem dX8_land_56 : decode cX8_land 56 = .ok (.iconst 0, 1) := by decide +kernel
theorem dX8_land_57 : decode cX8_land 57 = .ok (.bastore, 1) := by decide +kernel
theorem dX8_land_58 : decode cX8_land 58 = .ok (.aload_n 0, 1) := by decide +kernel
theorem dX8_land_59 : decode cX8_land 59 = .ok (.iconst 0, 1) := by decide +kernel
theorem dX8_land_60 : decode cX8_land 60 = .ok (.putfield 67, 3) := by decide +kernel
theorem dX8_land_63 : decode cX8_land 63 = .ok (.aload_n 0, 1) := by decide +kernel
theorem dX8_land_64 : decode cX8_land 64 = .ok (.getfield 103, 3) := by decide +kernel
theorem dX8_land_67 : decode cX8_land 67 = .ok (.ireturn, 1) := by decide +kernel
def Mo_land_L13 (k35 : Wd → Option (Int32 × Wd)) : Nat → Wd → Int32 → Option (Int32 × Wd)
  | 0, _, _ => none
  | n + 1, w, v1 => (if (w.1 37 5) ≤ v1 then (k35 w) else (Option.bind (Mo_tell w ((7 : Int32) * v1)) (fun q4 => (Mo_land_L13 k35 n q4 (v1 + (1 : Int32))))))
set_option maxRecDepth 100000 in
set_option maxHeartbeats 4000000 in
theorem Mo_land_L13_ok {K : Ctx} (F : Fx K cX8_land 2 RX8 (some .int) 7 151 false [37, 38, 39, 40, 41, 42, 43, 44]) {k35 : Wd → Option (Int32 × Wd)} (h35 : ∀ (w : Wd), N K rtI (k35 w) w 35 [(0, .ref (gA (cg K) 37))] []) : ∀ (n : Nat) (w : Wd) (v1 : Int32), N K rtI (Mo_land_L13 k35 n w v1) w 13 [(0, .ref (gA (cg K) 37)), (1, .int v1)] [] := by
  intro n
  induction n with
  | zero => intro _ _; exact n_none
  | succ n ih =>
    intro w v1
    rw [Mo_land_L13]
    refine n_iload_n F dX8_land_13 rfl 1 rfl ?_
    refine n_aload_n F dX8_land_14 rfl 0 rfl ?_
    refine n_get F ck_8 lf_RX8_103 (by decide) fg_37_5 (by decide) dX8_land_15 ?_
    refine n_icmp_ge F 35 dX8_land_18 (by decide) (fun e3 => ?_) (fun e3 => ?_)
    · rw [if_pos e3]
      exact n_sub [0] rfl (h35 _)
    rw [if_neg e3]
    refine n_aload_n F dX8_land_21 rfl 0 rfl ?_
    refine n_bipush F (7 : Int32) dX8_land_22 (by decide) ?_
    refine n_iload_n F dX8_land_24 rfl 1 rfl ?_
    refine n_imul F dX8_land_25 ?_
    refine n_bind (fun q4 hq4 => ?_)
    refine n_callVv F cb_X8_tell lm_RX8_140 ob_37 (by decide) ⟨_, _, rfl⟩ (ct_Mo_tell (fx_ok F) (fx_sd F) (fx_ix F rfl) w ((7 : Int32) * v1) hq4) rfl rfl (Nat.le_of_ble_eq_true rfl) ⟨Nat.le_of_ble_eq_true rfl, Nat.le_of_ble_eq_true rfl⟩ dX8_land_26 ?_
    refine n_iinc F (v1 + (1 : Int32)) (lv' := [(1, .int (v1 + (1 : Int32))), (0, .ref (gA (cg K) 37))]) dX8_land_29 1 rfl rfl (by decide) rfl ?_
    refine n_goto F 13 dX8_land_32 (by decide) ?_
    exact n_sub [1, 0] rfl (ih _ _)
def Mo_land_B35 (w : Wd) : Option (Int32 × Wd) := (Option.bind (Mo_begin w) (fun q5 => some (((sI (sI (sI (sI q5 37 22 (0 : Int32)) 39 0 (vp_nar .boolean (0 : Int32))) 39 1 (vp_nar .boolean (0 : Int32))) 37 3 (0 : Int32)).1 37 5), (sI (sI (sI (sI q5 37 22 (0 : Int32)) 39 0 (vp_nar .boolean (0 : Int32))) 39 1 (vp_nar .boolean (0 : Int32))) 37 3 (0 : Int32)))))
set_option maxRecDepth 100000 in
set_option maxHeartbeats 4000000 in
theorem Mo_land_B35_ok {K : Ctx} (F : Fx K cX8_land 2 RX8 (some .int) 7 151 false [37, 38, 39, 40, 41, 42, 43, 44]) (w : Wd) : N K rtI (Mo_land_B35 w) w 35 [(0, .ref (gA (cg K) 37))] [] := by
  rw [Mo_land_B35]
  refine n_aload_n F dX8_land_35 rfl 0 rfl ?_
  refine n_bind (fun q5 hq5 => ?_)
  refine n_callVv F cb_X8_begin lm_RX8_55 ob_37 (by decide) ⟨_, _, rfl⟩ (ct_Mo_begin (fx_ok F) (fx_sd F) (fx_ix F rfl) w hq5) rfl rfl (Nat.le_of_ble_eq_true rfl) ⟨Nat.le_of_ble_eq_true rfl, Nat.le_of_ble_eq_true rfl⟩ dX8_land_36 ?_
  refine n_aload_n F dX8_land_39 rfl 0 rfl ?_
  refine n_iconst F (0 : Int32) dX8_land_40 (by decide) ?_
  refine n_put F ck_8 lf_RX8_144 (by decide) rfl fp_37_22 (by decide) rfl rfl dX8_land_41 ?_
  refine n_aload_n F dX8_land_44 rfl 0 rfl ?_
  refine n_get F ck_8 lf_RX8_13 (by decide) fg_37_1 (by decide) dX8_land_45 ?_
  refine n_iconst F (0 : Int32) dX8_land_48 (by decide) ?_
  refine n_iconst F (0 : Int32) dX8_land_49 (by decide) ?_
  refine n_zast F ar_39 (by decide) (ib_c (n := 2) (by decide)) (j := 0) (by decide) dX8_land_50 ?_
  refine n_aload_n F dX8_land_51 rfl 0 rfl ?_
  refine n_get F ck_8 lf_RX8_13 (by decide) fg_37_1 (by decide) dX8_land_52 ?_
  refine n_iconst F (1 : Int32) dX8_land_55 (by decide) ?_
  refine n_iconst F (0 : Int32) dX8_land_56 (by decide) ?_
  refine n_zast F ar_39 (by decide) (ib_c (n := 2) (by decide)) (j := 1) (by decide) dX8_land_57 ?_
  refine n_aload_n F dX8_land_58 rfl 0 rfl ?_
  refine n_iconst F (0 : Int32) dX8_land_59 (by decide) ?_
  refine n_put F ck_8 lf_RX8_67 (by decide) rfl fp_37_3 (by decide) rfl rfl dX8_land_60 ?_
  refine n_aload_n F dX8_land_63 rfl 0 rfl ?_
  refine n_get F ck_8 lf_RX8_103 (by decide) fg_37_5 (by decide) dX8_land_64 ?_
  exact n_iret F rfl rfl dX8_land_67
def Mo_land (w : Wd) : Option (Int32 × Wd) := (Option.bind (Mo_fault w) (fun q1 => (if (q1.1) = (-1 : Int32) then (Mo_land_L13 Mo_land_B35 FU (q1.2) (0 : Int32)) else some ((-4 : Int32), (q1.2)))))
set_option maxRecDepth 100000 in
set_option maxHeartbeats 4000000 in
theorem ct_Mo_land {l : Launch} {g : GG} {σ : Sd} (hg : OKg g σ) (hb : σ.2.1 = false) (hx : ∀ c ∈ ([37, 38, 39, 40, 41, 42, 43, 44] : List Nat), c ∈ σ.1) (w : Wd) {q : Int32 × Wd} (hq : Mo_land w = some q) : CT l g σ yX8_land cX8_land 2 (some .int) 7 151 [.ref (gA g 37)] w (some (.int q.1)) q.2 := by
  refine ct_of (rt := rtI) (res := Mo_land w) (q := q) (own := RX8) (b := false) hg hb hx (by decide) rfl (Nat.le_of_ble_eq_true rfl) hq (fun K e1 e2 e3 F => ?_)
  subst e1 e2 e3
  rw [Mo_land]
  show N K _ _ w 0 [(0, .ref (gA (cg K) 37))] []
  refine n_aload_n F dX8_land_0 rfl 0 rfl ?_
  refine n_bind (fun q1 hq1 => ?_)
  refine n_callVi F cb_X8_fault lm_RX8_137 ob_37 (by decide) ⟨_, _, rfl⟩ (ct_Mo_fault (fx_ok F) (fx_sd F) (fx_ix F rfl) w hq1) rfl rfl (Nat.le_of_ble_eq_true rfl) ⟨Nat.le_of_ble_eq_true rfl, Nat.le_of_ble_eq_true rfl⟩ dX8_land_1 ?_
  refine n_iconst F (-1 : Int32) dX8_land_4 (by decide) ?_
  refine n_icmp_eq F 11 dX8_land_5 (by decide) (fun e2 => ?_) (fun e2 => ?_)
  · rw [if_pos e2]
    refine n_iconst F (0 : Int32) dX8_land_11 (by decide) ?_
    refine n_istore_n F (lv' := [(1, .int (0 : Int32)), (0, .ref (gA (cg K) 37))]) dX8_land_12 rfl (by decide) rfl ?_
    exact n_sub [1, 0] rfl (Mo_land_L13_ok F (Mo_land_B35_ok F) FU _ _)
  rw [if_neg e2]
  refine n_bipush F (-4 : Int32) dX8_land_8 (by decide) ?_
  exact n_iret F rfl rfl dX8_land_10
theorem dX8_isTrain_0 : decode cX8_isTrain 0 = .ok (.iload_n 1, 1) := by decide +kernel
theorem dX8_isTrain_1 : decode cX8_isTrain 1 = .ok (.i2l, 1) := by decide +kernel
theorem dX8_isTrain_2 : decode cX8_isTrain 2 = .ok (.lconst 0, 1) := by decide +kernel
theorem dX8_isTrain_3 : decode cX8_isTrain 3 = .ok (.aload_n 0, 1) := by decide +kernel
theorem dX8_isTrain_4 : decode cX8_isTrain 4 = .ok (.getfield 131, 3) := by decide +kernel
theorem dX8_isTrain_7 : decode cX8_isTrain 7 = .ok (.iconst 1, 1) := by decide +kernel
theorem dX8_isTrain_8 : decode cX8_isTrain 8 = .ok (.isub, 1) := by decide +kernel
theorem dX8_isTrain_9 : decode cX8_isTrain 9 = .ok (.i2l, 1) := by decide +kernel
theorem dX8_isTrain_10 : decode cX8_isTrain 10 = .ok (.invokestatic 63, 3) := by decide +kernel
theorem dX8_isTrain_13 : decode cX8_isTrain 13 = .ok (.ireturn, 1) := by decide +kernel
def Mo_isTrain (w : Wd) (a1 : Int32) : Int32 := (Mo_in w (Int32.toInt64 a1) (0 : Int64) (Int32.toInt64 ((w.1 37 8) - (1 : Int32))))
set_option maxRecDepth 100000 in
set_option maxHeartbeats 4000000 in
theorem ct_Mo_isTrain {l : Launch} {g : GG} {σ : Sd} (hg : OKg g σ) (hb : σ.2.1 = false) (hx : ∀ c ∈ ([37] : List Nat), c ∈ σ.1) (w : Wd) (a1 : Int32) : CT l g σ yX8_isTrain cX8_isTrain 2 (some .boolean) 1 25 [.ref (gA g 37), .int a1] w (some (.int (Mo_isTrain w a1))) w := by
  refine ct_of (rt := (rtP w)) (res := some (Mo_isTrain w a1)) (q := (Mo_isTrain w a1)) (own := RX8) (b := false) hg hb hx (by decide) rfl (Nat.le_of_ble_eq_true rfl) rfl (fun K e1 e2 e3 F => ?_)
  subst e1 e2 e3
  rw [Mo_isTrain]
  show N K _ _ w 0 [(0, .ref (gA (cg K) 37)), (1, .int a1)] []
  refine n_iload_n F dX8_isTrain_0 rfl 1 rfl ?_
  refine n_i2l F dX8_isTrain_1 ?_
  refine n_lconst F (0 : Int64) dX8_isTrain_2 (by decide) ?_
  refine n_aload_n F dX8_isTrain_3 rfl 0 rfl ?_
  refine n_get F ck_8 lf_RX8_131 (by decide) fg_37_8 (by decide) dX8_isTrain_4 ?_
  refine n_iconst F (1 : Int32) dX8_isTrain_7 (by decide) ?_
  refine n_isub F dX8_isTrain_8 ?_
  refine n_i2l F dX8_isTrain_9 ?_
  refine n_callSi F cb_X8_in lm_RX8_63 (ct_Mo_in (fx_ok F) (fx_sd F) (fx_ix F rfl) w (Int32.toInt64 a1) (0 : Int64) (Int32.toInt64 ((w.1 37 8) - (1 : Int32)))) rfl rfl (Nat.le_of_ble_eq_true rfl) ⟨Nat.le_of_ble_eq_true rfl, Nat.le_of_ble_eq_true rfl⟩ dX8_isTrain_10 ?_
  exact n_zret F .boolean rfl (bz_n (bz_Mo_in w (Int32.toInt64 a1) (0 : Int64) (Int32.toInt64 ((w.1 37 8) - (1 : Int32))))) rfl dX8_isTrain_13
theorem bz_Mo_isTrain (w : Wd) (a1 : Int32) : (Mo_isTrain w a1) &&& (1 : Int32) = (Mo_isTrain w a1) := by
  unfold Mo_isTrain
  first | exact bz_auto | (repeat' split) <;> first | rfl | assumption | exact (bz_Mo_in w (Int32.toInt64 a1) (0 : Int64) (Int32.toInt64 ((w.1 37 8) - (1 : Int32))))
theorem dX8_isSeeker_0 : decode cX8_isSeeker 0 = .ok (.iload_n 0, 1) := by decide +kernel
theorem dX8_isSeeker_1 : decode cX8_isSeeker 1 = .ok (.i2l, 1) := by decide +kernel
theorem dX8_isSeeker_2 : decode cX8_isSeeker 2 = .ok (.lconst 0, 1) := by decide +kernel
theorem dX8_isSeeker_3 : decode cX8_isSeeker 3 = .ok (.lconst 1, 1) := by decide +kernel
theorem dX8_isSeeker_4 : decode cX8_isSeeker 4 = .ok (.invokestatic 63, 3) := by decide +kernel
theorem dX8_isSeeker_7 : decode cX8_isSeeker 7 = .ok (.ireturn, 1) := by decide +kernel
def Mo_isSeeker (w : Wd) (a1 : Int32) : Int32 := (Mo_in w (Int32.toInt64 a1) (0 : Int64) (1 : Int64))
set_option maxRecDepth 100000 in
set_option maxHeartbeats 4000000 in
theorem ct_Mo_isSeeker {l : Launch} {g : GG} {σ : Sd} (hg : OKg g σ) (hb : σ.2.1 = false) (hx : ∀ c ∈ ([] : List Nat), c ∈ σ.1) (w : Wd) (a1 : Int32) : CT l g σ yX8_isSeeker cX8_isSeeker 1 (some .boolean) 1 25 [.int a1] w (some (.int (Mo_isSeeker w a1))) w := by
  refine ct_of (rt := (rtP w)) (res := some (Mo_isSeeker w a1)) (q := (Mo_isSeeker w a1)) (own := RX8) (b := false) hg hb hx (by decide) rfl (Nat.le_of_ble_eq_true rfl) rfl (fun K e1 e2 e3 F => ?_)
  subst e1 e2 e3
  rw [Mo_isSeeker]
  show N K _ _ w 0 [(0, .int a1)] []
  refine n_iload_n F dX8_isSeeker_0 rfl 0 rfl ?_
  refine n_i2l F dX8_isSeeker_1 ?_
  refine n_lconst F (0 : Int64) dX8_isSeeker_2 (by decide) ?_
  refine n_lconst F (1 : Int64) dX8_isSeeker_3 (by decide) ?_
  refine n_callSi F cb_X8_in lm_RX8_63 (ct_Mo_in (fx_ok F) (fx_sd F) (fx_ix F rfl) w (Int32.toInt64 a1) (0 : Int64) (1 : Int64)) rfl rfl (Nat.le_of_ble_eq_true rfl) ⟨Nat.le_of_ble_eq_true rfl, Nat.le_of_ble_eq_true rfl⟩ dX8_isSeeker_4 ?_
  exact n_zret F .boolean rfl (bz_n (bz_Mo_in w (Int32.toInt64 a1) (0 : Int64) (1 : Int64))) rfl dX8_isSeeker_7
theorem bz_Mo_isSeeker (w : Wd) (a1 : Int32) : (Mo_isSeeker w a1) &&& (1 : Int32) = (Mo_isSeeker w a1) := by
  unfold Mo_isSeeker
  first | exact bz_auto | (repeat' split) <;> first | rfl | assumption | exact (bz_Mo_in w (Int32.toInt64 a1) (0 : Int64) (1 : Int64))
theorem dX8_train_0 : decode cX8_train 0 = .ok (.aload_n 0, 1) := by decide +kernel
theorem dX8_train_1 : decode cX8_train 1 = .ok (.iload_n 1, 1) := by decide +kernel
theorem dX8_train_2 : decode cX8_train 2 = .ok (.invokevirtual 147, 3) := by decide +kernel
theorem dX8_train_5 : decode cX8_train 5 = .ok (.ifCond .ne 6, 3) := by decide +kernel
theorem dX8_train_8 : decode cX8_train 8 = .ok (.bipush (-2), 2) := by decide +kernel
theorem dX8_train_10 : decode cX8_train 10 = .ok (.ireturn, 1) := by decide +kernel
theorem dX8_train_11 : decode cX8_train 11 = .ok (.iload_n 2, 1) := by decide +kernel
theorem dX8_train_12 : decode cX8_train 12 = .ok (.i2l, 1) := by decide +kernel
theorem dX8_train_13 : decode cX8_train 13 = .ok (.lconst 0, 1) := by decide +kernel
theorem dX8_train_14 : decode cX8_train 14 = .ok (.ldc2_w 150, 3) := by decide +kernel
theorem dX8_train_17 : decode cX8_train 17 = .ok (.invokestatic 63, 3) := by decide +kernel
theorem dX8_train_20 : decode cX8_train 20 = .ok (.ifCond .eq 17, 3) := by decide +kernel
theorem dX8_train_23 : decode cX8_train 23 = .ok (.aload_n 0, 1) := by decide +kernel
theorem dX8_train_24 : decode cX8_train 24 = .ok (.getfield 27, 3) := by decide +kernel
theorem dX8_train_27 : decode cX8_train 27 = .ok (.bipush 6, 2) := by decide +kernel
theorem dX8_train_29 : decode cX8_train 29 = .ok (.iload_n 1, 1) := by decide +kernel
theorem dX8_train_30 : decode cX8_train 30 = .ok (.imul, 1) := by decide +kernel
theorem dX8_train_31 : decode cX8_train 31 = .ok (.iload_n 2, 1) := by decide +kernel
theorem dX8_train_32 : decode cX8_train 32 = .ok (.iadd, 1) := by decide +kernel
theorem dX8_train_33 : decode cX8_train 33 = .ok (.iaload, 1) := by decide +kernel
theorem dX8_train_34 : decode cX8_train 34 = .ok (.goto 5, 3) := by decide +kernel
theorem dX8_train_37 : decode cX8_train 37 = .ok (.bipush (-3), 2) := by decide +kernel
theorem dX8_train_39 : decode cX8_train 39 = .ok (.ireturn, 1) := by decide +kernel
def Mo_train (w : Wd) (a1 : Int32) (a2 : Int32) : Option Int32 := (if (Mo_isTrain w a1) = (0 : Int32) then some (-2 : Int32) else (if (Mo_in w (Int32.toInt64 a2) (0 : Int64) (5 : Int64)) = (0 : Int32) then some (-3 : Int32) else (if ib (((6 : Int32) * a1) + a2) 72 = true then some (w.1 42 (Int32.toNatClampNeg (((6 : Int32) * a1) + a2))) else none)))
set_option maxRecDepth 100000 in
set_option maxHeartbeats 4000000 in
theorem ct_Mo_train {l : Launch} {g : GG} {σ : Sd} (hg : OKg g σ) (hb : σ.2.1 = false) (hx : ∀ c ∈ ([37, 42] : List Nat), c ∈ σ.1) (w : Wd) (a1 : Int32) (a2 : Int32) {q : Int32} (hq : Mo_train w a1 a2 = some q) : CT l g σ yX8_train cX8_train 3 (some .int) 2 46 [.ref (gA g 37), .int a1, .int a2] w (some (.int q)) w := by
  refine ct_of (rt := (rtP w)) (res := Mo_train w a1 a2) (q := q) (own := RX8) (b := false) hg hb hx (by decide) rfl (Nat.le_of_ble_eq_true rfl) hq (fun K e1 e2 e3 F => ?_)
  subst e1 e2 e3
  rw [Mo_train]
  show N K _ _ w 0 [(0, .ref (gA (cg K) 37)), (1, .int a1), (2, .int a2)] []
  refine n_aload_n F dX8_train_0 rfl 0 rfl ?_
  refine n_iload_n F dX8_train_1 rfl 1 rfl ?_
  refine n_callVi F cb_X8_isTrain lm_RX8_147 ob_37 (by decide) ⟨_, _, rfl⟩ (ct_Mo_isTrain (fx_ok F) (fx_sd F) (fx_ix F rfl) w a1) rfl rfl (Nat.le_of_ble_eq_true rfl) ⟨Nat.le_of_ble_eq_true rfl, Nat.le_of_ble_eq_true rfl⟩ dX8_train_2 ?_
  refine n_if_ne F 11 dX8_train_5 (by decide) (fun e1 => ?_) (fun e1 => ?_)
  · rw [if_neg e1]
    refine n_iload_n F dX8_train_11 rfl 2 rfl ?_
    refine n_i2l F dX8_train_12 ?_
    refine n_lconst F (0 : Int64) dX8_train_13 (by decide) ?_
    refine n_ldc2 F (5 : Int64) dX8_train_14 kc_RX8_150 ?_
    refine n_callSi F cb_X8_in lm_RX8_63 (ct_Mo_in (fx_ok F) (fx_sd F) (fx_ix F rfl) w (Int32.toInt64 a2) (0 : Int64) (5 : Int64)) rfl rfl (Nat.le_of_ble_eq_true rfl) ⟨Nat.le_of_ble_eq_true rfl, Nat.le_of_ble_eq_true rfl⟩ dX8_train_17 ?_
    refine n_if_eq F 37 dX8_train_20 (by decide) (fun e2 => ?_) (fun e2 => ?_)
    · rw [if_pos e2]
      refine n_bipush F (-3 : Int32) dX8_train_37 (by decide) ?_
      exact n_iret F rfl rfl dX8_train_39
    rw [if_neg e2]
    refine n_aload_n F dX8_train_23 rfl 0 rfl ?_
    refine n_get F ck_8 lf_RX8_27 (by decide) fg_37_7 (by decide) dX8_train_24 ?_
    refine n_bipush F (6 : Int32) dX8_train_27 (by decide) ?_
    refine n_iload_n F dX8_train_29 rfl 1 rfl ?_
    refine n_imul F dX8_train_30 ?_
    refine n_iload_n F dX8_train_31 rfl 2 rfl ?_
    refine n_iadd F dX8_train_32 ?_
    refine n_chk (fun e3 => ?_)
    refine n_iald F ar_42 (by decide) (ib_in e3) rfl dX8_train_33 ?_
    refine n_goto F 39 dX8_train_34 (by decide) ?_
    exact n_iret F rfl rfl dX8_train_39
  rw [if_pos e1]
  refine n_bipush F (-2 : Int32) dX8_train_8 (by decide) ?_
  exact n_iret F rfl rfl dX8_train_10
theorem dX8_leaves_0 : decode cX8_leaves 0 = .ok (.aload_n 0, 1) := by decide +kernel
theorem dX8_leaves_1 : decode cX8_leaves 1 = .ok (.getfield 27, 3) := by decide +kernel
theorem dX8_leaves_4 : decode cX8_leaves 4 = .ok (.bipush 6, 2) := by decide +kernel
theorem dX8_leaves_6 : decode cX8_leaves 6 = .ok (.iload_n 1, 1) := by decide +kernel
theorem dX8_leaves_7 : decode cX8_leaves 7 = .ok (.imul, 1) := by decide +kernel
theorem dX8_leaves_8 : decode cX8_leaves 8 = .ok (.iconst 0, 1) := by decide +kernel
theorem dX8_leaves_9 : decode cX8_leaves 9 = .ok (.iadd, 1) := by decide +kernel
theorem dX8_leaves_10 : decode cX8_leaves 10 = .ok (.iaload, 1) := by decide +kernel
theorem dX8_leaves_11 : decode cX8_leaves 11 = .ok (.iload_n 2, 1) := by decide +kernel
theorem dX8_leaves_12 : decode cX8_leaves 12 = .ok (.if_icmp .ne 34, 3) := by decide +kernel
theorem dX8_leaves_15 : decode cX8_leaves 15 = .ok (.iload_n 3, 1) := by decide +kernel
theorem dX8_leaves_16 : decode cX8_leaves 16 = .ok (.aload_n 0, 1) := by decide +kernel
theorem dX8_leaves_17 : decode cX8_leaves 17 = .ok (.getfield 27, 3) := by decide +kernel
theorem dX8_leaves_20 : decode cX8_leaves 20 = .ok (.bipush 6, 2) := by decide +kernel
theorem dX8_leaves_22 : decode cX8_leaves 22 = .ok (.iload_n 1, 1) := by decide +kernel
theorem dX8_leaves_23 : decode cX8_leaves 23 = .ok (.imul, 1) := by decide +kernel
theorem dX8_leaves_24 : decode cX8_leaves 24 = .ok (.iconst 2, 1) := by decide +kernel
theorem dX8_leaves_25 : decode cX8_leaves 25 = .ok (.iadd, 1) := by decide +kernel
theorem dX8_leaves_26 : decode cX8_leaves 26 = .ok (.iaload, 1) := by decide +kernel
theorem dX8_leaves_27 : decode cX8_leaves 27 = .ok (.irem, 1) := by decide +kernel
theorem dX8_leaves_28 : decode cX8_leaves 28 = .ok (.aload_n 0, 1) := by decide +kernel
theorem dX8_leaves_29 : decode cX8_leaves 29 = .ok (.getfield 27, 3) := by decide +kernel
theorem dX8_leaves_32 : decode cX8_leaves 32 = .ok (.bipush 6, 2) := by decide +kernel
theorem dX8_leaves_34 : decode cX8_leaves 34 = .ok (.iload_n 1, 1) := by decide +kernel
theorem dX8_leaves_35 : decode cX8_leaves 35 = .ok (.imul, 1) := by decide +kernel
theorem dX8_leaves_36 : decode cX8_leaves 36 = .ok (.iconst 3, 1) := by decide +kernel
theorem dX8_leaves_37 : decode cX8_leaves 37 = .ok (.iadd, 1) := by decide +kernel
theorem dX8_leaves_38 : decode cX8_leaves 38 = .ok (.iaload, 1) := by decide +kernel
theorem dX8_leaves_39 : decode cX8_leaves 39 = .ok (.if_icmp .ne 7, 3) := by decide +kernel
theorem dX8_leaves_42 : decode cX8_leaves 42 = .ok (.iconst 1, 1) := by decide +kernel
theorem dX8_leaves_43 : decode cX8_leaves 43 = .ok (.goto 4, 3) := by decide +kernel
theorem dX8_leaves_46 : decode cX8_leaves 46 = .ok (.iconst 0, 1) := by decide +kernel
theorem dX8_leaves_47 : decode cX8_leaves 47 = .ok (.ireturn, 1) := by decide +kernel
def Mo_leaves (w : Wd) (a1 : Int32) (a2 : Int32) (a3 : Int32) : Option Int32 := (if ib (((6 : Int32) * a1) + (0 : Int32)) 72 = true then (if (w.1 42 (Int32.toNatClampNeg (((6 : Int32) * a1) + (0 : Int32)))) = a2 then (if ib (((6 : Int32) * a1) + (2 : Int32)) 72 = true then (if ¬ (w.1 42 (Int32.toNatClampNeg (((6 : Int32) * a1) + (2 : Int32)))) = (0 : Int32) then (if ib (((6 : Int32) * a1) + (3 : Int32)) 72 = true then (if (a3 - a3 / (w.1 42 (Int32.toNatClampNeg (((6 : Int32) * a1) + (2 : Int32)))) * (w.1 42 (Int32.toNatClampNeg (((6 : Int32) * a1) + (2 : Int32))))) = (w.1 42 (Int32.toNatClampNeg (((6 : Int32) * a1) + (3 : Int32)))) then some (1 : Int32) else some (0 : Int32)) else none) else none) else none) else some (0 : Int32)) else none)
set_option maxRecDepth 100000 in
set_option maxHeartbeats 4000000 in
theorem ct_Mo_leaves {l : Launch} {g : GG} {σ : Sd} (hg : OKg g σ) (hb : σ.2.1 = false) (hx : ∀ c ∈ ([37, 42] : List Nat), c ∈ σ.1) (w : Wd) (a1 : Int32) (a2 : Int32) (a3 : Int32) {q : Int32} (hq : Mo_leaves w a1 a2 a3 = some q) : CT l g σ yX8_leaves cX8_leaves 4 (some .boolean) 0 0 [.ref (gA g 37), .int a1, .int a2, .int a3] w (some (.int q)) w := by
  refine ct_of (rt := (rtP w)) (res := Mo_leaves w a1 a2 a3) (q := q) (own := RX8) (b := false) hg hb hx (by decide) rfl (Nat.le_of_ble_eq_true rfl) hq (fun K e1 e2 e3 F => ?_)
  subst e1 e2 e3
  rw [Mo_leaves]
  show N K _ _ w 0 [(0, .ref (gA (cg K) 37)), (1, .int a1), (2, .int a2), (3, .int a3)] []
  refine n_aload_n F dX8_leaves_0 rfl 0 rfl ?_
  refine n_get F ck_8 lf_RX8_27 (by decide) fg_37_7 (by decide) dX8_leaves_1 ?_
  refine n_bipush F (6 : Int32) dX8_leaves_4 (by decide) ?_
  refine n_iload_n F dX8_leaves_6 rfl 1 rfl ?_
  refine n_imul F dX8_leaves_7 ?_
  refine n_iconst F (0 : Int32) dX8_leaves_8 (by decide) ?_
  refine n_iadd F dX8_leaves_9 ?_
  refine n_chk (fun e1 => ?_)
  refine n_iald F ar_42 (by decide) (ib_in e1) rfl dX8_leaves_10 ?_
  refine n_iload_n F dX8_leaves_11 rfl 2 rfl ?_
  refine n_icmp_ne F 46 dX8_leaves_12 (by decide) (fun e2 => ?_) (fun e2 => ?_)
  · rw [if_neg e2]
    refine n_iconst F (0 : Int32) dX8_leaves_46 (by decide) ?_
    exact n_zret F .boolean rfl rfl rfl dX8_leaves_47
  rw [if_pos e2]
  refine n_iload_n F dX8_leaves_15 rfl 3 rfl ?_
  refine n_aload_n F dX8_leaves_16 rfl 0 rfl ?_
  refine n_get F ck_8 lf_RX8_27 (by decide) fg_37_7 (by decide) dX8_leaves_17 ?_
  refine n_bipush F (6 : Int32) dX8_leaves_20 (by decide) ?_
  refine n_iload_n F dX8_leaves_22 rfl 1 rfl ?_
  refine n_imul F dX8_leaves_23 ?_
  refine n_iconst F (2 : Int32) dX8_leaves_24 (by decide) ?_
  refine n_iadd F dX8_leaves_25 ?_
  refine n_chk (fun e3 => ?_)
  refine n_iald F ar_42 (by decide) (ib_in e3) rfl dX8_leaves_26 ?_
  refine n_chk (fun e4 => ?_)
  refine n_irem F dX8_leaves_27 e4 ?_
  refine n_aload_n F dX8_leaves_28 rfl 0 rfl ?_
  refine n_get F ck_8 lf_RX8_27 (by decide) fg_37_7 (by decide) dX8_leaves_29 ?_
  refine n_bipush F (6 : Int32) dX8_leaves_32 (by decide) ?_
  refine n_iload_n F dX8_leaves_34 rfl 1 rfl ?_
  refine n_imul F dX8_leaves_35 ?_
  refine n_iconst F (3 : Int32) dX8_leaves_36 (by decide) ?_
  refine n_iadd F dX8_leaves_37 ?_
  refine n_chk (fun e5 => ?_)
  refine n_iald F ar_42 (by decide) (ib_in e5) rfl dX8_leaves_38 ?_
  refine n_icmp_ne F 46 dX8_leaves_39 (by decide) (fun e6 => ?_) (fun e6 => ?_)
  · rw [if_neg e6]
    refine n_iconst F (0 : Int32) dX8_leaves_46 (by decide) ?_
    exact n_zret F .boolean rfl rfl rfl dX8_leaves_47
  rw [if_pos e6]
  refine n_iconst F (1 : Int32) dX8_leaves_42 (by decide) ?_
  refine n_goto F 47 dX8_leaves_43 (by decide) ?_
  exact n_zret F .boolean rfl rfl rfl dX8_leaves_47
theorem dX8_runs_0 : decode cX8_runs 0 = .ok (.iload_n 1, 1) := by decide +kernel
theorem dX8_runs_1 : decode cX8_runs 1 = .ok (.i2l, 1) := by decide +kernel
theorem dX8_runs_2 : decode cX8_runs 2 = .ok (.lconst 0, 1) := by decide +kernel
theorem dX8_runs_3 : decode cX8_runs 3 = .ok (.aload_n 0, 1) := by decide +kernel
theorem dX8_runs_4 : decode cX8_runs 4 = .ok (.getfield 23, 3) := by decide +kernel
theorem dX8_runs_7 : decode cX8_runs 7 = .ok (.iconst 1, 1) := by decide +kernel
theorem dX8_runs_8 : decode cX8_runs 8 = .ok (.isub, 1) := by decide +kernel
theorem dX8_runs_9 : decode cX8_runs 9 = .ok (.i2l, 1) := by decide +kernel
theorem dX8_runs_10 : decode cX8_runs 10 = .ok (.invokestatic 63, 3) := by decide +kernel
theorem dX8_runs_13 : decode cX8_runs 13 = .ok (.ifCond .ne 6, 3) := by decide +kernel
theorem dX8_runs_16 : decode cX8_runs 16 = .ok (.bipush (-2), 2) := by decide +kernel
theorem dX8_runs_18 : decode cX8_runs 18 = .ok (.ireturn, 1) := by decide +kernel
theorem dX8_runs_19 : decode cX8_runs 19 = .ok (.iload_n 2, 1) := by decide +kernel
theorem dX8_runs_20 : decode cX8_runs 20 = .ok (.ifCond .ge 6, 3) := by decide +kernel
theorem dX8_runs_23 : decode cX8_runs 23 = .ok (.bipush (-3), 2) := by decide +kernel
theorem dX8_runs_25 : decode cX8_runs 25 = .ok (.ireturn, 1) := by decide +kernel
theorem dX8_runs_26 : decode cX8_runs 26 = .ok (.iconst 0, 1) := by decide +kernel
theorem dX8_runs_27 : decode cX8_runs 27 = .ok (.istore_n 3, 1) := by decide +kernel
theorem dX8_runs_28 : decode cX8_runs 28 = .ok (.iconst 0, 1) := by decide +kernel
theorem dX8_runs_29 : decode cX8_runs 29 = .ok (.istore 4, 2) := by decide +kernel
theorem dX8_runs_31 : decode cX8_runs 31 = .ok (.iload 4, 2) := by decide +kernel
theorem dX8_runs_33 : decode cX8_runs 33 = .ok (.aload_n 0, 1) := by decide +kernel
theorem dX8_runs_34 : decode cX8_runs 34 = .ok (.getfield 131, 3) := by decide +kernel
theorem dX8_runs_37 : decode cX8_runs 37 = .ok (.if_icmp .ge 31, 3) := by decide +kernel
theorem dX8_runs_40 : decode cX8_runs 40 = .ok (.iload_n 3, 1) := by decide +kernel
theorem dX8_runs_41 : decode cX8_runs 41 = .ok (.aload_n 0, 1) := by decide +kernel
theorem dX8_runs_42 : decode cX8_runs 42 = .ok (.iload 4, 2) := by decide +kernel
theorem dX8_runs_44 : decode cX8_runs 44 = .ok (.iload_n 1, 1) := by decide +kernel
theorem dX8_runs_45 : decode cX8_runs 45 = .ok (.iload_n 2, 1) := by decide +kernel
theorem dX8_runs_46 : decode cX8_runs 46 = .ok (.invokevirtual 152, 3) := by decide +kernel
theorem dX8_runs_49 : decode cX8_runs 49 = .ok (.ifCond .eq 10, 3) := by decide +kernel
theorem dX8_runs_52 : decode cX8_runs 52 = .ok (.iconst 1, 1) := by decide +kernel
theorem dX8_runs_53 : decode cX8_runs 53 = .ok (.iload 4, 2) := by decide +kernel
theorem dX8_runs_55 : decode cX8_runs 55 = .ok (.ishl, 1) := by decide +kernel
theorem dX8_runs_56 : decode cX8_runs 56 = .ok (.goto 4, 3) := by decide +kernel
theorem dX8_runs_59 : decode cX8_runs 59 = .ok (.iconst 0, 1) := by decide +kernel
theorem dX8_runs_60 : decode cX8_runs 60 = .ok (.ior, 1) := by decide +kernel
theorem dX8_runs_61 : decode cX8_runs 61 = .ok (.istore_n 3, 1) := by decide +kernel
theorem dX8_runs_62 : decode cX8_runs 62 = .ok (.iinc 4 1, 3) := by decide +kernel
theorem dX8_runs_65 : decode cX8_runs 65 = .ok (.goto (-34), 3) := by decide +kernel
theorem dX8_runs_68 : decode cX8_runs 68 = .ok (.iload_n 3, 1) := by decide +kernel
theorem dX8_runs_69 : decode cX8_runs 69 = .ok (.ireturn, 1) := by decide +kernel
def Mo_runs_L31 (w : Wd) (k68 : Int32 → Option Int32) : Nat → Int32 → Int32 → Int32 → Int32 → Option Int32
  | 0, _, _, _, _ => none
  | n + 1, v1, v2, v3, v4 => (if (w.1 37 8) ≤ v4 then (k68 v3) else (Option.bind (Mo_leaves w v4 v1 v2) (fun q4 => (Mo_runs_L31 w k68 n v1 v2 (if q4 = (0 : Int32) then (v3 ||| (0 : Int32)) else (v3 ||| ((1 : Int32) <<< (v4 &&& (31 : Int32))))) (v4 + (1 : Int32))))))
set_option maxRecDepth 100000 in
set_option maxHeartbeats 4000000 in
theorem Mo_runs_L31_ok {K : Ctx} (F : Fx K cX8_runs 5 RX8 (some .int) 1 25 false [37, 42]) (w : Wd) {k68 : Int32 → Option Int32} (h68 : ∀ (v3 : Int32), N K (rtP w) (k68 v3) w 68 [(3, .int v3)] []) : ∀ (n : Nat) (v1 : Int32) (v2 : Int32) (v3 : Int32) (v4 : Int32), N K (rtP w) (Mo_runs_L31 w k68 n v1 v2 v3 v4) w 31 [(0, .ref (gA (cg K) 37)), (1, .int v1), (2, .int v2), (3, .int v3), (4, .int v4)] [] := by
  intro n
  induction n with
  | zero => intro _ _ _ _; exact n_none
  | succ n ih =>
    intro v1 v2 v3 v4
    rw [Mo_runs_L31]
    refine n_iload F dX8_runs_31 4 rfl ?_
    refine n_aload_n F dX8_runs_33 rfl 0 rfl ?_
    refine n_get F ck_8 lf_RX8_131 (by decide) fg_37_8 (by decide) dX8_runs_34 ?_
    refine n_icmp_ge F 68 dX8_runs_37 (by decide) (fun e3 => ?_) (fun e3 => ?_)
    · rw [if_pos e3]
      exact n_sub [3] rfl (h68 _)
    rw [if_neg e3]
    refine n_iload_n F dX8_runs_40 rfl 3 rfl ?_
    refine n_aload_n F dX8_runs_41 rfl 0 rfl ?_
    refine n_iload F dX8_runs_42 4 rfl ?_
    refine n_iload_n F dX8_runs_44 rfl 1 rfl ?_
    refine n_iload_n F dX8_runs_45 rfl 2 rfl ?_
    refine n_bind (fun q4 hq4 => ?_)
    refine n_callVi F cb_X8_leaves lm_RX8_152 ob_37 (by decide) ⟨_, _, rfl⟩ (ct_Mo_leaves (fx_ok F) (fx_sd F) (fx_ix F rfl) w v4 v1 v2 hq4) rfl rfl (Nat.le_of_ble_eq_true rfl) ⟨Nat.le_of_ble_eq_true rfl, Nat.le_of_ble_eq_true rfl⟩ dX8_runs_46 ?_
    refine n_if_eq F 59 dX8_runs_49 (by decide) (fun e5 => ?_) (fun e5 => ?_)
    · rw [if_pos e5]
      refine n_iconst F (0 : Int32) dX8_runs_59 (by decide) ?_
      refine n_ior F dX8_runs_60 ?_
      refine n_istore_n F (lv' := [(3, .int (v3 ||| (0 : Int32))), (0, .ref (gA (cg K) 37)), (1, .int v1), (2, .int v2), (4, .int v4)]) dX8_runs_61 rfl (by decide) rfl ?_
      refine n_iinc F (v4 + (1 : Int32)) (lv' := [(4, .int (v4 + (1 : Int32))), (3, .int (v3 ||| (0 : Int32))), (0, .ref (gA (cg K) 37)), (1, .int v1), (2, .int v2)]) dX8_runs_62 4 rfl rfl (by decide) rfl ?_
      refine n_goto F 31 dX8_runs_65 (by decide) ?_
      exact n_sub [2, 3, 4, 1, 0] rfl (ih _ _ _ _)
    rw [if_neg e5]
    refine n_iconst F (1 : Int32) dX8_runs_52 (by decide) ?_
    refine n_iload F dX8_runs_53 4 rfl ?_
    refine n_ishl F dX8_runs_55 ?_
    refine n_goto F 60 dX8_runs_56 (by decide) ?_
    refine n_ior F dX8_runs_60 ?_
    refine n_istore_n F (lv' := [(3, .int (v3 ||| ((1 : Int32) <<< (v4 &&& (31 : Int32))))), (0, .ref (gA (cg K) 37)), (1, .int v1), (2, .int v2), (4, .int v4)]) dX8_runs_61 rfl (by decide) rfl ?_
    refine n_iinc F (v4 + (1 : Int32)) (lv' := [(4, .int (v4 + (1 : Int32))), (3, .int (v3 ||| ((1 : Int32) <<< (v4 &&& (31 : Int32))))), (0, .ref (gA (cg K) 37)), (1, .int v1), (2, .int v2)]) dX8_runs_62 4 rfl rfl (by decide) rfl ?_
    refine n_goto F 31 dX8_runs_65 (by decide) ?_
    exact n_sub [2, 3, 4, 1, 0] rfl (ih _ _ _ _)
def Mo_runs_B68 (w : Wd) (v3 : Int32) : Option Int32 := some v3
set_option maxRecDepth 100000 in
set_option maxHeartbeats 4000000 in
theorem Mo_runs_B68_ok {K : Ctx} (F : Fx K cX8_runs 5 RX8 (some .int) 1 25 false [37, 42]) (w : Wd) (v3 : Int32) : N K (rtP w) (Mo_runs_B68 w v3) w 68 [(3, .int v3)] [] := by
  rw [Mo_runs_B68]
  refine n_iload_n F dX8_runs_68 rfl 0 rfl ?_
  exact n_iret F rfl rfl dX8_runs_69
def Mo_runs (w : Wd) (a1 : Int32) (a2 : Int32) : Option Int32 := (if (Mo_in w (Int32.toInt64 a1) (0 : Int64) (Int32.toInt64 ((w.1 37 6) - (1 : Int32)))) = (0 : Int32) then some (-2 : Int32) else (if (0 : Int32) ≤ a2 then (Mo_runs_L31 w (Mo_runs_B68 w) FU a1 a2 (0 : Int32) (0 : Int32)) else some (-3 : Int32)))
set_option maxRecDepth 100000 in
set_option maxHeartbeats 4000000 in
theorem ct_Mo_runs {l : Launch} {g : GG} {σ : Sd} (hg : OKg g σ) (hb : σ.2.1 = false) (hx : ∀ c ∈ ([37, 42] : List Nat), c ∈ σ.1) (w : Wd) (a1 : Int32) (a2 : Int32) {q : Int32} (hq : Mo_runs w a1 a2 = some q) : CT l g σ yX8_runs cX8_runs 5 (some .int) 1 25 [.ref (gA g 37), .int a1, .int a2] w (some (.int q)) w := by
  refine ct_of (rt := (rtP w)) (res := Mo_runs w a1 a2) (q := q) (own := RX8) (b := false) hg hb hx (by decide) rfl (Nat.le_of_ble_eq_true rfl) hq (fun K e1 e2 e3 F => ?_)
  subst e1 e2 e3
  rw [Mo_runs]
  show N K _ _ w 0 [(0, .ref (gA (cg K) 37)), (1, .int a1), (2, .int a2)] []
  refine n_iload_n F dX8_runs_0 rfl 1 rfl ?_
  refine n_i2l F dX8_runs_1 ?_
  refine n_lconst F (0 : Int64) dX8_runs_2 (by decide) ?_
  refine n_aload_n F dX8_runs_3 rfl 0 rfl ?_
  refine n_get F ck_8 lf_RX8_23 (by decide) fg_37_6 (by decide) dX8_runs_4 ?_
  refine n_iconst F (1 : Int32) dX8_runs_7 (by decide) ?_
  refine n_isub F dX8_runs_8 ?_
  refine n_i2l F dX8_runs_9 ?_
  refine n_callSi F cb_X8_in lm_RX8_63 (ct_Mo_in (fx_ok F) (fx_sd F) (fx_ix F rfl) w (Int32.toInt64 a1) (0 : Int64) (Int32.toInt64 ((w.1 37 6) - (1 : Int32)))) rfl rfl (Nat.le_of_ble_eq_true rfl) ⟨Nat.le_of_ble_eq_true rfl, Nat.le_of_ble_eq_true rfl⟩ dX8_runs_10 ?_
  refine n_if_ne F 19 dX8_runs_13 (by decide) (fun e1 => ?_) (fun e1 => ?_)
  · rw [if_neg e1]
    refine n_iload_n F dX8_runs_19 rfl 2 rfl ?_
    refine n_if_ge F 26 dX8_runs_20 (by decide) (fun e2 => ?_) (fun e2 => ?_)
    · rw [if_pos e2]
      refine n_iconst F (0 : Int32) dX8_runs_26 (by decide) ?_
      refine n_istore_n F (lv' := [(3, .int (0 : Int32)), (0, .ref (gA (cg K) 37)), (1, .int a1), (2, .int a2)]) dX8_runs_27 rfl (by decide) rfl ?_
      refine n_iconst F (0 : Int32) dX8_runs_28 (by decide) ?_
      refine n_istore F (lv' := [(4, .int (0 : Int32)), (3, .int (0 : Int32)), (0, .ref (gA (cg K) 37)), (1, .int a1), (2, .int a2)]) dX8_runs_29 (by decide) rfl ?_
      exact n_sub [2, 3, 4, 1, 0] rfl (Mo_runs_L31_ok F w (Mo_runs_B68_ok F w) FU _ _ _ _)
    rw [if_neg e2]
    refine n_bipush F (-3 : Int32) dX8_runs_23 (by decide) ?_
    exact n_iret F rfl rfl dX8_runs_25
  rw [if_pos e1]
  refine n_bipush F (-2 : Int32) dX8_runs_16 (by decide) ?_
  exact n_iret F rfl rfl dX8_runs_18
theorem dX8_as_0 : decode cX8_as 0 = .ok (.aload_n 0, 1) := by decide +kernel
theorem dX8_as_1 : decode cX8_as 1 = .ok (.iload_n 1, 1) := by decide +kernel
theorem dX8_as_2 : decode cX8_as 2 = .ok (.invokevirtual 147, 3) := by decide +kernel
theorem dX8_as_5 : decode cX8_as 5 = .ok (.ifCond .ne 6, 3) := by decide +kernel
theorem dX8_as_8 : decode cX8_as 8 = .ok (.bipush (-2), 2) := by decide +kernel
theorem dX8_as_10 : decode cX8_as 10 = .ok (.ireturn, 1) := by decide +kernel
theorem dX8_as_11 : decode cX8_as 11 = .ok (.iload_n 2, 1) := by decide +kernel
theorem dX8_as_12 : decode cX8_as 12 = .ok (.i2l, 1) := by decide +kernel
theorem dX8_as_13 : decode cX8_as 13 = .ok (.lconst 0, 1) := by decide +kernel
theorem dX8_as_14 : decode cX8_as 14 = .ok (.ldc2_w 156, 3) := by decide +kernel
theorem dX8_as_17 : decode cX8_as 17 = .ok (.invokestatic 63, 3) := by decide +kernel
theorem dX8_as_20 : decode cX8_as 20 = .ok (.ifCond .ne 6, 3) := by decide +kernel
theorem dX8_as_23 : decode cX8_as 23 = .ok (.bipush (-3), 2) := by decide +kernel
theorem dX8_as_25 : decode cX8_as 25 = .ok (.ireturn, 1) := by decide +kernel
theorem dX8_as_26 : decode cX8_as 26 = .ok (.aload_n 0, 1) := by decide +kernel
theorem dX8_as_27 : decode cX8_as 27 = .ok (.getfield 27, 3) := by decide +kernel
theorem dX8_as_30 : decode cX8_as 30 = .ok (.bipush 6, 2) := by decide +kernel
theorem dX8_as_32 : decode cX8_as 32 = .ok (.iload_n 1, 1) := by decide +kernel
theorem dX8_as_33 : decode cX8_as 33 = .ok (.imul, 1) := by decide +kernel
theorem dX8_as_34 : decode cX8_as 34 = .ok (.iconst 5, 1) := by decide +kernel
theorem dX8_as_35 : decode cX8_as 35 = .ok (.iadd, 1) := by decide +kernel
theorem dX8_as_36 : decode cX8_as 36 = .ok (.iaload, 1) := by decide +kernel
theorem dX8_as_37 : decode cX8_as 37 = .ok (.istore_n 3, 1) := by decide +kernel
theorem dX8_as_38 : decode cX8_as 38 = .ok (.iload_n 2, 1) := by decide +kernel
theorem dX8_as_39 : decode cX8_as 39 = .ok (.ifCond .eq 37, 3) := by decide +kernel
theorem dX8_as_42 : decode cX8_as 42 = .ok (.iload_n 2, 1) := by decide +kernel
theorem dX8_as_43 : decode cX8_as 43 = .ok (.iconst 3, 1) := by decide +kernel
theorem dX8_as_44 : decode cX8_as 44 = .ok (.if_icmp .ge 21, 3) := by decide +kernel
theorem dX8_as_47 : decode cX8_as 47 = .ok (.aload_n 0, 1) := by decide +kernel
theorem dX8_as_48 : decode cX8_as 48 = .ok (.getfield 27, 3) := by decide +kernel
theorem dX8_as_51 : decode cX8_as 51 = .ok (.bipush 6, 2) := by decide +kernel
theorem dX8_as_53 : decode cX8_as 53 = .ok (.iload_n 1, 1) := by decide +kernel
theorem dX8_as_54 : decode cX8_as 54 = .ok (.imul, 1) := by decide +kernel
theorem dX8_as_55 : decode cX8_as 55 = .ok (.iconst 4, 1) := by decide +kernel
theorem dX8_as_56 : decode cX8_as 56 = .ok (.iadd, 1) := by decide +kernel
theorem dX8_as_57 : decode cX8_as 57 = .ok (.iaload, 1) := by decide +kernel
theorem dX8_as_58 : decode cX8_as 58 = .ok (.iload_n 2, 1) := by decide +kernel
theorem dX8_as_59 : decode cX8_as 59 = .ok (.if_icmp .ne 21, 3) := by decide +kernel
theorem dX8_as_62 : decode cX8_as 62 = .ok (.goto 14, 3) := by decide +kernel
theorem dX8_as_65 : decode cX8_as 65 = .ok (.aload_n 0, 1) := by decide +kernel
theorem dX8_as_66 : decode cX8_as 66 = .ok (.getfield 7, 3) := by decide +kernel
theorem dX8_as_69 : decode cX8_as 69 = .ok (.iconst 4, 1) := by decide +kernel
theorem dX8_as_70 : decode cX8_as 70 = .ok (.iload_n 3, 1) := by decide +kernel
theorem dX8_as_71 : decode cX8_as 71 = .ok (.iadd, 1) := by decide +kernel
theorem dX8_as_72 : decode cX8_as 72 = .ok (.iaload, 1) := by decide +kernel
theorem dX8_as_73 : decode cX8_as 73 = .ok (.ifCond .ne 7, 3) := by decide +kernel
theorem dX8_as_76 : decode cX8_as 76 = .ok (.iconst 1, 1) := by decide +kernel
theorem dX8_as_77 : decode cX8_as 77 = .ok (.goto 4, 3) := by decide +kernel
theorem dX8_as_80 : decode cX8_as 80 = .ok (.iconst 0, 1) := by decide +kernel
theorem dX8_as_81 : decode cX8_as 81 = .ok (.istore 4, 2) := by decide +kernel
theorem dX8_as_83 : decode cX8_as 83 = .ok (.iload 4, 2) := by decide +kernel
theorem dX8_as_85 : decode cX8_as 85 = .ok (.ifCond .eq 7, 3) := by decide +kernel
theorem dX8_as_88 : decode cX8_as 88 = .ok (.iload_n 3, 1) := by decide +kernel
theorem dX8_as_89 : decode cX8_as 89 = .ok (.goto 5, 3) := by decide +kernel
theorem dX8_as_92 : decode cX8_as 92 = .ok (.bipush (-4), 2) := by decide +kernel
theorem dX8_as_94 : decode cX8_as 94 = .ok (.ireturn, 1) := by decide +kernel
def Mo_as_B81 (w : Wd) (v3 : Int32) (s0 : Int32) : Option Int32 := (if s0 = (0 : Int32) then some (-4 : Int32) else some v3)
set_option maxRecDepth 100000 in
set_option maxHeartbeats 4000000 in
theorem Mo_as_B81_ok {K : Ctx} (F : Fx K cX8_as 5 RX8 (some .int) 2 46 false [37, 38, 42]) (w : Wd) (v3 : Int32) (s0 : Int32) : N K (rtP w) (Mo_as_B81 w v3 s0) w 81 [(3, .int v3)] [.int s0] := by
  rw [Mo_as_B81]
  refine n_istore F (lv' := [(4, .int s0), (3, .int v3)]) dX8_as_81 (by decide) rfl ?_
  refine n_iload F dX8_as_83 0 rfl ?_
  refine n_if_eq F 92 dX8_as_85 (by decide) (fun e5 => ?_) (fun e5 => ?_)
  · rw [if_pos e5]
    refine n_bipush F (-4 : Int32) dX8_as_92 (by decide) ?_
    exact n_iret F rfl rfl dX8_as_94
  rw [if_neg e5]
  refine n_iload_n F dX8_as_88 rfl 1 rfl ?_
  refine n_goto F 94 dX8_as_89 (by decide) ?_
  exact n_iret F rfl rfl dX8_as_94
def Mo_as (w : Wd) (a1 : Int32) (a2 : Int32) : Option Int32 := (if (Mo_isTrain w a1) = (0 : Int32) then some (-2 : Int32) else (if (Mo_in w (Int32.toInt64 a2) (0 : Int64) (3 : Int64)) = (0 : Int32) then some (-3 : Int32) else (if ib (((6 : Int32) * a1) + (5 : Int32)) 72 = true then (if a2 = (0 : Int32) then (Mo_as_B81 w (w.1 42 (Int32.toNatClampNeg (((6 : Int32) * a1) + (5 : Int32)))) (1 : Int32)) else (if (3 : Int32) ≤ a2 then (if ib ((4 : Int32) + (w.1 42 (Int32.toNatClampNeg (((6 : Int32) * a1) + (5 : Int32))))) 45 = true then (Mo_as_B81 w (w.1 42 (Int32.toNatClampNeg (((6 : Int32) * a1) + (5 : Int32)))) (if (w.1 38 (Int32.toNatClampNeg ((4 : Int32) + (w.1 42 (Int32.toNatClampNeg (((6 : Int32) * a1) + (5 : Int32))))))) = (0 : Int32) then (1 : Int32) else (0 : Int32))) else none) else (if ib (((6 : Int32) * a1) + (4 : Int32)) 72 = true then (Mo_as_B81 w (w.1 42 (Int32.toNatClampNeg (((6 : Int32) * a1) + (5 : Int32)))) (if (w.1 42 (Int32.toNatClampNeg (((6 : Int32) * a1) + (4 : Int32)))) = a2 then (1 : Int32) else (0 : Int32))) else none))) else none)))
set_option maxRecDepth 100000 in
set_option maxHeartbeats 4000000 in
theorem ct_Mo_as {l : Launch} {g : GG} {σ : Sd} (hg : OKg g σ) (hb : σ.2.1 = false) (hx : ∀ c ∈ ([37, 38, 42] : List Nat), c ∈ σ.1) (w : Wd) (a1 : Int32) (a2 : Int32) {q : Int32} (hq : Mo_as w a1 a2 = some q) : CT l g σ yX8_as cX8_as 5 (some .int) 2 46 [.ref (gA g 37), .int a1, .int a2] w (some (.int q)) w := by
  refine ct_of (rt := (rtP w)) (res := Mo_as w a1 a2) (q := q) (own := RX8) (b := false) hg hb hx (by decide) rfl (Nat.le_of_ble_eq_true rfl) hq (fun K e1 e2 e3 F => ?_)
  subst e1 e2 e3
  rw [Mo_as]
  show N K _ _ w 0 [(0, .ref (gA (cg K) 37)), (1, .int a1), (2, .int a2)] []
  refine n_aload_n F dX8_as_0 rfl 0 rfl ?_
  refine n_iload_n F dX8_as_1 rfl 1 rfl ?_
  refine n_callVi F cb_X8_isTrain lm_RX8_147 ob_37 (by decide) ⟨_, _, rfl⟩ (ct_Mo_isTrain (fx_ok F) (fx_sd F) (fx_ix F rfl) w a1) rfl rfl (Nat.le_of_ble_eq_true rfl) ⟨Nat.le_of_ble_eq_true rfl, Nat.le_of_ble_eq_true rfl⟩ dX8_as_2 ?_
  refine n_if_ne F 11 dX8_as_5 (by decide) (fun e1 => ?_) (fun e1 => ?_)
  · rw [if_neg e1]
    refine n_iload_n F dX8_as_11 rfl 2 rfl ?_
    refine n_i2l F dX8_as_12 ?_
    refine n_lconst F (0 : Int64) dX8_as_13 (by decide) ?_
    refine n_ldc2 F (3 : Int64) dX8_as_14 kc_RX8_156 ?_
    refine n_callSi F cb_X8_in lm_RX8_63 (ct_Mo_in (fx_ok F) (fx_sd F) (fx_ix F rfl) w (Int32.toInt64 a2) (0 : Int64) (3 : Int64)) rfl rfl (Nat.le_of_ble_eq_true rfl) ⟨Nat.le_of_ble_eq_true rfl, Nat.le_of_ble_eq_true rfl⟩ dX8_as_17 ?_
    refine n_if_ne F 26 dX8_as_20 (by decide) (fun e2 => ?_) (fun e2 => ?_)
    · rw [if_neg e2]
      refine n_aload_n F dX8_as_26 rfl 0 rfl ?_
      refine n_get F ck_8 lf_RX8_27 (by decide) fg_37_7 (by decide) dX8_as_27 ?_
      refine n_bipush F (6 : Int32) dX8_as_30 (by decide) ?_
      refine n_iload_n F dX8_as_32 rfl 1 rfl ?_
      refine n_imul F dX8_as_33 ?_
      refine n_iconst F (5 : Int32) dX8_as_34 (by decide) ?_
      refine n_iadd F dX8_as_35 ?_
      refine n_chk (fun e3 => ?_)
      refine n_iald F ar_42 (by decide) (ib_in e3) rfl dX8_as_36 ?_
      refine n_istore_n F (lv' := [(3, .int (w.1 42 (Int32.toNatClampNeg (((6 : Int32) * a1) + (5 : Int32))))), (0, .ref (gA (cg K) 37)), (1, .int a1), (2, .int a2)]) dX8_as_37 rfl (by decide) rfl ?_
      refine n_iload_n F dX8_as_38 rfl 3 rfl ?_
      refine n_if_eq F 76 dX8_as_39 (by decide) (fun e4 => ?_) (fun e4 => ?_)
      · rw [if_pos e4]
        refine n_iconst F (1 : Int32) dX8_as_76 (by decide) ?_
        refine n_goto F 81 dX8_as_77 (by decide) ?_
        exact n_sub [0] rfl (Mo_as_B81_ok F w _ _)
      rw [if_neg e4]
      refine n_iload_n F dX8_as_42 rfl 3 rfl ?_
      refine n_iconst F (3 : Int32) dX8_as_43 (by decide) ?_
      refine n_icmp_ge F 65 dX8_as_44 (by decide) (fun e6 => ?_) (fun e6 => ?_)
      · rw [if_pos e6]
        refine n_aload_n F dX8_as_65 rfl 1 rfl ?_
        refine n_get F ck_8 lf_RX8_7 (by decide) fg_37_0 (by decide) dX8_as_66 ?_
        refine n_iconst F (4 : Int32) dX8_as_69 (by decide) ?_
        refine n_iload_n F dX8_as_70 rfl 0 rfl ?_
        refine n_iadd F dX8_as_71 ?_
        refine n_chk (fun e7 => ?_)
        refine n_iald F ar_38 (by decide) (ib_in e7) rfl dX8_as_72 ?_
        refine n_if_ne F 80 dX8_as_73 (by decide) (fun e8 => ?_) (fun e8 => ?_)
        · rw [if_neg e8]
          refine n_iconst F (0 : Int32) dX8_as_80 (by decide) ?_
          exact n_sub [0] rfl (Mo_as_B81_ok F w _ _)
        rw [if_pos e8]
        refine n_iconst F (1 : Int32) dX8_as_76 (by decide) ?_
        refine n_goto F 81 dX8_as_77 (by decide) ?_
        exact n_sub [0] rfl (Mo_as_B81_ok F w _ _)
      rw [if_neg e6]
      refine n_aload_n F dX8_as_47 rfl 1 rfl ?_
      refine n_get F ck_8 lf_RX8_27 (by decide) fg_37_7 (by decide) dX8_as_48 ?_
      refine n_bipush F (6 : Int32) dX8_as_51 (by decide) ?_
      refine n_iload_n F dX8_as_53 rfl 2 rfl ?_
      refine n_imul F dX8_as_54 ?_
      refine n_iconst F (4 : Int32) dX8_as_55 (by decide) ?_
      refine n_iadd F dX8_as_56 ?_
      refine n_chk (fun e9 => ?_)
      refine n_iald F ar_42 (by decide) (ib_in e9) rfl dX8_as_57 ?_
      refine n_iload_n F dX8_as_58 rfl 3 rfl ?_
      refine n_icmp_ne F 80 dX8_as_59 (by decide) (fun e10 => ?_) (fun e10 => ?_)
      · rw [if_neg e10]
        refine n_iconst F (0 : Int32) dX8_as_80 (by decide) ?_
        exact n_sub [0] rfl (Mo_as_B81_ok F w _ _)
      rw [if_pos e10]
      refine n_goto F 76 dX8_as_62 (by decide) ?_
      refine n_iconst F (1 : Int32) dX8_as_76 (by decide) ?_
      refine n_goto F 81 dX8_as_77 (by decide) ?_
      exact n_sub [0] rfl (Mo_as_B81_ok F w _ _)
    rw [if_pos e2]
    refine n_bipush F (-3 : Int32) dX8_as_23 (by decide) ?_
    exact n_iret F rfl rfl dX8_as_25
  rw [if_pos e1]
  refine n_bipush F (-2 : Int32) dX8_as_8 (by decide) ?_
  exact n_iret F rfl rfl dX8_as_10
theorem dX8_ridable_0 : decode cX8_ridable 0 = .ok (.iconst 0, 1) := by decide +kernel
theorem dX8_ridable_1 : decode cX8_ridable 1 = .ok (.istore_n 2, 1) := by decide +kernel
theorem dX8_ridable_2 : decode cX8_ridable 2 = .ok (.iconst 0, 1) := by decide +kernel
theorem dX8_ridable_3 : decode cX8_ridable 3 = .ok (.istore_n 3, 1) := by decide +kernel
theorem dX8_ridable_4 : decode cX8_ridable 4 = .ok (.iload_n 3, 1) := by decide +kernel
theorem dX8_ridable_5 : decode cX8_ridable 5 = .ok (.aload_n 0, 1) := by decide +kernel
theorem dX8_ridable_6 : decode cX8_ridable 6 = .ok (.getfield 131, 3) := by decide +kernel
theorem dX8_ridable_9 : decode cX8_ridable 9 = .ok (.if_icmp .ge 55, 3) := by decide +kernel
theorem dX8_ridable_12 : decode cX8_ridable 12 = .ok (.iload_n 2, 1) := by decide +kernel
theorem dX8_ridable_13 : decode cX8_ridable 13 = .ok (.aload_n 0, 1) := by decide +kernel
theorem dX8_ridable_14 : decode cX8_ridable 14 = .ok (.iload_n 3, 1) := by decide +kernel
theorem dX8_ridable_15 : decode cX8_ridable 15 = .ok (.iload_n 1, 1) := by decide +kernel
theorem dX8_ridable_16 : decode cX8_ridable 16 = .ok (.aload_n 0, 1) := by decide +kernel
theorem dX8_ridable_17 : decode cX8_ridable 17 = .ok (.getfield 7, 3) := by decide +kernel
theorem dX8_ridable_20 : decode cX8_ridable 20 = .ok (.iconst 0, 1) := by decide +kernel
theorem dX8_ridable_21 : decode cX8_ridable 21 = .ok (.iaload, 1) := by decide +kernel
theorem dX8_ridable_22 : decode cX8_ridable 22 = .ok (.invokevirtual 152, 3) := by decide +kernel
theorem dX8_ridable_25 : decode cX8_ridable 25 = .ok (.ifCond .eq 30, 3) := by decide +kernel
theorem dX8_ridable_28 : decode cX8_ridable 28 = .ok (.aload_n 0, 1) := by decide +kernel
theorem dX8_ridable_29 : decode cX8_ridable 29 = .ok (.getfield 7, 3) := by decide +kernel
theorem dX8_ridable_32 : decode cX8_ridable 32 = .ok (.iconst 4, 1) := by decide +kernel
theorem dX8_ridable_33 : decode cX8_ridable 33 = .ok (.aload_n 0, 1) := by decide +kernel
theorem dX8_ridable_34 : decode cX8_ridable 34 = .ok (.getfield 27, 3) := by decide +kernel
theorem dX8_ridable_37 : decode cX8_ridable 37 = .ok (.bipush 6, 2) := by decide +kernel
theorem dX8_ridable_39 : decode cX8_ridable 39 = .ok (.iload_n 3, 1) := by decide +kernel
theorem dX8_ridable_40 : decode cX8_ridable 40 = .ok (.imul, 1) := by decide +kernel
theorem dX8_ridable_41 : decode cX8_ridable 41 = .ok (.iconst 5, 1) := by decide +kernel
theorem dX8_ridable_42 : decode cX8_ridable 42 = .ok (.iadd, 1) := by decide +kernel
theorem dX8_ridable_43 : decode cX8_ridable 43 = .ok (.iaload, 1) := by decide +kernel
theorem dX8_ridable_44 : decode cX8_ridable 44 = .ok (.iadd, 1) := by decide +kernel
theorem dX8_ridable_45 : decode cX8_ridable 45 = .ok (.iaload, 1) := by decide +kernel
theorem dX8_ridable_46 : decode cX8_ridable 46 = .ok (.ifCond .le 9, 3) := by decide +kernel
theorem dX8_ridable_49 : decode cX8_ridable 49 = .ok (.iconst 1, 1) := by decide +kernel
theorem dX8_ridable_50 : decode cX8_ridable 50 = .ok (.iload_n 3, 1) := by decide +kernel
theorem dX8_ridable_51 : decode cX8_ridable 51 = .ok (.ishl, 1) := by decide +kernel
theorem dX8_ridable_52 : decode cX8_ridable 52 = .ok (.goto 4, 3) := by decide +kernel
theorem dX8_ridable_55 : decode cX8_ridable 55 = .ok (.iconst 0, 1) := by decide +kernel
theorem dX8_ridable_56 : decode cX8_ridable 56 = .ok (.ior, 1) := by decide +kernel
theorem dX8_ridable_57 : decode cX8_ridable 57 = .ok (.istore_n 2, 1) := by decide +kernel
theorem dX8_ridable_58 : decode cX8_ridable 58 = .ok (.iinc 3 1, 3) := by decide +kernel
theorem dX8_ridable_61 : decode cX8_ridable 61 = .ok (.goto (-57), 3) := by decide +kernel
theorem dX8_ridable_64 : decode cX8_ridable 64 = .ok (.iload_n 2, 1) := by decide +kernel
theorem dX8_ridable_65 : decode cX8_ridable 65 = .ok (.ireturn, 1) := by decide +kernel
def Mo_ridable_L4 (w : Wd) (k64 : Int32 → Option Int32) : Nat → Int32 → Int32 → Int32 → Option Int32
  | 0, _, _, _ => none
  | n + 1, v1, v2, v3 => (if (w.1 37 8) ≤ v3 then (k64 v2) else (Option.bind (Mo_leaves w v3 v1 (w.1 38 0)) (fun q2 => (if q2 = (0 : Int32) then (Mo_ridable_L4 w k64 n v1 (v2 ||| (0 : Int32)) (v3 + (1 : Int32))) else (if ib (((6 : Int32) * v3) + (5 : Int32)) 72 = true then (if ib ((4 : Int32) + (w.1 42 (Int32.toNatClampNeg (((6 : Int32) * v3) + (5 : Int32))))) 45 = true then (Mo_ridable_L4 w k64 n v1 (if (w.1 38 (Int32.toNatClampNeg ((4 : Int32) + (w.1 42 (Int32.toNatClampNeg (((6 : Int32) * v3) + (5 : Int32))))))) ≤ (0 : Int32) then (v2 ||| (0 : Int32)) else (v2 ||| ((1 : Int32) <<< (v3 &&& (31 : Int32))))) (v3 + (1 : Int32))) else none) else none)))))
set_option maxRecDepth 100000 in
set_option maxHeartbeats 4000000 in
theorem Mo_ridable_L4_ok {K : Ctx} (F : Fx K cX8_ridable 4 RX8 (some .int) 1 23 false [37, 38, 42]) (w : Wd) {k64 : Int32 → Option Int32} (h64 : ∀ (v2 : Int32), N K (rtP w) (k64 v2) w 64 [(2, .int v2)] []) : ∀ (n : Nat) (v1 : Int32) (v2 : Int32) (v3 : Int32), N K (rtP w) (Mo_ridable_L4 w k64 n v1 v2 v3) w 4 [(0, .ref (gA (cg K) 37)), (1, .int v1), (2, .int v2), (3, .int v3)] [] := by
  intro n
  induction n with
  | zero => intro _ _ _; exact n_none
  | succ n ih =>
    intro v1 v2 v3
    rw [Mo_ridable_L4]
    refine n_iload_n F dX8_ridable_4 rfl 3 rfl ?_
    refine n_aload_n F dX8_ridable_5 rfl 0 rfl ?_
    refine n_get F ck_8 lf_RX8_131 (by decide) fg_37_8 (by decide) dX8_ridable_6 ?_
    refine n_icmp_ge F 64 dX8_ridable_9 (by decide) (fun e1 => ?_) (fun e1 => ?_)
    · rw [if_pos e1]
      exact n_sub [2] rfl (h64 _)
    rw [if_neg e1]
    refine n_iload_n F dX8_ridable_12 rfl 2 rfl ?_
    refine n_aload_n F dX8_ridable_13 rfl 0 rfl ?_
    refine n_iload_n F dX8_ridable_14 rfl 3 rfl ?_
    refine n_iload_n F dX8_ridable_15 rfl 1 rfl ?_
    refine n_aload_n F dX8_ridable_16 rfl 0 rfl ?_
    refine n_get F ck_8 lf_RX8_7 (by decide) fg_37_0 (by decide) dX8_ridable_17 ?_
    refine n_iconst F (0 : Int32) dX8_ridable_20 (by decide) ?_
    refine n_iald F ar_38 (by decide) (ib_c (n := 45) (by decide)) (j := 0) (by decide) dX8_ridable_21 ?_
    refine n_bind (fun q2 hq2 => ?_)
    refine n_callVi F cb_X8_leaves lm_RX8_152 ob_37 (by decide) ⟨_, _, rfl⟩ (ct_Mo_leaves (fx_ok F) (fx_sd F) (fx_ix F rfl) w v3 v1 (w.1 38 0) hq2) rfl rfl (Nat.le_of_ble_eq_true rfl) ⟨Nat.le_of_ble_eq_true rfl, Nat.le_of_ble_eq_true rfl⟩ dX8_ridable_22 ?_
    refine n_if_eq F 55 dX8_ridable_25 (by decide) (fun e3 => ?_) (fun e3 => ?_)
    · rw [if_pos e3]
      refine n_iconst F (0 : Int32) dX8_ridable_55 (by decide) ?_
      refine n_ior F dX8_ridable_56 ?_
      refine n_istore_n F (lv' := [(2, .int (v2 ||| (0 : Int32))), (0, .ref (gA (cg K) 37)), (1, .int v1), (3, .int v3)]) dX8_ridable_57 rfl (by decide) rfl ?_
      refine n_iinc F (v3 + (1 : Int32)) (lv' := [(3, .int (v3 + (1 : Int32))), (2, .int (v2 ||| (0 : Int32))), (0, .ref (gA (cg K) 37)), (1, .int v1)]) dX8_ridable_58 3 rfl rfl (by decide) rfl ?_
      refine n_goto F 4 dX8_ridable_61 (by decide) ?_
      exact n_sub [2, 3, 1, 0] rfl (ih _ _ _)
    rw [if_neg e3]
    refine n_aload_n F dX8_ridable_28 rfl 0 rfl ?_
    refine n_get F ck_8 lf_RX8_7 (by decide) fg_37_0 (by decide) dX8_ridable_29 ?_
    refine n_iconst F (4 : Int32) dX8_ridable_32 (by decide) ?_
    refine n_aload_n F dX8_ridable_33 rfl 0 rfl ?_
    refine n_get F ck_8 lf_RX8_27 (by decide) fg_37_7 (by decide) dX8_ridable_34 ?_
    refine n_bipush F (6 : Int32) dX8_ridable_37 (by decide) ?_
    refine n_iload_n F dX8_ridable_39 rfl 3 rfl ?_
    refine n_imul F dX8_ridable_40 ?_
    refine n_iconst F (5 : Int32) dX8_ridable_41 (by decide) ?_
    refine n_iadd F dX8_ridable_42 ?_
    refine n_chk (fun e4 => ?_)
    refine n_iald F ar_42 (by decide) (ib_in e4) rfl dX8_ridable_43 ?_
    refine n_iadd F dX8_ridable_44 ?_
    refine n_chk (fun e5 => ?_)
    refine n_iald F ar_38 (by decide) (ib_in e5) rfl dX8_ridable_45 ?_
    refine n_if_le F 55 dX8_ridable_46 (by decide) (fun e6 => ?_) (fun e6 => ?_)
    · rw [if_pos e6]
      refine n_iconst F (0 : Int32) dX8_ridable_55 (by decide) ?_
      refine n_ior F dX8_ridable_56 ?_
      refine n_istore_n F (lv' := [(2, .int (v2 ||| (0 : Int32))), (0, .ref (gA (cg K) 37)), (1, .int v1), (3, .int v3)]) dX8_ridable_57 rfl (by decide) rfl ?_
      refine n_iinc F (v3 + (1 : Int32)) (lv' := [(3, .int (v3 + (1 : Int32))), (2, .int (v2 ||| (0 : Int32))), (0, .ref (gA (cg K) 37)), (1, .int v1)]) dX8_ridable_58 3 rfl rfl (by decide) rfl ?_
      refine n_goto F 4 dX8_ridable_61 (by decide) ?_
      exact n_sub [2, 3, 1, 0] rfl (ih _ _ _)
    rw [if_neg e6]
    refine n_iconst F (1 : Int32) dX8_ridable_49 (by decide) ?_
    refine n_iload_n F dX8_ridable_50 rfl 3 rfl ?_
    refine n_ishl F dX8_ridable_51 ?_
    refine n_goto F 56 dX8_ridable_52 (by decide) ?_
    refine n_ior F dX8_ridable_56 ?_
    refine n_istore_n F (lv' := [(2, .int (v2 ||| ((1 : Int32) <<< (v3 &&& (31 : Int32))))), (0, .ref (gA (cg K) 37)), (1, .int v1), (3, .int v3)]) dX8_ridable_57 rfl (by decide) rfl ?_
    refine n_iinc F (v3 + (1 : Int32)) (lv' := [(3, .int (v3 + (1 : Int32))), (2, .int (v2 ||| ((1 : Int32) <<< (v3 &&& (31 : Int32))))), (0, .ref (gA (cg K) 37)), (1, .int v1)]) dX8_ridable_58 3 rfl rfl (by decide) rfl ?_
    refine n_goto F 4 dX8_ridable_61 (by decide) ?_
    exact n_sub [2, 3, 1, 0] rfl (ih _ _ _)
def Mo_ridable_B64 (w : Wd) (v2 : Int32) : Option Int32 := some v2
set_option maxRecDepth 100000 in
set_option maxHeartbeats 4000000 in
theorem Mo_ridable_B64_ok {K : Ctx} (F : Fx K cX8_ridable 4 RX8 (some .int) 1 23 false [37, 38, 42]) (w : Wd) (v2 : Int32) : N K (rtP w) (Mo_ridable_B64 w v2) w 64 [(2, .int v2)] [] := by
  rw [Mo_ridable_B64]
  refine n_iload_n F dX8_ridable_64 rfl 0 rfl ?_
  exact n_iret F rfl rfl dX8_ridable_65
def Mo_ridable (w : Wd) (a1 : Int32) : Option Int32 := (Mo_ridable_L4 w (Mo_ridable_B64 w) FU a1 (0 : Int32) (0 : Int32))
set_option maxRecDepth 100000 in
set_option maxHeartbeats 4000000 in
theorem ct_Mo_ridable {l : Launch} {g : GG} {σ : Sd} (hg : OKg g σ) (hb : σ.2.1 = false) (hx : ∀ c ∈ ([37, 38, 42] : List Nat), c ∈ σ.1) (w : Wd) (a1 : Int32) {q : Int32} (hq : Mo_ridable w a1 = some q) : CT l g σ yX8_ridable cX8_ridable 4 (some .int) 1 23 [.ref (gA g 37), .int a1] w (some (.int q)) w := by
  refine ct_of (rt := (rtP w)) (res := Mo_ridable w a1) (q := q) (own := RX8) (b := false) hg hb hx (by decide) rfl (Nat.le_of_ble_eq_true rfl) hq (fun K e1 e2 e3 F => ?_)
  subst e1 e2 e3
  rw [Mo_ridable]
  show N K _ _ w 0 [(0, .ref (gA (cg K) 37)), (1, .int a1)] []
  refine n_iconst F (0 : Int32) dX8_ridable_0 (by decide) ?_
  refine n_istore_n F (lv' := [(2, .int (0 : Int32)), (0, .ref (gA (cg K) 37)), (1, .int a1)]) dX8_ridable_1 rfl (by decide) rfl ?_
  refine n_iconst F (0 : Int32) dX8_ridable_2 (by decide) ?_
  refine n_istore_n F (lv' := [(3, .int (0 : Int32)), (2, .int (0 : Int32)), (0, .ref (gA (cg K) 37)), (1, .int a1)]) dX8_ridable_3 rfl (by decide) rfl ?_
  exact n_sub [2, 3, 1, 0] rfl (Mo_ridable_L4_ok F w (Mo_ridable_B64_ok F w) FU _ _ _)
theorem dX8_hisTrains_0 : decode cX8_hisTrains 0 = .ok (.aload_n 0, 1) := by decide +kernel
theorem dX8_hisTrains_1 : decode cX8_hisTrains 1 = .ok (.getfield 7, 3) := by decide +kernel
theorem dX8_hisTrains_4 : decode cX8_hisTrains 4 = .ok (.iconst 2, 1) := by decide +kernel
theorem dX8_hisTrains_5 : decode cX8_hisTrains 5 = .ok (.iaload, 1) := by decide +kernel
theorem dX8_hisTrains_6 : decode cX8_hisTrains 6 = .ok (.iconst 1, 1) := by decide +kernel
theorem dX8_hisTrains_7 : decode cX8_hisTrains 7 = .ok (.if_icmp .eq 13, 3) := by decide +kernel
theorem dX8_hisTrains_10 : decode cX8_hisTrains 10 = .ok (.aload_n 0, 1) := by decide +kernel
theorem dX8_hisTrains_11 : decode cX8_hisTrains 11 = .ok (.getfield 7, 3) := by decide +kernel
theorem dX8_hisTrains_14 : decode cX8_hisTrains 14 = .ok (.iconst 3, 1) := by decide +kernel
theorem dX8_hisTrains_15 : decode cX8_hisTrains 15 = .ok (.iaload, 1) := by decide +kernel
theorem dX8_hisTrains_16 : decode cX8_hisTrains 16 = .ok (.iconst 1, 1) := by decide +kernel
theorem dX8_hisTrains_17 : decode cX8_hisTrains 17 = .ok (.if_icmp .ne 7, 3) := by decide +kernel
theorem dX8_hisTrains_20 : decode cX8_hisTrains 20 = .ok (.iconst 0, 1) := by decide +kernel
theorem dX8_hisTrains_21 : decode cX8_hisTrains 21 = .ok (.goto 13, 3) := by decide +kernel
theorem dX8_hisTrains_24 : decode cX8_hisTrains 24 = .ok (.aload_n 0, 1) := by decide +kernel
theorem dX8_hisTrains_25 : decode cX8_hisTrains 25 = .ok (.aload_n 0, 1) := by decide +kernel
theorem dX8_hisTrains_26 : decode cX8_hisTrains 26 = .ok (.getfield 7, 3) := by decide +kernel
theorem dX8_hisTrains_29 : decode cX8_hisTrains 29 = .ok (.iconst 1, 1) := by decide +kernel
theorem dX8_hisTrains_30 : decode cX8_hisTrains 30 = .ok (.iaload, 1) := by decide +kernel
theorem dX8_hisTrains_31 : decode cX8_hisTrains 31 = .ok (.invokevirtual 158, 3) := by decide +kernel
theorem dX8_hisTrains_34 : decode cX8_hisTrains 34 = .ok (.ireturn, 1) := by decide +kernel
def Mo_hisTrains (w : Wd) : Option Int32 := (if (w.1 38 2) = (1 : Int32) then some (0 : Int32) else (if (w.1 38 3) = (1 : Int32) then some (0 : Int32) else (Option.bind (Mo_ridable w (w.1 38 1)) (fun q3 => some q3))))
set_option maxRecDepth 100000 in
set_option maxHeartbeats 4000000 in
theorem ct_Mo_hisTrains {l : Launch} {g : GG} {σ : Sd} (hg : OKg g σ) (hb : σ.2.1 = false) (hx : ∀ c ∈ ([37, 38, 42] : List Nat), c ∈ σ.1) (w : Wd) {q : Int32} (hq : Mo_hisTrains w = some q) : CT l g σ yX8_hisTrains cX8_hisTrains 1 (some .int) 2 46 [.ref (gA g 37)] w (some (.int q)) w := by
  refine ct_of (rt := (rtP w)) (res := Mo_hisTrains w) (q := q) (own := RX8) (b := false) hg hb hx (by decide) rfl (Nat.le_of_ble_eq_true rfl) hq (fun K e1 e2 e3 F => ?_)
  subst e1 e2 e3
  rw [Mo_hisTrains]
  show N K _ _ w 0 [(0, .ref (gA (cg K) 37))] []
  refine n_aload_n F dX8_hisTrains_0 rfl 0 rfl ?_
  refine n_get F ck_8 lf_RX8_7 (by decide) fg_37_0 (by decide) dX8_hisTrains_1 ?_
  refine n_iconst F (2 : Int32) dX8_hisTrains_4 (by decide) ?_
  refine n_iald F ar_38 (by decide) (ib_c (n := 45) (by decide)) (j := 2) (by decide) dX8_hisTrains_5 ?_
  refine n_iconst F (1 : Int32) dX8_hisTrains_6 (by decide) ?_
  refine n_icmp_eq F 20 dX8_hisTrains_7 (by decide) (fun e1 => ?_) (fun e1 => ?_)
  · rw [if_pos e1]
    refine n_iconst F (0 : Int32) dX8_hisTrains_20 (by decide) ?_
    refine n_goto F 34 dX8_hisTrains_21 (by decide) ?_
    exact n_iret F rfl rfl dX8_hisTrains_34
  rw [if_neg e1]
  refine n_aload_n F dX8_hisTrains_10 rfl 0 rfl ?_
  refine n_get F ck_8 lf_RX8_7 (by decide) fg_37_0 (by decide) dX8_hisTrains_11 ?_
  refine n_iconst F (3 : Int32) dX8_hisTrains_14 (by decide) ?_
  refine n_iald F ar_38 (by decide) (ib_c (n := 45) (by decide)) (j := 3) (by decide) dX8_hisTrains_15 ?_
  refine n_iconst F (1 : Int32) dX8_hisTrains_16 (by decide) ?_
  refine n_icmp_ne F 24 dX8_hisTrains_17 (by decide) (fun e2 => ?_) (fun e2 => ?_)
  · rw [if_neg e2]
    refine n_aload_n F dX8_hisTrains_24 rfl 0 rfl ?_
    refine n_aload_n F dX8_hisTrains_25 rfl 0 rfl ?_
    refine n_get F ck_8 lf_RX8_7 (by decide) fg_37_0 (by decide) dX8_hisTrains_26 ?_
    refine n_iconst F (1 : Int32) dX8_hisTrains_29 (by decide) ?_
    refine n_iald F ar_38 (by decide) (ib_c (n := 45) (by decide)) (j := 1) (by decide) dX8_hisTrains_30 ?_
    refine n_bind (fun q3 hq3 => ?_)
    refine n_callVi F cb_X8_ridable lm_RX8_158 ob_37 (by decide) ⟨_, _, rfl⟩ (ct_Mo_ridable (fx_ok F) (fx_sd F) (fx_ix F rfl) w (w.1 38 1) hq3) rfl rfl (Nat.le_of_ble_eq_true rfl) ⟨Nat.le_of_ble_eq_true rfl, Nat.le_of_ble_eq_true rfl⟩ dX8_hisTrains_31 ?_
    exact n_iret F rfl rfl dX8_hisTrains_34
  rw [if_pos e2]
  refine n_iconst F (0 : Int32) dX8_hisTrains_20 (by decide) ?_
  refine n_goto F 34 dX8_hisTrains_21 (by decide) ?_
  exact n_iret F rfl rfl dX8_hisTrains_34
theorem dX8_ride_0 : decode cX8_ride 0 = .ok (.aload_n 0, 1) := by decide +kernel
theorem dX8_ride_1 : decode cX8_ride 1 = .ok (.iload_n 1, 1) := by decide +kernel
theorem dX8_ride_2 : decode cX8_ride 2 = .ok (.invokevirtual 147, 3) := by decide +kernel
theorem dX8_ride_5 : decode cX8_ride 5 = .ok (.ifCond .ne 6, 3) := by decide +kernel
theorem dX8_ride_8 : decode cX8_ride 8 = .ok (.bipush (-2), 2) := by decide +kernel
theorem dX8_ride_10 : decode cX8_ride 10 = .ok (.ireturn, 1) := by decide +kernel
theorem dX8_ride_11 : decode cX8_ride 11 = .ok (.aload_n 0, 1) := by decide +kernel
theorem dX8_ride_12 : decode cX8_ride 12 = .ok (.invokevirtual 161, 3) := by decide +kernel
theorem dX8_ride_15 : decode cX8_ride 15 = .ok (.iload_n 1, 1) := by decide +kernel
theorem dX8_ride_16 : decode cX8_ride 16 = .ok (.invokestatic 164, 3) := by decide +kernel
theorem dX8_ride_19 : decode cX8_ride 19 = .ok (.ifCond .ne 6, 3) := by decide +kernel
theorem dX8_ride_22 : decode cX8_ride 22 = .ok (.bipush (-4), 2) := by decide +kernel
theorem dX8_ride_24 : decode cX8_ride 24 = .ok (.ireturn, 1) := by decide +kernel
theorem dX8_ride_25 : decode cX8_ride 25 = .ok (.aload_n 0, 1) := by decide +kernel
theorem dX8_ride_26 : decode cX8_ride 26 = .ok (.getfield 7, 3) := by decide +kernel
theorem dX8_ride_29 : decode cX8_ride 29 = .ok (.bipush 7, 2) := by decide +kernel
theorem dX8_ride_31 : decode cX8_ride 31 = .ok (.iload_n 1, 1) := by decide +kernel
theorem dX8_ride_32 : decode cX8_ride 32 = .ok (.iastore, 1) := by decide +kernel
theorem dX8_ride_33 : decode cX8_ride 33 = .ok (.aload_n 0, 1) := by decide +kernel
theorem dX8_ride_34 : decode cX8_ride 34 = .ok (.getfield 27, 3) := by decide +kernel
theorem dX8_ride_37 : decode cX8_ride 37 = .ok (.bipush 6, 2) := by decide +kernel
theorem dX8_ride_39 : decode cX8_ride 39 = .ok (.iload_n 1, 1) := by decide +kernel
theorem dX8_ride_40 : decode cX8_ride 40 = .ok (.imul, 1) := by decide +kernel
theorem dX8_ride_41 : decode cX8_ride 41 = .ok (.iconst 1, 1) := by decide +kernel
theorem dX8_ride_42 : decode cX8_ride 42 = .ok (.iadd, 1) := by decide +kernel
theorem dX8_ride_43 : decode cX8_ride 43 = .ok (.iaload, 1) := by decide +kernel
theorem dX8_ride_44 : decode cX8_ride 44 = .ok (.ireturn, 1) := by decide +kernel
def Mo_ride (w : Wd) (a1 : Int32) : Option (Int32 × Wd) := (if (Mo_isTrain w a1) = (0 : Int32) then some ((-2 : Int32), w) else (Option.bind (Mo_hisTrains w) (fun q2 => (if (Mo_has w q2 a1) = (0 : Int32) then some ((-4 : Int32), w) else (if ib (((6 : Int32) * a1) + (1 : Int32)) 72 = true then some (((sI w 38 7 a1).1 42 (Int32.toNatClampNeg (((6 : Int32) * a1) + (1 : Int32)))), (sI w 38 7 a1)) else none)))))
set_option maxRecDepth 100000 in
set_option maxHeartbeats 4000000 in
theorem ct_Mo_ride {l : Launch} {g : GG} {σ : Sd} (hg : OKg g σ) (hb : σ.2.1 = false) (hx : ∀ c ∈ ([37, 38, 42] : List Nat), c ∈ σ.1) (w : Wd) (a1 : Int32) {q : Int32 × Wd} (hq : Mo_ride w a1 = some q) : CT l g σ yX8_ride cX8_ride 2 (some .int) 3 66 [.ref (gA g 37), .int a1] w (some (.int q.1)) q.2 := by
  refine ct_of (rt := rtI) (res := Mo_ride w a1) (q := q) (own := RX8) (b := false) hg hb hx (by decide) rfl (Nat.le_of_ble_eq_true rfl) hq (fun K e1 e2 e3 F => ?_)
  subst e1 e2 e3
  rw [Mo_ride]
  show N K _ _ w 0 [(0, .ref (gA (cg K) 37)), (1, .int a1)] []
  refine n_aload_n F dX8_ride_0 rfl 0 rfl ?_
  refine n_iload_n F dX8_ride_1 rfl 1 rfl ?_
  refine n_callVi F cb_X8_isTrain lm_RX8_147 ob_37 (by decide) ⟨_, _, rfl⟩ (ct_Mo_isTrain (fx_ok F) (fx_sd F) (fx_ix F rfl) w a1) rfl rfl (Nat.le_of_ble_eq_true rfl) ⟨Nat.le_of_ble_eq_true rfl, Nat.le_of_ble_eq_true rfl⟩ dX8_ride_2 ?_
  refine n_if_ne F 11 dX8_ride_5 (by decide) (fun e1 => ?_) (fun e1 => ?_)
  · rw [if_neg e1]
    refine n_aload_n F dX8_ride_11 rfl 0 rfl ?_
    refine n_bind (fun q2 hq2 => ?_)
    refine n_callVi F cb_X8_hisTrains lm_RX8_161 ob_37 (by decide) ⟨_, _, rfl⟩ (ct_Mo_hisTrains (fx_ok F) (fx_sd F) (fx_ix F rfl) w hq2) rfl rfl (Nat.le_of_ble_eq_true rfl) ⟨Nat.le_of_ble_eq_true rfl, Nat.le_of_ble_eq_true rfl⟩ dX8_ride_12 ?_
    refine n_iload_n F dX8_ride_15 rfl 1 rfl ?_
    refine n_callSi F cb_X8_has lm_RX8_164 (ct_Mo_has (fx_ok F) (fx_sd F) (fx_ix F rfl) w q2 a1) rfl rfl (Nat.le_of_ble_eq_true rfl) ⟨Nat.le_of_ble_eq_true rfl, Nat.le_of_ble_eq_true rfl⟩ dX8_ride_16 ?_
    refine n_if_ne F 25 dX8_ride_19 (by decide) (fun e3 => ?_) (fun e3 => ?_)
    · rw [if_neg e3]
      refine n_aload_n F dX8_ride_25 rfl 0 rfl ?_
      refine n_get F ck_8 lf_RX8_7 (by decide) fg_37_0 (by decide) dX8_ride_26 ?_
      refine n_bipush F (7 : Int32) dX8_ride_29 (by decide) ?_
      refine n_iload_n F dX8_ride_31 rfl 1 rfl ?_
      refine n_iast F ar_38 (by decide) (ib_c (n := 45) (by decide)) (j := 7) (by decide) dX8_ride_32 ?_
      refine n_aload_n F dX8_ride_33 rfl 0 rfl ?_
      refine n_get F ck_8 lf_RX8_27 (by decide) fg_37_7 (by decide) dX8_ride_34 ?_
      refine n_bipush F (6 : Int32) dX8_ride_37 (by decide) ?_
      refine n_iload_n F dX8_ride_39 rfl 1 rfl ?_
      refine n_imul F dX8_ride_40 ?_
      refine n_iconst F (1 : Int32) dX8_ride_41 (by decide) ?_
      refine n_iadd F dX8_ride_42 ?_
      refine n_chk (fun e4 => ?_)
      refine n_iald F ar_42 (by decide) (ib_in e4) rfl dX8_ride_43 ?_
      exact n_iret F rfl rfl dX8_ride_44
    rw [if_pos e3]
    refine n_bipush F (-4 : Int32) dX8_ride_22 (by decide) ?_
    exact n_iret F rfl rfl dX8_ride_24
  rw [if_pos e1]
  refine n_bipush F (-2 : Int32) dX8_ride_8 (by decide) ?_
  exact n_iret F rfl rfl dX8_ride_10
theorem dX8_send_0 : decode cX8_send 0 = .ok (.iload_n 1, 1) := by decide +kernel
theorem dX8_send_1 : decode cX8_send 1 = .ok (.invokestatic 168, 3) := by decide +kernel
theorem dX8_send_4 : decode cX8_send 4 = .ok (.ifCond .eq 16, 3) := by decide +kernel
theorem dX8_send_7 : decode cX8_send 7 = .ok (.iload_n 2, 1) := by decide +kernel
theorem dX8_send_8 : decode cX8_send 8 = .ok (.iconst (-1), 1) := by decide +kernel
theorem dX8_send_9 : decode cX8_send 9 = .ok (.if_icmp .eq 14, 3) := by decide +kernel
theorem dX8_send_12 : decode cX8_send 12 = .ok (.aload_n 0, 1) := by decide +kernel
theorem dX8_send_13 : decode cX8_send 13 = .ok (.iload_n 2, 1) := by decide +kernel
theorem dX8_send_14 : decode cX8_send 14 = .ok (.invokevirtual 147, 3) := by decide +kernel
theorem dX8_send_17 : decode cX8_send 17 = .ok (.ifCond .ne 6, 3) := by decide +kernel
theorem dX8_send_20 : decode cX8_send 20 = .ok (.bipush (-2), 2) := by decide +kernel
theorem dX8_send_22 : decode cX8_send 22 = .ok (.ireturn, 1) := by decide +kernel
theorem dX8_send_23 : decode cX8_send 23 = .ok (.aload_n 0, 1) := by decide +kernel
theorem dX8_send_24 : decode cX8_send 24 = .ok (.getfield 7, 3) := by decide +kernel
theorem dX8_send_27 : decode cX8_send 27 = .ok (.bipush 8, 2) := by decide +kernel
theorem dX8_send_29 : decode cX8_send 29 = .ok (.iload_n 1, 1) := by decide +kernel
theorem dX8_send_30 : decode cX8_send 30 = .ok (.iadd, 1) := by decide +kernel
theorem dX8_send_31 : decode cX8_send 31 = .ok (.iaload, 1) := by decide +kernel
theorem dX8_send_32 : decode cX8_send 32 = .ok (.istore_n 3, 1) := by decide +kernel
theorem dX8_send_33 : decode cX8_send 33 = .ok (.aload_n 0, 1) := by decide +kernel
theorem dX8_send_34 : decode cX8_send 34 = .ok (.getfield 7, 3) := by decide +kernel
theorem dX8_send_37 : decode cX8_send 37 = .ok (.iconst 3, 1) := by decide +kernel
theorem dX8_send_38 : decode cX8_send 38 = .ok (.iaload, 1) := by decide +kernel
theorem dX8_send_39 : decode cX8_send 39 = .ok (.iconst 1, 1) := by decide +kernel
theorem dX8_send_40 : decode cX8_send 40 = .ok (.if_icmp .eq 43, 3) := by decide +kernel
theorem dX8_send_43 : decode cX8_send 43 = .ok (.iload_n 3, 1) := by decide +kernel
theorem dX8_send_44 : decode cX8_send 44 = .ok (.iconst (-1), 1) := by decide +kernel
theorem dX8_send_45 : decode cX8_send 45 = .ok (.if_icmp .eq 38, 3) := by decide +kernel
theorem dX8_send_48 : decode cX8_send 48 = .ok (.iload_n 2, 1) := by decide +kernel
theorem dX8_send_49 : decode cX8_send 49 = .ok (.iconst (-1), 1) := by decide +kernel
theorem dX8_send_50 : decode cX8_send 50 = .ok (.if_icmp .eq 36, 3) := by decide +kernel
theorem dX8_send_53 : decode cX8_send 53 = .ok (.aload_n 0, 1) := by decide +kernel
theorem dX8_send_54 : decode cX8_send 54 = .ok (.iload_n 2, 1) := by decide +kernel
theorem dX8_send_55 : decode cX8_send 55 = .ok (.iload_n 3, 1) := by decide +kernel
theorem dX8_send_56 : decode cX8_send 56 = .ok (.aload_n 0, 1) := by decide +kernel
theorem dX8_send_57 : decode cX8_send 57 = .ok (.getfield 7, 3) := by decide +kernel
theorem dX8_send_60 : decode cX8_send 60 = .ok (.iconst 0, 1) := by decide +kernel
theorem dX8_send_61 : decode cX8_send 61 = .ok (.iaload, 1) := by decide +kernel
theorem dX8_send_62 : decode cX8_send 62 = .ok (.invokevirtual 152, 3) := by decide +kernel
theorem dX8_send_65 : decode cX8_send 65 = .ok (.ifCond .eq 18, 3) := by decide +kernel
theorem dX8_send_68 : decode cX8_send 68 = .ok (.aload_n 0, 1) := by decide +kernel
theorem dX8_send_69 : decode cX8_send 69 = .ok (.getfield 27, 3) := by decide +kernel
theorem dX8_send_72 : decode cX8_send 72 = .ok (.bipush 6, 2) := by decide +kernel
theorem dX8_send_74 : decode cX8_send 74 = .ok (.iload_n 2, 1) := by decide +kernel
theorem dX8_send_75 : decode cX8_send 75 = .ok (.imul, 1) := by decide +kernel
theorem dX8_send_76 : decode cX8_send 76 = .ok (.iconst 4, 1) := by decide +kernel
theorem dX8_send_77 : decode cX8_send 77 = .ok (.iadd, 1) := by decide +kernel
theorem dX8_send_78 : decode cX8_send 78 = .ok (.iaload, 1) := by decide +kernel
theorem dX8_send_79 : decode cX8_send 79 = .ok (.iconst 2, 1) := by decide +kernel
theorem dX8_send_80 : decode cX8_send 80 = .ok (.if_icmp .ne 6, 3) := by decide +kernel
theorem dX8_send_83 : decode cX8_send 83 = .ok (.bipush (-4), 2) := by decide +kernel
theorem dX8_send_85 : decode cX8_send 85 = .ok (.ireturn, 1) := by decide +kernel
theorem dX8_send_86 : decode cX8_send 86 = .ok (.aload_n 0, 1) := by decide +kernel
theorem dX8_send_87 : decode cX8_send 87 = .ok (.getfield 7, 3) := by decide +kernel
theorem dX8_send_90 : decode cX8_send 90 = .ok (.bipush 10, 2) := by decide +kernel
theorem dX8_send_92 : decode cX8_send 92 = .ok (.iload_n 1, 1) := by decide +kernel
theorem dX8_send_93 : decode cX8_send 93 = .ok (.iadd, 1) := by decide +kernel
theorem dX8_send_94 : decode cX8_send 94 = .ok (.iload_n 2, 1) := by decide +kernel
theorem dX8_send_95 : decode cX8_send 95 = .ok (.iastore, 1) := by decide +kernel
theorem dX8_send_96 : decode cX8_send 96 = .ok (.iload_n 2, 1) := by decide +kernel
theorem dX8_send_97 : decode cX8_send 97 = .ok (.iconst (-1), 1) := by decide +kernel
theorem dX8_send_98 : decode cX8_send 98 = .ok (.if_icmp .ne 7, 3) := by decide +kernel
theorem dX8_send_101 : decode cX8_send 101 = .ok (.iload_n 3, 1) := by decide +kernel
theorem dX8_send_102 : decode cX8_send 102 = .ok (.goto 14, 3) := by decide +kernel
theorem dX8_send_105 : decode cX8_send 105 = .ok (.aload_n 0, 1) := by decide +kernel
theorem dX8_send_106 : decode cX8_send 106 = .ok (.getfield 27, 3) := by decide +kernel
theorem dX8_send_109 : decode cX8_send 109 = .ok (.bipush 6, 2) := by decide +kernel
theorem dX8_send_111 : decode cX8_send 111 = .ok (.iload_n 2, 1) := by decide +kernel
theorem dX8_send_112 : decode cX8_send 112 = .ok (.imul, 1) := by decide +kernel
theorem dX8_send_113 : decode cX8_send 113 = .ok (.iconst 1, 1) := by decide +kernel
theorem dX8_send_114 : decode cX8_send 114 = .ok (.iadd, 1) := by decide +kernel
theorem dX8_send_115 : decode cX8_send 115 = .ok (.iaload, 1) := by decide +kernel
theorem dX8_send_116 : decode cX8_send 116 = .ok (.ireturn, 1) := by decide +kernel
def Mo_send_B86 (w : Wd) (v1 : Int32) (v2 : Int32) (v3 : Int32) : Option (Int32 × Wd) := (if ib ((10 : Int32) + v1) 45 = true then (if v2 = (-1 : Int32) then some (v3, (sI w 38 (Int32.toNatClampNeg ((10 : Int32) + v1)) v2)) else (if ib (((6 : Int32) * v2) + (1 : Int32)) 72 = true then some (((sI w 38 (Int32.toNatClampNeg ((10 : Int32) + v1)) v2).1 42 (Int32.toNatClampNeg (((6 : Int32) * v2) + (1 : Int32)))), (sI w 38 (Int32.toNatClampNeg ((10 : Int32) + v1)) v2)) else none)) else none)
set_option maxRecDepth 100000 in
set_option maxHeartbeats 4000000 in
theorem Mo_send_B86_ok {K : Ctx} (F : Fx K cX8_send 4 RX8 (some .int) 2 46 false [37, 38, 42]) (w : Wd) (v1 : Int32) (v2 : Int32) (v3 : Int32) : N K rtI (Mo_send_B86 w v1 v2 v3) w 86 [(0, .ref (gA (cg K) 37)), (1, .int v1), (2, .int v2), (3, .int v3)] [] := by
  rw [Mo_send_B86]
  refine n_aload_n F dX8_send_86 rfl 0 rfl ?_
  refine n_get F ck_8 lf_RX8_7 (by decide) fg_37_0 (by decide) dX8_send_87 ?_
  refine n_bipush F (10 : Int32) dX8_send_90 (by decide) ?_
  refine n_iload_n F dX8_send_92 rfl 1 rfl ?_
  refine n_iadd F dX8_send_93 ?_
  refine n_iload_n F dX8_send_94 rfl 2 rfl ?_
  refine n_chk (fun e7 => ?_)
  refine n_iast F ar_38 (by decide) (ib_in e7) rfl dX8_send_95 ?_
  refine n_iload_n F dX8_send_96 rfl 2 rfl ?_
  refine n_iconst F (-1 : Int32) dX8_send_97 (by decide) ?_
  refine n_icmp_ne F 105 dX8_send_98 (by decide) (fun e8 => ?_) (fun e8 => ?_)
  · rw [if_neg e8]
    refine n_aload_n F dX8_send_105 rfl 0 rfl ?_
    refine n_get F ck_8 lf_RX8_27 (by decide) fg_37_7 (by decide) dX8_send_106 ?_
    refine n_bipush F (6 : Int32) dX8_send_109 (by decide) ?_
    refine n_iload_n F dX8_send_111 rfl 2 rfl ?_
    refine n_imul F dX8_send_112 ?_
    refine n_iconst F (1 : Int32) dX8_send_113 (by decide) ?_
    refine n_iadd F dX8_send_114 ?_
    refine n_chk (fun e9 => ?_)
    refine n_iald F ar_42 (by decide) (ib_in e9) rfl dX8_send_115 ?_
    exact n_iret F rfl rfl dX8_send_116
  rw [if_pos e8]
  refine n_iload_n F dX8_send_101 rfl 3 rfl ?_
  refine n_goto F 116 dX8_send_102 (by decide) ?_
  exact n_iret F rfl rfl dX8_send_116
def Mo_send_B23 (w : Wd) (v1 : Int32) (v2 : Int32) : Option (Int32 × Wd) := (if ib ((8 : Int32) + v1) 45 = true then (if (w.1 38 3) = (1 : Int32) then some ((-4 : Int32), w) else (if (w.1 38 (Int32.toNatClampNeg ((8 : Int32) + v1))) = (-1 : Int32) then some ((-4 : Int32), w) else (if v2 = (-1 : Int32) then (Mo_send_B86 w v1 v2 (w.1 38 (Int32.toNatClampNeg ((8 : Int32) + v1)))) else (Option.bind (Mo_leaves w v2 (w.1 38 (Int32.toNatClampNeg ((8 : Int32) + v1))) (w.1 38 0)) (fun q10 => (if q10 = (0 : Int32) then some ((-4 : Int32), w) else (if ib (((6 : Int32) * v2) + (4 : Int32)) 72 = true then (if (w.1 42 (Int32.toNatClampNeg (((6 : Int32) * v2) + (4 : Int32)))) = (2 : Int32) then some ((-4 : Int32), w) else (Mo_send_B86 w v1 v2 (w.1 38 (Int32.toNatClampNeg ((8 : Int32) + v1))))) else none))))))) else none)
set_option maxRecDepth 100000 in
set_option maxHeartbeats 4000000 in
theorem Mo_send_B23_ok {K : Ctx} (F : Fx K cX8_send 4 RX8 (some .int) 2 46 false [37, 38, 42]) (w : Wd) (v1 : Int32) (v2 : Int32) : N K rtI (Mo_send_B23 w v1 v2) w 23 [(0, .ref (gA (cg K) 37)), (1, .int v1), (2, .int v2)] [] := by
  rw [Mo_send_B23]
  refine n_aload_n F dX8_send_23 rfl 0 rfl ?_
  refine n_get F ck_8 lf_RX8_7 (by decide) fg_37_0 (by decide) dX8_send_24 ?_
  refine n_bipush F (8 : Int32) dX8_send_27 (by decide) ?_
  refine n_iload_n F dX8_send_29 rfl 1 rfl ?_
  refine n_iadd F dX8_send_30 ?_
  refine n_chk (fun e3 => ?_)
  refine n_iald F ar_38 (by decide) (ib_in e3) rfl dX8_send_31 ?_
  refine n_istore_n F (lv' := [(3, .int (w.1 38 (Int32.toNatClampNeg ((8 : Int32) + v1)))), (0, .ref (gA (cg K) 37)), (1, .int v1), (2, .int v2)]) dX8_send_32 rfl (by decide) rfl ?_
  refine n_aload_n F dX8_send_33 rfl 1 rfl ?_
  refine n_get F ck_8 lf_RX8_7 (by decide) fg_37_0 (by decide) dX8_send_34 ?_
  refine n_iconst F (3 : Int32) dX8_send_37 (by decide) ?_
  refine n_iald F ar_38 (by decide) (ib_c (n := 45) (by decide)) (j := 3) (by decide) dX8_send_38 ?_
  refine n_iconst F (1 : Int32) dX8_send_39 (by decide) ?_
  refine n_icmp_eq F 83 dX8_send_40 (by decide) (fun e4 => ?_) (fun e4 => ?_)
  · rw [if_pos e4]
    refine n_bipush F (-4 : Int32) dX8_send_83 (by decide) ?_
    exact n_iret F rfl rfl dX8_send_85
  rw [if_neg e4]
  refine n_iload_n F dX8_send_43 rfl 0 rfl ?_
  refine n_iconst F (-1 : Int32) dX8_send_44 (by decide) ?_
  refine n_icmp_eq F 83 dX8_send_45 (by decide) (fun e5 => ?_) (fun e5 => ?_)
  · rw [if_pos e5]
    refine n_bipush F (-4 : Int32) dX8_send_83 (by decide) ?_
    exact n_iret F rfl rfl dX8_send_85
  rw [if_neg e5]
  refine n_iload_n F dX8_send_48 rfl 3 rfl ?_
  refine n_iconst F (-1 : Int32) dX8_send_49 (by decide) ?_
  refine n_icmp_eq F 86 dX8_send_50 (by decide) (fun e6 => ?_) (fun e6 => ?_)
  · rw [if_pos e6]
    exact n_sub [1, 2, 3, 0] rfl (Mo_send_B86_ok F _ _ _ _)
  rw [if_neg e6]
  refine n_aload_n F dX8_send_53 rfl 1 rfl ?_
  refine n_iload_n F dX8_send_54 rfl 3 rfl ?_
  refine n_iload_n F dX8_send_55 rfl 0 rfl ?_
  refine n_aload_n F dX8_send_56 rfl 1 rfl ?_
  refine n_get F ck_8 lf_RX8_7 (by decide) fg_37_0 (by decide) dX8_send_57 ?_
  refine n_iconst F (0 : Int32) dX8_send_60 (by decide) ?_
  refine n_iald F ar_38 (by decide) (ib_c (n := 45) (by decide)) (j := 0) (by decide) dX8_send_61 ?_
  refine n_bind (fun q10 hq10 => ?_)
  refine n_callVi F cb_X8_leaves lm_RX8_152 ob_37 (by decide) ⟨_, _, rfl⟩ (ct_Mo_leaves (fx_ok F) (fx_sd F) (fx_ix F rfl) w v2 (w.1 38 (Int32.toNatClampNeg ((8 : Int32) + v1))) (w.1 38 0) hq10) rfl rfl (Nat.le_of_ble_eq_true rfl) ⟨Nat.le_of_ble_eq_true rfl, Nat.le_of_ble_eq_true rfl⟩ dX8_send_62 ?_
  refine n_if_eq F 83 dX8_send_65 (by decide) (fun e11 => ?_) (fun e11 => ?_)
  · rw [if_pos e11]
    refine n_bipush F (-4 : Int32) dX8_send_83 (by decide) ?_
    exact n_iret F rfl rfl dX8_send_85
  rw [if_neg e11]
  refine n_aload_n F dX8_send_68 rfl 1 rfl ?_
  refine n_get F ck_8 lf_RX8_27 (by decide) fg_37_7 (by decide) dX8_send_69 ?_
  refine n_bipush F (6 : Int32) dX8_send_72 (by decide) ?_
  refine n_iload_n F dX8_send_74 rfl 3 rfl ?_
  refine n_imul F dX8_send_75 ?_
  refine n_iconst F (4 : Int32) dX8_send_76 (by decide) ?_
  refine n_iadd F dX8_send_77 ?_
  refine n_chk (fun e12 => ?_)
  refine n_iald F ar_42 (by decide) (ib_in e12) rfl dX8_send_78 ?_
  refine n_iconst F (2 : Int32) dX8_send_79 (by decide) ?_
  refine n_icmp_ne F 86 dX8_send_80 (by decide) (fun e13 => ?_) (fun e13 => ?_)
  · rw [if_neg e13]
    exact n_sub [1, 2, 3, 0] rfl (Mo_send_B86_ok F _ _ _ _)
  rw [if_pos e13]
  refine n_bipush F (-4 : Int32) dX8_send_83 (by decide) ?_
  exact n_iret F rfl rfl dX8_send_85
def Mo_send (w : Wd) (a1 : Int32) (a2 : Int32) : Option (Int32 × Wd) := (if (Mo_isSeeker w a1) = (0 : Int32) then some ((-2 : Int32), w) else (if a2 = (-1 : Int32) then (Mo_send_B23 w a1 a2) else (if (Mo_isTrain w a2) = (0 : Int32) then some ((-2 : Int32), w) else (Mo_send_B23 w a1 a2))))
set_option maxRecDepth 100000 in
set_option maxHeartbeats 4000000 in
theorem ct_Mo_send {l : Launch} {g : GG} {σ : Sd} (hg : OKg g σ) (hb : σ.2.1 = false) (hx : ∀ c ∈ ([37, 38, 42] : List Nat), c ∈ σ.1) (w : Wd) (a1 : Int32) (a2 : Int32) {q : Int32 × Wd} (hq : Mo_send w a1 a2 = some q) : CT l g σ yX8_send cX8_send 4 (some .int) 2 46 [.ref (gA g 37), .int a1, .int a2] w (some (.int q.1)) q.2 := by
  refine ct_of (rt := rtI) (res := Mo_send w a1 a2) (q := q) (own := RX8) (b := false) hg hb hx (by decide) rfl (Nat.le_of_ble_eq_true rfl) hq (fun K e1 e2 e3 F => ?_)
  subst e1 e2 e3
  rw [Mo_send]
  show N K _ _ w 0 [(0, .ref (gA (cg K) 37)), (1, .int a1), (2, .int a2)] []
  refine n_iload_n F dX8_send_0 rfl 1 rfl ?_
  refine n_callSi F cb_X8_isSeeker lm_RX8_168 (ct_Mo_isSeeker (fx_ok F) (fx_sd F) (fx_ix F rfl) w a1) rfl rfl (Nat.le_of_ble_eq_true rfl) ⟨Nat.le_of_ble_eq_true rfl, Nat.le_of_ble_eq_true rfl⟩ dX8_send_1 ?_
  refine n_if_eq F 20 dX8_send_4 (by decide) (fun e1 => ?_) (fun e1 => ?_)
  · rw [if_pos e1]
    refine n_bipush F (-2 : Int32) dX8_send_20 (by decide) ?_
    exact n_iret F rfl rfl dX8_send_22
  rw [if_neg e1]
  refine n_iload_n F dX8_send_7 rfl 2 rfl ?_
  refine n_iconst F (-1 : Int32) dX8_send_8 (by decide) ?_
  refine n_icmp_eq F 23 dX8_send_9 (by decide) (fun e2 => ?_) (fun e2 => ?_)
  · rw [if_pos e2]
    exact n_sub [0, 1, 2] rfl (Mo_send_B23_ok F _ _ _)
  rw [if_neg e2]
  refine n_aload_n F dX8_send_12 rfl 0 rfl ?_
  refine n_iload_n F dX8_send_13 rfl 2 rfl ?_
  refine n_callVi F cb_X8_isTrain lm_RX8_147 ob_37 (by decide) ⟨_, _, rfl⟩ (ct_Mo_isTrain (fx_ok F) (fx_sd F) (fx_ix F rfl) w a2) rfl rfl (Nat.le_of_ble_eq_true rfl) ⟨Nat.le_of_ble_eq_true rfl, Nat.le_of_ble_eq_true rfl⟩ dX8_send_14 ?_
  refine n_if_ne F 23 dX8_send_17 (by decide) (fun e14 => ?_) (fun e14 => ?_)
  · rw [if_neg e14]
    exact n_sub [0, 1, 2] rfl (Mo_send_B23_ok F _ _ _)
  rw [if_pos e14]
  refine n_bipush F (-2 : Int32) dX8_send_20 (by decide) ?_
  exact n_iret F rfl rfl dX8_send_22
theorem dX8_layBy_0 : decode cX8_layBy 0 = .ok (.aload_n 0, 1) := by decide +kernel
theorem dX8_layBy_1 : decode cX8_layBy 1 = .ok (.iconst 0, 1) := by decide +kernel
theorem dX8_layBy_2 : decode cX8_layBy 2 = .ok (.putfield 171, 3) := by decide +kernel
theorem dX8_layBy_5 : decode cX8_layBy 5 = .ok (.aload_n 0, 1) := by decide +kernel
theorem dX8_layBy_6 : decode cX8_layBy 6 = .ok (.iconst 0, 1) := by decide +kernel
theorem dX8_layBy_7 : decode cX8_layBy 7 = .ok (.putfield 174, 3) := by decide +kernel
theorem dX8_layBy_10 : decode cX8_layBy 10 = .ok (.iconst 0, 1) := by decide +kernel
theorem dX8_layBy_11 : decode cX8_layBy 11 = .ok (.istore_n 2, 1) := by decide +kernel
theorem dX8_layBy_12 : decode cX8_layBy 12 = .ok (.iload_n 2, 1) := by decide +kernel
theorem dX8_layBy_13 : decode cX8_layBy 13 = .ok (.aload_n 0, 1) := by decide +kernel
theorem dX8_layBy_14 : decode cX8_layBy 14 = .ok (.getfield 131, 3) := by decide +kernel
theorem dX8_layBy_17 : decode cX8_layBy 17 = .ok (.if_icmp .ge 157, 3) := by decide +kernel
theorem dX8_layBy_20 : decode cX8_layBy 20 = .ok (.aload_n 0, 1) := by decide +kernel
theorem dX8_layBy_21 : decode cX8_layBy 21 = .ok (.getfield 27, 3) := by decide +kernel
theorem dX8_layBy_24 : decode cX8_layBy 24 = .ok (.bipush 6, 2) := by decide +kernel
theorem dX8_layBy_26 : decode cX8_layBy 26 = .ok (.iload_n 2, 1) := by decide +kernel
theorem dX8_layBy_27 : decode cX8_layBy 27 = .ok (.imul, 1) := by decide +kernel
theorem dX8_layBy_28 : decode cX8_layBy 28 = .ok (.iconst 0, 1) := by decide +kernel
theorem dX8_layBy_29 : decode cX8_layBy 29 = .ok (.iadd, 1) := by decide +kernel
theorem dX8_layBy_30 : decode cX8_layBy 30 = .ok (.iaload, 1) := by decide +kernel
theorem dX8_layBy_31 : decode cX8_layBy 31 = .ok (.istore_n 3, 1) := by decide +kernel
theorem dX8_layBy_32 : decode cX8_layBy 32 = .ok (.iconst 1, 1) := by decide +kernel
theorem dX8_layBy_33 : decode cX8_layBy 33 = .ok (.aload_n 0, 1) := by decide +kernel
theorem dX8_layBy_34 : decode cX8_layBy 34 = .ok (.getfield 27, 3) := by decide +kernel
theorem dX8_layBy_37 : decode cX8_layBy 37 = .ok (.bipush 6, 2) := by decide +kernel
theorem dX8_layBy_39 : decode cX8_layBy 39 = .ok (.iload_n 2, 1) := by decide +kernel
theorem dX8_layBy_40 : decode cX8_layBy 40 = .ok (.imul, 1) := by decide +kernel
theorem dX8_layBy_41 : decode cX8_layBy 41 = .ok (.iconst 1, 1) := by decide +kernel
theorem dX8_layBy_42 : decode cX8_layBy 42 = .ok (.iadd, 1) := by decide +kernel
theorem dX8_layBy_43 : decode cX8_layBy 43 = .ok (.iaload, 1) := by decide +kernel
theorem dX8_layBy_44 : decode cX8_layBy 44 = .ok (.ishl, 1) := by decide +kernel
theorem dX8_layBy_45 : decode cX8_layBy 45 = .ok (.istore 4, 2) := by decide +kernel
theorem dX8_layBy_47 : decode cX8_layBy 47 = .ok (.aload_n 0, 1) := by decide +kernel
theorem dX8_layBy_48 : decode cX8_layBy 48 = .ok (.getfield 27, 3) := by decide +kernel
theorem dX8_layBy_51 : decode cX8_layBy 51 = .ok (.bipush 6, 2) := by decide +kernel
theorem dX8_layBy_53 : decode cX8_layBy 53 = .ok (.iload_n 2, 1) := by decide +kernel
theorem dX8_layBy_54 : decode cX8_layBy 54 = .ok (.imul, 1) := by decide +kernel
theorem dX8_layBy_55 : decode cX8_layBy 55 = .ok (.iconst 5, 1) := by decide +kernel
theorem dX8_layBy_56 : decode cX8_layBy 56 = .ok (.iadd, 1) := by decide +kernel
theorem dX8_layBy_57 : decode cX8_layBy 57 = .ok (.iaload, 1) := by decide +kernel
theorem dX8_layBy_58 : decode cX8_layBy 58 = .ok (.iload_n 1, 1) := by decide +kernel
theorem dX8_layBy_59 : decode cX8_layBy 59 = .ok (.if_icmp .ne 36, 3) := by decide +kernel
theorem dX8_layBy_62 : decode cX8_layBy 62 = .ok (.aload_n 0, 1) := by decide +kernel
theorem dX8_layBy_63 : decode cX8_layBy 63 = .ok (.getfield 7, 3) := by decide +kernel
theorem dX8_layBy_66 : decode cX8_layBy 66 = .ok (.bipush 12, 2) := by decide +kernel
theorem dX8_layBy_68 : decode cX8_layBy 68 = .ok (.iaload, 1) := by decide +kernel
theorem dX8_layBy_69 : decode cX8_layBy 69 = .ok (.iload_n 3, 1) := by decide +kernel
theorem dX8_layBy_70 : decode cX8_layBy 70 = .ok (.invokestatic 164, 3) := by decide +kernel
theorem dX8_layBy_73 : decode cX8_layBy 73 = .ok (.ifCond .eq 22, 3) := by decide +kernel
theorem dX8_layBy_76 : decode cX8_layBy 76 = .ok (.aload_n 0, 1) := by decide +kernel
theorem dX8_layBy_77 : decode cX8_layBy 77 = .ok (.iload_n 2, 1) := by decide +kernel
theorem dX8_layBy_78 : decode cX8_layBy 78 = .ok (.iload_n 3, 1) := by decide +kernel
theorem dX8_layBy_79 : decode cX8_layBy 79 = .ok (.aload_n 0, 1) := by decide +kernel
theorem dX8_layBy_80 : decode cX8_layBy 80 = .ok (.getfield 7, 3) := by decide +kernel
theorem dX8_layBy_83 : decode cX8_layBy 83 = .ok (.iconst 0, 1) := by decide +kernel
theorem dX8_layBy_84 : decode cX8_layBy 84 = .ok (.iaload, 1) := by decide +kernel
theorem dX8_layBy_85 : decode cX8_layBy 85 = .ok (.invokevirtual 152, 3) := by decide +kernel
theorem dX8_layBy_88 : decode cX8_layBy 88 = .ok (.ifCond .eq 7, 3) := by decide +kernel
theorem dX8_layBy_91 : decode cX8_layBy 91 = .ok (.iconst 1, 1) := by decide +kernel
theorem dX8_layBy_92 : decode cX8_layBy 92 = .ok (.goto 4, 3) := by decide +kernel
theorem dX8_layBy_95 : decode cX8_layBy 95 = .ok (.iconst 0, 1) := by decide +kernel
theorem dX8_layBy_96 : decode cX8_layBy 96 = .ok (.istore 5, 2) := by decide +kernel
theorem dX8_layBy_98 : decode cX8_layBy 98 = .ok (.aload_n 0, 1) := by decide +kernel
theorem dX8_layBy_99 : decode cX8_layBy 99 = .ok (.dup, 1) := by decide +kernel
theorem dX8_layBy_100 : decode cX8_layBy 100 = .ok (.getfield 171, 3) := by decide +kernel
theorem dX8_layBy_103 : decode cX8_layBy 103 = .ok (.iload 5, 2) := by decide +kernel
theorem dX8_layBy_105 : decode cX8_layBy 105 = .ok (.ifCond .eq 23, 3) := by decide +kernel
theorem dX8_layBy_108 : decode cX8_layBy 108 = .ok (.aload_n 0, 1) := by decide +kernel
theorem dX8_layBy_109 : decode cX8_layBy 109 = .ok (.getfield 27, 3) := by decide +kernel
theorem dX8_layBy_112 : decode cX8_layBy 112 = .ok (.bipush 6, 2) := by decide +kernel
theorem dX8_layBy_114 : decode cX8_layBy 114 = .ok (.iload_n 2, 1) := by decide +kernel
theorem dX8_layBy_115 : decode cX8_layBy 115 = .ok (.imul, 1) := by decide +kernel
theorem dX8_layBy_116 : decode cX8_layBy 116 = .ok (.iconst 4, 1) := by decide +kernel
theorem dX8_layBy_117 : decode cX8_layBy 117 = .ok (.iadd, 1) := by decide +kernel
theorem dX8_layBy_118 : decode cX8_layBy 118 = .ok (.iaload, 1) := by decide +kernel
theorem dX8_layBy_119 : decode cX8_layBy 119 = .ok (.iconst 1, 1) := by decide +kernel
theorem dX8_layBy_120 : decode cX8_layBy 120 = .ok (.if_icmp .ne 8, 3) := by decide +kernel
theorem dX8_layBy_123 : decode cX8_layBy 123 = .ok (.iload 4, 2) := by decide +kernel
theorem dX8_layBy_125 : decode cX8_layBy 125 = .ok (.goto 4, 3) := by decide +kernel
theorem dX8_layBy_128 : decode cX8_layBy 128 = .ok (.iconst 0, 1) := by decide +kernel
theorem dX8_layBy_129 : decode cX8_layBy 129 = .ok (.ior, 1) := by decide +kernel
theorem dX8_layBy_130 : decode cX8_layBy 130 = .ok (.putfield 171, 3) := by decide +kernel
theorem dX8_layBy_133 : decode cX8_layBy 133 = .ok (.aload_n 0, 1) := by decide +kernel
theorem dX8_layBy_134 : decode cX8_layBy 134 = .ok (.dup, 1) := by decide +kernel
theorem dX8_layBy_135 : decode cX8_layBy 135 = .ok (.getfield 174, 3) := by decide +kernel
theorem dX8_layBy_138 : decode cX8_layBy 138 = .ok (.iload 5, 2) := by decide +kernel
theorem dX8_layBy_140 : decode cX8_layBy 140 = .ok (.ifCond .eq 23, 3) := by decide +kernel
theorem dX8_layBy_143 : decode cX8_layBy 143 = .ok (.aload_n 0, 1) := by decide +kernel
theorem dX8_layBy_144 : decode cX8_layBy 144 = .ok (.getfield 27, 3) := by decide +kernel
theorem dX8_layBy_147 : decode cX8_layBy 147 = .ok (.bipush 6, 2) := by decide +kernel
theorem dX8_layBy_149 : decode cX8_layBy 149 = .ok (.iload_n 2, 1) := by decide +kernel
theorem dX8_layBy_150 : decode cX8_layBy 150 = .ok (.imul, 1) := by decide +kernel
theorem dX8_layBy_151 : decode cX8_layBy 151 = .ok (.iconst 4, 1) := by decide +kernel
theorem dX8_layBy_152 : decode cX8_layBy 152 = .ok (.iadd, 1) := by decide +kernel
theorem dX8_layBy_153 : decode cX8_layBy 153 = .ok (.iaload, 1) := by decide +kernel
theorem dX8_layBy_154 : decode cX8_layBy 154 = .ok (.iconst 2, 1) := by decide +kernel
theorem dX8_layBy_155 : decode cX8_layBy 155 = .ok (.if_icmp .ne 8, 3) := by decide +kernel
theorem dX8_layBy_158 : decode cX8_layBy 158 = .ok (.iload 4, 2) := by decide +kernel
theorem dX8_layBy_160 : decode cX8_layBy 160 = .ok (.goto 4, 3) := by decide +kernel
theorem dX8_layBy_163 : decode cX8_layBy 163 = .ok (.iconst 0, 1) := by decide +kernel
theorem dX8_layBy_164 : decode cX8_layBy 164 = .ok (.ior, 1) := by decide +kernel
theorem dX8_layBy_165 : decode cX8_layBy 165 = .ok (.putfield 174, 3) := by decide +kernel
theorem dX8_layBy_168 : decode cX8_layBy 168 = .ok (.iinc 2 1, 3) := by decide +kernel
theorem dX8_layBy_171 : decode cX8_layBy 171 = .ok (.goto (-159), 3) := by decide +kernel
theorem dX8_layBy_174 : decode cX8_layBy 174 = .ok (.return_, 1) := by decide +kernel
def Mo_layBy_B129 (k12 : Wd → Int32 → Int32 → Option Wd) (w : Wd) (v1 : Int32) (v2 : Int32) (v4 : Int32) (v5 : Int32) (s0 : Int32) (s1 : Int32) : Option Wd := (if v5 = (0 : Int32) then (k12 (sI (sI w 37 18 (s1 ||| s0)) 37 19 (((sI w 37 18 (s1 ||| s0)).1 37 19) ||| (0 : Int32))) v1 (v2 + (1 : Int32))) else (if ib (((6 : Int32) * v2) + (4 : Int32)) 72 = true then (k12 (if ((sI w 37 18 (s1 ||| s0)).1 42 (Int32.toNatClampNeg (((6 : Int32) * v2) + (4 : Int32)))) = (2 : Int32) then (sI (sI w 37 18 (s1 ||| s0)) 37 19 (((sI w 37 18 (s1 ||| s0)).1 37 19) ||| v4)) else (sI (sI w 37 18 (s1 ||| s0)) 37 19 (((sI w 37 18 (s1 ||| s0)).1 37 19) ||| (0 : Int32)))) v1 (v2 + (1 : Int32))) else none))
set_option maxRecDepth 100000 in
set_option maxHeartbeats 4000000 in
theorem Mo_layBy_B129_ok {K : Ctx} (F : Fx K cX8_layBy 6 RX8 none 1 23 false [37, 38, 42]) {k12 : Wd → Int32 → Int32 → Option Wd} (h12 : ∀ (w : Wd) (v1 : Int32) (v2 : Int32), N K rtV (k12 w v1 v2) w 12 [(0, .ref (gA (cg K) 37)), (1, .int v1), (2, .int v2)] []) (w : Wd) (v1 : Int32) (v2 : Int32) (v4 : Int32) (v5 : Int32) (s0 : Int32) (s1 : Int32) : N K rtV (Mo_layBy_B129 k12 w v1 v2 v4 v5 s0 s1) w 129 [(0, .ref (gA (cg K) 37)), (1, .int v1), (2, .int v2), (4, .int v4), (5, .int v5)] [.int s0, .int s1, .ref (gA (cg K) 37)] := by
  rw [Mo_layBy_B129]
  refine n_ior F dX8_layBy_129 ?_
  refine n_put F ck_8 lf_RX8_171 (by decide) rfl fp_37_18 (by decide) rfl rfl dX8_layBy_130 ?_
  refine n_aload_n F dX8_layBy_133 rfl 0 rfl ?_
  refine n_dup F dX8_layBy_134 rfl ?_
  refine n_get F ck_8 lf_RX8_174 (by decide) fg_37_19 (by decide) dX8_layBy_135 ?_
  refine n_iload F dX8_layBy_138 4 rfl ?_
  refine n_if_eq F 163 dX8_layBy_140 (by decide) (fun e7 => ?_) (fun e7 => ?_)
  · rw [if_pos e7]
    refine n_iconst F (0 : Int32) dX8_layBy_163 (by decide) ?_
    refine n_ior F dX8_layBy_164 ?_
    refine n_put F ck_8 lf_RX8_174 (by decide) rfl fp_37_19 (by decide) rfl rfl dX8_layBy_165 ?_
    refine n_iinc F (v2 + (1 : Int32)) (lv' := [(2, .int (v2 + (1 : Int32))), (0, .ref (gA (cg K) 37)), (1, .int v1), (4, .int v4), (5, .int v5)]) dX8_layBy_168 2 rfl rfl (by decide) rfl ?_
    refine n_goto F 12 dX8_layBy_171 (by decide) ?_
    exact n_sub [1, 2, 0] rfl (h12 _ _ _)
  rw [if_neg e7]
  refine n_aload_n F dX8_layBy_143 rfl 0 rfl ?_
  refine n_get F ck_8 lf_RX8_27 (by decide) fg_37_7 (by decide) dX8_layBy_144 ?_
  refine n_bipush F (6 : Int32) dX8_layBy_147 (by decide) ?_
  refine n_iload_n F dX8_layBy_149 rfl 2 rfl ?_
  refine n_imul F dX8_layBy_150 ?_
  refine n_iconst F (4 : Int32) dX8_layBy_151 (by decide) ?_
  refine n_iadd F dX8_layBy_152 ?_
  refine n_chk (fun e8 => ?_)
  refine n_iald F ar_42 (by decide) (ib_in e8) rfl dX8_layBy_153 ?_
  refine n_iconst F (2 : Int32) dX8_layBy_154 (by decide) ?_
  refine n_icmp_ne F 163 dX8_layBy_155 (by decide) (fun e9 => ?_) (fun e9 => ?_)
  · rw [if_neg e9]
    refine n_iconst F (0 : Int32) dX8_layBy_163 (by decide) ?_
    refine n_ior F dX8_layBy_164 ?_
    refine n_put F ck_8 lf_RX8_174 (by decide) rfl fp_37_19 (by decide) rfl rfl dX8_layBy_165 ?_
    refine n_iinc F (v2 + (1 : Int32)) (lv' := [(2, .int (v2 + (1 : Int32))), (0, .ref (gA (cg K) 37)), (1, .int v1), (4, .int v4), (5, .int v5)]) dX8_layBy_168 2 rfl rfl (by decide) rfl ?_
    refine n_goto F 12 dX8_layBy_171 (by decide) ?_
    exact n_sub [1, 2, 0] rfl (h12 _ _ _)
  rw [if_pos e9]
  refine n_iload F dX8_layBy_158 3 rfl ?_
  refine n_goto F 164 dX8_layBy_160 (by decide) ?_
  refine n_ior F dX8_layBy_164 ?_
  refine n_put F ck_8 lf_RX8_174 (by decide) rfl fp_37_19 (by decide) rfl rfl dX8_layBy_165 ?_
  refine n_iinc F (v2 + (1 : Int32)) (lv' := [(2, .int (v2 + (1 : Int32))), (0, .ref (gA (cg K) 37)), (1, .int v1), (4, .int v4), (5, .int v5)]) dX8_layBy_168 2 rfl rfl (by decide) rfl ?_
  refine n_goto F 12 dX8_layBy_171 (by decide) ?_
  exact n_sub [1, 2, 0] rfl (h12 _ _ _)
def Mo_layBy_B96 (k12 : Wd → Int32 → Int32 → Option Wd) (w : Wd) (v1 : Int32) (v2 : Int32) (v4 : Int32) (s0 : Int32) : Option Wd := (if s0 = (0 : Int32) then (Mo_layBy_B129 k12 w v1 v2 v4 s0 (0 : Int32) (w.1 37 18)) else (if ib (((6 : Int32) * v2) + (4 : Int32)) 72 = true then (Mo_layBy_B129 k12 w v1 v2 v4 s0 (if (w.1 42 (Int32.toNatClampNeg (((6 : Int32) * v2) + (4 : Int32)))) = (1 : Int32) then v4 else (0 : Int32)) (w.1 37 18)) else none))
set_option maxRecDepth 100000 in
set_option maxHeartbeats 4000000 in
theorem Mo_layBy_B96_ok {K : Ctx} (F : Fx K cX8_layBy 6 RX8 none 1 23 false [37, 38, 42]) {k12 : Wd → Int32 → Int32 → Option Wd} (h12 : ∀ (w : Wd) (v1 : Int32) (v2 : Int32), N K rtV (k12 w v1 v2) w 12 [(0, .ref (gA (cg K) 37)), (1, .int v1), (2, .int v2)] []) (w : Wd) (v1 : Int32) (v2 : Int32) (v4 : Int32) (s0 : Int32) : N K rtV (Mo_layBy_B96 k12 w v1 v2 v4 s0) w 96 [(0, .ref (gA (cg K) 37)), (1, .int v1), (2, .int v2), (4, .int v4)] [.int s0] := by
  rw [Mo_layBy_B96]
  refine n_istore F (lv' := [(5, .int s0), (0, .ref (gA (cg K) 37)), (1, .int v1), (2, .int v2), (4, .int v4)]) dX8_layBy_96 (by decide) rfl ?_
  refine n_aload_n F dX8_layBy_98 rfl 1 rfl ?_
  refine n_dup F dX8_layBy_99 rfl ?_
  refine n_get F ck_8 lf_RX8_171 (by decide) fg_37_18 (by decide) dX8_layBy_100 ?_
  refine n_iload F dX8_layBy_103 0 rfl ?_
  refine n_if_eq F 128 dX8_layBy_105 (by decide) (fun e6 => ?_) (fun e6 => ?_)
  · rw [if_pos e6]
    refine n_iconst F (0 : Int32) dX8_layBy_128 (by decide) ?_
    exact n_sub [1, 2, 3, 4, 0] rfl (Mo_layBy_B129_ok F h12 _ _ _ _ _ _ _)
  rw [if_neg e6]
  refine n_aload_n F dX8_layBy_108 rfl 1 rfl ?_
  refine n_get F ck_8 lf_RX8_27 (by decide) fg_37_7 (by decide) dX8_layBy_109 ?_
  refine n_bipush F (6 : Int32) dX8_layBy_112 (by decide) ?_
  refine n_iload_n F dX8_layBy_114 rfl 3 rfl ?_
  refine n_imul F dX8_layBy_115 ?_
  refine n_iconst F (4 : Int32) dX8_layBy_116 (by decide) ?_
  refine n_iadd F dX8_layBy_117 ?_
  refine n_chk (fun e10 => ?_)
  refine n_iald F ar_42 (by decide) (ib_in e10) rfl dX8_layBy_118 ?_
  refine n_iconst F (1 : Int32) dX8_layBy_119 (by decide) ?_
  refine n_icmp_ne F 128 dX8_layBy_120 (by decide) (fun e11 => ?_) (fun e11 => ?_)
  · rw [if_neg e11]
    refine n_iconst F (0 : Int32) dX8_layBy_128 (by decide) ?_
    exact n_sub [1, 2, 3, 4, 0] rfl (Mo_layBy_B129_ok F h12 _ _ _ _ _ _ _)
  rw [if_pos e11]
  refine n_iload F dX8_layBy_123 4 rfl ?_
  refine n_goto F 129 dX8_layBy_125 (by decide) ?_
  exact n_sub [1, 2, 3, 4, 0] rfl (Mo_layBy_B129_ok F h12 _ _ _ _ _ _ _)
def Mo_layBy_L12 (k174 : Wd → Option Wd) : Nat → Wd → Int32 → Int32 → Option Wd
  | 0, _, _, _ => none
  | n + 1, w, v1, v2 => (if (w.1 37 8) ≤ v2 then (k174 w) else (if ib (((6 : Int32) * v2) + (0 : Int32)) 72 = true then (if ib (((6 : Int32) * v2) + (1 : Int32)) 72 = true then (if ib (((6 : Int32) * v2) + (5 : Int32)) 72 = true then (if (w.1 42 (Int32.toNatClampNeg (((6 : Int32) * v2) + (5 : Int32)))) = v1 then (if (Mo_has w (w.1 38 12) (w.1 42 (Int32.toNatClampNeg (((6 : Int32) * v2) + (0 : Int32))))) = (0 : Int32) then (Mo_layBy_B96 (Mo_layBy_L12 k174 n) w v1 v2 ((1 : Int32) <<< ((w.1 42 (Int32.toNatClampNeg (((6 : Int32) * v2) + (1 : Int32)))) &&& (31 : Int32))) (0 : Int32)) else (Option.bind (Mo_leaves w v2 (w.1 42 (Int32.toNatClampNeg (((6 : Int32) * v2) + (0 : Int32)))) (w.1 38 0)) (fun q13 => (Mo_layBy_B96 (Mo_layBy_L12 k174 n) w v1 v2 ((1 : Int32) <<< ((w.1 42 (Int32.toNatClampNeg (((6 : Int32) * v2) + (1 : Int32)))) &&& (31 : Int32))) (if q13 = (0 : Int32) then (0 : Int32) else (1 : Int32)))))) else (Mo_layBy_B96 (Mo_layBy_L12 k174 n) w v1 v2 ((1 : Int32) <<< ((w.1 42 (Int32.toNatClampNeg (((6 : Int32) * v2) + (1 : Int32)))) &&& (31 : Int32))) (0 : Int32))) else none) else none) else none))
set_option maxRecDepth 100000 in
set_option maxHeartbeats 4000000 in
theorem Mo_layBy_L12_ok {K : Ctx} (F : Fx K cX8_layBy 6 RX8 none 1 23 false [37, 38, 42]) {k174 : Wd → Option Wd} (h174 : ∀ (w : Wd), N K rtV (k174 w) w 174 [] []) : ∀ (n : Nat) (w : Wd) (v1 : Int32) (v2 : Int32), N K rtV (Mo_layBy_L12 k174 n w v1 v2) w 12 [(0, .ref (gA (cg K) 37)), (1, .int v1), (2, .int v2)] [] := by
  intro n
  induction n with
  | zero => intro _ _ _; exact n_none
  | succ n ih =>
    intro w v1 v2
    rw [Mo_layBy_L12]
    refine n_iload_n F dX8_layBy_12 rfl 2 rfl ?_
    refine n_aload_n F dX8_layBy_13 rfl 0 rfl ?_
    refine n_get F ck_8 lf_RX8_131 (by decide) fg_37_8 (by decide) dX8_layBy_14 ?_
    refine n_icmp_ge F 174 dX8_layBy_17 (by decide) (fun e1 => ?_) (fun e1 => ?_)
    · rw [if_pos e1]
      exact n_sub [] rfl (h174 _)
    rw [if_neg e1]
    refine n_aload_n F dX8_layBy_20 rfl 0 rfl ?_
    refine n_get F ck_8 lf_RX8_27 (by decide) fg_37_7 (by decide) dX8_layBy_21 ?_
    refine n_bipush F (6 : Int32) dX8_layBy_24 (by decide) ?_
    refine n_iload_n F dX8_layBy_26 rfl 2 rfl ?_
    refine n_imul F dX8_layBy_27 ?_
    refine n_iconst F (0 : Int32) dX8_layBy_28 (by decide) ?_
    refine n_iadd F dX8_layBy_29 ?_
    refine n_chk (fun e2 => ?_)
    refine n_iald F ar_42 (by decide) (ib_in e2) rfl dX8_layBy_30 ?_
    refine n_istore_n F (lv' := [(3, .int (w.1 42 (Int32.toNatClampNeg (((6 : Int32) * v2) + (0 : Int32))))), (0, .ref (gA (cg K) 37)), (1, .int v1), (2, .int v2)]) dX8_layBy_31 rfl (by decide) rfl ?_
    refine n_iconst F (1 : Int32) dX8_layBy_32 (by decide) ?_
    refine n_aload_n F dX8_layBy_33 rfl 1 rfl ?_
    refine n_get F ck_8 lf_RX8_27 (by decide) fg_37_7 (by decide) dX8_layBy_34 ?_
    refine n_bipush F (6 : Int32) dX8_layBy_37 (by decide) ?_
    refine n_iload_n F dX8_layBy_39 rfl 3 rfl ?_
    refine n_imul F dX8_layBy_40 ?_
    refine n_iconst F (1 : Int32) dX8_layBy_41 (by decide) ?_
    refine n_iadd F dX8_layBy_42 ?_
    refine n_chk (fun e3 => ?_)
    refine n_iald F ar_42 (by decide) (ib_in e3) rfl dX8_layBy_43 ?_
    refine n_ishl F dX8_layBy_44 ?_
    refine n_istore F (lv' := [(4, .int ((1 : Int32) <<< ((w.1 42 (Int32.toNatClampNeg (((6 : Int32) * v2) + (1 : Int32)))) &&& (31 : Int32)))), (3, .int (w.1 42 (Int32.toNatClampNeg (((6 : Int32) * v2) + (0 : Int32))))), (0, .ref (gA (cg K) 37)), (1, .int v1), (2, .int v2)]) dX8_layBy_45 (by decide) rfl ?_
    refine n_aload_n F dX8_layBy_47 rfl 2 rfl ?_
    refine n_get F ck_8 lf_RX8_27 (by decide) fg_37_7 (by decide) dX8_layBy_48 ?_
    refine n_bipush F (6 : Int32) dX8_layBy_51 (by decide) ?_
    refine n_iload_n F dX8_layBy_53 rfl 4 rfl ?_
    refine n_imul F dX8_layBy_54 ?_
    refine n_iconst F (5 : Int32) dX8_layBy_55 (by decide) ?_
    refine n_iadd F dX8_layBy_56 ?_
    refine n_chk (fun e4 => ?_)
    refine n_iald F ar_42 (by decide) (ib_in e4) rfl dX8_layBy_57 ?_
    refine n_iload_n F dX8_layBy_58 rfl 3 rfl ?_
    refine n_icmp_ne F 95 dX8_layBy_59 (by decide) (fun e5 => ?_) (fun e5 => ?_)
    · rw [if_neg e5]
      refine n_iconst F (0 : Int32) dX8_layBy_95 (by decide) ?_
      exact n_sub [2, 3, 4, 0] rfl (Mo_layBy_B96_ok F ih _ _ _ _ _)
    rw [if_pos e5]
    refine n_aload_n F dX8_layBy_62 rfl 2 rfl ?_
    refine n_get F ck_8 lf_RX8_7 (by decide) fg_37_0 (by decide) dX8_layBy_63 ?_
    refine n_bipush F (12 : Int32) dX8_layBy_66 (by decide) ?_
    refine n_iald F ar_38 (by decide) (ib_c (n := 45) (by decide)) (j := 12) (by decide) dX8_layBy_68 ?_
    refine n_iload_n F dX8_layBy_69 rfl 1 rfl ?_
    refine n_callSi F cb_X8_has lm_RX8_164 (ct_Mo_has (fx_ok F) (fx_sd F) (fx_ix F rfl) w (w.1 38 12) (w.1 42 (Int32.toNatClampNeg (((6 : Int32) * v2) + (0 : Int32))))) rfl rfl (Nat.le_of_ble_eq_true rfl) ⟨Nat.le_of_ble_eq_true rfl, Nat.le_of_ble_eq_true rfl⟩ dX8_layBy_70 ?_
    refine n_if_eq F 95 dX8_layBy_73 (by decide) (fun e12 => ?_) (fun e12 => ?_)
    · rw [if_pos e12]
      refine n_iconst F (0 : Int32) dX8_layBy_95 (by decide) ?_
      exact n_sub [2, 3, 4, 0] rfl (Mo_layBy_B96_ok F ih _ _ _ _ _)
    rw [if_neg e12]
    refine n_aload_n F dX8_layBy_76 rfl 2 rfl ?_
    refine n_iload_n F dX8_layBy_77 rfl 4 rfl ?_
    refine n_iload_n F dX8_layBy_78 rfl 1 rfl ?_
    refine n_aload_n F dX8_layBy_79 rfl 2 rfl ?_
    refine n_get F ck_8 lf_RX8_7 (by decide) fg_37_0 (by decide) dX8_layBy_80 ?_
    refine n_iconst F (0 : Int32) dX8_layBy_83 (by decide) ?_
    refine n_iald F ar_38 (by decide) (ib_c (n := 45) (by decide)) (j := 0) (by decide) dX8_layBy_84 ?_
    refine n_bind (fun q13 hq13 => ?_)
    refine n_callVi F cb_X8_leaves lm_RX8_152 ob_37 (by decide) ⟨_, _, rfl⟩ (ct_Mo_leaves (fx_ok F) (fx_sd F) (fx_ix F rfl) w v2 (w.1 42 (Int32.toNatClampNeg (((6 : Int32) * v2) + (0 : Int32)))) (w.1 38 0) hq13) rfl rfl (Nat.le_of_ble_eq_true rfl) ⟨Nat.le_of_ble_eq_true rfl, Nat.le_of_ble_eq_true rfl⟩ dX8_layBy_85 ?_
    refine n_if_eq F 95 dX8_layBy_88 (by decide) (fun e14 => ?_) (fun e14 => ?_)
    · rw [if_pos e14]
      refine n_iconst F (0 : Int32) dX8_layBy_95 (by decide) ?_
      exact n_sub [2, 3, 4, 0] rfl (Mo_layBy_B96_ok F ih _ _ _ _ _)
    rw [if_neg e14]
    refine n_iconst F (1 : Int32) dX8_layBy_91 (by decide) ?_
    refine n_goto F 96 dX8_layBy_92 (by decide) ?_
    exact n_sub [2, 3, 4, 0] rfl (Mo_layBy_B96_ok F ih _ _ _ _ _)
def Mo_layBy_B174 (w : Wd) : Option Wd := some w
set_option maxRecDepth 100000 in
set_option maxHeartbeats 4000000 in
theorem Mo_layBy_B174_ok {K : Ctx} (F : Fx K cX8_layBy 6 RX8 none 1 23 false [37, 38, 42]) (w : Wd) : N K rtV (Mo_layBy_B174 w) w 174 [] [] := by
  rw [Mo_layBy_B174]
  exact n_vret F rfl rfl dX8_layBy_174
def Mo_layBy (w : Wd) (a1 : Int32) : Option Wd := (Mo_layBy_L12 Mo_layBy_B174 FU (sI (sI w 37 18 (0 : Int32)) 37 19 (0 : Int32)) a1 (0 : Int32))
set_option maxRecDepth 100000 in
set_option maxHeartbeats 4000000 in
theorem ct_Mo_layBy {l : Launch} {g : GG} {σ : Sd} (hg : OKg g σ) (hb : σ.2.1 = false) (hx : ∀ c ∈ ([37, 38, 42] : List Nat), c ∈ σ.1) (w : Wd) (a1 : Int32) {q : Wd} (hq : Mo_layBy w a1 = some q) : CT l g σ yX8_layBy cX8_layBy 6 none 1 23 [.ref (gA g 37), .int a1] w none q := by
  refine ct_of (rt := rtV) (res := Mo_layBy w a1) (q := q) (own := RX8) (b := false) hg hb hx (by decide) rfl (Nat.le_of_ble_eq_true rfl) hq (fun K e1 e2 e3 F => ?_)
  subst e1 e2 e3
  rw [Mo_layBy]
  show N K _ _ w 0 [(0, .ref (gA (cg K) 37)), (1, .int a1)] []
  refine n_aload_n F dX8_layBy_0 rfl 0 rfl ?_
  refine n_iconst F (0 : Int32) dX8_layBy_1 (by decide) ?_
  refine n_put F ck_8 lf_RX8_171 (by decide) rfl fp_37_18 (by decide) rfl rfl dX8_layBy_2 ?_
  refine n_aload_n F dX8_layBy_5 rfl 0 rfl ?_
  refine n_iconst F (0 : Int32) dX8_layBy_6 (by decide) ?_
  refine n_put F ck_8 lf_RX8_174 (by decide) rfl fp_37_19 (by decide) rfl rfl dX8_layBy_7 ?_
  refine n_iconst F (0 : Int32) dX8_layBy_10 (by decide) ?_
  refine n_istore_n F (lv' := [(2, .int (0 : Int32)), (0, .ref (gA (cg K) 37)), (1, .int a1)]) dX8_layBy_11 rfl (by decide) rfl ?_
  exact n_sub [1, 2, 0] rfl (Mo_layBy_L12_ok F (Mo_layBy_B174_ok F) FU _ _ _)
