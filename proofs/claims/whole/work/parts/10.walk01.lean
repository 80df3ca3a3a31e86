theorem dX1_copy_0 : decode cX1_copy 0 = .ok (.aload_n 0, 1) := by decide +kernel
theorem dX1_copy_1 : decode cX1_copy 1 = .ok (.aload_n 1, 1) := by decide +kernel
theorem dX1_copy_2 : decode cX1_copy 2 = .ok (.getfield 9, 3) := by decide +kernel
theorem dX1_copy_5 : decode cX1_copy 5 = .ok (.putfield 9, 3) := by decide +kernel
theorem dX1_copy_8 : decode cX1_copy 8 = .ok (.aload_n 0, 1) := by decide +kernel
theorem dX1_copy_9 : decode cX1_copy 9 = .ok (.aload_n 1, 1) := by decide +kernel
theorem dX1_copy_10 : decode cX1_copy 10 = .ok (.getfield 15, 3) := by decide +kernel
theorem dX1_copy_13 : decode cX1_copy 13 = .ok (.putfield 15, 3) := by decide +kernel
theorem dX1_copy_16 : decode cX1_copy 16 = .ok (.aload_n 0, 1) := by decide +kernel
theorem dX1_copy_17 : decode cX1_copy 17 = .ok (.aload_n 1, 1) := by decide +kernel
theorem dX1_copy_18 : decode cX1_copy 18 = .ok (.getfield 18, 3) := by decide +kernel
theorem dX1_copy_21 : decode cX1_copy 21 = .ok (.putfield 18, 3) := by decide +kernel
theorem dX1_copy_24 : decode cX1_copy 24 = .ok (.aload_n 0, 1) := by decide +kernel
theorem dX1_copy_25 : decode cX1_copy 25 = .ok (.aload_n 1, 1) := by decide +kernel
theorem dX1_copy_26 : decode cX1_copy 26 = .ok (.getfield 21, 3) := by decide +kernel
theorem dX1_copy_29 : decode cX1_copy 29 = .ok (.putfield 21, 3) := by decide +kernel
theorem dX1_copy_32 : decode cX1_copy 32 = .ok (.aload_n 1, 1) := by decide +kernel
theorem dX1_copy_33 : decode cX1_copy 33 = .ok (.getfield 24, 3) := by decide +kernel
theorem dX1_copy_36 : decode cX1_copy 36 = .ok (.iconst 0, 1) := by decide +kernel
theorem dX1_copy_37 : decode cX1_copy 37 = .ok (.aload_n 0, 1) := by decide +kernel
theorem dX1_copy_38 : decode cX1_copy 38 = .ok (.getfield 24, 3) := by decide +kernel
theorem dX1_copy_41 : decode cX1_copy 41 = .ok (.iconst 0, 1) := by decide +kernel
theorem dX1_copy_42 : decode cX1_copy 42 = .ok (.bipush 72, 2) := by decide +kernel
theorem dX1_copy_44 : decode cX1_copy 44 = .ok (.invokestatic 34, 3) := by decide +kernel
theorem dX1_copy_47 : decode cX1_copy 47 = .ok (.aload_n 1, 1) := by decide +kernel
theorem dX1_copy_48 : decode cX1_copy 48 = .ok (.getfield 28, 3) := by decide +kernel
theorem dX1_copy_51 : decode cX1_copy 51 = .ok (.iconst 0, 1) := by decide +kernel
theorem dX1_copy_52 : decode cX1_copy 52 = .ok (.aload_n 0, 1) := by decide +kernel
theorem dX1_copy_53 : decode cX1_copy 53 = .ok (.getfield 28, 3) := by decide +kernel
theorem dX1_copy_56 : decode cX1_copy 56 = .ok (.iconst 0, 1) := by decide +kernel
theorem dX1_copy_57 : decode cX1_copy 57 = .ok (.iconst 3, 1) := by decide +kernel
theorem dX1_copy_58 : decode cX1_copy 58 = .ok (.invokestatic 34, 3) := by decide +kernel
theorem dX1_copy_61 : decode cX1_copy 61 = .ok (.aload_n 1, 1) := by decide +kernel
theorem dX1_copy_62 : decode cX1_copy 62 = .ok (.getfield 31, 3) := by decide +kernel
theorem dX1_copy_65 : decode cX1_copy 65 = .ok (.iconst 0, 1) := by decide +kernel
theorem dX1_copy_66 : decode cX1_copy 66 = .ok (.aload_n 0, 1) := by decide +kernel
theorem dX1_copy_67 : decode cX1_copy 67 = .ok (.getfield 31, 3) := by decide +kernel
theorem dX1_copy_70 : decode cX1_copy 70 = .ok (.iconst 0, 1) := by decide +kernel
theorem dX1_copy_71 : decode cX1_copy 71 = .ok (.iconst 2, 1) := by decide +kernel
theorem dX1_copy_72 : decode cX1_copy 72 = .ok (.invokestatic 34, 3) := by decide +kernel
theorem dX1_copy_75 : decode cX1_copy 75 = .ok (.return_, 1) := by decide +kernel
def La_copy_3_8 (w : Wd) : Wd := (cI (cI (cI (sI (sI (sI (sI w 3 0 (w.1 8 0)) 3 1 ((sI w 3 0 (w.1 8 0)).1 8 1)) 3 2 ((sI (sI w 3 0 (w.1 8 0)) 3 1 ((sI w 3 0 (w.1 8 0)).1 8 1)).1 8 2)) 3 3 ((sI (sI (sI w 3 0 (w.1 8 0)) 3 1 ((sI w 3 0 (w.1 8 0)).1 8 1)) 3 2 ((sI (sI w 3 0 (w.1 8 0)) 3 1 ((sI w 3 0 (w.1 8 0)).1 8 1)).1 8 2)).1 8 3)) 9 0 4 0 72) 10 0 5 0 3) 11 0 6 0 2)
set_option maxRecDepth 100000 in
set_option maxHeartbeats 4000000 in
theorem ct_La_copy_3_8 {l : Launch} {g : GG} {σ : Sd} (hg : OKg g σ) (hb : σ.2.1 = true) (hx : ∀ c ∈ ([3, 4, 5, 6, 8, 9, 10, 11] : List Nat), c ∈ σ.1) (w : Wd) : CT l g σ yX1_copy cX1_copy 2 none 1 18 [.ref (gA g 3), .ref (gA g 8)] w none (La_copy_3_8 w) := by
  refine ct_of (rt := rtV) (res := some (La_copy_3_8 w)) (q := (La_copy_3_8 w)) (own := RX1) (b := true) hg hb hx (by decide) rfl (Nat.le_of_ble_eq_true rfl) rfl (fun K e1 e2 e3 F => ?_)
  subst e1 e2 e3
  rw [La_copy_3_8]
  show N K _ _ w 0 [(0, .ref (gA (cg K) 3)), (1, .ref (gA (cg K) 8))] []
  refine n_aload_n F dX1_copy_0 rfl 0 rfl ?_
  refine n_aload_n F dX1_copy_1 rfl 1 rfl ?_
  refine n_get F ck_1 lf_RX1_9 (by decide) fg_8_0 (by decide) dX1_copy_2 ?_
  refine n_put F ck_1 lf_RX1_9 (by decide) rfl fp_3_0 (by decide) rfl rfl dX1_copy_5 ?_
  refine n_aload_n F dX1_copy_8 rfl 0 rfl ?_
  refine n_aload_n F dX1_copy_9 rfl 1 rfl ?_
  refine n_get F ck_1 lf_RX1_15 (by decide) fg_8_1 (by decide) dX1_copy_10 ?_
  refine n_put F ck_1 lf_RX1_15 (by decide) rfl fp_3_1 (by decide) rfl rfl dX1_copy_13 ?_
  refine n_aload_n F dX1_copy_16 rfl 0 rfl ?_
  refine n_aload_n F dX1_copy_17 rfl 1 rfl ?_
  refine n_get F ck_1 lf_RX1_18 (by decide) fg_8_2 (by decide) dX1_copy_18 ?_
  refine n_put F ck_1 lf_RX1_18 (by decide) rfl fp_3_2 (by decide) rfl rfl dX1_copy_21 ?_
  refine n_aload_n F dX1_copy_24 rfl 0 rfl ?_
  refine n_aload_n F dX1_copy_25 rfl 1 rfl ?_
  refine n_get F ck_1 lf_RX1_21 (by decide) fg_8_3 (by decide) dX1_copy_26 ?_
  refine n_put F ck_1 lf_RX1_21 (by decide) rfl fp_3_3 (by decide) rfl rfl dX1_copy_29 ?_
  refine n_aload_n F dX1_copy_32 rfl 1 rfl ?_
  refine n_get F ck_1 lf_RX1_24 (by decide) fg_8_4 (by decide) dX1_copy_33 ?_
  refine n_iconst F (0 : Int32) dX1_copy_36 (by decide) ?_
  refine n_aload_n F dX1_copy_37 rfl 0 rfl ?_
  refine n_get F ck_1 lf_RX1_24 (by decide) fg_3_4 (by decide) dX1_copy_38 ?_
  refine n_iconst F (0 : Int32) dX1_copy_41 (by decide) ?_
  refine n_bipush F (72 : Int32) dX1_copy_42 (by decide) ?_
  refine n_copyI F ar_9 ar_4 (by decide) (by decide) 0 0 72 (by decide) (by decide) (by decide) (by decide) (by decide) (by decide) (by decide) (by decide) la_RX1_34 (Nat.le_of_ble_eq_true rfl) (Nat.le_of_ble_eq_true rfl) dX1_copy_44 ?_
  refine n_aload_n F dX1_copy_47 rfl 1 rfl ?_
  refine n_get F ck_1 lf_RX1_28 (by decide) fg_8_5 (by decide) dX1_copy_48 ?_
  refine n_iconst F (0 : Int32) dX1_copy_51 (by decide) ?_
  refine n_aload_n F dX1_copy_52 rfl 0 rfl ?_
  refine n_get F ck_1 lf_RX1_28 (by decide) fg_3_5 (by decide) dX1_copy_53 ?_
  refine n_iconst F (0 : Int32) dX1_copy_56 (by decide) ?_
  refine n_iconst F (3 : Int32) dX1_copy_57 (by decide) ?_
  refine n_copyI F ar_10 ar_5 (by decide) (by decide) 0 0 3 (by decide) (by decide) (by decide) (by decide) (by decide) (by decide) (by decide) (by decide) la_RX1_34 (Nat.le_of_ble_eq_true rfl) (Nat.le_of_ble_eq_true rfl) dX1_copy_58 ?_
  refine n_aload_n F dX1_copy_61 rfl 1 rfl ?_
  refine n_get F ck_1 lf_RX1_31 (by decide) fg_8_6 (by decide) dX1_copy_62 ?_
  refine n_iconst F (0 : Int32) dX1_copy_65 (by decide) ?_
  refine n_aload_n F dX1_copy_66 rfl 0 rfl ?_
  refine n_get F ck_1 lf_RX1_31 (by decide) fg_3_6 (by decide) dX1_copy_67 ?_
  refine n_iconst F (0 : Int32) dX1_copy_70 (by decide) ?_
  refine n_iconst F (2 : Int32) dX1_copy_71 (by decide) ?_
  refine n_copyI F ar_11 ar_6 (by decide) (by decide) 0 0 2 (by decide) (by decide) (by decide) (by decide) (by decide) (by decide) (by decide) (by decide) la_RX1_34 (Nat.le_of_ble_eq_true rfl) (Nat.le_of_ble_eq_true rfl) dX1_copy_72 ?_
  exact n_vret F rfl rfl dX1_copy_75
def La_copy_8_3 (w : Wd) : Wd := (cI (cI (cI (sI (sI (sI (sI w 8 0 (w.1 3 0)) 8 1 ((sI w 8 0 (w.1 3 0)).1 3 1)) 8 2 ((sI (sI w 8 0 (w.1 3 0)) 8 1 ((sI w 8 0 (w.1 3 0)).1 3 1)).1 3 2)) 8 3 ((sI (sI (sI w 8 0 (w.1 3 0)) 8 1 ((sI w 8 0 (w.1 3 0)).1 3 1)) 8 2 ((sI (sI w 8 0 (w.1 3 0)) 8 1 ((sI w 8 0 (w.1 3 0)).1 3 1)).1 3 2)).1 3 3)) 4 0 9 0 72) 5 0 10 0 3) 6 0 11 0 2)
set_option maxRecDepth 100000 in
set_option maxHeartbeats 4000000 in
theorem ct_La_copy_8_3 {l : Launch} {g : GG} {σ : Sd} (hg : OKg g σ) (hb : σ.2.1 = true) (hx : ∀ c ∈ ([3, 4, 5, 6, 8, 9, 10, 11] : List Nat), c ∈ σ.1) (w : Wd) : CT l g σ yX1_copy cX1_copy 2 none 1 18 [.ref (gA g 8), .ref (gA g 3)] w none (La_copy_8_3 w) := by
  refine ct_of (rt := rtV) (res := some (La_copy_8_3 w)) (q := (La_copy_8_3 w)) (own := RX1) (b := true) hg hb hx (by decide) rfl (Nat.le_of_ble_eq_true rfl) rfl (fun K e1 e2 e3 F => ?_)
  subst e1 e2 e3
  rw [La_copy_8_3]
  show N K _ _ w 0 [(0, .ref (gA (cg K) 8)), (1, .ref (gA (cg K) 3))] []
  refine n_aload_n F dX1_copy_0 rfl 0 rfl ?_
  refine n_aload_n F dX1_copy_1 rfl 1 rfl ?_
  refine n_get F ck_1 lf_RX1_9 (by decide) fg_3_0 (by decide) dX1_copy_2 ?_
  refine n_put F ck_1 lf_RX1_9 (by decide) rfl fp_8_0 (by decide) rfl rfl dX1_copy_5 ?_
  refine n_aload_n F dX1_copy_8 rfl 0 rfl ?_
  refine n_aload_n F dX1_copy_9 rfl 1 rfl ?_
  refine n_get F ck_1 lf_RX1_15 (by decide) fg_3_1 (by decide) dX1_copy_10 ?_
  refine n_put F ck_1 lf_RX1_15 (by decide) rfl fp_8_1 (by decide) rfl rfl dX1_copy_13 ?_
  refine n_aload_n F dX1_copy_16 rfl 0 rfl ?_
  refine n_aload_n F dX1_copy_17 rfl 1 rfl ?_
  refine n_get F ck_1 lf_RX1_18 (by decide) fg_3_2 (by decide) dX1_copy_18 ?_
  refine n_put F ck_1 lf_RX1_18 (by decide) rfl fp_8_2 (by decide) rfl rfl dX1_copy_21 ?_
  refine n_aload_n F dX1_copy_24 rfl 0 rfl ?_
  refine n_aload_n F dX1_copy_25 rfl 1 rfl ?_
  refine n_get F ck_1 lf_RX1_21 (by decide) fg_3_3 (by decide) dX1_copy_26 ?_
  refine n_put F ck_1 lf_RX1_21 (by decide) rfl fp_8_3 (by decide) rfl rfl dX1_copy_29 ?_
  refine n_aload_n F dX1_copy_32 rfl 1 rfl ?_
  refine n_get F ck_1 lf_RX1_24 (by decide) fg_3_4 (by decide) dX1_copy_33 ?_
  refine n_iconst F (0 : Int32) dX1_copy_36 (by decide) ?_
  refine n_aload_n F dX1_copy_37 rfl 0 rfl ?_
  refine n_get F ck_1 lf_RX1_24 (by decide) fg_8_4 (by decide) dX1_copy_38 ?_
  refine n_iconst F (0 : Int32) dX1_copy_41 (by decide) ?_
  refine n_bipush F (72 : Int32) dX1_copy_42 (by decide) ?_
  refine n_copyI F ar_4 ar_9 (by decide) (by decide) 0 0 72 (by decide) (by decide) (by decide) (by decide) (by decide) (by decide) (by decide) (by decide) la_RX1_34 (Nat.le_of_ble_eq_true rfl) (Nat.le_of_ble_eq_true rfl) dX1_copy_44 ?_
  refine n_aload_n F dX1_copy_47 rfl 1 rfl ?_
  refine n_get F ck_1 lf_RX1_28 (by decide) fg_3_5 (by decide) dX1_copy_48 ?_
  refine n_iconst F (0 : Int32) dX1_copy_51 (by decide) ?_
  refine n_aload_n F dX1_copy_52 rfl 0 rfl ?_
  refine n_get F ck_1 lf_RX1_28 (by decide) fg_8_5 (by decide) dX1_copy_53 ?_
  refine n_iconst F (0 : Int32) dX1_copy_56 (by decide) ?_
  refine n_iconst F (3 : Int32) dX1_copy_57 (by decide) ?_
  refine n_copyI F ar_5 ar_10 (by decide) (by decide) 0 0 3 (by decide) (by decide) (by decide) (by decide) (by decide) (by decide) (by decide) (by decide) la_RX1_34 (Nat.le_of_ble_eq_true rfl) (Nat.le_of_ble_eq_true rfl) dX1_copy_58 ?_
  refine n_aload_n F dX1_copy_61 rfl 1 rfl ?_
  refine n_get F ck_1 lf_RX1_31 (by decide) fg_3_6 (by decide) dX1_copy_62 ?_
  refine n_iconst F (0 : Int32) dX1_copy_65 (by decide) ?_
  refine n_aload_n F dX1_copy_66 rfl 0 rfl ?_
  refine n_get F ck_1 lf_RX1_31 (by decide) fg_8_6 (by decide) dX1_copy_67 ?_
  refine n_iconst F (0 : Int32) dX1_copy_70 (by decide) ?_
  refine n_iconst F (2 : Int32) dX1_copy_71 (by decide) ?_
  refine n_copyI F ar_6 ar_11 (by decide) (by decide) 0 0 2 (by decide) (by decide) (by decide) (by decide) (by decide) (by decide) (by decide) (by decide) la_RX1_34 (Nat.le_of_ble_eq_true rfl) (Nat.le_of_ble_eq_true rfl) dX1_copy_72 ?_
  exact n_vret F rfl rfl dX1_copy_75
theorem dJ7_fill_53178_0 : decode cJ7_fill_53178 0 = .ok (.iconst 0, 1) := by decide +kernel
theorem dJ7_fill_53178_1 : decode cJ7_fill_53178 1 = .ok (.istore_n 2, 1) := by decide +kernel
theorem dJ7_fill_53178_2 : decode cJ7_fill_53178 2 = .ok (.aload_n 0, 1) := by decide +kernel
theorem dJ7_fill_53178_3 : decode cJ7_fill_53178 3 = .ok (.arraylength, 1) := by decide +kernel
theorem dJ7_fill_53178_4 : decode cJ7_fill_53178 4 = .ok (.istore_n 3, 1) := by decide +kernel
theorem dJ7_fill_53178_5 : decode cJ7_fill_53178 5 = .ok (.iload_n 2, 1) := by decide +kernel
theorem dJ7_fill_53178_6 : decode cJ7_fill_53178 6 = .ok (.iload_n 3, 1) := by decide +kernel
theorem dJ7_fill_53178_7 : decode cJ7_fill_53178 7 = .ok (.if_icmp .ge 13, 3) := by decide +kernel
theorem dJ7_fill_53178_10 : decode cJ7_fill_53178 10 = .ok (.aload_n 0, 1) := by decide +kernel
theorem dJ7_fill_53178_11 : decode cJ7_fill_53178 11 = .ok (.iload_n 2, 1) := by decide +kernel
theorem dJ7_fill_53178_12 : decode cJ7_fill_53178 12 = .ok (.iload_n 1, 1) := by decide +kernel
theorem dJ7_fill_53178_13 : decode cJ7_fill_53178 13 = .ok (.iastore, 1) := by decide +kernel
theorem dJ7_fill_53178_14 : decode cJ7_fill_53178 14 = .ok (.iinc 2 1, 3) := by decide +kernel
theorem dJ7_fill_53178_17 : decode cJ7_fill_53178 17 = .ok (.goto (-12), 3) := by decide +kernel
theorem dJ7_fill_53178_20 : decode cJ7_fill_53178 20 = .ok (.return_, 1) := by decide +kernel
def Jd_fillI_11_L5 (k20 : Wd → Option Wd) : Nat → Wd → Int32 → Int32 → Int32 → Option Wd
  | 0, _, _, _, _ => none
  | n + 1, w, v1, v2, v3 => (if v3 ≤ v2 then (k20 w) else (if ib v2 2 = true then (Jd_fillI_11_L5 k20 n (sI w 11 (Int32.toNatClampNeg v2) v1) v1 (v2 + (1 : Int32)) v3) else none))
set_option maxRecDepth 100000 in
set_option maxHeartbeats 4000000 in
theorem Jd_fillI_11_L5_ok {K : Ctx} (F : Fx K cJ7_fill_53178 4 RJ7 none 0 0 true [11]) {k20 : Wd → Option Wd} (h20 : ∀ (w : Wd), N K rtV (k20 w) w 20 [] []) : ∀ (n : Nat) (w : Wd) (v1 : Int32) (v2 : Int32) (v3 : Int32), N K rtV (Jd_fillI_11_L5 k20 n w v1 v2 v3) w 5 [(0, .ref (gA (cg K) 11)), (1, .int v1), (2, .int v2), (3, .int v3)] [] := by
  intro n
  induction n with
  | zero => intro _ _ _ _; exact n_none
  | succ n ih =>
    intro w v1 v2 v3
    rw [Jd_fillI_11_L5]
    refine n_iload_n F dJ7_fill_53178_5 rfl 2 rfl ?_
    refine n_iload_n F dJ7_fill_53178_6 rfl 3 rfl ?_
    refine n_icmp_ge F 20 dJ7_fill_53178_7 (by decide) (fun e1 => ?_) (fun e1 => ?_)
    · rw [if_pos e1]
      exact n_sub [] rfl (h20 _)
    rw [if_neg e1]
    refine n_aload_n F dJ7_fill_53178_10 rfl 0 rfl ?_
    refine n_iload_n F dJ7_fill_53178_11 rfl 2 rfl ?_
    refine n_iload_n F dJ7_fill_53178_12 rfl 1 rfl ?_
    refine n_chk (fun e2 => ?_)
    refine n_iast F ar_11 (by decide) (ib_in e2) rfl dJ7_fill_53178_13 ?_
    refine n_iinc F (v2 + (1 : Int32)) (lv' := [(2, .int (v2 + (1 : Int32))), (0, .ref (gA (cg K) 11)), (1, .int v1), (3, .int v3)]) dJ7_fill_53178_14 2 rfl rfl (by decide) rfl ?_
    refine n_goto F 5 dJ7_fill_53178_17 (by decide) ?_
    exact n_sub [1, 2, 0, 3] rfl (ih _ _ _ _)
def Jd_fillI_11_B20 (w : Wd) : Option Wd := some w
set_option maxRecDepth 100000 in
set_option maxHeartbeats 4000000 in
theorem Jd_fillI_11_B20_ok {K : Ctx} (F : Fx K cJ7_fill_53178 4 RJ7 none 0 0 true [11]) (w : Wd) : N K rtV (Jd_fillI_11_B20 w) w 20 [] [] := by
  rw [Jd_fillI_11_B20]
  exact n_vret F rfl rfl dJ7_fill_53178_20
def Jd_fillI_11 (w : Wd) (a2 : Int32) : Option Wd := (Jd_fillI_11_L5 Jd_fillI_11_B20 FU w a2 (0 : Int32) (2 : Int32))
set_option maxRecDepth 100000 in
set_option maxHeartbeats 4000000 in
theorem ct_Jd_fillI_11 {l : Launch} {g : GG} {σ : Sd} (hg : OKg g σ) (hb : σ.2.1 = true) (hx : ∀ c ∈ ([11] : List Nat), c ∈ σ.1) (w : Wd) (a2 : Int32) {q : Wd} (hq : Jd_fillI_11 w a2 = some q) : CT l g σ yJ7_fill_53178 cJ7_fill_53178 4 none 0 0 [.ref (gA g 11), .int a2] w none q := by
  refine ct_of (rt := rtV) (res := Jd_fillI_11 w a2) (q := q) (own := RJ7) (b := true) hg hb hx (by decide) rfl (Nat.le_of_ble_eq_true rfl) hq (fun K e1 e2 e3 F => ?_)
  subst e1 e2 e3
  rw [Jd_fillI_11]
  show N K _ _ w 0 [(0, .ref (gA (cg K) 11)), (1, .int a2)] []
  refine n_iconst F (0 : Int32) dJ7_fill_53178_0 (by decide) ?_
  refine n_istore_n F (lv' := [(2, .int (0 : Int32)), (0, .ref (gA (cg K) 11)), (1, .int a2)]) dJ7_fill_53178_1 rfl (by decide) rfl ?_
  refine n_aload_n F dJ7_fill_53178_2 rfl 1 rfl ?_
  refine n_alenI F ar_11 (by decide) (v := (2 : Int32)) (by decide) dJ7_fill_53178_3 ?_
  refine n_istore_n F (lv' := [(3, .int (2 : Int32)), (2, .int (0 : Int32)), (0, .ref (gA (cg K) 11)), (1, .int a2)]) dJ7_fill_53178_4 rfl (by decide) rfl ?_
  exact n_sub [2, 3, 1, 0] rfl (Jd_fillI_11_L5_ok F (Jd_fillI_11_B20_ok F) FU _ _ _ _)
theorem dX1_clear_0 : decode cX1_clear 0 = .ok (.aload_n 0, 1) := by decide +kernel
theorem dX1_clear_1 : decode cX1_clear 1 = .ok (.iload_n 1, 1) := by decide +kernel
theorem dX1_clear_2 : decode cX1_clear 2 = .ok (.putfield 9, 3) := by decide +kernel
theorem dX1_clear_5 : decode cX1_clear 5 = .ok (.aload_n 0, 1) := by decide +kernel
theorem dX1_clear_6 : decode cX1_clear 6 = .ok (.iconst 0, 1) := by decide +kernel
theorem dX1_clear_7 : decode cX1_clear 7 = .ok (.putfield 15, 3) := by decide +kernel
theorem dX1_clear_10 : decode cX1_clear 10 = .ok (.aload_n 0, 1) := by decide +kernel
theorem dX1_clear_11 : decode cX1_clear 11 = .ok (.iconst 0, 1) := by decide +kernel
theorem dX1_clear_12 : decode cX1_clear 12 = .ok (.putfield 18, 3) := by decide +kernel
theorem dX1_clear_15 : decode cX1_clear 15 = .ok (.aload_n 0, 1) := by decide +kernel
theorem dX1_clear_16 : decode cX1_clear 16 = .ok (.getfield 31, 3) := by decide +kernel
theorem dX1_clear_19 : decode cX1_clear 19 = .ok (.iconst (-1), 1) := by decide +kernel
theorem dX1_clear_20 : decode cX1_clear 20 = .ok (.invokestatic 40, 3) := by decide +kernel
theorem dX1_clear_23 : decode cX1_clear 23 = .ok (.return_, 1) := by decide +kernel
def La_clear (w : Wd) (a1 : Int32) : Option Wd := (Option.bind (Jd_fillI_11 (sI (sI (sI w 8 0 a1) 8 1 (0 : Int32)) 8 2 (0 : Int32)) (-1 : Int32)) (fun q1 => some q1))
set_option maxRecDepth 100000 in
set_option maxHeartbeats 4000000 in
theorem ct_La_clear {l : Launch} {g : GG} {σ : Sd} (hg : OKg g σ) (hb : σ.2.1 = true) (hx : ∀ c ∈ ([8, 11] : List Nat), c ∈ σ.1) (w : Wd) (a1 : Int32) {q : Wd} (hq : La_clear w a1 = some q) : CT l g σ yX1_clear cX1_clear 2 none 1 23 [.ref (gA g 8), .int a1] w none q := by
  refine ct_of (rt := rtV) (res := La_clear w a1) (q := q) (own := RX1) (b := true) hg hb hx (by decide) rfl (Nat.le_of_ble_eq_true rfl) hq (fun K e1 e2 e3 F => ?_)
  subst e1 e2 e3
  rw [La_clear]
  show N K _ _ w 0 [(0, .ref (gA (cg K) 8)), (1, .int a1)] []
  refine n_aload_n F dX1_clear_0 rfl 0 rfl ?_
  refine n_iload_n F dX1_clear_1 rfl 1 rfl ?_
  refine n_put F ck_1 lf_RX1_9 (by decide) rfl fp_8_0 (by decide) rfl rfl dX1_clear_2 ?_
  refine n_aload_n F dX1_clear_5 rfl 0 rfl ?_
  refine n_iconst F (0 : Int32) dX1_clear_6 (by decide) ?_
  refine n_put F ck_1 lf_RX1_15 (by decide) rfl fp_8_1 (by decide) rfl rfl dX1_clear_7 ?_
  refine n_aload_n F dX1_clear_10 rfl 0 rfl ?_
  refine n_iconst F (0 : Int32) dX1_clear_11 (by decide) ?_
  refine n_put F ck_1 lf_RX1_18 (by decide) rfl fp_8_2 (by decide) rfl rfl dX1_clear_12 ?_
  refine n_aload_n F dX1_clear_15 rfl 0 rfl ?_
  refine n_get F ck_1 lf_RX1_31 (by decide) fg_8_6 (by decide) dX1_clear_16 ?_
  refine n_iconst F (-1 : Int32) dX1_clear_19 (by decide) ?_
  refine n_bind (fun q1 hq1 => ?_)
  refine n_callSv F cb_J7_fill_53178 lm_RX1_40 (ct_Jd_fillI_11 (fx_ok F) (fx_sd F) (fx_ix F rfl) (sI (sI (sI w 8 0 a1) 8 1 (0 : Int32)) 8 2 (0 : Int32)) (-1 : Int32) hq1) rfl rfl (Nat.le_of_ble_eq_true rfl) ⟨Nat.le_of_ble_eq_true rfl, Nat.le_of_ble_eq_true rfl⟩ dX1_clear_20 ?_
  exact n_vret F rfl rfl dX1_clear_23
theorem dX7_within_0 : decode cX7_within 0 = .ok (.iload_n 0, 1) := by decide +kernel
theorem dX7_within_1 : decode cX7_within 1 = .ok (.iload_n 1, 1) := by decide +kernel
theorem dX7_within_2 : decode cX7_within 2 = .ok (.if_icmp .lt 12, 3) := by decide +kernel
theorem dX7_within_5 : decode cX7_within 5 = .ok (.iload_n 0, 1) := by decide +kernel
theorem dX7_within_6 : decode cX7_within 6 = .ok (.iload_n 2, 1) := by decide +kernel
theorem dX7_within_7 : decode cX7_within 7 = .ok (.if_icmp .gt 7, 3) := by decide +kernel
theorem dX7_within_10 : decode cX7_within 10 = .ok (.iconst 1, 1) := by decide +kernel
theorem dX7_within_11 : decode cX7_within 11 = .ok (.goto 4, 3) := by decide +kernel
theorem dX7_within_14 : decode cX7_within 14 = .ok (.iconst 0, 1) := by decide +kernel
theorem dX7_within_15 : decode cX7_within 15 = .ok (.ireturn, 1) := by decide +kernel
def Nt_within (w : Wd) (a1 : Int32) (a2 : Int32) (a3 : Int32) : Int32 := (if a1 < a2 then (0 : Int32) else (if a3 < a1 then (0 : Int32) else (1 : Int32)))
set_option maxRecDepth 100000 in
set_option maxHeartbeats 4000000 in
theorem ct_Nt_within {l : Launch} {g : GG} {σ : Sd} (hg : OKg g σ) (hb : σ.2.1 = true) (hx : ∀ c ∈ ([] : List Nat), c ∈ σ.1) (w : Wd) (a1 : Int32) (a2 : Int32) (a3 : Int32) : CT l g σ yX7_within cX7_within 3 (some .boolean) 0 0 [.int a1, .int a2, .int a3] w (some (.int (Nt_within w a1 a2 a3))) w := by
  refine ct_of (rt := (rtP w)) (res := some (Nt_within w a1 a2 a3)) (q := (Nt_within w a1 a2 a3)) (own := RX7) (b := true) hg hb hx (by decide) rfl (Nat.le_of_ble_eq_true rfl) rfl (fun K e1 e2 e3 F => ?_)
  subst e1 e2 e3
  rw [Nt_within]
  show N K _ _ w 0 [(0, .int a1), (1, .int a2), (2, .int a3)] []
  refine n_iload_n F dX7_within_0 rfl 0 rfl ?_
  refine n_iload_n F dX7_within_1 rfl 1 rfl ?_
  refine n_icmp_lt F 14 dX7_within_2 (by decide) (fun e1 => ?_) (fun e1 => ?_)
  · rw [if_pos e1]
    refine n_iconst F (0 : Int32) dX7_within_14 (by decide) ?_
    exact n_zret F .boolean rfl rfl rfl dX7_within_15
  rw [if_neg e1]
  refine n_iload_n F dX7_within_5 rfl 0 rfl ?_
  refine n_iload_n F dX7_within_6 rfl 2 rfl ?_
  refine n_icmp_gt F 14 dX7_within_7 (by decide) (fun e2 => ?_) (fun e2 => ?_)
  · rw [if_pos e2]
    refine n_iconst F (0 : Int32) dX7_within_14 (by decide) ?_
    exact n_zret F .boolean rfl rfl rfl dX7_within_15
  rw [if_neg e2]
  refine n_iconst F (1 : Int32) dX7_within_10 (by decide) ?_
  refine n_goto F 15 dX7_within_11 (by decide) ?_
  exact n_zret F .boolean rfl rfl rfl dX7_within_15
theorem bz_Nt_within (w : Wd) (a1 : Int32) (a2 : Int32) (a3 : Int32) : (Nt_within w a1 a2 a3) &&& (1 : Int32) = (Nt_within w a1 a2 a3) := by
  unfold Nt_within
  first | exact bz_auto | (repeat' split) <;> first | rfl | assumption
theorem dX1_setPart_0 : decode cX1_setPart 0 = .ok (.iload_n 1, 1) := by decide +kernel
theorem dX1_setPart_1 : decode cX1_setPart 1 = .ok (.iconst 0, 1) := by decide +kernel
theorem dX1_setPart_2 : decode cX1_setPart 2 = .ok (.bipush 11, 2) := by decide +kernel
theorem dX1_setPart_4 : decode cX1_setPart 4 = .ok (.invokestatic 46, 3) := by decide +kernel
theorem dX1_setPart_7 : decode cX1_setPart 7 = .ok (.ifCond .eq 24, 3) := by decide +kernel
theorem dX1_setPart_10 : decode cX1_setPart 10 = .ok (.iload_n 2, 1) := by decide +kernel
theorem dX1_setPart_11 : decode cX1_setPart 11 = .ok (.iconst 0, 1) := by decide +kernel
theorem dX1_setPart_12 : decode cX1_setPart 12 = .ok (.iconst 5, 1) := by decide +kernel
theorem dX1_setPart_13 : decode cX1_setPart 13 = .ok (.invokestatic 46, 3) := by decide +kernel
theorem dX1_setPart_16 : decode cX1_setPart 16 = .ok (.ifCond .eq 15, 3) := by decide +kernel
theorem dX1_setPart_19 : decode cX1_setPart 19 = .ok (.aload_n 0, 1) := by decide +kernel
theorem dX1_setPart_20 : decode cX1_setPart 20 = .ok (.getfield 24, 3) := by decide +kernel
theorem dX1_setPart_23 : decode cX1_setPart 23 = .ok (.iload_n 1, 1) := by decide +kernel
theorem dX1_setPart_24 : decode cX1_setPart 24 = .ok (.bipush 6, 2) := by decide +kernel
theorem dX1_setPart_26 : decode cX1_setPart 26 = .ok (.imul, 1) := by decide +kernel
theorem dX1_setPart_27 : decode cX1_setPart 27 = .ok (.iload_n 2, 1) := by decide +kernel
theorem dX1_setPart_28 : decode cX1_setPart 28 = .ok (.iadd, 1) := by decide +kernel
theorem dX1_setPart_29 : decode cX1_setPart 29 = .ok (.iload_n 3, 1) := by decide +kernel
theorem dX1_setPart_30 : decode cX1_setPart 30 = .ok (.iastore, 1) := by decide +kernel
theorem dX1_setPart_31 : decode cX1_setPart 31 = .ok (.return_, 1) := by decide +kernel
def La_setPart (w : Wd) (a1 : Int32) (a2 : Int32) (a3 : Int32) : Option Wd := (if (Nt_within w a1 (0 : Int32) (11 : Int32)) = (0 : Int32) then some w else (if (Nt_within w a2 (0 : Int32) (5 : Int32)) = (0 : Int32) then some w else (if ib ((a1 * (6 : Int32)) + a2) 72 = true then some (sI w 9 (Int32.toNatClampNeg ((a1 * (6 : Int32)) + a2)) a3) else none)))
set_option maxRecDepth 100000 in
set_option maxHeartbeats 4000000 in
theorem ct_La_setPart {l : Launch} {g : GG} {σ : Sd} (hg : OKg g σ) (hb : σ.2.1 = true) (hx : ∀ c ∈ ([8, 9] : List Nat), c ∈ σ.1) (w : Wd) (a1 : Int32) (a2 : Int32) (a3 : Int32) {q : Wd} (hq : La_setPart w a1 a2 a3 = some q) : CT l g σ yX1_setPart cX1_setPart 4 none 1 22 [.ref (gA g 8), .int a1, .int a2, .int a3] w none q := by
  refine ct_of (rt := rtV) (res := La_setPart w a1 a2 a3) (q := q) (own := RX1) (b := true) hg hb hx (by decide) rfl (Nat.le_of_ble_eq_true rfl) hq (fun K e1 e2 e3 F => ?_)
  subst e1 e2 e3
  rw [La_setPart]
  show N K _ _ w 0 [(0, .ref (gA (cg K) 8)), (1, .int a1), (2, .int a2), (3, .int a3)] []
  refine n_iload_n F dX1_setPart_0 rfl 1 rfl ?_
  refine n_iconst F (0 : Int32) dX1_setPart_1 (by decide) ?_
  refine n_bipush F (11 : Int32) dX1_setPart_2 (by decide) ?_
  refine n_callSNi F cb_X7_within lm_RX1_46 (ct_Nt_within (fx_ok F) (fx_sd F) (fx_ix F rfl) w a1 (0 : Int32) (11 : Int32)) rfl rfl (Nat.le_of_ble_eq_true rfl) ⟨Nat.le_of_ble_eq_true rfl, Nat.le_of_ble_eq_true rfl⟩ dX1_setPart_4 ?_
  refine n_if_eq F 31 dX1_setPart_7 (by decide) (fun e1 => ?_) (fun e1 => ?_)
  · rw [if_pos e1]
    exact n_vret F rfl rfl dX1_setPart_31
  rw [if_neg e1]
  refine n_iload_n F dX1_setPart_10 rfl 2 rfl ?_
  refine n_iconst F (0 : Int32) dX1_setPart_11 (by decide) ?_
  refine n_iconst F (5 : Int32) dX1_setPart_12 (by decide) ?_
  refine n_callSNi F cb_X7_within lm_RX1_46 (ct_Nt_within (fx_ok F) (fx_sd F) (fx_ix F rfl) w a2 (0 : Int32) (5 : Int32)) rfl rfl (Nat.le_of_ble_eq_true rfl) ⟨Nat.le_of_ble_eq_true rfl, Nat.le_of_ble_eq_true rfl⟩ dX1_setPart_13 ?_
  refine n_if_eq F 31 dX1_setPart_16 (by decide) (fun e2 => ?_) (fun e2 => ?_)
  · rw [if_pos e2]
    exact n_vret F rfl rfl dX1_setPart_31
  rw [if_neg e2]
  refine n_aload_n F dX1_setPart_19 rfl 0 rfl ?_
  refine n_get F ck_1 lf_RX1_24 (by decide) fg_8_4 (by decide) dX1_setPart_20 ?_
  refine n_iload_n F dX1_setPart_23 rfl 1 rfl ?_
  refine n_bipush F (6 : Int32) dX1_setPart_24 (by decide) ?_
  refine n_imul F dX1_setPart_26 ?_
  refine n_iload_n F dX1_setPart_27 rfl 2 rfl ?_
  refine n_iadd F dX1_setPart_28 ?_
  refine n_iload_n F dX1_setPart_29 rfl 3 rfl ?_
  refine n_chk (fun e3 => ?_)
  refine n_iast F ar_9 (by decide) (ib_in e3) rfl dX1_setPart_30 ?_
  exact n_vret F rfl rfl dX1_setPart_31
theorem dX1_setTickets_0 : decode cX1_setTickets 0 = .ok (.iload_n 1, 1) := by decide +kernel
theorem dX1_setTickets_1 : decode cX1_setTickets 1 = .ok (.iconst 0, 1) := by decide +kernel
theorem dX1_setTickets_2 : decode cX1_setTickets 2 = .ok (.iconst 2, 1) := by decide +kernel
theorem dX1_setTickets_3 : decode cX1_setTickets 3 = .ok (.invokestatic 46, 3) := by decide +kernel
theorem dX1_setTickets_6 : decode cX1_setTickets 6 = .ok (.ifCond .eq 10, 3) := by decide +kernel
theorem dX1_setTickets_9 : decode cX1_setTickets 9 = .ok (.aload_n 0, 1) := by decide +kernel
theorem dX1_setTickets_10 : decode cX1_setTickets 10 = .ok (.getfield 28, 3) := by decide +kernel
theorem dX1_setTickets_13 : decode cX1_setTickets 13 = .ok (.iload_n 1, 1) := by decide +kernel
theorem dX1_setTickets_14 : decode cX1_setTickets 14 = .ok (.iload_n 2, 1) := by decide +kernel
theorem dX1_setTickets_15 : decode cX1_setTickets 15 = .ok (.iastore, 1) := by decide +kernel
theorem dX1_setTickets_16 : decode cX1_setTickets 16 = .ok (.return_, 1) := by decide +kernel
def La_setTickets (w : Wd) (a1 : Int32) (a2 : Int32) : Option Wd := (if (Nt_within w a1 (0 : Int32) (2 : Int32)) = (0 : Int32) then some w else (if ib a1 3 = true then some (sI w 10 (Int32.toNatClampNeg a1) a2) else none))
set_option maxRecDepth 100000 in
set_option maxHeartbeats 4000000 in
theorem ct_La_setTickets {l : Launch} {g : GG} {σ : Sd} (hg : OKg g σ) (hb : σ.2.1 = true) (hx : ∀ c ∈ ([8, 10] : List Nat), c ∈ σ.1) (w : Wd) (a1 : Int32) (a2 : Int32) {q : Wd} (hq : La_setTickets w a1 a2 = some q) : CT l g σ yX1_setTickets cX1_setTickets 3 none 1 22 [.ref (gA g 8), .int a1, .int a2] w none q := by
  refine ct_of (rt := rtV) (res := La_setTickets w a1 a2) (q := q) (own := RX1) (b := true) hg hb hx (by decide) rfl (Nat.le_of_ble_eq_true rfl) hq (fun K e1 e2 e3 F => ?_)
  subst e1 e2 e3
  rw [La_setTickets]
  show N K _ _ w 0 [(0, .ref (gA (cg K) 8)), (1, .int a1), (2, .int a2)] []
  refine n_iload_n F dX1_setTickets_0 rfl 1 rfl ?_
  refine n_iconst F (0 : Int32) dX1_setTickets_1 (by decide) ?_
  refine n_iconst F (2 : Int32) dX1_setTickets_2 (by decide) ?_
  refine n_callSNi F cb_X7_within lm_RX1_46 (ct_Nt_within (fx_ok F) (fx_sd F) (fx_ix F rfl) w a1 (0 : Int32) (2 : Int32)) rfl rfl (Nat.le_of_ble_eq_true rfl) ⟨Nat.le_of_ble_eq_true rfl, Nat.le_of_ble_eq_true rfl⟩ dX1_setTickets_3 ?_
  refine n_if_eq F 16 dX1_setTickets_6 (by decide) (fun e1 => ?_) (fun e1 => ?_)
  · rw [if_pos e1]
    exact n_vret F rfl rfl dX1_setTickets_16
  rw [if_neg e1]
  refine n_aload_n F dX1_setTickets_9 rfl 0 rfl ?_
  refine n_get F ck_1 lf_RX1_28 (by decide) fg_8_5 (by decide) dX1_setTickets_10 ?_
  refine n_iload_n F dX1_setTickets_13 rfl 1 rfl ?_
  refine n_iload_n F dX1_setTickets_14 rfl 2 rfl ?_
  refine n_chk (fun e2 => ?_)
  refine n_iast F ar_10 (by decide) (ib_in e2) rfl dX1_setTickets_15 ?_
  exact n_vret F rfl rfl dX1_setTickets_16
theorem dX7_isSeeker_0 : decode cX7_isSeeker 0 = .ok (.iload_n 0, 1) := by decide +kernel
theorem dX7_isSeeker_1 : decode cX7_isSeeker 1 = .ok (.iconst 0, 1) := by decide +kernel
theorem dX7_isSeeker_2 : decode cX7_isSeeker 2 = .ok (.iconst 1, 1) := by decide +kernel
theorem dX7_isSeeker_3 : decode cX7_isSeeker 3 = .ok (.invokestatic 74, 3) := by decide +kernel
theorem dX7_isSeeker_6 : decode cX7_isSeeker 6 = .ok (.ireturn, 1) := by decide +kernel
def Nt_isSeeker (w : Wd) (a1 : Int32) : Int32 := (Nt_within w a1 (0 : Int32) (1 : Int32))
set_option maxRecDepth 100000 in
set_option maxHeartbeats 4000000 in
theorem ct_Nt_isSeeker {l : Launch} {g : GG} {σ : Sd} (hg : OKg g σ) (hb : σ.2.1 = true) (hx : ∀ c ∈ ([] : List Nat), c ∈ σ.1) (w : Wd) (a1 : Int32) : CT l g σ yX7_isSeeker cX7_isSeeker 1 (some .boolean) 1 22 [.int a1] w (some (.int (Nt_isSeeker w a1))) w := by
  refine ct_of (rt := (rtP w)) (res := some (Nt_isSeeker w a1)) (q := (Nt_isSeeker w a1)) (own := RX7) (b := true) hg hb hx (by decide) rfl (Nat.le_of_ble_eq_true rfl) rfl (fun K e1 e2 e3 F => ?_)
  subst e1 e2 e3
  rw [Nt_isSeeker]
  show N K _ _ w 0 [(0, .int a1)] []
  refine n_iload_n F dX7_isSeeker_0 rfl 0 rfl ?_
  refine n_iconst F (0 : Int32) dX7_isSeeker_1 (by decide) ?_
  refine n_iconst F (1 : Int32) dX7_isSeeker_2 (by decide) ?_
  refine n_callSi F cb_X7_within lm_RX7_74 (ct_Nt_within (fx_ok F) (fx_sd F) (fx_ix F rfl) w a1 (0 : Int32) (1 : Int32)) rfl rfl (Nat.le_of_ble_eq_true rfl) ⟨Nat.le_of_ble_eq_true rfl, Nat.le_of_ble_eq_true rfl⟩ dX7_isSeeker_3 ?_
  exact n_zret F .boolean rfl (bz_n (bz_Nt_within w a1 (0 : Int32) (1 : Int32))) rfl dX7_isSeeker_6
theorem bz_Nt_isSeeker (w : Wd) (a1 : Int32) : (Nt_isSeeker w a1) &&& (1 : Int32) = (Nt_isSeeker w a1) := by
  unfold Nt_isSeeker
  first | exact bz_auto | (repeat' split) <;> first | rfl | assumption | exact (bz_Nt_within w a1 (0 : Int32) (1 : Int32))
theorem dX1_setSeeker_0 : decode cX1_setSeeker 0 = .ok (.iload_n 1, 1) := by decide +kernel
theorem dX1_setSeeker_1 : decode cX1_setSeeker 1 = .ok (.invokestatic 50, 3) := by decide +kernel
theorem dX1_setSeeker_4 : decode cX1_setSeeker 4 = .ok (.ifCond .eq 10, 3) := by decide +kernel
theorem dX1_setSeeker_7 : decode cX1_setSeeker 7 = .ok (.aload_n 0, 1) := by decide +kernel
theorem dX1_setSeeker_8 : decode cX1_setSeeker 8 = .ok (.getfield 31, 3) := by decide +kernel
theorem dX1_setSeeker_11 : decode cX1_setSeeker 11 = .ok (.iload_n 1, 1) := by decide +kernel
theorem dX1_setSeeker_12 : decode cX1_setSeeker 12 = .ok (.iload_n 2, 1) := by decide +kernel
theorem dX1_setSeeker_13 : decode cX1_setSeeker 13 = .ok (.iastore, 1) := by decide +kernel
theorem dX1_setSeeker_14 : decode cX1_setSeeker 14 = .ok (.return_, 1) := by decide +kernel
def La_setSeeker (w : Wd) (a1 : Int32) (a2 : Int32) : Option Wd := (if (Nt_isSeeker w a1) = (0 : Int32) then some w else (if ib a1 2 = true then some (sI w 11 (Int32.toNatClampNeg a1) a2) else none))
set_option maxRecDepth 100000 in
set_option maxHeartbeats 4000000 in
theorem ct_La_setSeeker {l : Launch} {g : GG} {σ : Sd} (hg : OKg g σ) (hb : σ.2.1 = true) (hx : ∀ c ∈ ([8, 11] : List Nat), c ∈ σ.1) (w : Wd) (a1 : Int32) (a2 : Int32) {q : Wd} (hq : La_setSeeker w a1 a2 = some q) : CT l g σ yX1_setSeeker cX1_setSeeker 3 none 2 42 [.ref (gA g 8), .int a1, .int a2] w none q := by
  refine ct_of (rt := rtV) (res := La_setSeeker w a1 a2) (q := q) (own := RX1) (b := true) hg hb hx (by decide) rfl (Nat.le_of_ble_eq_true rfl) hq (fun K e1 e2 e3 F => ?_)
  subst e1 e2 e3
  rw [La_setSeeker]
  show N K _ _ w 0 [(0, .ref (gA (cg K) 8)), (1, .int a1), (2, .int a2)] []
  refine n_iload_n F dX1_setSeeker_0 rfl 1 rfl ?_
  refine n_callSNi F cb_X7_isSeeker lm_RX1_50 (ct_Nt_isSeeker (fx_ok F) (fx_sd F) (fx_ix F rfl) w a1) rfl rfl (Nat.le_of_ble_eq_true rfl) ⟨Nat.le_of_ble_eq_true rfl, Nat.le_of_ble_eq_true rfl⟩ dX1_setSeeker_1 ?_
  refine n_if_eq F 14 dX1_setSeeker_4 (by decide) (fun e1 => ?_) (fun e1 => ?_)
  · rw [if_pos e1]
    exact n_vret F rfl rfl dX1_setSeeker_14
  rw [if_neg e1]
  refine n_aload_n F dX1_setSeeker_7 rfl 0 rfl ?_
  refine n_get F ck_1 lf_RX1_31 (by decide) fg_8_6 (by decide) dX1_setSeeker_8 ?_
  refine n_iload_n F dX1_setSeeker_11 rfl 1 rfl ?_
  refine n_iload_n F dX1_setSeeker_12 rfl 2 rfl ?_
  refine n_chk (fun e2 => ?_)
  refine n_iast F ar_11 (by decide) (ib_in e2) rfl dX1_setSeeker_13 ?_
  exact n_vret F rfl rfl dX1_setSeeker_14
theorem dX1_hasStation_0 : decode cX1_hasStation 0 = .ok (.iload_n 1, 1) := by decide +kernel
theorem dX1_hasStation_1 : decode cX1_hasStation 1 = .ok (.ifCond .lt 15, 3) := by decide +kernel
theorem dX1_hasStation_4 : decode cX1_hasStation 4 = .ok (.iload_n 1, 1) := by decide +kernel
theorem dX1_hasStation_5 : decode cX1_hasStation 5 = .ok (.aload_n 0, 1) := by decide +kernel
theorem dX1_hasStation_6 : decode cX1_hasStation 6 = .ok (.getfield 9, 3) := by decide +kernel
theorem dX1_hasStation_9 : decode cX1_hasStation 9 = .ok (.if_icmp .ge 7, 3) := by decide +kernel
theorem dX1_hasStation_12 : decode cX1_hasStation 12 = .ok (.iconst 1, 1) := by decide +kernel
theorem dX1_hasStation_13 : decode cX1_hasStation 13 = .ok (.goto 4, 3) := by decide +kernel
theorem dX1_hasStation_16 : decode cX1_hasStation 16 = .ok (.iconst 0, 1) := by decide +kernel
theorem dX1_hasStation_17 : decode cX1_hasStation 17 = .ok (.ireturn, 1) := by decide +kernel
def La_hasStation_3 (w : Wd) (a1 : Int32) : Int32 := (if a1 < (0 : Int32) then (0 : Int32) else (if (w.1 3 0) ≤ a1 then (0 : Int32) else (1 : Int32)))
set_option maxRecDepth 100000 in
set_option maxHeartbeats 4000000 in
theorem ct_La_hasStation_3 {l : Launch} {g : GG} {σ : Sd} (hg : OKg g σ) (hb : σ.2.1 = true) (hx : ∀ c ∈ ([3] : List Nat), c ∈ σ.1) (w : Wd) (a1 : Int32) : CT l g σ yX1_hasStation cX1_hasStation 2 (some .boolean) 0 0 [.ref (gA g 3), .int a1] w (some (.int (La_hasStation_3 w a1))) w := by
  refine ct_of (rt := (rtP w)) (res := some (La_hasStation_3 w a1)) (q := (La_hasStation_3 w a1)) (own := RX1) (b := true) hg hb hx (by decide) rfl (Nat.le_of_ble_eq_true rfl) rfl (fun K e1 e2 e3 F => ?_)
  subst e1 e2 e3
  rw [La_hasStation_3]
  show N K _ _ w 0 [(0, .ref (gA (cg K) 3)), (1, .int a1)] []
  refine n_iload_n F dX1_hasStation_0 rfl 1 rfl ?_
  refine n_if_lt F 16 dX1_hasStation_1 (by decide) (fun e1 => ?_) (fun e1 => ?_)
  · rw [if_pos e1]
    refine n_iconst F (0 : Int32) dX1_hasStation_16 (by decide) ?_
    exact n_zret F .boolean rfl rfl rfl dX1_hasStation_17
  rw [if_neg e1]
  refine n_iload_n F dX1_hasStation_4 rfl 1 rfl ?_
  refine n_aload_n F dX1_hasStation_5 rfl 0 rfl ?_
  refine n_get F ck_1 lf_RX1_9 (by decide) fg_3_0 (by decide) dX1_hasStation_6 ?_
  refine n_icmp_ge F 16 dX1_hasStation_9 (by decide) (fun e2 => ?_) (fun e2 => ?_)
  · rw [if_pos e2]
    refine n_iconst F (0 : Int32) dX1_hasStation_16 (by decide) ?_
    exact n_zret F .boolean rfl rfl rfl dX1_hasStation_17
  rw [if_neg e2]
  refine n_iconst F (1 : Int32) dX1_hasStation_12 (by decide) ?_
  refine n_goto F 17 dX1_hasStation_13 (by decide) ?_
  exact n_zret F .boolean rfl rfl rfl dX1_hasStation_17
theorem bz_La_hasStation_3 (w : Wd) (a1 : Int32) : (La_hasStation_3 w a1) &&& (1 : Int32) = (La_hasStation_3 w a1) := by
  unfold La_hasStation_3
  first | exact bz_auto | (repeat' split) <;> first | rfl | assumption
def La_hasStation_8 (w : Wd) (a1 : Int32) : Int32 := (if a1 < (0 : Int32) then (0 : Int32) else (if (w.1 8 0) ≤ a1 then (0 : Int32) else (1 : Int32)))
set_option maxRecDepth 100000 in
set_option maxHeartbeats 4000000 in
theorem ct_La_hasStation_8 {l : Launch} {g : GG} {σ : Sd} (hg : OKg g σ) (hb : σ.2.1 = true) (hx : ∀ c ∈ ([8] : List Nat), c ∈ σ.1) (w : Wd) (a1 : Int32) : CT l g σ yX1_hasStation cX1_hasStation 2 (some .boolean) 0 0 [.ref (gA g 8), .int a1] w (some (.int (La_hasStation_8 w a1))) w := by
  refine ct_of (rt := (rtP w)) (res := some (La_hasStation_8 w a1)) (q := (La_hasStation_8 w a1)) (own := RX1) (b := true) hg hb hx (by decide) rfl (Nat.le_of_ble_eq_true rfl) rfl (fun K e1 e2 e3 F => ?_)
  subst e1 e2 e3
  rw [La_hasStation_8]
  show N K _ _ w 0 [(0, .ref (gA (cg K) 8)), (1, .int a1)] []
  refine n_iload_n F dX1_hasStation_0 rfl 1 rfl ?_
  refine n_if_lt F 16 dX1_hasStation_1 (by decide) (fun e1 => ?_) (fun e1 => ?_)
  · rw [if_pos e1]
    refine n_iconst F (0 : Int32) dX1_hasStation_16 (by decide) ?_
    exact n_zret F .boolean rfl rfl rfl dX1_hasStation_17
  rw [if_neg e1]
  refine n_iload_n F dX1_hasStation_4 rfl 1 rfl ?_
  refine n_aload_n F dX1_hasStation_5 rfl 0 rfl ?_
  refine n_get F ck_1 lf_RX1_9 (by decide) fg_8_0 (by decide) dX1_hasStation_6 ?_
  refine n_icmp_ge F 16 dX1_hasStation_9 (by decide) (fun e2 => ?_) (fun e2 => ?_)
  · rw [if_pos e2]
    refine n_iconst F (0 : Int32) dX1_hasStation_16 (by decide) ?_
    exact n_zret F .boolean rfl rfl rfl dX1_hasStation_17
  rw [if_neg e2]
  refine n_iconst F (1 : Int32) dX1_hasStation_12 (by decide) ?_
  refine n_goto F 17 dX1_hasStation_13 (by decide) ?_
  exact n_zret F .boolean rfl rfl rfl dX1_hasStation_17
theorem bz_La_hasStation_8 (w : Wd) (a1 : Int32) : (La_hasStation_8 w a1) &&& (1 : Int32) = (La_hasStation_8 w a1) := by
  unfold La_hasStation_8
  first | exact bz_auto | (repeat' split) <;> first | rfl | assumption
theorem dX1_hasTrain_0 : decode cX1_hasTrain 0 = .ok (.iload_n 1, 1) := by decide +kernel
theorem dX1_hasTrain_1 : decode cX1_hasTrain 1 = .ok (.ifCond .lt 15, 3) := by decide +kernel
theorem dX1_hasTrain_4 : decode cX1_hasTrain 4 = .ok (.iload_n 1, 1) := by decide +kernel
theorem dX1_hasTrain_5 : decode cX1_hasTrain 5 = .ok (.aload_n 0, 1) := by decide +kernel
theorem dX1_hasTrain_6 : decode cX1_hasTrain 6 = .ok (.getfield 15, 3) := by decide +kernel
theorem dX1_hasTrain_9 : decode cX1_hasTrain 9 = .ok (.if_icmp .ge 7, 3) := by decide +kernel
theorem dX1_hasTrain_12 : decode cX1_hasTrain 12 = .ok (.iconst 1, 1) := by decide +kernel
theorem dX1_hasTrain_13 : decode cX1_hasTrain 13 = .ok (.goto 4, 3) := by decide +kernel
theorem dX1_hasTrain_16 : decode cX1_hasTrain 16 = .ok (.iconst 0, 1) := by decide +kernel
theorem dX1_hasTrain_17 : decode cX1_hasTrain 17 = .ok (.ireturn, 1) := by decide +kernel
def La_hasTrain (w : Wd) (a1 : Int32) : Int32 := (if a1 < (0 : Int32) then (0 : Int32) else (if (w.1 3 1) ≤ a1 then (0 : Int32) else (1 : Int32)))
set_option maxRecDepth 100000 in
set_option maxHeartbeats 4000000 in
theorem ct_La_hasTrain {l : Launch} {g : GG} {σ : Sd} (hg : OKg g σ) (hb : σ.2.1 = true) (hx : ∀ c ∈ ([3] : List Nat), c ∈ σ.1) (w : Wd) (a1 : Int32) : CT l g σ yX1_hasTrain cX1_hasTrain 2 (some .boolean) 0 0 [.ref (gA g 3), .int a1] w (some (.int (La_hasTrain w a1))) w := by
  refine ct_of (rt := (rtP w)) (res := some (La_hasTrain w a1)) (q := (La_hasTrain w a1)) (own := RX1) (b := true) hg hb hx (by decide) rfl (Nat.le_of_ble_eq_true rfl) rfl (fun K e1 e2 e3 F => ?_)
  subst e1 e2 e3
  rw [La_hasTrain]
  show N K _ _ w 0 [(0, .ref (gA (cg K) 3)), (1, .int a1)] []
  refine n_iload_n F dX1_hasTrain_0 rfl 1 rfl ?_
  refine n_if_lt F 16 dX1_hasTrain_1 (by decide) (fun e1 => ?_) (fun e1 => ?_)
  · rw [if_pos e1]
    refine n_iconst F (0 : Int32) dX1_hasTrain_16 (by decide) ?_
    exact n_zret F .boolean rfl rfl rfl dX1_hasTrain_17
  rw [if_neg e1]
  refine n_iload_n F dX1_hasTrain_4 rfl 1 rfl ?_
  refine n_aload_n F dX1_hasTrain_5 rfl 0 rfl ?_
  refine n_get F ck_1 lf_RX1_15 (by decide) fg_3_1 (by decide) dX1_hasTrain_6 ?_
  refine n_icmp_ge F 16 dX1_hasTrain_9 (by decide) (fun e2 => ?_) (fun e2 => ?_)
  · rw [if_pos e2]
    refine n_iconst F (0 : Int32) dX1_hasTrain_16 (by decide) ?_
    exact n_zret F .boolean rfl rfl rfl dX1_hasTrain_17
  rw [if_neg e2]
  refine n_iconst F (1 : Int32) dX1_hasTrain_12 (by decide) ?_
  refine n_goto F 17 dX1_hasTrain_13 (by decide) ?_
  exact n_zret F .boolean rfl rfl rfl dX1_hasTrain_17
theorem bz_La_hasTrain (w : Wd) (a1 : Int32) : (La_hasTrain w a1) &&& (1 : Int32) = (La_hasTrain w a1) := by
  unfold La_hasTrain
  first | exact bz_auto | (repeat' split) <;> first | rfl | assumption
theorem dX1_isFull_0 : decode cX1_isFull 0 = .ok (.aload_n 0, 1) := by decide +kernel
theorem dX1_isFull_1 : decode cX1_isFull 1 = .ok (.getfield 15, 3) := by decide +kernel
theorem dX1_isFull_4 : decode cX1_isFull 4 = .ok (.bipush 12, 2) := by decide +kernel
theorem dX1_isFull_6 : decode cX1_isFull 6 = .ok (.if_icmp .lt 7, 3) := by decide +kernel
theorem dX1_isFull_9 : decode cX1_isFull 9 = .ok (.iconst 1, 1) := by decide +kernel
theorem dX1_isFull_10 : decode cX1_isFull 10 = .ok (.goto 4, 3) := by decide +kernel
theorem dX1_isFull_13 : decode cX1_isFull 13 = .ok (.iconst 0, 1) := by decide +kernel
theorem dX1_isFull_14 : decode cX1_isFull 14 = .ok (.ireturn, 1) := by decide +kernel
def La_isFull (w : Wd) : Int32 := (if (w.1 8 1) < (12 : Int32) then (0 : Int32) else (1 : Int32))
set_option maxRecDepth 100000 in
set_option maxHeartbeats 4000000 in
theorem ct_La_isFull {l : Launch} {g : GG} {σ : Sd} (hg : OKg g σ) (hb : σ.2.1 = true) (hx : ∀ c ∈ ([8] : List Nat), c ∈ σ.1) (w : Wd) : CT l g σ yX1_isFull cX1_isFull 1 (some .boolean) 0 0 [.ref (gA g 8)] w (some (.int (La_isFull w))) w := by
  refine ct_of (rt := (rtP w)) (res := some (La_isFull w)) (q := (La_isFull w)) (own := RX1) (b := true) hg hb hx (by decide) rfl (Nat.le_of_ble_eq_true rfl) rfl (fun K e1 e2 e3 F => ?_)
  subst e1 e2 e3
  rw [La_isFull]
  show N K _ _ w 0 [(0, .ref (gA (cg K) 8))] []
  refine n_aload_n F dX1_isFull_0 rfl 0 rfl ?_
  refine n_get F ck_1 lf_RX1_15 (by decide) fg_8_1 (by decide) dX1_isFull_1 ?_
  refine n_bipush F (12 : Int32) dX1_isFull_4 (by decide) ?_
  refine n_icmp_lt F 13 dX1_isFull_6 (by decide) (fun e1 => ?_) (fun e1 => ?_)
  · rw [if_pos e1]
    refine n_iconst F (0 : Int32) dX1_isFull_13 (by decide) ?_
    exact n_zret F .boolean rfl rfl rfl dX1_isFull_14
  rw [if_neg e1]
  refine n_iconst F (1 : Int32) dX1_isFull_9 (by decide) ?_
  refine n_goto F 14 dX1_isFull_10 (by decide) ?_
  exact n_zret F .boolean rfl rfl rfl dX1_isFull_14
theorem bz_La_isFull (w : Wd) : (La_isFull w) &&& (1 : Int32) = (La_isFull w) := by
  unfold La_isFull
  first | exact bz_auto | (repeat' split) <;> first | rfl | assumption
def Jd_fillI_27_L5 (k20 : Wd → Option Wd) : Nat → Wd → Int32 → Int32 → Int32 → Option Wd
  | 0, _, _, _, _ => none
  | n + 1, w, v1, v2, v3 => (if v3 ≤ v2 then (k20 w) else (if ib v2 448 = true then (Jd_fillI_27_L5 k20 n (sI w 27 (Int32.toNatClampNeg v2) v1) v1 (v2 + (1 : Int32)) v3) else none))
set_option maxRecDepth 100000 in
set_option maxHeartbeats 4000000 in
theorem Jd_fillI_27_L5_ok {K : Ctx} (F : Fx K cJ7_fill_53178 4 RJ7 none 0 0 true [27]) {k20 : Wd → Option Wd} (h20 : ∀ (w : Wd), N K rtV (k20 w) w 20 [] []) : ∀ (n : Nat) (w : Wd) (v1 : Int32) (v2 : Int32) (v3 : Int32), N K rtV (Jd_fillI_27_L5 k20 n w v1 v2 v3) w 5 [(0, .ref (gA (cg K) 27)), (1, .int v1), (2, .int v2), (3, .int v3)] [] := by
  intro n
  induction n with
  | zero => intro _ _ _ _; exact n_none
  | succ n ih =>
    intro w v1 v2 v3
    rw [Jd_fillI_27_L5]
    refine n_iload_n F dJ7_fill_53178_5 rfl 2 rfl ?_
    refine n_iload_n F dJ7_fill_53178_6 rfl 3 rfl ?_
    refine n_icmp_ge F 20 dJ7_fill_53178_7 (by decide) (fun e1 => ?_) (fun e1 => ?_)
    · rw [if_pos e1]
      exact n_sub [] rfl (h20 _)
    rw [if_neg e1]
    refine n_aload_n F dJ7_fill_53178_10 rfl 0 rfl ?_
    refine n_iload_n F dJ7_fill_53178_11 rfl 2 rfl ?_
    refine n_iload_n F dJ7_fill_53178_12 rfl 1 rfl ?_
    refine n_chk (fun e2 => ?_)
    refine n_iast F ar_27 (by decide) (ib_in e2) rfl dJ7_fill_53178_13 ?_
    refine n_iinc F (v2 + (1 : Int32)) (lv' := [(2, .int (v2 + (1 : Int32))), (0, .ref (gA (cg K) 27)), (1, .int v1), (3, .int v3)]) dJ7_fill_53178_14 2 rfl rfl (by decide) rfl ?_
    refine n_goto F 5 dJ7_fill_53178_17 (by decide) ?_
    exact n_sub [1, 2, 0, 3] rfl (ih _ _ _ _)
def Jd_fillI_27_B20 (w : Wd) : Option Wd := some w
set_option maxRecDepth 100000 in
set_option maxHeartbeats 4000000 in
theorem Jd_fillI_27_B20_ok {K : Ctx} (F : Fx K cJ7_fill_53178 4 RJ7 none 0 0 true [27]) (w : Wd) : N K rtV (Jd_fillI_27_B20 w) w 20 [] [] := by
  rw [Jd_fillI_27_B20]
  exact n_vret F rfl rfl dJ7_fill_53178_20
def Jd_fillI_27 (w : Wd) (a2 : Int32) : Option Wd := (Jd_fillI_27_L5 Jd_fillI_27_B20 FU w a2 (0 : Int32) (448 : Int32))
set_option maxRecDepth 100000 in
set_option maxHeartbeats 4000000 in
theorem ct_Jd_fillI_27 {l : Launch} {g : GG} {σ : Sd} (hg : OKg g σ) (hb : σ.2.1 = true) (hx : ∀ c ∈ ([27] : List Nat), c ∈ σ.1) (w : Wd) (a2 : Int32) {q : Wd} (hq : Jd_fillI_27 w a2 = some q) : CT l g σ yJ7_fill_53178 cJ7_fill_53178 4 none 0 0 [.ref (gA g 27), .int a2] w none q := by
  refine ct_of (rt := rtV) (res := Jd_fillI_27 w a2) (q := q) (own := RJ7) (b := true) hg hb hx (by decide) rfl (Nat.le_of_ble_eq_true rfl) hq (fun K e1 e2 e3 F => ?_)
  subst e1 e2 e3
  rw [Jd_fillI_27]
  show N K _ _ w 0 [(0, .ref (gA (cg K) 27)), (1, .int a2)] []
  refine n_iconst F (0 : Int32) dJ7_fill_53178_0 (by decide) ?_
  refine n_istore_n F (lv' := [(2, .int (0 : Int32)), (0, .ref (gA (cg K) 27)), (1, .int a2)]) dJ7_fill_53178_1 rfl (by decide) rfl ?_
  refine n_aload_n F dJ7_fill_53178_2 rfl 1 rfl ?_
  refine n_alenI F ar_27 (by decide) (v := (448 : Int32)) (by decide) dJ7_fill_53178_3 ?_
  refine n_istore_n F (lv' := [(3, .int (448 : Int32)), (2, .int (0 : Int32)), (0, .ref (gA (cg K) 27)), (1, .int a2)]) dJ7_fill_53178_4 rfl (by decide) rfl ?_
  exact n_sub [2, 3, 1, 0] rfl (Jd_fillI_27_L5_ok F (Jd_fillI_27_B20_ok F) FU _ _ _ _)
theorem dX2_markCaught_0 : decode cX2_markCaught 0 = .ok (.iconst 0, 1) := by decide +kernel
theorem dX2_markCaught_1 : decode cX2_markCaught 1 = .ok (.istore_n 1, 1) := by decide +kernel
theorem dX2_markCaught_2 : decode cX2_markCaught 2 = .ok (.iload_n 1, 1) := by decide +kernel
theorem dX2_markCaught_3 : decode cX2_markCaught 3 = .ok (.bipush 7, 2) := by decide +kernel
theorem dX2_markCaught_5 : decode cX2_markCaught 5 = .ok (.if_icmp .ge 56, 3) := by decide +kernel
theorem dX2_markCaught_8 : decode cX2_markCaught 8 = .ok (.iload_n 1, 1) := by decide +kernel
theorem dX2_markCaught_9 : decode cX2_markCaught 9 = .ok (.bipush 64, 2) := by decide +kernel
theorem dX2_markCaught_11 : decode cX2_markCaught 11 = .ok (.imul, 1) := by decide +kernel
theorem dX2_markCaught_12 : decode cX2_markCaught 12 = .ok (.istore_n 2, 1) := by decide +kernel
theorem dX2_markCaught_13 : decode cX2_markCaught 13 = .ok (.iconst 0, 1) := by decide +kernel
theorem dX2_markCaught_14 : decode cX2_markCaught 14 = .ok (.istore_n 3, 1) := by decide +kernel
theorem dX2_markCaught_15 : decode cX2_markCaught 15 = .ok (.iload_n 3, 1) := by decide +kernel
theorem dX2_markCaught_16 : decode cX2_markCaught 16 = .ok (.bipush 8, 2) := by decide +kernel
theorem dX2_markCaught_18 : decode cX2_markCaught 18 = .ok (.if_icmp .ge 37, 3) := by decide +kernel
theorem dX2_markCaught_21 : decode cX2_markCaught 21 = .ok (.aload_n 0, 1) := by decide +kernel
theorem dX2_markCaught_22 : decode cX2_markCaught 22 = .ok (.getfield 11, 3) := by decide +kernel
theorem dX2_markCaught_25 : decode cX2_markCaught 25 = .ok (.iload_n 2, 1) := by decide +kernel
theorem dX2_markCaught_26 : decode cX2_markCaught 26 = .ok (.iload_n 1, 1) := by decide +kernel
theorem dX2_markCaught_27 : decode cX2_markCaught 27 = .ok (.bipush 8, 2) := by decide +kernel
theorem dX2_markCaught_29 : decode cX2_markCaught 29 = .ok (.imul, 1) := by decide +kernel
theorem dX2_markCaught_30 : decode cX2_markCaught 30 = .ok (.iadd, 1) := by decide +kernel
theorem dX2_markCaught_31 : decode cX2_markCaught 31 = .ok (.iload_n 3, 1) := by decide +kernel
theorem dX2_markCaught_32 : decode cX2_markCaught 32 = .ok (.iadd, 1) := by decide +kernel
theorem dX2_markCaught_33 : decode cX2_markCaught 33 = .ok (.iconst 0, 1) := by decide +kernel
theorem dX2_markCaught_34 : decode cX2_markCaught 34 = .ok (.iastore, 1) := by decide +kernel
theorem dX2_markCaught_35 : decode cX2_markCaught 35 = .ok (.aload_n 0, 1) := by decide +kernel
theorem dX2_markCaught_36 : decode cX2_markCaught 36 = .ok (.getfield 11, 3) := by decide +kernel
theorem dX2_markCaught_39 : decode cX2_markCaught 39 = .ok (.iload_n 2, 1) := by decide +kernel
theorem dX2_markCaught_40 : decode cX2_markCaught 40 = .ok (.iload_n 3, 1) := by decide +kernel
theorem dX2_markCaught_41 : decode cX2_markCaught 41 = .ok (.bipush 8, 2) := by decide +kernel
theorem dX2_markCaught_43 : decode cX2_markCaught 43 = .ok (.imul, 1) := by decide +kernel
theorem dX2_markCaught_44 : decode cX2_markCaught 44 = .ok (.iadd, 1) := by decide +kernel
theorem dX2_markCaught_45 : decode cX2_markCaught 45 = .ok (.iload_n 1, 1) := by decide +kernel
theorem dX2_markCaught_46 : decode cX2_markCaught 46 = .ok (.iadd, 1) := by decide +kernel
theorem dX2_markCaught_47 : decode cX2_markCaught 47 = .ok (.iconst 0, 1) := by decide +kernel
theorem dX2_markCaught_48 : decode cX2_markCaught 48 = .ok (.iastore, 1) := by decide +kernel
theorem dX2_markCaught_49 : decode cX2_markCaught 49 = .ok (.iinc 3 1, 3) := by decide +kernel
theorem dX2_markCaught_52 : decode cX2_markCaught 52 = .ok (.goto (-37), 3) := by decide +kernel
theorem dX2_markCaught_55 : decode cX2_markCaught 55 = .ok (.iinc 1 1, 3) := by decide +kernel
theorem dX2_markCaught_58 : decode cX2_markCaught 58 = .ok (.goto (-56), 3) := by decide +kernel
theorem dX2_markCaught_61 : decode cX2_markCaught 61 = .ok (.return_, 1) := by decide +kernel
def Pu_markCaught_L15 (k55 : Wd → Int32 → Option Wd) : Nat → Wd → Int32 → Int32 → Int32 → Option Wd
  | 0, _, _, _, _ => none
  | n + 1, w, v1, v2, v3 => (if (8 : Int32) ≤ v3 then (k55 w v1) else (if ib ((v2 + (v1 * (8 : Int32))) + v3) 448 = true then (if ib ((v2 + (v3 * (8 : Int32))) + v1) 448 = true then (Pu_markCaught_L15 k55 n (sI (sI w 27 (Int32.toNatClampNeg ((v2 + (v1 * (8 : Int32))) + v3)) (0 : Int32)) 27 (Int32.toNatClampNeg ((v2 + (v3 * (8 : Int32))) + v1)) (0 : Int32)) v1 v2 (v3 + (1 : Int32))) else none) else none))
set_option maxRecDepth 100000 in
set_option maxHeartbeats 4000000 in
theorem Pu_markCaught_L15_ok {K : Ctx} (F : Fx K cX2_markCaught 4 RX2 none 0 0 true [26, 27]) {k55 : Wd → Int32 → Option Wd} (h55 : ∀ (w : Wd) (v1 : Int32), N K rtV (k55 w v1) w 55 [(0, .ref (gA (cg K) 26)), (1, .int v1)] []) : ∀ (n : Nat) (w : Wd) (v1 : Int32) (v2 : Int32) (v3 : Int32), N K rtV (Pu_markCaught_L15 k55 n w v1 v2 v3) w 15 [(0, .ref (gA (cg K) 26)), (1, .int v1), (2, .int v2), (3, .int v3)] [] := by
  intro n
  induction n with
  | zero => intro _ _ _ _; exact n_none
  | succ n ih =>
    intro w v1 v2 v3
    rw [Pu_markCaught_L15]
    refine n_iload_n F dX2_markCaught_15 rfl 3 rfl ?_
    refine n_bipush F (8 : Int32) dX2_markCaught_16 (by decide) ?_
    refine n_icmp_ge F 55 dX2_markCaught_18 (by decide) (fun e2 => ?_) (fun e2 => ?_)
    · rw [if_pos e2]
      exact n_sub [0, 1] rfl (h55 _ _)
    rw [if_neg e2]
    refine n_aload_n F dX2_markCaught_21 rfl 0 rfl ?_
    refine n_get F ck_2 lf_RX2_11 (by decide) fg_26_2 (by decide) dX2_markCaught_22 ?_
    refine n_iload_n F dX2_markCaught_25 rfl 2 rfl ?_
    refine n_iload_n F dX2_markCaught_26 rfl 1 rfl ?_
    refine n_bipush F (8 : Int32) dX2_markCaught_27 (by decide) ?_
    refine n_imul F dX2_markCaught_29 ?_
    refine n_iadd F dX2_markCaught_30 ?_
    refine n_iload_n F dX2_markCaught_31 rfl 3 rfl ?_
    refine n_iadd F dX2_markCaught_32 ?_
    refine n_iconst F (0 : Int32) dX2_markCaught_33 (by decide) ?_
    refine n_chk (fun e3 => ?_)
    refine n_iast F ar_27 (by decide) (ib_in e3) rfl dX2_markCaught_34 ?_
    refine n_aload_n F dX2_markCaught_35 rfl 0 rfl ?_
    refine n_get F ck_2 lf_RX2_11 (by decide) fg_26_2 (by decide) dX2_markCaught_36 ?_
    refine n_iload_n F dX2_markCaught_39 rfl 2 rfl ?_
    refine n_iload_n F dX2_markCaught_40 rfl 3 rfl ?_
    refine n_bipush F (8 : Int32) dX2_markCaught_41 (by decide) ?_
    refine n_imul F dX2_markCaught_43 ?_
    refine n_iadd F dX2_markCaught_44 ?_
    refine n_iload_n F dX2_markCaught_45 rfl 1 rfl ?_
    refine n_iadd F dX2_markCaught_46 ?_
    refine n_iconst F (0 : Int32) dX2_markCaught_47 (by decide) ?_
    refine n_chk (fun e4 => ?_)
    refine n_iast F ar_27 (by decide) (ib_in e4) rfl dX2_markCaught_48 ?_
    refine n_iinc F (v3 + (1 : Int32)) (lv' := [(3, .int (v3 + (1 : Int32))), (0, .ref (gA (cg K) 26)), (1, .int v1), (2, .int v2)]) dX2_markCaught_49 3 rfl rfl (by decide) rfl ?_
    refine n_goto F 15 dX2_markCaught_52 (by decide) ?_
    exact n_sub [1, 2, 3, 0] rfl (ih _ _ _ _)
def Pu_markCaught_B55 (k2 : Wd → Int32 → Option Wd) (w : Wd) (v1 : Int32) : Option Wd := (k2 w (v1 + (1 : Int32)))
set_option maxRecDepth 100000 in
set_option maxHeartbeats 4000000 in
theorem Pu_markCaught_B55_ok {K : Ctx} (F : Fx K cX2_markCaught 4 RX2 none 0 0 true [26, 27]) {k2 : Wd → Int32 → Option Wd} (h2 : ∀ (w : Wd) (v1 : Int32), N K rtV (k2 w v1) w 2 [(0, .ref (gA (cg K) 26)), (1, .int v1)] []) (w : Wd) (v1 : Int32) : N K rtV (Pu_markCaught_B55 k2 w v1) w 55 [(0, .ref (gA (cg K) 26)), (1, .int v1)] [] := by
  rw [Pu_markCaught_B55]
  refine n_iinc F (v1 + (1 : Int32)) (lv' := [(1, .int (v1 + (1 : Int32))), (0, .ref (gA (cg K) 26))]) dX2_markCaught_55 1 rfl rfl (by decide) rfl ?_
  refine n_goto F 2 dX2_markCaught_58 (by decide) ?_
  exact n_sub [1, 0] rfl (h2 _ _)
def Pu_markCaught_L2 (k61 : Wd → Option Wd) : Nat → Wd → Int32 → Option Wd
  | 0, _, _ => none
  | n + 1, w, v1 => (if (7 : Int32) ≤ v1 then (k61 w) else (Pu_markCaught_L15 (Pu_markCaught_B55 (Pu_markCaught_L2 k61 n)) FU w v1 (v1 * (64 : Int32)) (0 : Int32)))
set_option maxRecDepth 100000 in
set_option maxHeartbeats 4000000 in
theorem Pu_markCaught_L2_ok {K : Ctx} (F : Fx K cX2_markCaught 4 RX2 none 0 0 true [26, 27]) {k61 : Wd → Option Wd} (h61 : ∀ (w : Wd), N K rtV (k61 w) w 61 [] []) : ∀ (n : Nat) (w : Wd) (v1 : Int32), N K rtV (Pu_markCaught_L2 k61 n w v1) w 2 [(0, .ref (gA (cg K) 26)), (1, .int v1)] [] := by
  intro n
  induction n with
  | zero => intro _ _; exact n_none
  | succ n ih =>
    intro w v1
    rw [Pu_markCaught_L2]
    refine n_iload_n F dX2_markCaught_2 rfl 1 rfl ?_
    refine n_bipush F (7 : Int32) dX2_markCaught_3 (by decide) ?_
    refine n_icmp_ge F 61 dX2_markCaught_5 (by decide) (fun e1 => ?_) (fun e1 => ?_)
    · rw [if_pos e1]
      exact n_sub [] rfl (h61 _)
    rw [if_neg e1]
    refine n_iload_n F dX2_markCaught_8 rfl 1 rfl ?_
    refine n_bipush F (64 : Int32) dX2_markCaught_9 (by decide) ?_
    refine n_imul F dX2_markCaught_11 ?_
    refine n_istore_n F (lv' := [(2, .int (v1 * (64 : Int32))), (0, .ref (gA (cg K) 26)), (1, .int v1)]) dX2_markCaught_12 rfl (by decide) rfl ?_
    refine n_iconst F (0 : Int32) dX2_markCaught_13 (by decide) ?_
    refine n_istore_n F (lv' := [(3, .int (0 : Int32)), (2, .int (v1 * (64 : Int32))), (0, .ref (gA (cg K) 26)), (1, .int v1)]) dX2_markCaught_14 rfl (by decide) rfl ?_
    exact n_sub [2, 3, 1, 0] rfl (Pu_markCaught_L15_ok F (Pu_markCaught_B55_ok F ih) FU _ _ _ _)
def Pu_markCaught_B61 (w : Wd) : Option Wd := some w
set_option maxRecDepth 100000 in
set_option maxHeartbeats 4000000 in
theorem Pu_markCaught_B61_ok {K : Ctx} (F : Fx K cX2_markCaught 4 RX2 none 0 0 true [26, 27]) (w : Wd) : N K rtV (Pu_markCaught_B61 w) w 61 [] [] := by
  rw [Pu_markCaught_B61]
  exact n_vret F rfl rfl dX2_markCaught_61
def Pu_markCaught (w : Wd) : Option Wd := (Pu_markCaught_L2 Pu_markCaught_B61 FU w (0 : Int32))
set_option maxRecDepth 100000 in
set_option maxHeartbeats 4000000 in
theorem ct_Pu_markCaught {l : Launch} {g : GG} {σ : Sd} (hg : OKg g σ) (hb : σ.2.1 = true) (hx : ∀ c ∈ ([26, 27] : List Nat), c ∈ σ.1) (w : Wd) {q : Wd} (hq : Pu_markCaught w = some q) : CT l g σ yX2_markCaught cX2_markCaught 4 none 0 0 [.ref (gA g 26)] w none q := by
  refine ct_of (rt := rtV) (res := Pu_markCaught w) (q := q) (own := RX2) (b := true) hg hb hx (by decide) rfl (Nat.le_of_ble_eq_true rfl) hq (fun K e1 e2 e3 F => ?_)
  subst e1 e2 e3
  rw [Pu_markCaught]
  show N K _ _ w 0 [(0, .ref (gA (cg K) 26))] []
  refine n_iconst F (0 : Int32) dX2_markCaught_0 (by decide) ?_
  refine n_istore_n F (lv' := [(1, .int (0 : Int32)), (0, .ref (gA (cg K) 26))]) dX2_markCaught_1 rfl (by decide) rfl ?_
  exact n_sub [1, 0] rfl (Pu_markCaught_L2_ok F (Pu_markCaught_B61_ok F) FU _ _)
theorem dX2_isStation_0 : decode cX2_isStation 0 = .ok (.iload_n 0, 1) := by decide +kernel
theorem dX2_isStation_1 : decode cX2_isStation 1 = .ok (.iconst 0, 1) := by decide +kernel
theorem dX2_isStation_2 : decode cX2_isStation 2 = .ok (.bipush 6, 2) := by decide +kernel
theorem dX2_isStation_4 : decode cX2_isStation 4 = .ok (.invokestatic 96, 3) := by decide +kernel
theorem dX2_isStation_7 : decode cX2_isStation 7 = .ok (.ireturn, 1) := by decide +kernel
def Pu_isStation (w : Wd) (a1 : Int32) : Int32 := (Nt_within w a1 (0 : Int32) (6 : Int32))
set_option maxRecDepth 100000 in
set_option maxHeartbeats 4000000 in
theorem ct_Pu_isStation {l : Launch} {g : GG} {σ : Sd} (hg : OKg g σ) (hb : σ.2.1 = true) (hx : ∀ c ∈ ([] : List Nat), c ∈ σ.1) (w : Wd) (a1 : Int32) : CT l g σ yX2_isStation cX2_isStation 1 (some .boolean) 1 22 [.int a1] w (some (.int (Pu_isStation w a1))) w := by
  refine ct_of (rt := (rtP w)) (res := some (Pu_isStation w a1)) (q := (Pu_isStation w a1)) (own := RX2) (b := true) hg hb hx (by decide) rfl (Nat.le_of_ble_eq_true rfl) rfl (fun K e1 e2 e3 F => ?_)
  subst e1 e2 e3
  rw [Pu_isStation]
  show N K _ _ w 0 [(0, .int a1)] []
  refine n_iload_n F dX2_isStation_0 rfl 0 rfl ?_
  refine n_iconst F (0 : Int32) dX2_isStation_1 (by decide) ?_
  refine n_bipush F (6 : Int32) dX2_isStation_2 (by decide) ?_
  refine n_callSNi F cb_X7_within lm_RX2_96 (ct_Nt_within (fx_ok F) (fx_sd F) (fx_ix F rfl) w a1 (0 : Int32) (6 : Int32)) rfl rfl (Nat.le_of_ble_eq_true rfl) ⟨Nat.le_of_ble_eq_true rfl, Nat.le_of_ble_eq_true rfl⟩ dX2_isStation_4 ?_
  exact n_zret F .boolean rfl (bz_n (bz_Nt_within w a1 (0 : Int32) (6 : Int32))) rfl dX2_isStation_7
theorem bz_Pu_isStation (w : Wd) (a1 : Int32) : (Pu_isStation w a1) &&& (1 : Int32) = (Pu_isStation w a1) := by
  unfold Pu_isStation
  first | exact bz_auto | (repeat' split) <;> first | rfl | assumption | exact (bz_Nt_within w a1 (0 : Int32) (6 : Int32))
theorem dX2_gather_0 : decode cX2_gather 0 = .ok (.aload_n 0, 1) := by decide +kernel
theorem dX2_gather_1 : decode cX2_gather 1 = .ok (.iconst 0, 1) := by decide +kernel
theorem dX2_gather_2 : decode cX2_gather 2 = .ok (.putfield 27, 3) := by decide +kernel
theorem dX2_gather_5 : decode cX2_gather 5 = .ok (.iconst 0, 1) := by decide +kernel
theorem dX2_gather_6 : decode cX2_gather 6 = .ok (.istore_n 3, 1) := by decide +kernel
theorem dX2_gather_7 : decode cX2_gather 7 = .ok (.iload_n 3, 1) := by decide +kernel
theorem dX2_gather_8 : decode cX2_gather 8 = .ok (.aload_n 0, 1) := by decide +kernel
theorem dX2_gather_9 : decode cX2_gather 9 = .ok (.getfield 37, 3) := by decide +kernel
theorem dX2_gather_12 : decode cX2_gather 12 = .ok (.getfield 45, 3) := by decide +kernel
theorem dX2_gather_15 : decode cX2_gather 15 = .ok (.if_icmp .ge 130, 3) := by decide +kernel
theorem dX2_gather_18 : decode cX2_gather 18 = .ok (.aload_n 0, 1) := by decide +kernel
theorem dX2_gather_19 : decode cX2_gather 19 = .ok (.getfield 37, 3) := by decide +kernel
theorem dX2_gather_22 : decode cX2_gather 22 = .ok (.iload_n 3, 1) := by decide +kernel
theorem dX2_gather_23 : decode cX2_gather 23 = .ok (.iconst 0, 1) := by decide +kernel
theorem dX2_gather_24 : decode cX2_gather 24 = .ok (.invokevirtual 100, 3) := by decide +kernel
theorem dX2_gather_27 : decode cX2_gather 27 = .ok (.istore 4, 2) := by decide +kernel
theorem dX2_gather_29 : decode cX2_gather 29 = .ok (.aload_n 0, 1) := by decide +kernel
theorem dX2_gather_30 : decode cX2_gather 30 = .ok (.getfield 37, 3) := by decide +kernel
theorem dX2_gather_33 : decode cX2_gather 33 = .ok (.iload_n 3, 1) := by decide +kernel
theorem dX2_gather_34 : decode cX2_gather 34 = .ok (.iconst 1, 1) := by decide +kernel
theorem dX2_gather_35 : decode cX2_gather 35 = .ok (.invokevirtual 100, 3) := by decide +kernel
theorem dX2_gather_38 : decode cX2_gather 38 = .ok (.istore 5, 2) := by decide +kernel
theorem dX2_gather_40 : decode cX2_gather 40 = .ok (.iload_n 3, 1) := by decide +kernel
theorem dX2_gather_41 : decode cX2_gather 41 = .ok (.iload_n 2, 1) := by decide +kernel
theorem dX2_gather_42 : decode cX2_gather 42 = .ok (.if_icmp .eq 32, 3) := by decide +kernel
theorem dX2_gather_45 : decode cX2_gather 45 = .ok (.aload_n 0, 1) := by decide +kernel
theorem dX2_gather_46 : decode cX2_gather 46 = .ok (.getfield 37, 3) := by decide +kernel
theorem dX2_gather_49 : decode cX2_gather 49 = .ok (.iload_n 3, 1) := by decide +kernel
theorem dX2_gather_50 : decode cX2_gather 50 = .ok (.iconst 4, 1) := by decide +kernel
theorem dX2_gather_51 : decode cX2_gather 51 = .ok (.invokevirtual 100, 3) := by decide +kernel
theorem dX2_gather_54 : decode cX2_gather 54 = .ok (.iconst 1, 1) := by decide +kernel
theorem dX2_gather_55 : decode cX2_gather 55 = .ok (.if_icmp .ne 19, 3) := by decide +kernel
theorem dX2_gather_58 : decode cX2_gather 58 = .ok (.aload_n 0, 1) := by decide +kernel
theorem dX2_gather_59 : decode cX2_gather 59 = .ok (.getfield 37, 3) := by decide +kernel
theorem dX2_gather_62 : decode cX2_gather 62 = .ok (.iload_n 3, 1) := by decide +kernel
theorem dX2_gather_63 : decode cX2_gather 63 = .ok (.iload_n 1, 1) := by decide +kernel
theorem dX2_gather_64 : decode cX2_gather 64 = .ok (.invokevirtual 103, 3) := by decide +kernel
theorem dX2_gather_67 : decode cX2_gather 67 = .ok (.ifCond .eq 7, 3) := by decide +kernel
theorem dX2_gather_70 : decode cX2_gather 70 = .ok (.iconst 1, 1) := by decide +kernel
theorem dX2_gather_71 : decode cX2_gather 71 = .ok (.goto 4, 3) := by decide +kernel
theorem dX2_gather_74 : decode cX2_gather 74 = .ok (.iconst 0, 1) := by decide +kernel
theorem dX2_gather_75 : decode cX2_gather 75 = .ok (.istore 6, 2) := by decide +kernel
theorem dX2_gather_77 : decode cX2_gather 77 = .ok (.iload 6, 2) := by decide +kernel
theorem dX2_gather_79 : decode cX2_gather 79 = .ok (.ifCond .eq 60, 3) := by decide +kernel
theorem dX2_gather_82 : decode cX2_gather 82 = .ok (.iload 4, 2) := by decide +kernel
theorem dX2_gather_84 : decode cX2_gather 84 = .ok (.invokestatic 107, 3) := by decide +kernel
theorem dX2_gather_87 : decode cX2_gather 87 = .ok (.ifCond .eq 52, 3) := by decide +kernel
theorem dX2_gather_90 : decode cX2_gather 90 = .ok (.iload 5, 2) := by decide +kernel
theorem dX2_gather_92 : decode cX2_gather 92 = .ok (.invokestatic 107, 3) := by decide +kernel
theorem dX2_gather_95 : decode cX2_gather 95 = .ok (.ifCond .eq 44, 3) := by decide +kernel
theorem dX2_gather_98 : decode cX2_gather 98 = .ok (.aload_n 0, 1) := by decide +kernel
theorem dX2_gather_99 : decode cX2_gather 99 = .ok (.getfield 27, 3) := by decide +kernel
theorem dX2_gather_102 : decode cX2_gather 102 = .ok (.bipush 12, 2) := by decide +kernel
theorem dX2_gather_104 : decode cX2_gather 104 = .ok (.if_icmp .ge 35, 3) := by decide +kernel
theorem dX2_gather_107 : decode cX2_gather 107 = .ok (.aload_n 0, 1) := by decide +kernel
theorem dX2_gather_108 : decode cX2_gather 108 = .ok (.getfield 21, 3) := by decide +kernel
theorem dX2_gather_111 : decode cX2_gather 111 = .ok (.aload_n 0, 1) := by decide +kernel
theorem dX2_gather_112 : decode cX2_gather 112 = .ok (.getfield 27, 3) := by decide +kernel
theorem dX2_gather_115 : decode cX2_gather 115 = .ok (.iload 4, 2) := by decide +kernel
theorem dX2_gather_117 : decode cX2_gather 117 = .ok (.iastore, 1) := by decide +kernel
theorem dX2_gather_118 : decode cX2_gather 118 = .ok (.aload_n 0, 1) := by decide +kernel
theorem dX2_gather_119 : decode cX2_gather 119 = .ok (.getfield 24, 3) := by decide +kernel
theorem dX2_gather_122 : decode cX2_gather 122 = .ok (.aload_n 0, 1) := by decide +kernel
theorem dX2_gather_123 : decode cX2_gather 123 = .ok (.getfield 27, 3) := by decide +kernel
theorem dX2_gather_126 : decode cX2_gather 126 = .ok (.iload 5, 2) := by decide +kernel
theorem dX2_gather_128 : decode cX2_gather 128 = .ok (.iastore, 1) := by decide +kernel
theorem dX2_gather_129 : decode cX2_gather 129 = .ok (.aload_n 0, 1) := by decide +kernel
theorem dX2_gather_130 : decode cX2_gather 130 = .ok (.dup, 1) := by decide +kernel
theorem dX2_gather_131 : decode cX2_gather 131 = .ok (.getfield 27, 3) := by decide +kernel
theorem dX2_gather_134 : decode cX2_gather 134 = .ok (.iconst 1, 1) := by decide +kernel
theorem dX2_gather_135 : decode cX2_gather 135 = .ok (.iadd, 1) := by decide +kernel
theorem dX2_gather_136 : decode cX2_gather 136 = .ok (.putfield 27, 3) := by decide +kernel
theorem dX2_gather_139 : decode cX2_gather 139 = .ok (.iinc 3 1, 3) := by decide +kernel
theorem dX2_gather_142 : decode cX2_gather 142 = .ok (.goto (-135), 3) := by decide +kernel
theorem dX2_gather_145 : decode cX2_gather 145 = .ok (.return_, 1) := by decide +kernel
def Pu_gather_B75 (k7 : Wd → Int32 → Int32 → Int32 → Option Wd) (w : Wd) (v1 : Int32) (v2 : Int32) (v3 : Int32) (v4 : Int32) (v5 : Int32) (s0 : Int32) : Option Wd := (if s0 = (0 : Int32) then (k7 w v1 v2 (v3 + (1 : Int32))) else (if (Pu_isStation w v4) = (0 : Int32) then (k7 w v1 v2 (v3 + (1 : Int32))) else (if (Pu_isStation w v5) = (0 : Int32) then (k7 w v1 v2 (v3 + (1 : Int32))) else (if (12 : Int32) ≤ (w.1 26 7) then (k7 w v1 v2 (v3 + (1 : Int32))) else (if ib (w.1 26 7) 12 = true then (if ib ((sI w 30 (Int32.toNatClampNeg (w.1 26 7)) v4).1 26 7) 12 = true then (k7 (sI (sI (sI w 30 (Int32.toNatClampNeg (w.1 26 7)) v4) 31 (Int32.toNatClampNeg ((sI w 30 (Int32.toNatClampNeg (w.1 26 7)) v4).1 26 7)) v5) 26 7 (((sI (sI w 30 (Int32.toNatClampNeg (w.1 26 7)) v4) 31 (Int32.toNatClampNeg ((sI w 30 (Int32.toNatClampNeg (w.1 26 7)) v4).1 26 7)) v5).1 26 7) + (1 : Int32))) v1 v2 (v3 + (1 : Int32))) else none) else none)))))
set_option maxRecDepth 100000 in
set_option maxHeartbeats 4000000 in
theorem Pu_gather_B75_ok {K : Ctx} (F : Fx K cX2_gather 7 RX2 none 2 46 true [3, 4, 26, 30, 31]) {k7 : Wd → Int32 → Int32 → Int32 → Option Wd} (h7 : ∀ (w : Wd) (v1 : Int32) (v2 : Int32) (v3 : Int32), N K rtV (k7 w v1 v2 v3) w 7 [(0, .ref (gA (cg K) 26)), (1, .int v1), (2, .int v2), (3, .int v3)] []) (w : Wd) (v1 : Int32) (v2 : Int32) (v3 : Int32) (v4 : Int32) (v5 : Int32) (s0 : Int32) : N K rtV (Pu_gather_B75 k7 w v1 v2 v3 v4 v5 s0) w 75 [(0, .ref (gA (cg K) 26)), (1, .int v1), (2, .int v2), (3, .int v3), (4, .int v4), (5, .int v5)] [.int s0] := by
  rw [Pu_gather_B75]
  refine n_istore F (lv' := [(6, .int s0), (0, .ref (gA (cg K) 26)), (1, .int v1), (2, .int v2), (3, .int v3), (4, .int v4), (5, .int v5)]) dX2_gather_75 (by decide) rfl ?_
  refine n_iload F dX2_gather_77 0 rfl ?_
  refine n_if_eq F 139 dX2_gather_79 (by decide) (fun e5 => ?_) (fun e5 => ?_)
  · rw [if_pos e5]
    refine n_iinc F (v3 + (1 : Int32)) (lv' := [(3, .int (v3 + (1 : Int32))), (6, .int s0), (0, .ref (gA (cg K) 26)), (1, .int v1), (2, .int v2), (4, .int v4), (5, .int v5)]) dX2_gather_139 4 rfl rfl (by decide) rfl ?_
    refine n_goto F 7 dX2_gather_142 (by decide) ?_
    exact n_sub [2, 3, 4, 0] rfl (h7 _ _ _ _)
  rw [if_neg e5]
  refine n_iload F dX2_gather_82 5 rfl ?_
  refine n_callSi F cb_X2_isStation lm_RX2_107 (ct_Pu_isStation (fx_ok F) (fx_sd F) (fx_ix F rfl) w v4) rfl rfl (Nat.le_of_ble_eq_true rfl) ⟨Nat.le_of_ble_eq_true rfl, Nat.le_of_ble_eq_true rfl⟩ dX2_gather_84 ?_
  refine n_if_eq F 139 dX2_gather_87 (by decide) (fun e6 => ?_) (fun e6 => ?_)
  · rw [if_pos e6]
    refine n_iinc F (v3 + (1 : Int32)) (lv' := [(3, .int (v3 + (1 : Int32))), (6, .int s0), (0, .ref (gA (cg K) 26)), (1, .int v1), (2, .int v2), (4, .int v4), (5, .int v5)]) dX2_gather_139 4 rfl rfl (by decide) rfl ?_
    refine n_goto F 7 dX2_gather_142 (by decide) ?_
    exact n_sub [2, 3, 4, 0] rfl (h7 _ _ _ _)
  rw [if_neg e6]
  refine n_iload F dX2_gather_90 6 rfl ?_
  refine n_callSi F cb_X2_isStation lm_RX2_107 (ct_Pu_isStation (fx_ok F) (fx_sd F) (fx_ix F rfl) w v5) rfl rfl (Nat.le_of_ble_eq_true rfl) ⟨Nat.le_of_ble_eq_true rfl, Nat.le_of_ble_eq_true rfl⟩ dX2_gather_92 ?_
  refine n_if_eq F 139 dX2_gather_95 (by decide) (fun e7 => ?_) (fun e7 => ?_)
  · rw [if_pos e7]
    refine n_iinc F (v3 + (1 : Int32)) (lv' := [(3, .int (v3 + (1 : Int32))), (6, .int s0), (0, .ref (gA (cg K) 26)), (1, .int v1), (2, .int v2), (4, .int v4), (5, .int v5)]) dX2_gather_139 4 rfl rfl (by decide) rfl ?_
    refine n_goto F 7 dX2_gather_142 (by decide) ?_
    exact n_sub [2, 3, 4, 0] rfl (h7 _ _ _ _)
  rw [if_neg e7]
  refine n_aload_n F dX2_gather_98 rfl 1 rfl ?_
  refine n_get F ck_2 lf_RX2_27 (by decide) fg_26_7 (by decide) dX2_gather_99 ?_
  refine n_bipush F (12 : Int32) dX2_gather_102 (by decide) ?_
  refine n_icmp_ge F 139 dX2_gather_104 (by decide) (fun e8 => ?_) (fun e8 => ?_)
  · rw [if_pos e8]
    refine n_iinc F (v3 + (1 : Int32)) (lv' := [(3, .int (v3 + (1 : Int32))), (6, .int s0), (0, .ref (gA (cg K) 26)), (1, .int v1), (2, .int v2), (4, .int v4), (5, .int v5)]) dX2_gather_139 4 rfl rfl (by decide) rfl ?_
    refine n_goto F 7 dX2_gather_142 (by decide) ?_
    exact n_sub [2, 3, 4, 0] rfl (h7 _ _ _ _)
  rw [if_neg e8]
  refine n_aload_n F dX2_gather_107 rfl 1 rfl ?_
  refine n_get F ck_2 lf_RX2_21 (by decide) fg_26_5 (by decide) dX2_gather_108 ?_
  refine n_aload_n F dX2_gather_111 rfl 1 rfl ?_
  refine n_get F ck_2 lf_RX2_27 (by decide) fg_26_7 (by decide) dX2_gather_112 ?_
  refine n_iload F dX2_gather_115 5 rfl ?_
  refine n_chk (fun e9 => ?_)
  refine n_iast F ar_30 (by decide) (ib_in e9) rfl dX2_gather_117 ?_
  refine n_aload_n F dX2_gather_118 rfl 1 rfl ?_
  refine n_get F ck_2 lf_RX2_24 (by decide) fg_26_6 (by decide) dX2_gather_119 ?_
  refine n_aload_n F dX2_gather_122 rfl 1 rfl ?_
  refine n_get F ck_2 lf_RX2_27 (by decide) fg_26_7 (by decide) dX2_gather_123 ?_
  refine n_iload F dX2_gather_126 6 rfl ?_
  refine n_chk (fun e10 => ?_)
  refine n_iast F ar_31 (by decide) (ib_in e10) rfl dX2_gather_128 ?_
  refine n_aload_n F dX2_gather_129 rfl 1 rfl ?_
  refine n_dup F dX2_gather_130 rfl ?_
  refine n_get F ck_2 lf_RX2_27 (by decide) fg_26_7 (by decide) dX2_gather_131 ?_
  refine n_iconst F (1 : Int32) dX2_gather_134 (by decide) ?_
  refine n_iadd F dX2_gather_135 ?_
  refine n_put F ck_2 lf_RX2_27 (by decide) rfl fp_26_7 (by decide) rfl rfl dX2_gather_136 ?_
  refine n_iinc F (v3 + (1 : Int32)) (lv' := [(3, .int (v3 + (1 : Int32))), (6, .int s0), (0, .ref (gA (cg K) 26)), (1, .int v1), (2, .int v2), (4, .int v4), (5, .int v5)]) dX2_gather_139 4 rfl rfl (by decide) rfl ?_
  refine n_goto F 7 dX2_gather_142 (by decide) ?_
  exact n_sub [2, 3, 4, 0] rfl (h7 _ _ _ _)
def Pu_gather_L7 (k145 : Wd → Option Wd) : Nat → Wd → Int32 → Int32 → Int32 → Option Wd
  | 0, _, _, _, _ => none
  | n + 1, w, v1, v2, v3 => (if (w.1 3 1) ≤ v3 then (k145 w) else (Option.bind (La_part w v3 (0 : Int32)) (fun q2 => (Option.bind (La_part w v3 (1 : Int32)) (fun q3 => (if v3 = v2 then (Pu_gather_B75 (Pu_gather_L7 k145 n) w v1 v2 v3 q2 q3 (0 : Int32)) else (Option.bind (La_part w v3 (4 : Int32)) (fun q11 => (if q11 = (1 : Int32) then (Option.bind (La_runsOn w v3 v1) (fun q13 => (Pu_gather_B75 (Pu_gather_L7 k145 n) w v1 v2 v3 q2 q3 (if q13 = (0 : Int32) then (0 : Int32) else (1 : Int32))))) else (Pu_gather_B75 (Pu_gather_L7 k145 n) w v1 v2 v3 q2 q3 (0 : Int32)))))))))))
set_option maxRecDepth 100000 in
set_option maxHeartbeats 4000000 in
theorem Pu_gather_L7_ok {K : Ctx} (F : Fx K cX2_gather 7 RX2 none 2 46 true [3, 4, 26, 30, 31]) {k145 : Wd → Option Wd} (h145 : ∀ (w : Wd), N K rtV (k145 w) w 145 [] []) : ∀ (n : Nat) (w : Wd) (v1 : Int32) (v2 : Int32) (v3 : Int32), N K rtV (Pu_gather_L7 k145 n w v1 v2 v3) w 7 [(0, .ref (gA (cg K) 26)), (1, .int v1), (2, .int v2), (3, .int v3)] [] := by
  intro n
  induction n with
  | zero => intro _ _ _ _; exact n_none
  | succ n ih =>
    intro w v1 v2 v3
    rw [Pu_gather_L7]
    refine n_iload_n F dX2_gather_7 rfl 3 rfl ?_
    refine n_aload_n F dX2_gather_8 rfl 0 rfl ?_
    refine n_get F ck_2 lf_RX2_37 (by decide) fg_26_0 (by decide) dX2_gather_9 ?_
    refine n_get F ck_1 lf_RX2_45 (by decide) fg_3_1 (by decide) dX2_gather_12 ?_
    refine n_icmp_ge F 145 dX2_gather_15 (by decide) (fun e1 => ?_) (fun e1 => ?_)
    · rw [if_pos e1]
      exact n_sub [] rfl (h145 _)
    rw [if_neg e1]
    refine n_aload_n F dX2_gather_18 rfl 0 rfl ?_
    refine n_get F ck_2 lf_RX2_37 (by decide) fg_26_0 (by decide) dX2_gather_19 ?_
    refine n_iload_n F dX2_gather_22 rfl 3 rfl ?_
    refine n_iconst F (0 : Int32) dX2_gather_23 (by decide) ?_
    refine n_bind (fun q2 hq2 => ?_)
    refine n_callVi F cb_X1_part lm_RX2_100 ob_3 (by decide) ⟨_, _, rfl⟩ (ct_La_part (fx_ok F) (fx_sd F) (fx_ix F rfl) w v3 (0 : Int32) hq2) rfl rfl (Nat.le_of_ble_eq_true rfl) ⟨Nat.le_of_ble_eq_true rfl, Nat.le_of_ble_eq_true rfl⟩ dX2_gather_24 ?_
    refine n_istore F (lv' := [(4, .int q2), (0, .ref (gA (cg K) 26)), (1, .int v1), (2, .int v2), (3, .int v3)]) dX2_gather_27 (by decide) rfl ?_
    refine n_aload_n F dX2_gather_29 rfl 1 rfl ?_
    refine n_get F ck_2 lf_RX2_37 (by decide) fg_26_0 (by decide) dX2_gather_30 ?_
    refine n_iload_n F dX2_gather_33 rfl 4 rfl ?_
    refine n_iconst F (1 : Int32) dX2_gather_34 (by decide) ?_
    refine n_bind (fun q3 hq3 => ?_)
    refine n_callVi F cb_X1_part lm_RX2_100 ob_3 (by decide) ⟨_, _, rfl⟩ (ct_La_part (fx_ok F) (fx_sd F) (fx_ix F rfl) w v3 (1 : Int32) hq3) rfl rfl (Nat.le_of_ble_eq_true rfl) ⟨Nat.le_of_ble_eq_true rfl, Nat.le_of_ble_eq_true rfl⟩ dX2_gather_35 ?_
    refine n_istore F (lv' := [(5, .int q3), (4, .int q2), (0, .ref (gA (cg K) 26)), (1, .int v1), (2, .int v2), (3, .int v3)]) dX2_gather_38 (by decide) rfl ?_
    refine n_iload_n F dX2_gather_40 rfl 5 rfl ?_
    refine n_iload_n F dX2_gather_41 rfl 4 rfl ?_
    refine n_icmp_eq F 74 dX2_gather_42 (by decide) (fun e4 => ?_) (fun e4 => ?_)
    · rw [if_pos e4]
      refine n_iconst F (0 : Int32) dX2_gather_74 (by decide) ?_
      exact n_sub [2, 3, 4, 5, 1, 0] rfl (Pu_gather_B75_ok F ih _ _ _ _ _ _ _)
    rw [if_neg e4]
    refine n_aload_n F dX2_gather_45 rfl 2 rfl ?_
    refine n_get F ck_2 lf_RX2_37 (by decide) fg_26_0 (by decide) dX2_gather_46 ?_
    refine n_iload_n F dX2_gather_49 rfl 5 rfl ?_
    refine n_iconst F (4 : Int32) dX2_gather_50 (by decide) ?_
    refine n_bind (fun q11 hq11 => ?_)
    refine n_callVi F cb_X1_part lm_RX2_100 ob_3 (by decide) ⟨_, _, rfl⟩ (ct_La_part (fx_ok F) (fx_sd F) (fx_ix F rfl) w v3 (4 : Int32) hq11) rfl rfl (Nat.le_of_ble_eq_true rfl) ⟨Nat.le_of_ble_eq_true rfl, Nat.le_of_ble_eq_true rfl⟩ dX2_gather_51 ?_
    refine n_iconst F (1 : Int32) dX2_gather_54 (by decide) ?_
    refine n_icmp_ne F 74 dX2_gather_55 (by decide) (fun e12 => ?_) (fun e12 => ?_)
    · rw [if_neg e12]
      refine n_iconst F (0 : Int32) dX2_gather_74 (by decide) ?_
      exact n_sub [2, 3, 4, 5, 1, 0] rfl (Pu_gather_B75_ok F ih _ _ _ _ _ _ _)
    rw [if_pos e12]
    refine n_aload_n F dX2_gather_58 rfl 2 rfl ?_
    refine n_get F ck_2 lf_RX2_37 (by decide) fg_26_0 (by decide) dX2_gather_59 ?_
    refine n_iload_n F dX2_gather_62 rfl 5 rfl ?_
    refine n_iload_n F dX2_gather_63 rfl 3 rfl ?_
    refine n_bind (fun q13 hq13 => ?_)
    refine n_callVi F cb_X1_runsOn lm_RX2_103 ob_3 (by decide) ⟨_, _, rfl⟩ (ct_La_runsOn (fx_ok F) (fx_sd F) (fx_ix F rfl) w v3 v1 hq13) rfl rfl (Nat.le_of_ble_eq_true rfl) ⟨Nat.le_of_ble_eq_true rfl, Nat.le_of_ble_eq_true rfl⟩ dX2_gather_64 ?_
    refine n_if_eq F 74 dX2_gather_67 (by decide) (fun e14 => ?_) (fun e14 => ?_)
    · rw [if_pos e14]
      refine n_iconst F (0 : Int32) dX2_gather_74 (by decide) ?_
      exact n_sub [2, 3, 4, 5, 1, 0] rfl (Pu_gather_B75_ok F ih _ _ _ _ _ _ _)
    rw [if_neg e14]
    refine n_iconst F (1 : Int32) dX2_gather_70 (by decide) ?_
    refine n_goto F 75 dX2_gather_71 (by decide) ?_
    exact n_sub [2, 3, 4, 5, 1, 0] rfl (Pu_gather_B75_ok F ih _ _ _ _ _ _ _)
def Pu_gather_B145 (w : Wd) : Option Wd := some w
set_option maxRecDepth 100000 in
set_option maxHeartbeats 4000000 in
theorem Pu_gather_B145_ok {K : Ctx} (F : Fx K cX2_gather 7 RX2 none 2 46 true [3, 4, 26, 30, 31]) (w : Wd) : N K rtV (Pu_gather_B145 w) w 145 [] [] := by
  rw [Pu_gather_B145]
  exact n_vret F rfl rfl dX2_gather_145
def Pu_gather (w : Wd) (a1 : Int32) (a2 : Int32) : Option Wd := (Pu_gather_L7 Pu_gather_B145 FU (sI w 26 7 (0 : Int32)) a1 a2 (0 : Int32))
set_option maxRecDepth 100000 in
set_option maxHeartbeats 4000000 in
theorem ct_Pu_gather {l : Launch} {g : GG} {σ : Sd} (hg : OKg g σ) (hb : σ.2.1 = true) (hx : ∀ c ∈ ([3, 4, 26, 30, 31] : List Nat), c ∈ σ.1) (w : Wd) (a1 : Int32) (a2 : Int32) {q : Wd} (hq : Pu_gather w a1 a2 = some q) : CT l g σ yX2_gather cX2_gather 7 none 2 46 [.ref (gA g 26), .int a1, .int a2] w none q := by
  refine ct_of (rt := rtV) (res := Pu_gather w a1 a2) (q := q) (own := RX2) (b := true) hg hb hx (by decide) rfl (Nat.le_of_ble_eq_true rfl) hq (fun K e1 e2 e3 F => ?_)
  subst e1 e2 e3
  rw [Pu_gather]
  show N K _ _ w 0 [(0, .ref (gA (cg K) 26)), (1, .int a1), (2, .int a2)] []
  refine n_aload_n F dX2_gather_0 rfl 0 rfl ?_
  refine n_iconst F (0 : Int32) dX2_gather_1 (by decide) ?_
  refine n_put F ck_2 lf_RX2_27 (by decide) rfl fp_26_7 (by decide) rfl rfl dX2_gather_2 ?_
  refine n_iconst F (0 : Int32) dX2_gather_5 (by decide) ?_
  refine n_istore_n F (lv' := [(3, .int (0 : Int32)), (0, .ref (gA (cg K) 26)), (1, .int a1), (2, .int a2)]) dX2_gather_6 rfl (by decide) rfl ?_
  exact n_sub [1, 2, 3, 0] rfl (Pu_gather_L7_ok F (Pu_gather_B145_ok F) FU _ _ _ _)
theorem dX2_foldHim_0 : decode cX2_foldHim 0 = .ok (.aload_n 0, 1) := by decide +kernel
theorem dX2_foldHim_1 : decode cX2_foldHim 1 = .ok (.getfield 11, 3) := by decide +kernel
theorem dX2_foldHim_4 : decode cX2_foldHim 4 = .ok (.iconst 0, 1) := by decide +kernel
theorem dX2_foldHim_5 : decode cX2_foldHim 5 = .ok (.aload_n 0, 1) := by decide +kernel
theorem dX2_foldHim_6 : decode cX2_foldHim 6 = .ok (.getfield 15, 3) := by decide +kernel
theorem dX2_foldHim_9 : decode cX2_foldHim 9 = .ok (.iconst 0, 1) := by decide +kernel
theorem dX2_foldHim_10 : decode cX2_foldHim 10 = .ok (.sipush 448, 3) := by decide +kernel
theorem dX2_foldHim_13 : decode cX2_foldHim 13 = .ok (.invokestatic 111, 3) := by decide +kernel
theorem dX2_foldHim_16 : decode cX2_foldHim 16 = .ok (.iconst 0, 1) := by decide +kernel
theorem dX2_foldHim_17 : decode cX2_foldHim 17 = .ok (.istore_n 1, 1) := by decide +kernel
theorem dX2_foldHim_18 : decode cX2_foldHim 18 = .ok (.iload_n 1, 1) := by decide +kernel
theorem dX2_foldHim_19 : decode cX2_foldHim 19 = .ok (.aload_n 0, 1) := by decide +kernel
theorem dX2_foldHim_20 : decode cX2_foldHim 20 = .ok (.getfield 27, 3) := by decide +kernel
theorem dX2_foldHim_23 : decode cX2_foldHim 23 = .ok (.if_icmp .ge 40, 3) := by decide +kernel
theorem dX2_foldHim_26 : decode cX2_foldHim 26 = .ok (.iconst 0, 1) := by decide +kernel
theorem dX2_foldHim_27 : decode cX2_foldHim 27 = .ok (.istore_n 2, 1) := by decide +kernel
theorem dX2_foldHim_28 : decode cX2_foldHim 28 = .ok (.iload_n 2, 1) := by decide +kernel
theorem dX2_foldHim_29 : decode cX2_foldHim 29 = .ok (.bipush 64, 2) := by decide +kernel
theorem dX2_foldHim_31 : decode cX2_foldHim 31 = .ok (.if_icmp .ge 26, 3) := by decide +kernel
theorem dX2_foldHim_34 : decode cX2_foldHim 34 = .ok (.aload_n 0, 1) := by decide +kernel
theorem dX2_foldHim_35 : decode cX2_foldHim 35 = .ok (.getfield 15, 3) := by decide +kernel
theorem dX2_foldHim_38 : decode cX2_foldHim 38 = .ok (.aload_n 0, 1) := by decide +kernel
theorem dX2_foldHim_39 : decode cX2_foldHim 39 = .ok (.getfield 21, 3) := by decide +kernel
theorem dX2_foldHim_42 : decode cX2_foldHim 42 = .ok (.iload_n 1, 1) := by decide +kernel
theorem dX2_foldHim_43 : decode cX2_foldHim 43 = .ok (.iaload, 1) := by decide +kernel
theorem dX2_foldHim_44 : decode cX2_foldHim 44 = .ok (.bipush 64, 2) := by decide +kernel
theorem dX2_foldHim_46 : decode cX2_foldHim 46 = .ok (.imul, 1) := by decide +kernel
theorem dX2_foldHim_47 : decode cX2_foldHim 47 = .ok (.iload_n 2, 1) := by decide +kernel
theorem dX2_foldHim_48 : decode cX2_foldHim 48 = .ok (.iadd, 1) := by decide +kernel
theorem dX2_foldHim_49 : decode cX2_foldHim 49 = .ok (.iconst 0, 1) := by decide +kernel
theorem dX2_foldHim_50 : decode cX2_foldHim 50 = .ok (.iastore, 1) := by decide +kernel
theorem dX2_foldHim_51 : decode cX2_foldHim 51 = .ok (.iinc 2 1, 3) := by decide +kernel
theorem dX2_foldHim_54 : decode cX2_foldHim 54 = .ok (.goto (-26), 3) := by decide +kernel
theorem dX2_foldHim_57 : decode cX2_foldHim 57 = .ok (.iinc 1 1, 3) := by decide +kernel
theorem dX2_foldHim_60 : decode cX2_foldHim 60 = .ok (.goto (-42), 3) := by decide +kernel
theorem dX2_foldHim_63 : decode cX2_foldHim 63 = .ok (.iconst 0, 1) := by decide +kernel
theorem dX2_foldHim_64 : decode cX2_foldHim 64 = .ok (.istore_n 1, 1) := by decide +kernel
theorem dX2_foldHim_65 : decode cX2_foldHim 65 = .ok (.iload_n 1, 1) := by decide +kernel
theorem dX2_foldHim_66 : decode cX2_foldHim 66 = .ok (.aload_n 0, 1) := by decide +kernel
theorem dX2_foldHim_67 : decode cX2_foldHim 67 = .ok (.getfield 27, 3) := by decide +kernel
theorem dX2_foldHim_70 : decode cX2_foldHim 70 = .ok (.if_icmp .ge 75, 3) := by decide +kernel
theorem dX2_foldHim_73 : decode cX2_foldHim 73 = .ok (.aload_n 0, 1) := by decide +kernel
theorem dX2_foldHim_74 : decode cX2_foldHim 74 = .ok (.getfield 21, 3) := by decide +kernel
theorem dX2_foldHim_77 : decode cX2_foldHim 77 = .ok (.iload_n 1, 1) := by decide +kernel
theorem dX2_foldHim_78 : decode cX2_foldHim 78 = .ok (.iaload, 1) := by decide +kernel
theorem dX2_foldHim_79 : decode cX2_foldHim 79 = .ok (.bipush 64, 2) := by decide +kernel
theorem dX2_foldHim_81 : decode cX2_foldHim 81 = .ok (.imul, 1) := by decide +kernel
theorem dX2_foldHim_82 : decode cX2_foldHim 82 = .ok (.istore_n 2, 1) := by decide +kernel
theorem dX2_foldHim_83 : decode cX2_foldHim 83 = .ok (.aload_n 0, 1) := by decide +kernel
theorem dX2_foldHim_84 : decode cX2_foldHim 84 = .ok (.getfield 24, 3) := by decide +kernel
theorem dX2_foldHim_87 : decode cX2_foldHim 87 = .ok (.iload_n 1, 1) := by decide +kernel
theorem dX2_foldHim_88 : decode cX2_foldHim 88 = .ok (.iaload, 1) := by decide +kernel
theorem dX2_foldHim_89 : decode cX2_foldHim 89 = .ok (.bipush 64, 2) := by decide +kernel
theorem dX2_foldHim_91 : decode cX2_foldHim 91 = .ok (.imul, 1) := by decide +kernel
theorem dX2_foldHim_92 : decode cX2_foldHim 92 = .ok (.istore_n 3, 1) := by decide +kernel
theorem dX2_foldHim_93 : decode cX2_foldHim 93 = .ok (.iconst 0, 1) := by decide +kernel
theorem dX2_foldHim_94 : decode cX2_foldHim 94 = .ok (.istore 4, 2) := by decide +kernel
theorem dX2_foldHim_96 : decode cX2_foldHim 96 = .ok (.iload 4, 2) := by decide +kernel
theorem dX2_foldHim_98 : decode cX2_foldHim 98 = .ok (.bipush 64, 2) := by decide +kernel
theorem dX2_foldHim_100 : decode cX2_foldHim 100 = .ok (.if_icmp .ge 39, 3) := by decide +kernel
theorem dX2_foldHim_103 : decode cX2_foldHim 103 = .ok (.aload_n 0, 1) := by decide +kernel
theorem dX2_foldHim_104 : decode cX2_foldHim 104 = .ok (.getfield 15, 3) := by decide +kernel
theorem dX2_foldHim_107 : decode cX2_foldHim 107 = .ok (.iload_n 2, 1) := by decide +kernel
theorem dX2_foldHim_108 : decode cX2_foldHim 108 = .ok (.iload 4, 2) := by decide +kernel
theorem dX2_foldHim_110 : decode cX2_foldHim 110 = .ok (.iadd, 1) := by decide +kernel
theorem dX2_foldHim_111 : decode cX2_foldHim 111 = .ok (.aload_n 0, 1) := by decide +kernel
theorem dX2_foldHim_112 : decode cX2_foldHim 112 = .ok (.getfield 15, 3) := by decide +kernel
theorem dX2_foldHim_115 : decode cX2_foldHim 115 = .ok (.iload_n 2, 1) := by decide +kernel
theorem dX2_foldHim_116 : decode cX2_foldHim 116 = .ok (.iload 4, 2) := by decide +kernel
theorem dX2_foldHim_118 : decode cX2_foldHim 118 = .ok (.iadd, 1) := by decide +kernel
theorem dX2_foldHim_119 : decode cX2_foldHim 119 = .ok (.iaload, 1) := by decide +kernel
theorem dX2_foldHim_120 : decode cX2_foldHim 120 = .ok (.aload_n 0, 1) := by decide +kernel
theorem dX2_foldHim_121 : decode cX2_foldHim 121 = .ok (.getfield 11, 3) := by decide +kernel
theorem dX2_foldHim_124 : decode cX2_foldHim 124 = .ok (.iload_n 3, 1) := by decide +kernel
theorem dX2_foldHim_125 : decode cX2_foldHim 125 = .ok (.iload 4, 2) := by decide +kernel
theorem dX2_foldHim_127 : decode cX2_foldHim 127 = .ok (.iadd, 1) := by decide +kernel
theorem dX2_foldHim_128 : decode cX2_foldHim 128 = .ok (.iaload, 1) := by decide +kernel
theorem dX2_foldHim_129 : decode cX2_foldHim 129 = .ok (.invokestatic 117, 3) := by decide +kernel
theorem dX2_foldHim_132 : decode cX2_foldHim 132 = .ok (.iastore, 1) := by decide +kernel
theorem dX2_foldHim_133 : decode cX2_foldHim 133 = .ok (.iinc 4 1, 3) := by decide +kernel
theorem dX2_foldHim_136 : decode cX2_foldHim 136 = .ok (.goto (-40), 3) := by decide +kernel
theorem dX2_foldHim_139 : decode cX2_foldHim 139 = .ok (.iinc 1 1, 3) := by decide +kernel
theorem dX2_foldHim_142 : decode cX2_foldHim 142 = .ok (.goto (-77), 3) := by decide +kernel
theorem dX2_foldHim_145 : decode cX2_foldHim 145 = .ok (.return_, 1) := by decide +kernel
def Pu_foldHim_L28 (k57 : Wd → Int32 → Option Wd) : Nat → Wd → Int32 → Int32 → Option Wd
  | 0, _, _, _ => none
  | n + 1, w, v1, v2 => (if (64 : Int32) ≤ v2 then (k57 w v1) else (if ib v1 12 = true then (if ib (((w.1 30 (Int32.toNatClampNeg v1)) * (64 : Int32)) + v2) 448 = true then (Pu_foldHim_L28 k57 n (sI w 28 (Int32.toNatClampNeg (((w.1 30 (Int32.toNatClampNeg v1)) * (64 : Int32)) + v2)) (0 : Int32)) v1 (v2 + (1 : Int32))) else none) else none))
set_option maxRecDepth 100000 in
set_option maxHeartbeats 4000000 in
theorem Pu_foldHim_L28_ok {K : Ctx} (F : Fx K cX2_foldHim 5 RX2 none 1 18 true [26, 27, 28, 30, 31]) {k57 : Wd → Int32 → Option Wd} (h57 : ∀ (w : Wd) (v1 : Int32), N K rtV (k57 w v1) w 57 [(0, .ref (gA (cg K) 26)), (1, .int v1)] []) : ∀ (n : Nat) (w : Wd) (v1 : Int32) (v2 : Int32), N K rtV (Pu_foldHim_L28 k57 n w v1 v2) w 28 [(0, .ref (gA (cg K) 26)), (1, .int v1), (2, .int v2)] [] := by
  intro n
  induction n with
  | zero => intro _ _ _; exact n_none
  | succ n ih =>
    intro w v1 v2
    rw [Pu_foldHim_L28]
    refine n_iload_n F dX2_foldHim_28 rfl 2 rfl ?_
    refine n_bipush F (64 : Int32) dX2_foldHim_29 (by decide) ?_
    refine n_icmp_ge F 57 dX2_foldHim_31 (by decide) (fun e2 => ?_) (fun e2 => ?_)
    · rw [if_pos e2]
      exact n_sub [0, 1] rfl (h57 _ _)
    rw [if_neg e2]
    refine n_aload_n F dX2_foldHim_34 rfl 0 rfl ?_
    refine n_get F ck_2 lf_RX2_15 (by decide) fg_26_3 (by decide) dX2_foldHim_35 ?_
    refine n_aload_n F dX2_foldHim_38 rfl 0 rfl ?_
    refine n_get F ck_2 lf_RX2_21 (by decide) fg_26_5 (by decide) dX2_foldHim_39 ?_
    refine n_iload_n F dX2_foldHim_42 rfl 1 rfl ?_
    refine n_chk (fun e3 => ?_)
    refine n_iald F ar_30 (by decide) (ib_in e3) rfl dX2_foldHim_43 ?_
    refine n_bipush F (64 : Int32) dX2_foldHim_44 (by decide) ?_
    refine n_imul F dX2_foldHim_46 ?_
    refine n_iload_n F dX2_foldHim_47 rfl 2 rfl ?_
    refine n_iadd F dX2_foldHim_48 ?_
    refine n_iconst F (0 : Int32) dX2_foldHim_49 (by decide) ?_
    refine n_chk (fun e4 => ?_)
    refine n_iast F ar_28 (by decide) (ib_in e4) rfl dX2_foldHim_50 ?_
    refine n_iinc F (v2 + (1 : Int32)) (lv' := [(2, .int (v2 + (1 : Int32))), (0, .ref (gA (cg K) 26)), (1, .int v1)]) dX2_foldHim_51 2 rfl rfl (by decide) rfl ?_
    refine n_goto F 28 dX2_foldHim_54 (by decide) ?_
    exact n_sub [1, 2, 0] rfl (ih _ _ _)
def Pu_foldHim_B57 (k18 : Wd → Int32 → Option Wd) (w : Wd) (v1 : Int32) : Option Wd := (k18 w (v1 + (1 : Int32)))
set_option maxRecDepth 100000 in
set_option maxHeartbeats 4000000 in
theorem Pu_foldHim_B57_ok {K : Ctx} (F : Fx K cX2_foldHim 5 RX2 none 1 18 true [26, 27, 28, 30, 31]) {k18 : Wd → Int32 → Option Wd} (h18 : ∀ (w : Wd) (v1 : Int32), N K rtV (k18 w v1) w 18 [(0, .ref (gA (cg K) 26)), (1, .int v1)] []) (w : Wd) (v1 : Int32) : N K rtV (Pu_foldHim_B57 k18 w v1) w 57 [(0, .ref (gA (cg K) 26)), (1, .int v1)] [] := by
  rw [Pu_foldHim_B57]
  refine n_iinc F (v1 + (1 : Int32)) (lv' := [(1, .int (v1 + (1 : Int32))), (0, .ref (gA (cg K) 26))]) dX2_foldHim_57 1 rfl rfl (by decide) rfl ?_
  refine n_goto F 18 dX2_foldHim_60 (by decide) ?_
  exact n_sub [1, 0] rfl (h18 _ _)
def Pu_foldHim_L18 (k63 : Wd → Option Wd) : Nat → Wd → Int32 → Option Wd
  | 0, _, _ => none
  | n + 1, w, v1 => (if (w.1 26 7) ≤ v1 then (k63 w) else (Pu_foldHim_L28 (Pu_foldHim_B57 (Pu_foldHim_L18 k63 n)) FU w v1 (0 : Int32)))
set_option maxRecDepth 100000 in
set_option maxHeartbeats 4000000 in
theorem Pu_foldHim_L18_ok {K : Ctx} (F : Fx K cX2_foldHim 5 RX2 none 1 18 true [26, 27, 28, 30, 31]) {k63 : Wd → Option Wd} (h63 : ∀ (w : Wd), N K rtV (k63 w) w 63 [(0, .ref (gA (cg K) 26))] []) : ∀ (n : Nat) (w : Wd) (v1 : Int32), N K rtV (Pu_foldHim_L18 k63 n w v1) w 18 [(0, .ref (gA (cg K) 26)), (1, .int v1)] [] := by
  intro n
  induction n with
  | zero => intro _ _; exact n_none
  | succ n ih =>
    intro w v1
    rw [Pu_foldHim_L18]
    refine n_iload_n F dX2_foldHim_18 rfl 1 rfl ?_
    refine n_aload_n F dX2_foldHim_19 rfl 0 rfl ?_
    refine n_get F ck_2 lf_RX2_27 (by decide) fg_26_7 (by decide) dX2_foldHim_20 ?_
    refine n_icmp_ge F 63 dX2_foldHim_23 (by decide) (fun e1 => ?_) (fun e1 => ?_)
    · rw [if_pos e1]
      exact n_sub [0] rfl (h63 _)
    rw [if_neg e1]
    refine n_iconst F (0 : Int32) dX2_foldHim_26 (by decide) ?_
    refine n_istore_n F (lv' := [(2, .int (0 : Int32)), (0, .ref (gA (cg K) 26)), (1, .int v1)]) dX2_foldHim_27 rfl (by decide) rfl ?_
    exact n_sub [1, 2, 0] rfl (Pu_foldHim_L28_ok F (Pu_foldHim_B57_ok F ih) FU _ _ _)
def Pu_foldHim_L96 (k139 : Wd → Int32 → Option Wd) : Nat → Wd → Int32 → Int32 → Int32 → Int32 → Option Wd
  | 0, _, _, _, _, _ => none
  | n + 1, w, v1, v2, v3, v4 => (if (64 : Int32) ≤ v4 then (k139 w v1) else (if ib (v2 + v4) 448 = true then (if ib (v3 + v4) 448 = true then (if ib (v2 + v4) 448 = true then (Pu_foldHim_L96 k139 n (sI w 28 (Int32.toNatClampNeg (v2 + v4)) (if (w.1 28 (Int32.toNatClampNeg (v2 + v4))) < (w.1 27 (Int32.toNatClampNeg (v3 + v4))) then (w.1 27 (Int32.toNatClampNeg (v3 + v4))) else (w.1 28 (Int32.toNatClampNeg (v2 + v4))))) v1 v2 v3 (v4 + (1 : Int32))) else none) else none) else none))
set_option maxRecDepth 100000 in
set_option maxHeartbeats 4000000 in
theorem Pu_foldHim_L96_ok {K : Ctx} (F : Fx K cX2_foldHim 5 RX2 none 1 18 true [26, 27, 28, 30, 31]) {k139 : Wd → Int32 → Option Wd} (h139 : ∀ (w : Wd) (v1 : Int32), N K rtV (k139 w v1) w 139 [(0, .ref (gA (cg K) 26)), (1, .int v1)] []) : ∀ (n : Nat) (w : Wd) (v1 : Int32) (v2 : Int32) (v3 : Int32) (v4 : Int32), N K rtV (Pu_foldHim_L96 k139 n w v1 v2 v3 v4) w 96 [(0, .ref (gA (cg K) 26)), (1, .int v1), (2, .int v2), (3, .int v3), (4, .int v4)] [] := by
  intro n
  induction n with
  | zero => intro _ _ _ _ _; exact n_none
  | succ n ih =>
    intro w v1 v2 v3 v4
    rw [Pu_foldHim_L96]
    refine n_iload F dX2_foldHim_96 4 rfl ?_
    refine n_bipush F (64 : Int32) dX2_foldHim_98 (by decide) ?_
    refine n_icmp_ge F 139 dX2_foldHim_100 (by decide) (fun e8 => ?_) (fun e8 => ?_)
    · rw [if_pos e8]
      exact n_sub [0, 1] rfl (h139 _ _)
    rw [if_neg e8]
    refine n_aload_n F dX2_foldHim_103 rfl 0 rfl ?_
    refine n_get F ck_2 lf_RX2_15 (by decide) fg_26_3 (by decide) dX2_foldHim_104 ?_
    refine n_iload_n F dX2_foldHim_107 rfl 2 rfl ?_
    refine n_iload F dX2_foldHim_108 4 rfl ?_
    refine n_iadd F dX2_foldHim_110 ?_
    refine n_aload_n F dX2_foldHim_111 rfl 0 rfl ?_
    refine n_get F ck_2 lf_RX2_15 (by decide) fg_26_3 (by decide) dX2_foldHim_112 ?_
    refine n_iload_n F dX2_foldHim_115 rfl 2 rfl ?_
    refine n_iload F dX2_foldHim_116 4 rfl ?_
    refine n_iadd F dX2_foldHim_118 ?_
    refine n_chk (fun e9 => ?_)
    refine n_iald F ar_28 (by decide) (ib_in e9) rfl dX2_foldHim_119 ?_
    refine n_aload_n F dX2_foldHim_120 rfl 0 rfl ?_
    refine n_get F ck_2 lf_RX2_11 (by decide) fg_26_2 (by decide) dX2_foldHim_121 ?_
    refine n_iload_n F dX2_foldHim_124 rfl 3 rfl ?_
    refine n_iload F dX2_foldHim_125 4 rfl ?_
    refine n_iadd F dX2_foldHim_127 ?_
    refine n_chk (fun e10 => ?_)
    refine n_iald F ar_27 (by decide) (ib_in e10) rfl dX2_foldHim_128 ?_
    refine n_mmax F lx_RX2_117 (Nat.le_of_ble_eq_true rfl) (Nat.le_of_ble_eq_true rfl) dX2_foldHim_129 ?_
    refine n_chk (fun e11 => ?_)
    refine n_iast F ar_28 (by decide) (ib_in e11) rfl dX2_foldHim_132 ?_
    refine n_iinc F (v4 + (1 : Int32)) (lv' := [(4, .int (v4 + (1 : Int32))), (0, .ref (gA (cg K) 26)), (1, .int v1), (2, .int v2), (3, .int v3)]) dX2_foldHim_133 4 rfl rfl (by decide) rfl ?_
    refine n_goto F 96 dX2_foldHim_136 (by decide) ?_
    exact n_sub [1, 2, 3, 4, 0] rfl (ih _ _ _ _ _)
def Pu_foldHim_B139 (k65 : Wd → Int32 → Option Wd) (w : Wd) (v1 : Int32) : Option Wd := (k65 w (v1 + (1 : Int32)))
set_option maxRecDepth 100000 in
set_option maxHeartbeats 4000000 in
theorem Pu_foldHim_B139_ok {K : Ctx} (F : Fx K cX2_foldHim 5 RX2 none 1 18 true [26, 27, 28, 30, 31]) {k65 : Wd → Int32 → Option Wd} (h65 : ∀ (w : Wd) (v1 : Int32), N K rtV (k65 w v1) w 65 [(0, .ref (gA (cg K) 26)), (1, .int v1)] []) (w : Wd) (v1 : Int32) : N K rtV (Pu_foldHim_B139 k65 w v1) w 139 [(0, .ref (gA (cg K) 26)), (1, .int v1)] [] := by
  rw [Pu_foldHim_B139]
  refine n_iinc F (v1 + (1 : Int32)) (lv' := [(1, .int (v1 + (1 : Int32))), (0, .ref (gA (cg K) 26))]) dX2_foldHim_139 1 rfl rfl (by decide) rfl ?_
  refine n_goto F 65 dX2_foldHim_142 (by decide) ?_
  exact n_sub [1, 0] rfl (h65 _ _)
def Pu_foldHim_L65 (k145 : Wd → Option Wd) : Nat → Wd → Int32 → Option Wd
  | 0, _, _ => none
  | n + 1, w, v1 => (if (w.1 26 7) ≤ v1 then (k145 w) else (if ib v1 12 = true then (if ib v1 12 = true then (Pu_foldHim_L96 (Pu_foldHim_B139 (Pu_foldHim_L65 k145 n)) FU w v1 ((w.1 30 (Int32.toNatClampNeg v1)) * (64 : Int32)) ((w.1 31 (Int32.toNatClampNeg v1)) * (64 : Int32)) (0 : Int32)) else none) else none))
set_option maxRecDepth 100000 in
set_option maxHeartbeats 4000000 in
theorem Pu_foldHim_L65_ok {K : Ctx} (F : Fx K cX2_foldHim 5 RX2 none 1 18 true [26, 27, 28, 30, 31]) {k145 : Wd → Option Wd} (h145 : ∀ (w : Wd), N K rtV (k145 w) w 145 [] []) : ∀ (n : Nat) (w : Wd) (v1 : Int32), N K rtV (Pu_foldHim_L65 k145 n w v1) w 65 [(0, .ref (gA (cg K) 26)), (1, .int v1)] [] := by
  intro n
  induction n with
  | zero => intro _ _; exact n_none
  | succ n ih =>
    intro w v1
    rw [Pu_foldHim_L65]
    refine n_iload_n F dX2_foldHim_65 rfl 1 rfl ?_
    refine n_aload_n F dX2_foldHim_66 rfl 0 rfl ?_
    refine n_get F ck_2 lf_RX2_27 (by decide) fg_26_7 (by decide) dX2_foldHim_67 ?_
    refine n_icmp_ge F 145 dX2_foldHim_70 (by decide) (fun e5 => ?_) (fun e5 => ?_)
    · rw [if_pos e5]
      exact n_sub [] rfl (h145 _)
    rw [if_neg e5]
    refine n_aload_n F dX2_foldHim_73 rfl 0 rfl ?_
    refine n_get F ck_2 lf_RX2_21 (by decide) fg_26_5 (by decide) dX2_foldHim_74 ?_
    refine n_iload_n F dX2_foldHim_77 rfl 1 rfl ?_
    refine n_chk (fun e6 => ?_)
    refine n_iald F ar_30 (by decide) (ib_in e6) rfl dX2_foldHim_78 ?_
    refine n_bipush F (64 : Int32) dX2_foldHim_79 (by decide) ?_
    refine n_imul F dX2_foldHim_81 ?_
    refine n_istore_n F (lv' := [(2, .int ((w.1 30 (Int32.toNatClampNeg v1)) * (64 : Int32))), (0, .ref (gA (cg K) 26)), (1, .int v1)]) dX2_foldHim_82 rfl (by decide) rfl ?_
    refine n_aload_n F dX2_foldHim_83 rfl 1 rfl ?_
    refine n_get F ck_2 lf_RX2_24 (by decide) fg_26_6 (by decide) dX2_foldHim_84 ?_
    refine n_iload_n F dX2_foldHim_87 rfl 2 rfl ?_
    refine n_chk (fun e7 => ?_)
    refine n_iald F ar_31 (by decide) (ib_in e7) rfl dX2_foldHim_88 ?_
    refine n_bipush F (64 : Int32) dX2_foldHim_89 (by decide) ?_
    refine n_imul F dX2_foldHim_91 ?_
    refine n_istore_n F (lv' := [(3, .int ((w.1 31 (Int32.toNatClampNeg v1)) * (64 : Int32))), (2, .int ((w.1 30 (Int32.toNatClampNeg v1)) * (64 : Int32))), (0, .ref (gA (cg K) 26)), (1, .int v1)]) dX2_foldHim_92 rfl (by decide) rfl ?_
    refine n_iconst F (0 : Int32) dX2_foldHim_93 (by decide) ?_
    refine n_istore F (lv' := [(4, .int (0 : Int32)), (3, .int ((w.1 31 (Int32.toNatClampNeg v1)) * (64 : Int32))), (2, .int ((w.1 30 (Int32.toNatClampNeg v1)) * (64 : Int32))), (0, .ref (gA (cg K) 26)), (1, .int v1)]) dX2_foldHim_94 (by decide) rfl ?_
    exact n_sub [3, 4, 2, 1, 0] rfl (Pu_foldHim_L96_ok F (Pu_foldHim_B139_ok F ih) FU _ _ _ _ _)
def Pu_foldHim_B145 (w : Wd) : Option Wd := some w
set_option maxRecDepth 100000 in
set_option maxHeartbeats 4000000 in
theorem Pu_foldHim_B145_ok {K : Ctx} (F : Fx K cX2_foldHim 5 RX2 none 1 18 true [26, 27, 28, 30, 31]) (w : Wd) : N K rtV (Pu_foldHim_B145 w) w 145 [] [] := by
  rw [Pu_foldHim_B145]
  exact n_vret F rfl rfl dX2_foldHim_145
def Pu_foldHim_B63 (w : Wd) : Option Wd := (Pu_foldHim_L65 Pu_foldHim_B145 FU w (0 : Int32))
set_option maxRecDepth 100000 in
set_option maxHeartbeats 4000000 in
theorem Pu_foldHim_B63_ok {K : Ctx} (F : Fx K cX2_foldHim 5 RX2 none 1 18 true [26, 27, 28, 30, 31]) (w : Wd) : N K rtV (Pu_foldHim_B63 w) w 63 [(0, .ref (gA (cg K) 26))] [] := by
  rw [Pu_foldHim_B63]
  refine n_iconst F (0 : Int32) dX2_foldHim_63 (by decide) ?_
  refine n_istore_n F (lv' := [(1, .int (0 : Int32)), (0, .ref (gA (cg K) 26))]) dX2_foldHim_64 rfl (by decide) rfl ?_
  exact n_sub [1, 0] rfl (Pu_foldHim_L65_ok F (Pu_foldHim_B145_ok F) FU _ _)
def Pu_foldHim (w : Wd) : Option Wd := (Pu_foldHim_L18 Pu_foldHim_B63 FU (cI w 27 0 28 0 448) (0 : Int32))
set_option maxRecDepth 100000 in
set_option maxHeartbeats 4000000 in
theorem ct_Pu_foldHim {l : Launch} {g : GG} {σ : Sd} (hg : OKg g σ) (hb : σ.2.1 = true) (hx : ∀ c ∈ ([26, 27, 28, 30, 31] : List Nat), c ∈ σ.1) (w : Wd) {q : Wd} (hq : Pu_foldHim w = some q) : CT l g σ yX2_foldHim cX2_foldHim 5 none 1 18 [.ref (gA g 26)] w none q := by
  refine ct_of (rt := rtV) (res := Pu_foldHim w) (q := q) (own := RX2) (b := true) hg hb hx (by decide) rfl (Nat.le_of_ble_eq_true rfl) hq (fun K e1 e2 e3 F => ?_)
  subst e1 e2 e3
  rw [Pu_foldHim]
  show N K _ _ w 0 [(0, .ref (gA (cg K) 26))] []
  refine n_aload_n F dX2_foldHim_0 rfl 0 rfl ?_
  refine n_get F ck_2 lf_RX2_11 (by decide) fg_26_2 (by decide) dX2_foldHim_1 ?_
  refine n_iconst F (0 : Int32) dX2_foldHim_4 (by decide) ?_
  refine n_aload_n F dX2_foldHim_5 rfl 0 rfl ?_
  refine n_get F ck_2 lf_RX2_15 (by decide) fg_26_3 (by decide) dX2_foldHim_6 ?_
  refine n_iconst F (0 : Int32) dX2_foldHim_9 (by decide) ?_
  refine n_sipush F (448 : Int32) dX2_foldHim_10 (by decide) ?_
  refine n_copyI F ar_27 ar_28 (by decide) (by decide) 0 0 448 (by decide) (by decide) (by decide) (by decide) (by decide) (by decide) (by decide) (by decide) la_RX2_111 (Nat.le_of_ble_eq_true rfl) (Nat.le_of_ble_eq_true rfl) dX2_foldHim_13 ?_
  refine n_iconst F (0 : Int32) dX2_foldHim_16 (by decide) ?_
  refine n_istore_n F (lv' := [(1, .int (0 : Int32)), (0, .ref (gA (cg K) 26))]) dX2_foldHim_17 rfl (by decide) rfl ?_
  exact n_sub [1, 0] rfl (Pu_foldHim_L18_ok F (Pu_foldHim_B63_ok F) FU _ _)
theorem dX2_foldZero_0 : decode cX2_foldZero 0 = .ok (.aload_n 0, 1) := by decide +kernel
theorem dX2_foldZero_1 : decode cX2_foldZero 1 = .ok (.getfield 15, 3) := by decide +kernel
theorem dX2_foldZero_4 : decode cX2_foldZero 4 = .ok (.iconst 0, 1) := by decide +kernel
theorem dX2_foldZero_5 : decode cX2_foldZero 5 = .ok (.aload_n 0, 1) := by decide +kernel
theorem dX2_foldZero_6 : decode cX2_foldZero 6 = .ok (.getfield 18, 3) := by decide +kernel
theorem dX2_foldZero_9 : decode cX2_foldZero 9 = .ok (.iconst 0, 1) := by decide +kernel
theorem dX2_foldZero_10 : decode cX2_foldZero 10 = .ok (.sipush 448, 3) := by decide +kernel
theorem dX2_foldZero_13 : decode cX2_foldZero 13 = .ok (.invokestatic 111, 3) := by decide +kernel
theorem dX2_foldZero_16 : decode cX2_foldZero 16 = .ok (.iconst 0, 1) := by decide +kernel
theorem dX2_foldZero_17 : decode cX2_foldZero 17 = .ok (.istore_n 1, 1) := by decide +kernel
theorem dX2_foldZero_18 : decode cX2_foldZero 18 = .ok (.iload_n 1, 1) := by decide +kernel
theorem dX2_foldZero_19 : decode cX2_foldZero 19 = .ok (.aload_n 0, 1) := by decide +kernel
theorem dX2_foldZero_20 : decode cX2_foldZero 20 = .ok (.getfield 27, 3) := by decide +kernel
theorem dX2_foldZero_23 : decode cX2_foldZero 23 = .ok (.if_icmp .ge 101, 3) := by decide +kernel
theorem dX2_foldZero_26 : decode cX2_foldZero 26 = .ok (.iconst 0, 1) := by decide +kernel
theorem dX2_foldZero_27 : decode cX2_foldZero 27 = .ok (.istore_n 2, 1) := by decide +kernel
theorem dX2_foldZero_28 : decode cX2_foldZero 28 = .ok (.iload_n 2, 1) := by decide +kernel
theorem dX2_foldZero_29 : decode cX2_foldZero 29 = .ok (.bipush 7, 2) := by decide +kernel
theorem dX2_foldZero_31 : decode cX2_foldZero 31 = .ok (.if_icmp .ge 87, 3) := by decide +kernel
theorem dX2_foldZero_34 : decode cX2_foldZero 34 = .ok (.iload_n 2, 1) := by decide +kernel
theorem dX2_foldZero_35 : decode cX2_foldZero 35 = .ok (.bipush 64, 2) := by decide +kernel
theorem dX2_foldZero_37 : decode cX2_foldZero 37 = .ok (.imul, 1) := by decide +kernel
theorem dX2_foldZero_38 : decode cX2_foldZero 38 = .ok (.aload_n 0, 1) := by decide +kernel
theorem dX2_foldZero_39 : decode cX2_foldZero 39 = .ok (.getfield 21, 3) := by decide +kernel
theorem dX2_foldZero_42 : decode cX2_foldZero 42 = .ok (.iload_n 1, 1) := by decide +kernel
theorem dX2_foldZero_43 : decode cX2_foldZero 43 = .ok (.iaload, 1) := by decide +kernel
theorem dX2_foldZero_44 : decode cX2_foldZero 44 = .ok (.bipush 8, 2) := by decide +kernel
theorem dX2_foldZero_46 : decode cX2_foldZero 46 = .ok (.imul, 1) := by decide +kernel
theorem dX2_foldZero_47 : decode cX2_foldZero 47 = .ok (.iadd, 1) := by decide +kernel
theorem dX2_foldZero_48 : decode cX2_foldZero 48 = .ok (.istore_n 3, 1) := by decide +kernel
theorem dX2_foldZero_49 : decode cX2_foldZero 49 = .ok (.iload_n 2, 1) := by decide +kernel
theorem dX2_foldZero_50 : decode cX2_foldZero 50 = .ok (.bipush 64, 2) := by decide +kernel
theorem dX2_foldZero_52 : decode cX2_foldZero 52 = .ok (.imul, 1) := by decide +kernel
theorem dX2_foldZero_53 : decode cX2_foldZero 53 = .ok (.aload_n 0, 1) := by decide +kernel
theorem dX2_foldZero_54 : decode cX2_foldZero 54 = .ok (.getfield 24, 3) := by decide +kernel
theorem dX2_foldZero_57 : decode cX2_foldZero 57 = .ok (.iload_n 1, 1) := by decide +kernel
theorem dX2_foldZero_58 : decode cX2_foldZero 58 = .ok (.iaload, 1) := by decide +kernel
theorem dX2_foldZero_59 : decode cX2_foldZero 59 = .ok (.bipush 8, 2) := by decide +kernel
theorem dX2_foldZero_61 : decode cX2_foldZero 61 = .ok (.imul, 1) := by decide +kernel
theorem dX2_foldZero_62 : decode cX2_foldZero 62 = .ok (.iadd, 1) := by decide +kernel
theorem dX2_foldZero_63 : decode cX2_foldZero 63 = .ok (.istore 4, 2) := by decide +kernel
theorem dX2_foldZero_65 : decode cX2_foldZero 65 = .ok (.iconst 0, 1) := by decide +kernel
theorem dX2_foldZero_66 : decode cX2_foldZero 66 = .ok (.istore 5, 2) := by decide +kernel
theorem dX2_foldZero_68 : decode cX2_foldZero 68 = .ok (.iload 5, 2) := by decide +kernel
theorem dX2_foldZero_70 : decode cX2_foldZero 70 = .ok (.bipush 8, 2) := by decide +kernel
theorem dX2_foldZero_72 : decode cX2_foldZero 72 = .ok (.if_icmp .ge 40, 3) := by decide +kernel
theorem dX2_foldZero_75 : decode cX2_foldZero 75 = .ok (.aload_n 0, 1) := by decide +kernel
theorem dX2_foldZero_76 : decode cX2_foldZero 76 = .ok (.getfield 18, 3) := by decide +kernel
theorem dX2_foldZero_79 : decode cX2_foldZero 79 = .ok (.iload_n 3, 1) := by decide +kernel
theorem dX2_foldZero_80 : decode cX2_foldZero 80 = .ok (.iload 5, 2) := by decide +kernel
theorem dX2_foldZero_82 : decode cX2_foldZero 82 = .ok (.iadd, 1) := by decide +kernel
theorem dX2_foldZero_83 : decode cX2_foldZero 83 = .ok (.aload_n 0, 1) := by decide +kernel
theorem dX2_foldZero_84 : decode cX2_foldZero 84 = .ok (.getfield 18, 3) := by decide +kernel
theorem dX2_foldZero_87 : decode cX2_foldZero 87 = .ok (.iload_n 3, 1) := by decide +kernel
theorem dX2_foldZero_88 : decode cX2_foldZero 88 = .ok (.iload 5, 2) := by decide +kernel
theorem dX2_foldZero_90 : decode cX2_foldZero 90 = .ok (.iadd, 1) := by decide +kernel
theorem dX2_foldZero_91 : decode cX2_foldZero 91 = .ok (.iaload, 1) := by decide +kernel
theorem dX2_foldZero_92 : decode cX2_foldZero 92 = .ok (.aload_n 0, 1) := by decide +kernel
theorem dX2_foldZero_93 : decode cX2_foldZero 93 = .ok (.getfield 15, 3) := by decide +kernel
theorem dX2_foldZero_96 : decode cX2_foldZero 96 = .ok (.iload 4, 2) := by decide +kernel
theorem dX2_foldZero_98 : decode cX2_foldZero 98 = .ok (.iload 5, 2) := by decide +kernel
theorem dX2_foldZero_100 : decode cX2_foldZero 100 = .ok (.iadd, 1) := by decide +kernel
theorem dX2_foldZero_101 : decode cX2_foldZero 101 = .ok (.iaload, 1) := by decide +kernel
theorem dX2_foldZero_102 : decode cX2_foldZero 102 = .ok (.invokestatic 63, 3) := by decide +kernel
theorem dX2_foldZero_105 : decode cX2_foldZero 105 = .ok (.iastore, 1) := by decide +kernel
theorem dX2_foldZero_106 : decode cX2_foldZero 106 = .ok (.iinc 5 1, 3) := by decide +kernel
theorem dX2_foldZero_109 : decode cX2_foldZero 109 = .ok (.goto (-41), 3) := by decide +kernel
theorem dX2_foldZero_112 : decode cX2_foldZero 112 = .ok (.iinc 2 1, 3) := by decide +kernel
theorem dX2_foldZero_115 : decode cX2_foldZero 115 = .ok (.goto (-87), 3) := by decide +kernel
theorem dX2_foldZero_118 : decode cX2_foldZero 118 = .ok (.iinc 1 1, 3) := by decide +kernel
theorem dX2_foldZero_121 : decode cX2_foldZero 121 = .ok (.goto (-103), 3) := by decide +kernel
theorem dX2_foldZero_124 : decode cX2_foldZero 124 = .ok (.return_, 1) := by decide +kernel
def Pu_foldZero_L68 (k112 : Wd → Int32 → Int32 → Option Wd) : Nat → Wd → Int32 → Int32 → Int32 → Int32 → Int32 → Option Wd
  | 0, _, _, _, _, _, _ => none
  | n + 1, w, v1, v2, v3, v4, v5 => (if (8 : Int32) ≤ v5 then (k112 w v1 v2) else (if ib (v3 + v5) 448 = true then (if ib (v4 + v5) 448 = true then (if ib (v3 + v5) 448 = true then (Pu_foldZero_L68 k112 n (sI w 29 (Int32.toNatClampNeg (v3 + v5)) (if (w.1 28 (Int32.toNatClampNeg (v4 + v5))) < (w.1 29 (Int32.toNatClampNeg (v3 + v5))) then (w.1 28 (Int32.toNatClampNeg (v4 + v5))) else (w.1 29 (Int32.toNatClampNeg (v3 + v5))))) v1 v2 v3 v4 (v5 + (1 : Int32))) else none) else none) else none))
set_option maxRecDepth 100000 in
set_option maxHeartbeats 4000000 in
theorem Pu_foldZero_L68_ok {K : Ctx} (F : Fx K cX2_foldZero 6 RX2 none 1 18 true [26, 28, 29, 30, 31]) {k112 : Wd → Int32 → Int32 → Option Wd} (h112 : ∀ (w : Wd) (v1 : Int32) (v2 : Int32), N K rtV (k112 w v1 v2) w 112 [(0, .ref (gA (cg K) 26)), (1, .int v1), (2, .int v2)] []) : ∀ (n : Nat) (w : Wd) (v1 : Int32) (v2 : Int32) (v3 : Int32) (v4 : Int32) (v5 : Int32), N K rtV (Pu_foldZero_L68 k112 n w v1 v2 v3 v4 v5) w 68 [(0, .ref (gA (cg K) 26)), (1, .int v1), (2, .int v2), (3, .int v3), (4, .int v4), (5, .int v5)] [] := by
  intro n
  induction n with
  | zero => intro _ _ _ _ _ _; exact n_none
  | succ n ih =>
    intro w v1 v2 v3 v4 v5
    rw [Pu_foldZero_L68]
    refine n_iload F dX2_foldZero_68 5 rfl ?_
    refine n_bipush F (8 : Int32) dX2_foldZero_70 (by decide) ?_
    refine n_icmp_ge F 112 dX2_foldZero_72 (by decide) (fun e5 => ?_) (fun e5 => ?_)
    · rw [if_pos e5]
      exact n_sub [0, 1, 2] rfl (h112 _ _ _)
    rw [if_neg e5]
    refine n_aload_n F dX2_foldZero_75 rfl 0 rfl ?_
    refine n_get F ck_2 lf_RX2_18 (by decide) fg_26_4 (by decide) dX2_foldZero_76 ?_
    refine n_iload_n F dX2_foldZero_79 rfl 3 rfl ?_
    refine n_iload F dX2_foldZero_80 5 rfl ?_
    refine n_iadd F dX2_foldZero_82 ?_
    refine n_aload_n F dX2_foldZero_83 rfl 0 rfl ?_
    refine n_get F ck_2 lf_RX2_18 (by decide) fg_26_4 (by decide) dX2_foldZero_84 ?_
    refine n_iload_n F dX2_foldZero_87 rfl 3 rfl ?_
    refine n_iload F dX2_foldZero_88 5 rfl ?_
    refine n_iadd F dX2_foldZero_90 ?_
    refine n_chk (fun e6 => ?_)
    refine n_iald F ar_29 (by decide) (ib_in e6) rfl dX2_foldZero_91 ?_
    refine n_aload_n F dX2_foldZero_92 rfl 0 rfl ?_
    refine n_get F ck_2 lf_RX2_15 (by decide) fg_26_3 (by decide) dX2_foldZero_93 ?_
    refine n_iload F dX2_foldZero_96 4 rfl ?_
    refine n_iload F dX2_foldZero_98 5 rfl ?_
    refine n_iadd F dX2_foldZero_100 ?_
    refine n_chk (fun e7 => ?_)
    refine n_iald F ar_28 (by decide) (ib_in e7) rfl dX2_foldZero_101 ?_
    refine n_mmin F lx_RX2_63 (Nat.le_of_ble_eq_true rfl) (Nat.le_of_ble_eq_true rfl) dX2_foldZero_102 ?_
    refine n_chk (fun e8 => ?_)
    refine n_iast F ar_29 (by decide) (ib_in e8) rfl dX2_foldZero_105 ?_
    refine n_iinc F (v5 + (1 : Int32)) (lv' := [(5, .int (v5 + (1 : Int32))), (0, .ref (gA (cg K) 26)), (1, .int v1), (2, .int v2), (3, .int v3), (4, .int v4)]) dX2_foldZero_106 5 rfl rfl (by decide) rfl ?_
    refine n_goto F 68 dX2_foldZero_109 (by decide) ?_
    exact n_sub [1, 2, 3, 4, 5, 0] rfl (ih _ _ _ _ _ _)
def Pu_foldZero_B112 (k28 : Wd → Int32 → Int32 → Option Wd) (w : Wd) (v1 : Int32) (v2 : Int32) : Option Wd := (k28 w v1 (v2 + (1 : Int32)))
set_option maxRecDepth 100000 in
set_option maxHeartbeats 4000000 in
theorem Pu_foldZero_B112_ok {K : Ctx} (F : Fx K cX2_foldZero 6 RX2 none 1 18 true [26, 28, 29, 30, 31]) {k28 : Wd → Int32 → Int32 → Option Wd} (h28 : ∀ (w : Wd) (v1 : Int32) (v2 : Int32), N K rtV (k28 w v1 v2) w 28 [(0, .ref (gA (cg K) 26)), (1, .int v1), (2, .int v2)] []) (w : Wd) (v1 : Int32) (v2 : Int32) : N K rtV (Pu_foldZero_B112 k28 w v1 v2) w 112 [(0, .ref (gA (cg K) 26)), (1, .int v1), (2, .int v2)] [] := by
  rw [Pu_foldZero_B112]
  refine n_iinc F (v2 + (1 : Int32)) (lv' := [(2, .int (v2 + (1 : Int32))), (0, .ref (gA (cg K) 26)), (1, .int v1)]) dX2_foldZero_112 2 rfl rfl (by decide) rfl ?_
  refine n_goto F 28 dX2_foldZero_115 (by decide) ?_
  exact n_sub [1, 2, 0] rfl (h28 _ _ _)
def Pu_foldZero_L28 (k118 : Wd → Int32 → Option Wd) : Nat → Wd → Int32 → Int32 → Option Wd
  | 0, _, _, _ => none
  | n + 1, w, v1, v2 => (if (7 : Int32) ≤ v2 then (k118 w v1) else (if ib v1 12 = true then (if ib v1 12 = true then (Pu_foldZero_L68 (Pu_foldZero_B112 (Pu_foldZero_L28 k118 n)) FU w v1 v2 ((v2 * (64 : Int32)) + ((w.1 30 (Int32.toNatClampNeg v1)) * (8 : Int32))) ((v2 * (64 : Int32)) + ((w.1 31 (Int32.toNatClampNeg v1)) * (8 : Int32))) (0 : Int32)) else none) else none))
set_option maxRecDepth 100000 in
set_option maxHeartbeats 4000000 in
theorem Pu_foldZero_L28_ok {K : Ctx} (F : Fx K cX2_foldZero 6 RX2 none 1 18 true [26, 28, 29, 30, 31]) {k118 : Wd → Int32 → Option Wd} (h118 : ∀ (w : Wd) (v1 : Int32), N K rtV (k118 w v1) w 118 [(0, .ref (gA (cg K) 26)), (1, .int v1)] []) : ∀ (n : Nat) (w : Wd) (v1 : Int32) (v2 : Int32), N K rtV (Pu_foldZero_L28 k118 n w v1 v2) w 28 [(0, .ref (gA (cg K) 26)), (1, .int v1), (2, .int v2)] [] := by
  intro n
  induction n with
  | zero => intro _ _ _; exact n_none
  | succ n ih =>
    intro w v1 v2
    rw [Pu_foldZero_L28]
    refine n_iload_n F dX2_foldZero_28 rfl 2 rfl ?_
    refine n_bipush F (7 : Int32) dX2_foldZero_29 (by decide) ?_
    refine n_icmp_ge F 118 dX2_foldZero_31 (by decide) (fun e2 => ?_) (fun e2 => ?_)
    · rw [if_pos e2]
      exact n_sub [0, 1] rfl (h118 _ _)
    rw [if_neg e2]
    refine n_iload_n F dX2_foldZero_34 rfl 2 rfl ?_
    refine n_bipush F (64 : Int32) dX2_foldZero_35 (by decide) ?_
    refine n_imul F dX2_foldZero_37 ?_
    refine n_aload_n F dX2_foldZero_38 rfl 0 rfl ?_
    refine n_get F ck_2 lf_RX2_21 (by decide) fg_26_5 (by decide) dX2_foldZero_39 ?_
    refine n_iload_n F dX2_foldZero_42 rfl 1 rfl ?_
    refine n_chk (fun e3 => ?_)
    refine n_iald F ar_30 (by decide) (ib_in e3) rfl dX2_foldZero_43 ?_
    refine n_bipush F (8 : Int32) dX2_foldZero_44 (by decide) ?_
    refine n_imul F dX2_foldZero_46 ?_
    refine n_iadd F dX2_foldZero_47 ?_
    refine n_istore_n F (lv' := [(3, .int ((v2 * (64 : Int32)) + ((w.1 30 (Int32.toNatClampNeg v1)) * (8 : Int32)))), (0, .ref (gA (cg K) 26)), (1, .int v1), (2, .int v2)]) dX2_foldZero_48 rfl (by decide) rfl ?_
    refine n_iload_n F dX2_foldZero_49 rfl 3 rfl ?_
    refine n_bipush F (64 : Int32) dX2_foldZero_50 (by decide) ?_
    refine n_imul F dX2_foldZero_52 ?_
    refine n_aload_n F dX2_foldZero_53 rfl 1 rfl ?_
    refine n_get F ck_2 lf_RX2_24 (by decide) fg_26_6 (by decide) dX2_foldZero_54 ?_
    refine n_iload_n F dX2_foldZero_57 rfl 2 rfl ?_
    refine n_chk (fun e4 => ?_)
    refine n_iald F ar_31 (by decide) (ib_in e4) rfl dX2_foldZero_58 ?_
    refine n_bipush F (8 : Int32) dX2_foldZero_59 (by decide) ?_
    refine n_imul F dX2_foldZero_61 ?_
    refine n_iadd F dX2_foldZero_62 ?_
    refine n_istore F (lv' := [(4, .int ((v2 * (64 : Int32)) + ((w.1 31 (Int32.toNatClampNeg v1)) * (8 : Int32)))), (3, .int ((v2 * (64 : Int32)) + ((w.1 30 (Int32.toNatClampNeg v1)) * (8 : Int32)))), (0, .ref (gA (cg K) 26)), (1, .int v1), (2, .int v2)]) dX2_foldZero_63 (by decide) rfl ?_
    refine n_iconst F (0 : Int32) dX2_foldZero_65 (by decide) ?_
    refine n_istore F (lv' := [(5, .int (0 : Int32)), (4, .int ((v2 * (64 : Int32)) + ((w.1 31 (Int32.toNatClampNeg v1)) * (8 : Int32)))), (3, .int ((v2 * (64 : Int32)) + ((w.1 30 (Int32.toNatClampNeg v1)) * (8 : Int32)))), (0, .ref (gA (cg K) 26)), (1, .int v1), (2, .int v2)]) dX2_foldZero_66 (by decide) rfl ?_
    exact n_sub [3, 4, 5, 2, 1, 0] rfl (Pu_foldZero_L68_ok F (Pu_foldZero_B112_ok F ih) FU _ _ _ _ _ _)
def Pu_foldZero_B118 (k18 : Wd → Int32 → Option Wd) (w : Wd) (v1 : Int32) : Option Wd := (k18 w (v1 + (1 : Int32)))
set_option maxRecDepth 100000 in
set_option maxHeartbeats 4000000 in
theorem Pu_foldZero_B118_ok {K : Ctx} (F : Fx K cX2_foldZero 6 RX2 none 1 18 true [26, 28, 29, 30, 31]) {k18 : Wd → Int32 → Option Wd} (h18 : ∀ (w : Wd) (v1 : Int32), N K rtV (k18 w v1) w 18 [(0, .ref (gA (cg K) 26)), (1, .int v1)] []) (w : Wd) (v1 : Int32) : N K rtV (Pu_foldZero_B118 k18 w v1) w 118 [(0, .ref (gA (cg K) 26)), (1, .int v1)] [] := by
  rw [Pu_foldZero_B118]
  refine n_iinc F (v1 + (1 : Int32)) (lv' := [(1, .int (v1 + (1 : Int32))), (0, .ref (gA (cg K) 26))]) dX2_foldZero_118 1 rfl rfl (by decide) rfl ?_
  refine n_goto F 18 dX2_foldZero_121 (by decide) ?_
  exact n_sub [1, 0] rfl (h18 _ _)
def Pu_foldZero_L18 (k124 : Wd → Option Wd) : Nat → Wd → Int32 → Option Wd
  | 0, _, _ => none
  | n + 1, w, v1 => (if (w.1 26 7) ≤ v1 then (k124 w) else (Pu_foldZero_L28 (Pu_foldZero_B118 (Pu_foldZero_L18 k124 n)) FU w v1 (0 : Int32)))
set_option maxRecDepth 100000 in
set_option maxHeartbeats 4000000 in
theorem Pu_foldZero_L18_ok {K : Ctx} (F : Fx K cX2_foldZero 6 RX2 none 1 18 true [26, 28, 29, 30, 31]) {k124 : Wd → Option Wd} (h124 : ∀ (w : Wd), N K rtV (k124 w) w 124 [] []) : ∀ (n : Nat) (w : Wd) (v1 : Int32), N K rtV (Pu_foldZero_L18 k124 n w v1) w 18 [(0, .ref (gA (cg K) 26)), (1, .int v1)] [] := by
  intro n
  induction n with
  | zero => intro _ _; exact n_none
  | succ n ih =>
    intro w v1
    rw [Pu_foldZero_L18]
    refine n_iload_n F dX2_foldZero_18 rfl 1 rfl ?_
    refine n_aload_n F dX2_foldZero_19 rfl 0 rfl ?_
    refine n_get F ck_2 lf_RX2_27 (by decide) fg_26_7 (by decide) dX2_foldZero_20 ?_
    refine n_icmp_ge F 124 dX2_foldZero_23 (by decide) (fun e1 => ?_) (fun e1 => ?_)
    · rw [if_pos e1]
      exact n_sub [] rfl (h124 _)
    rw [if_neg e1]
    refine n_iconst F (0 : Int32) dX2_foldZero_26 (by decide) ?_
    refine n_istore_n F (lv' := [(2, .int (0 : Int32)), (0, .ref (gA (cg K) 26)), (1, .int v1)]) dX2_foldZero_27 rfl (by decide) rfl ?_
    exact n_sub [1, 2, 0] rfl (Pu_foldZero_L28_ok F (Pu_foldZero_B118_ok F ih) FU _ _ _)
def Pu_foldZero_B124 (w : Wd) : Option Wd := some w
set_option maxRecDepth 100000 in
set_option maxHeartbeats 4000000 in
theorem Pu_foldZero_B124_ok {K : Ctx} (F : Fx K cX2_foldZero 6 RX2 none 1 18 true [26, 28, 29, 30, 31]) (w : Wd) : N K rtV (Pu_foldZero_B124 w) w 124 [] [] := by
  rw [Pu_foldZero_B124]
  exact n_vret F rfl rfl dX2_foldZero_124
def Pu_foldZero (w : Wd) : Option Wd := (Pu_foldZero_L18 Pu_foldZero_B124 FU (cI w 28 0 29 0 448) (0 : Int32))
set_option maxRecDepth 100000 in
set_option maxHeartbeats 4000000 in
theorem ct_Pu_foldZero {l : Launch} {g : GG} {σ : Sd} (hg : OKg g σ) (hb : σ.2.1 = true) (hx : ∀ c ∈ ([26, 28, 29, 30, 31] : List Nat), c ∈ σ.1) (w : Wd) {q : Wd} (hq : Pu_foldZero w = some q) : CT l g σ yX2_foldZero cX2_foldZero 6 none 1 18 [.ref (gA g 26)] w none q := by
  refine ct_of (rt := rtV) (res := Pu_foldZero w) (q := q) (own := RX2) (b := true) hg hb hx (by decide) rfl (Nat.le_of_ble_eq_true rfl) hq (fun K e1 e2 e3 F => ?_)
  subst e1 e2 e3
  rw [Pu_foldZero]
  show N K _ _ w 0 [(0, .ref (gA (cg K) 26))] []
  refine n_aload_n F dX2_foldZero_0 rfl 0 rfl ?_
  refine n_get F ck_2 lf_RX2_15 (by decide) fg_26_3 (by decide) dX2_foldZero_1 ?_
  refine n_iconst F (0 : Int32) dX2_foldZero_4 (by decide) ?_
  refine n_aload_n F dX2_foldZero_5 rfl 0 rfl ?_
  refine n_get F ck_2 lf_RX2_18 (by decide) fg_26_4 (by decide) dX2_foldZero_6 ?_
  refine n_iconst F (0 : Int32) dX2_foldZero_9 (by decide) ?_
  refine n_sipush F (448 : Int32) dX2_foldZero_10 (by decide) ?_
  refine n_copyI F ar_28 ar_29 (by decide) (by decide) 0 0 448 (by decide) (by decide) (by decide) (by decide) (by decide) (by decide) (by decide) (by decide) la_RX2_111 (Nat.le_of_ble_eq_true rfl) (Nat.le_of_ble_eq_true rfl) dX2_foldZero_13 ?_
  refine n_iconst F (0 : Int32) dX2_foldZero_16 (by decide) ?_
  refine n_istore_n F (lv' := [(1, .int (0 : Int32)), (0, .ref (gA (cg K) 26))]) dX2_foldZero_17 rfl (by decide) rfl ?_
  exact n_sub [1, 0] rfl (Pu_foldZero_L18_ok F (Pu_foldZero_B124_ok F) FU _ _)
