def Sc_copy_21_13 (w : Wd) : Option Wd := (if ((sI (sI w 21 1 (w.1 13 1)) 21 2 ((sI w 21 1 (w.1 13 1)).1 13 2)).1 13 3) &&& (1 : Int32) = ((sI (sI w 21 1 (w.1 13 1)) 21 2 ((sI w 21 1 (w.1 13 1)).1 13 2)).1 13 3) then (if ((sI (sI (sI w 21 1 (w.1 13 1)) 21 2 ((sI w 21 1 (w.1 13 1)).1 13 2)) 21 3 ((sI (sI w 21 1 (w.1 13 1)) 21 2 ((sI w 21 1 (w.1 13 1)).1 13 2)).1 13 3)).1 13 4) &&& (1 : Int32) = ((sI (sI (sI w 21 1 (w.1 13 1)) 21 2 ((sI w 21 1 (w.1 13 1)).1 13 2)) 21 3 ((sI (sI w 21 1 (w.1 13 1)) 21 2 ((sI w 21 1 (w.1 13 1)).1 13 2)).1 13 3)).1 13 4) then some (sI (sI (sI (cI (cI (cI (sI (sI (sI (sI (sI w 21 1 (w.1 13 1)) 21 2 ((sI w 21 1 (w.1 13 1)).1 13 2)) 21 3 ((sI (sI w 21 1 (w.1 13 1)) 21 2 ((sI w 21 1 (w.1 13 1)).1 13 2)).1 13 3)) 21 4 ((sI (sI (sI w 21 1 (w.1 13 1)) 21 2 ((sI w 21 1 (w.1 13 1)).1 13 2)) 21 3 ((sI (sI w 21 1 (w.1 13 1)) 21 2 ((sI w 21 1 (w.1 13 1)).1 13 2)).1 13 3)).1 13 4)) 21 5 ((sI (sI (sI (sI w 21 1 (w.1 13 1)) 21 2 ((sI w 21 1 (w.1 13 1)).1 13 2)) 21 3 ((sI (sI w 21 1 (w.1 13 1)) 21 2 ((sI w 21 1 (w.1 13 1)).1 13 2)).1 13 3)) 21 4 ((sI (sI (sI w 21 1 (w.1 13 1)) 21 2 ((sI w 21 1 (w.1 13 1)).1 13 2)) 21 3 ((sI (sI w 21 1 (w.1 13 1)) 21 2 ((sI w 21 1 (w.1 13 1)).1 13 2)).1 13 3)).1 13 4)).1 13 5)) 14 0 22 0 3) 15 0 23 0 2) 16 0 24 0 2) 21 9 ((cI (cI (cI (sI (sI (sI (sI (sI w 21 1 (w.1 13 1)) 21 2 ((sI w 21 1 (w.1 13 1)).1 13 2)) 21 3 ((sI (sI w 21 1 (w.1 13 1)) 21 2 ((sI w 21 1 (w.1 13 1)).1 13 2)).1 13 3)) 21 4 ((sI (sI (sI w 21 1 (w.1 13 1)) 21 2 ((sI w 21 1 (w.1 13 1)).1 13 2)) 21 3 ((sI (sI w 21 1 (w.1 13 1)) 21 2 ((sI w 21 1 (w.1 13 1)).1 13 2)).1 13 3)).1 13 4)) 21 5 ((sI (sI (sI (sI w 21 1 (w.1 13 1)) 21 2 ((sI w 21 1 (w.1 13 1)).1 13 2)) 21 3 ((sI (sI w 21 1 (w.1 13 1)) 21 2 ((sI w 21 1 (w.1 13 1)).1 13 2)).1 13 3)) 21 4 ((sI (sI (sI w 21 1 (w.1 13 1)) 21 2 ((sI w 21 1 (w.1 13 1)).1 13 2)) 21 3 ((sI (sI w 21 1 (w.1 13 1)) 21 2 ((sI w 21 1 (w.1 13 1)).1 13 2)).1 13 3)).1 13 4)).1 13 5)) 14 0 22 0 3) 15 0 23 0 2) 16 0 24 0 2).1 13 9)) 21 10 ((sI (cI (cI (cI (sI (sI (sI (sI (sI w 21 1 (w.1 13 1)) 21 2 ((sI w 21 1 (w.1 13 1)).1 13 2)) 21 3 ((sI (sI w 21 1 (w.1 13 1)) 21 2 ((sI w 21 1 (w.1 13 1)).1 13 2)).1 13 3)) 21 4 ((sI (sI (sI w 21 1 (w.1 13 1)) 21 2 ((sI w 21 1 (w.1 13 1)).1 13 2)) 21 3 ((sI (sI w 21 1 (w.1 13 1)) 21 2 ((sI w 21 1 (w.1 13 1)).1 13 2)).1 13 3)).1 13 4)) 21 5 ((sI (sI (sI (sI w 21 1 (w.1 13 1)) 21 2 ((sI w 21 1 (w.1 13 1)).1 13 2)) 21 3 ((sI (sI w 21 1 (w.1 13 1)) 21 2 ((sI w 21 1 (w.1 13 1)).1 13 2)).1 13 3)) 21 4 ((sI (sI (sI w 21 1 (w.1 13 1)) 21 2 ((sI w 21 1 (w.1 13 1)).1 13 2)) 21 3 ((sI (sI w 21 1 (w.1 13 1)) 21 2 ((sI w 21 1 (w.1 13 1)).1 13 2)).1 13 3)).1 13 4)).1 13 5)) 14 0 22 0 3) 15 0 23 0 2) 16 0 24 0 2) 21 9 ((cI (cI (cI (sI (sI (sI (sI (sI w 21 1 (w.1 13 1)) 21 2 ((sI w 21 1 (w.1 13 1)).1 13 2)) 21 3 ((sI (sI w 21 1 (w.1 13 1)) 21 2 ((sI w 21 1 (w.1 13 1)).1 13 2)).1 13 3)) 21 4 ((sI (sI (sI w 21 1 (w.1 13 1)) 21 2 ((sI w 21 1 (w.1 13 1)).1 13 2)) 21 3 ((sI (sI w 21 1 (w.1 13 1)) 21 2 ((sI w 21 1 (w.1 13 1)).1 13 2)).1 13 3)).1 13 4)) 21 5 ((sI (sI (sI (sI w 21 1 (w.1 13 1)) 21 2 ((sI w 21 1 (w.1 13 1)).1 13 2)) 21 3 ((sI (sI w 21 1 (w.1 13 1)) 21 2 ((sI w 21 1 (w.1 13 1)).1 13 2)).1 13 3)) 21 4 ((sI (sI (sI w 21 1 (w.1 13 1)) 21 2 ((sI w 21 1 (w.1 13 1)).1 13 2)) 21 3 ((sI (sI w 21 1 (w.1 13 1)) 21 2 ((sI w 21 1 (w.1 13 1)).1 13 2)).1 13 3)).1 13 4)).1 13 5)) 14 0 22 0 3) 15 0 23 0 2) 16 0 24 0 2).1 13 9)).1 13 10)) 21 11 ((sI (sI (cI (cI (cI (sI (sI (sI (sI (sI w 21 1 (w.1 13 1)) 21 2 ((sI w 21 1 (w.1 13 1)).1 13 2)) 21 3 ((sI (sI w 21 1 (w.1 13 1)) 21 2 ((sI w 21 1 (w.1 13 1)).1 13 2)).1 13 3)) 21 4 ((sI (sI (sI w 21 1 (w.1 13 1)) 21 2 ((sI w 21 1 (w.1 13 1)).1 13 2)) 21 3 ((sI (sI w 21 1 (w.1 13 1)) 21 2 ((sI w 21 1 (w.1 13 1)).1 13 2)).1 13 3)).1 13 4)) 21 5 ((sI (sI (sI (sI w 21 1 (w.1 13 1)) 21 2 ((sI w 21 1 (w.1 13 1)).1 13 2)) 21 3 ((sI (sI w 21 1 (w.1 13 1)) 21 2 ((sI w 21 1 (w.1 13 1)).1 13 2)).1 13 3)) 21 4 ((sI (sI (sI w 21 1 (w.1 13 1)) 21 2 ((sI w 21 1 (w.1 13 1)).1 13 2)) 21 3 ((sI (sI w 21 1 (w.1 13 1)) 21 2 ((sI w 21 1 (w.1 13 1)).1 13 2)).1 13 3)).1 13 4)).1 13 5)) 14 0 22 0 3) 15 0 23 0 2) 16 0 24 0 2) 21 9 ((cI (cI (cI (sI (sI (sI (sI (sI w 21 1 (w.1 13 1)) 21 2 ((sI w 21 1 (w.1 13 1)).1 13 2)) 21 3 ((sI (sI w 21 1 (w.1 13 1)) 21 2 ((sI w 21 1 (w.1 13 1)).1 13 2)).1 13 3)) 21 4 ((sI (sI (sI w 21 1 (w.1 13 1)) 21 2 ((sI w 21 1 (w.1 13 1)).1 13 2)) 21 3 ((sI (sI w 21 1 (w.1 13 1)) 21 2 ((sI w 21 1 (w.1 13 1)).1 13 2)).1 13 3)).1 13 4)) 21 5 ((sI (sI (sI (sI w 21 1 (w.1 13 1)) 21 2 ((sI w 21 1 (w.1 13 1)).1 13 2)) 21 3 ((sI (sI w 21 1 (w.1 13 1)) 21 2 ((sI w 21 1 (w.1 13 1)).1 13 2)).1 13 3)) 21 4 ((sI (sI (sI w 21 1 (w.1 13 1)) 21 2 ((sI w 21 1 (w.1 13 1)).1 13 2)) 21 3 ((sI (sI w 21 1 (w.1 13 1)) 21 2 ((sI w 21 1 (w.1 13 1)).1 13 2)).1 13 3)).1 13 4)).1 13 5)) 14 0 22 0 3) 15 0 23 0 2) 16 0 24 0 2).1 13 9)) 21 10 ((sI (cI (cI (cI (sI (sI (sI (sI (sI w 21 1 (w.1 13 1)) 21 2 ((sI w 21 1 (w.1 13 1)).1 13 2)) 21 3 ((sI (sI w 21 1 (w.1 13 1)) 21 2 ((sI w 21 1 (w.1 13 1)).1 13 2)).1 13 3)) 21 4 ((sI (sI (sI w 21 1 (w.1 13 1)) 21 2 ((sI w 21 1 (w.1 13 1)).1 13 2)) 21 3 ((sI (sI w 21 1 (w.1 13 1)) 21 2 ((sI w 21 1 (w.1 13 1)).1 13 2)).1 13 3)).1 13 4)) 21 5 ((sI (sI (sI (sI w 21 1 (w.1 13 1)) 21 2 ((sI w 21 1 (w.1 13 1)).1 13 2)) 21 3 ((sI (sI w 21 1 (w.1 13 1)) 21 2 ((sI w 21 1 (w.1 13 1)).1 13 2)).1 13 3)) 21 4 ((sI (sI (sI w 21 1 (w.1 13 1)) 21 2 ((sI w 21 1 (w.1 13 1)).1 13 2)) 21 3 ((sI (sI w 21 1 (w.1 13 1)) 21 2 ((sI w 21 1 (w.1 13 1)).1 13 2)).1 13 3)).1 13 4)).1 13 5)) 14 0 22 0 3) 15 0 23 0 2) 16 0 24 0 2) 21 9 ((cI (cI (cI (sI (sI (sI (sI (sI w 21 1 (w.1 13 1)) 21 2 ((sI w 21 1 (w.1 13 1)).1 13 2)) 21 3 ((sI (sI w 21 1 (w.1 13 1)) 21 2 ((sI w 21 1 (w.1 13 1)).1 13 2)).1 13 3)) 21 4 ((sI (sI (sI w 21 1 (w.1 13 1)) 21 2 ((sI w 21 1 (w.1 13 1)).1 13 2)) 21 3 ((sI (sI w 21 1 (w.1 13 1)) 21 2 ((sI w 21 1 (w.1 13 1)).1 13 2)).1 13 3)).1 13 4)) 21 5 ((sI (sI (sI (sI w 21 1 (w.1 13 1)) 21 2 ((sI w 21 1 (w.1 13 1)).1 13 2)) 21 3 ((sI (sI w 21 1 (w.1 13 1)) 21 2 ((sI w 21 1 (w.1 13 1)).1 13 2)).1 13 3)) 21 4 ((sI (sI (sI w 21 1 (w.1 13 1)) 21 2 ((sI w 21 1 (w.1 13 1)).1 13 2)) 21 3 ((sI (sI w 21 1 (w.1 13 1)) 21 2 ((sI w 21 1 (w.1 13 1)).1 13 2)).1 13 3)).1 13 4)).1 13 5)) 14 0 22 0 3) 15 0 23 0 2) 16 0 24 0 2).1 13 9)).1 13 10)).1 13 11)) else none) else none)
set_option maxRecDepth 100000 in
set_option maxHeartbeats 4000000 in
theorem ct_Sc_copy_21_13 {l : Launch} {g : GG} {σ : Sd} (hg : OKg g σ) (hb : σ.2.1 = true) (hx : ∀ c ∈ ([13, 14, 15, 16, 21, 22, 23, 24] : List Nat), c ∈ σ.1) (w : Wd) {q : Wd} (hq : Sc_copy_21_13 w = some q) : CT l g σ yX5_copy cX5_copy 2 none 1 18 [.ref (gA g 21), .ref (gA g 13)] w none q := by
  refine ct_of (rt := rtV) (res := Sc_copy_21_13 w) (q := q) (own := RX5) (b := true) hg hb hx (by decide) rfl (Nat.le_of_ble_eq_true rfl) hq (fun K e1 e2 e3 F => ?_)
  subst e1 e2 e3
  rw [Sc_copy_21_13]
  show N K _ _ w 0 [(0, .ref (gA (cg K) 21)), (1, .ref (gA (cg K) 13))] []
  refine n_aload_n F dX5_copy_0 rfl 0 rfl ?_
  refine n_aload_n F dX5_copy_1 rfl 1 rfl ?_
  refine n_get F ck_5 lf_RX5_28 (by decide) fg_13_1 (by decide) dX5_copy_2 ?_
  refine n_put F ck_5 lf_RX5_28 (by decide) rfl fp_21_1 (by decide) rfl rfl dX5_copy_5 ?_
  refine n_aload_n F dX5_copy_8 rfl 0 rfl ?_
  refine n_aload_n F dX5_copy_9 rfl 1 rfl ?_
  refine n_get F ck_5 lf_RX5_37 (by decide) fg_13_2 (by decide) dX5_copy_10 ?_
  refine n_put F ck_5 lf_RX5_37 (by decide) rfl fp_21_2 (by decide) rfl rfl dX5_copy_13 ?_
  refine n_aload_n F dX5_copy_16 rfl 0 rfl ?_
  refine n_aload_n F dX5_copy_17 rfl 1 rfl ?_
  refine n_get F ck_5 lf_RX5_40 (by decide) fg_13_3 (by decide) dX5_copy_18 ?_
  refine n_chk (fun e1 => ?_)
  refine n_put F ck_5 lf_RX5_40 (by decide) rfl fp_21_3 (by decide) (bz_n e1) (bz_f e1) dX5_copy_21 ?_
  refine n_aload_n F dX5_copy_24 rfl 0 rfl ?_
  refine n_aload_n F dX5_copy_25 rfl 1 rfl ?_
  refine n_get F ck_5 lf_RX5_59 (by decide) fg_13_4 (by decide) dX5_copy_26 ?_
  refine n_chk (fun e2 => ?_)
  refine n_put F ck_5 lf_RX5_59 (by decide) rfl fp_21_4 (by decide) (bz_n e2) (bz_f e2) dX5_copy_29 ?_
  refine n_aload_n F dX5_copy_32 rfl 0 rfl ?_
  refine n_aload_n F dX5_copy_33 rfl 1 rfl ?_
  refine n_get F ck_5 lf_RX5_71 (by decide) fg_13_5 (by decide) dX5_copy_34 ?_
  refine n_put F ck_5 lf_RX5_71 (by decide) rfl fp_21_5 (by decide) rfl rfl dX5_copy_37 ?_
  refine n_aload_n F dX5_copy_40 rfl 1 rfl ?_
  refine n_get F ck_5 lf_RX5_9 (by decide) fg_13_6 (by decide) dX5_copy_41 ?_
  refine n_iconst F (0 : Int32) dX5_copy_44 (by decide) ?_
  refine n_aload_n F dX5_copy_45 rfl 0 rfl ?_
  refine n_get F ck_5 lf_RX5_9 (by decide) fg_21_6 (by decide) dX5_copy_46 ?_
  refine n_iconst F (0 : Int32) dX5_copy_49 (by decide) ?_
  refine n_iconst F (3 : Int32) dX5_copy_50 (by decide) ?_
  refine n_copyI F ar_14 ar_22 (by decide) (by decide) 0 0 3 (by decide) (by decide) (by decide) (by decide) (by decide) (by decide) (by decide) (by decide) la_RX5_45 (Nat.le_of_ble_eq_true rfl) (Nat.le_of_ble_eq_true rfl) dX5_copy_51 ?_
  refine n_aload_n F dX5_copy_54 rfl 1 rfl ?_
  refine n_get F ck_5 lf_RX5_15 (by decide) fg_13_7 (by decide) dX5_copy_55 ?_
  refine n_iconst F (0 : Int32) dX5_copy_58 (by decide) ?_
  refine n_aload_n F dX5_copy_59 rfl 0 rfl ?_
  refine n_get F ck_5 lf_RX5_15 (by decide) fg_21_7 (by decide) dX5_copy_60 ?_
  refine n_iconst F (0 : Int32) dX5_copy_63 (by decide) ?_
  refine n_iconst F (2 : Int32) dX5_copy_64 (by decide) ?_
  refine n_copyI F ar_15 ar_23 (by decide) (by decide) 0 0 2 (by decide) (by decide) (by decide) (by decide) (by decide) (by decide) (by decide) (by decide) la_RX5_45 (Nat.le_of_ble_eq_true rfl) (Nat.le_of_ble_eq_true rfl) dX5_copy_65 ?_
  refine n_aload_n F dX5_copy_68 rfl 1 rfl ?_
  refine n_get F ck_5 lf_RX5_18 (by decide) fg_13_8 (by decide) dX5_copy_69 ?_
  refine n_iconst F (0 : Int32) dX5_copy_72 (by decide) ?_
  refine n_aload_n F dX5_copy_73 rfl 0 rfl ?_
  refine n_get F ck_5 lf_RX5_18 (by decide) fg_21_8 (by decide) dX5_copy_74 ?_
  refine n_iconst F (0 : Int32) dX5_copy_77 (by decide) ?_
  refine n_iconst F (2 : Int32) dX5_copy_78 (by decide) ?_
  refine n_copyI F ar_16 ar_24 (by decide) (by decide) 0 0 2 (by decide) (by decide) (by decide) (by decide) (by decide) (by decide) (by decide) (by decide) la_RX5_45 (Nat.le_of_ble_eq_true rfl) (Nat.le_of_ble_eq_true rfl) dX5_copy_79 ?_
  refine n_aload_n F dX5_copy_82 rfl 0 rfl ?_
  refine n_aload_n F dX5_copy_83 rfl 1 rfl ?_
  refine n_get F ck_5 lf_RX5_62 (by decide) fg_13_9 (by decide) dX5_copy_84 ?_
  refine n_put F ck_5 lf_RX5_62 (by decide) rfl fp_21_9 (by decide) rfl rfl dX5_copy_87 ?_
  refine n_aload_n F dX5_copy_90 rfl 0 rfl ?_
  refine n_aload_n F dX5_copy_91 rfl 1 rfl ?_
  refine n_get F ck_5 lf_RX5_65 (by decide) fg_13_10 (by decide) dX5_copy_92 ?_
  refine n_put F ck_5 lf_RX5_65 (by decide) rfl fp_21_10 (by decide) rfl rfl dX5_copy_95 ?_
  refine n_aload_n F dX5_copy_98 rfl 0 rfl ?_
  refine n_aload_n F dX5_copy_99 rfl 1 rfl ?_
  refine n_get F ck_5 lf_RX5_68 (by decide) fg_13_11 (by decide) dX5_copy_100 ?_
  refine n_put F ck_5 lf_RX5_68 (by decide) rfl fp_21_11 (by decide) rfl rfl dX5_copy_103 ?_
  exact n_vret F rfl rfl dX5_copy_106
def Sc_copy_13_17 (w : Wd) : Option Wd := (if ((sI (sI w 13 1 (w.1 17 1)) 13 2 ((sI w 13 1 (w.1 17 1)).1 17 2)).1 17 3) &&& (1 : Int32) = ((sI (sI w 13 1 (w.1 17 1)) 13 2 ((sI w 13 1 (w.1 17 1)).1 17 2)).1 17 3) then (if ((sI (sI (sI w 13 1 (w.1 17 1)) 13 2 ((sI w 13 1 (w.1 17 1)).1 17 2)) 13 3 ((sI (sI w 13 1 (w.1 17 1)) 13 2 ((sI w 13 1 (w.1 17 1)).1 17 2)).1 17 3)).1 17 4) &&& (1 : Int32) = ((sI (sI (sI w 13 1 (w.1 17 1)) 13 2 ((sI w 13 1 (w.1 17 1)).1 17 2)) 13 3 ((sI (sI w 13 1 (w.1 17 1)) 13 2 ((sI w 13 1 (w.1 17 1)).1 17 2)).1 17 3)).1 17 4) then some (sI (sI (sI (cI (cI (cI (sI (sI (sI (sI (sI w 13 1 (w.1 17 1)) 13 2 ((sI w 13 1 (w.1 17 1)).1 17 2)) 13 3 ((sI (sI w 13 1 (w.1 17 1)) 13 2 ((sI w 13 1 (w.1 17 1)).1 17 2)).1 17 3)) 13 4 ((sI (sI (sI w 13 1 (w.1 17 1)) 13 2 ((sI w 13 1 (w.1 17 1)).1 17 2)) 13 3 ((sI (sI w 13 1 (w.1 17 1)) 13 2 ((sI w 13 1 (w.1 17 1)).1 17 2)).1 17 3)).1 17 4)) 13 5 ((sI (sI (sI (sI w 13 1 (w.1 17 1)) 13 2 ((sI w 13 1 (w.1 17 1)).1 17 2)) 13 3 ((sI (sI w 13 1 (w.1 17 1)) 13 2 ((sI w 13 1 (w.1 17 1)).1 17 2)).1 17 3)) 13 4 ((sI (sI (sI w 13 1 (w.1 17 1)) 13 2 ((sI w 13 1 (w.1 17 1)).1 17 2)) 13 3 ((sI (sI w 13 1 (w.1 17 1)) 13 2 ((sI w 13 1 (w.1 17 1)).1 17 2)).1 17 3)).1 17 4)).1 17 5)) 18 0 14 0 3) 19 0 15 0 2) 20 0 16 0 2) 13 9 ((cI (cI (cI (sI (sI (sI (sI (sI w 13 1 (w.1 17 1)) 13 2 ((sI w 13 1 (w.1 17 1)).1 17 2)) 13 3 ((sI (sI w 13 1 (w.1 17 1)) 13 2 ((sI w 13 1 (w.1 17 1)).1 17 2)).1 17 3)) 13 4 ((sI (sI (sI w 13 1 (w.1 17 1)) 13 2 ((sI w 13 1 (w.1 17 1)).1 17 2)) 13 3 ((sI (sI w 13 1 (w.1 17 1)) 13 2 ((sI w 13 1 (w.1 17 1)).1 17 2)).1 17 3)).1 17 4)) 13 5 ((sI (sI (sI (sI w 13 1 (w.1 17 1)) 13 2 ((sI w 13 1 (w.1 17 1)).1 17 2)) 13 3 ((sI (sI w 13 1 (w.1 17 1)) 13 2 ((sI w 13 1 (w.1 17 1)).1 17 2)).1 17 3)) 13 4 ((sI (sI (sI w 13 1 (w.1 17 1)) 13 2 ((sI w 13 1 (w.1 17 1)).1 17 2)) 13 3 ((sI (sI w 13 1 (w.1 17 1)) 13 2 ((sI w 13 1 (w.1 17 1)).1 17 2)).1 17 3)).1 17 4)).1 17 5)) 18 0 14 0 3) 19 0 15 0 2) 20 0 16 0 2).1 17 9)) 13 10 ((sI (cI (cI (cI (sI (sI (sI (sI (sI w 13 1 (w.1 17 1)) 13 2 ((sI w 13 1 (w.1 17 1)).1 17 2)) 13 3 ((sI (sI w 13 1 (w.1 17 1)) 13 2 ((sI w 13 1 (w.1 17 1)).1 17 2)).1 17 3)) 13 4 ((sI (sI (sI w 13 1 (w.1 17 1)) 13 2 ((sI w 13 1 (w.1 17 1)).1 17 2)) 13 3 ((sI (sI w 13 1 (w.1 17 1)) 13 2 ((sI w 13 1 (w.1 17 1)).1 17 2)).1 17 3)).1 17 4)) 13 5 ((sI (sI (sI (sI w 13 1 (w.1 17 1)) 13 2 ((sI w 13 1 (w.1 17 1)).1 17 2)) 13 3 ((sI (sI w 13 1 (w.1 17 1)) 13 2 ((sI w 13 1 (w.1 17 1)).1 17 2)).1 17 3)) 13 4 ((sI (sI (sI w 13 1 (w.1 17 1)) 13 2 ((sI w 13 1 (w.1 17 1)).1 17 2)) 13 3 ((sI (sI w 13 1 (w.1 17 1)) 13 2 ((sI w 13 1 (w.1 17 1)).1 17 2)).1 17 3)).1 17 4)).1 17 5)) 18 0 14 0 3) 19 0 15 0 2) 20 0 16 0 2) 13 9 ((cI (cI (cI (sI (sI (sI (sI (sI w 13 1 (w.1 17 1)) 13 2 ((sI w 13 1 (w.1 17 1)).1 17 2)) 13 3 ((sI (sI w 13 1 (w.1 17 1)) 13 2 ((sI w 13 1 (w.1 17 1)).1 17 2)).1 17 3)) 13 4 ((sI (sI (sI w 13 1 (w.1 17 1)) 13 2 ((sI w 13 1 (w.1 17 1)).1 17 2)) 13 3 ((sI (sI w 13 1 (w.1 17 1)) 13 2 ((sI w 13 1 (w.1 17 1)).1 17 2)).1 17 3)).1 17 4)) 13 5 ((sI (sI (sI (sI w 13 1 (w.1 17 1)) 13 2 ((sI w 13 1 (w.1 17 1)).1 17 2)) 13 3 ((sI (sI w 13 1 (w.1 17 1)) 13 2 ((sI w 13 1 (w.1 17 1)).1 17 2)).1 17 3)) 13 4 ((sI (sI (sI w 13 1 (w.1 17 1)) 13 2 ((sI w 13 1 (w.1 17 1)).1 17 2)) 13 3 ((sI (sI w 13 1 (w.1 17 1)) 13 2 ((sI w 13 1 (w.1 17 1)).1 17 2)).1 17 3)).1 17 4)).1 17 5)) 18 0 14 0 3) 19 0 15 0 2) 20 0 16 0 2).1 17 9)).1 17 10)) 13 11 ((sI (sI (cI (cI (cI (sI (sI (sI (sI (sI w 13 1 (w.1 17 1)) 13 2 ((sI w 13 1 (w.1 17 1)).1 17 2)) 13 3 ((sI (sI w 13 1 (w.1 17 1)) 13 2 ((sI w 13 1 (w.1 17 1)).1 17 2)).1 17 3)) 13 4 ((sI (sI (sI w 13 1 (w.1 17 1)) 13 2 ((sI w 13 1 (w.1 17 1)).1 17 2)) 13 3 ((sI (sI w 13 1 (w.1 17 1)) 13 2 ((sI w 13 1 (w.1 17 1)).1 17 2)).1 17 3)).1 17 4)) 13 5 ((sI (sI (sI (sI w 13 1 (w.1 17 1)) 13 2 ((sI w 13 1 (w.1 17 1)).1 17 2)) 13 3 ((sI (sI w 13 1 (w.1 17 1)) 13 2 ((sI w 13 1 (w.1 17 1)).1 17 2)).1 17 3)) 13 4 ((sI (sI (sI w 13 1 (w.1 17 1)) 13 2 ((sI w 13 1 (w.1 17 1)).1 17 2)) 13 3 ((sI (sI w 13 1 (w.1 17 1)) 13 2 ((sI w 13 1 (w.1 17 1)).1 17 2)).1 17 3)).1 17 4)).1 17 5)) 18 0 14 0 3) 19 0 15 0 2) 20 0 16 0 2) 13 9 ((cI (cI (cI (sI (sI (sI (sI (sI w 13 1 (w.1 17 1)) 13 2 ((sI w 13 1 (w.1 17 1)).1 17 2)) 13 3 ((sI (sI w 13 1 (w.1 17 1)) 13 2 ((sI w 13 1 (w.1 17 1)).1 17 2)).1 17 3)) 13 4 ((sI (sI (sI w 13 1 (w.1 17 1)) 13 2 ((sI w 13 1 (w.1 17 1)).1 17 2)) 13 3 ((sI (sI w 13 1 (w.1 17 1)) 13 2 ((sI w 13 1 (w.1 17 1)).1 17 2)).1 17 3)).1 17 4)) 13 5 ((sI (sI (sI (sI w 13 1 (w.1 17 1)) 13 2 ((sI w 13 1 (w.1 17 1)).1 17 2)) 13 3 ((sI (sI w 13 1 (w.1 17 1)) 13 2 ((sI w 13 1 (w.1 17 1)).1 17 2)).1 17 3)) 13 4 ((sI (sI (sI w 13 1 (w.1 17 1)) 13 2 ((sI w 13 1 (w.1 17 1)).1 17 2)) 13 3 ((sI (sI w 13 1 (w.1 17 1)) 13 2 ((sI w 13 1 (w.1 17 1)).1 17 2)).1 17 3)).1 17 4)).1 17 5)) 18 0 14 0 3) 19 0 15 0 2) 20 0 16 0 2).1 17 9)) 13 10 ((sI (cI (cI (cI (sI (sI (sI (sI (sI w 13 1 (w.1 17 1)) 13 2 ((sI w 13 1 (w.1 17 1)).1 17 2)) 13 3 ((sI (sI w 13 1 (w.1 17 1)) 13 2 ((sI w 13 1 (w.1 17 1)).1 17 2)).1 17 3)) 13 4 ((sI (sI (sI w 13 1 (w.1 17 1)) 13 2 ((sI w 13 1 (w.1 17 1)).1 17 2)) 13 3 ((sI (sI w 13 1 (w.1 17 1)) 13 2 ((sI w 13 1 (w.1 17 1)).1 17 2)).1 17 3)).1 17 4)) 13 5 ((sI (sI (sI (sI w 13 1 (w.1 17 1)) 13 2 ((sI w 13 1 (w.1 17 1)).1 17 2)) 13 3 ((sI (sI w 13 1 (w.1 17 1)) 13 2 ((sI w 13 1 (w.1 17 1)).1 17 2)).1 17 3)) 13 4 ((sI (sI (sI w 13 1 (w.1 17 1)) 13 2 ((sI w 13 1 (w.1 17 1)).1 17 2)) 13 3 ((sI (sI w 13 1 (w.1 17 1)) 13 2 ((sI w 13 1 (w.1 17 1)).1 17 2)).1 17 3)).1 17 4)).1 17 5)) 18 0 14 0 3) 19 0 15 0 2) 20 0 16 0 2) 13 9 ((cI (cI (cI (sI (sI (sI (sI (sI w 13 1 (w.1 17 1)) 13 2 ((sI w 13 1 (w.1 17 1)).1 17 2)) 13 3 ((sI (sI w 13 1 (w.1 17 1)) 13 2 ((sI w 13 1 (w.1 17 1)).1 17 2)).1 17 3)) 13 4 ((sI (sI (sI w 13 1 (w.1 17 1)) 13 2 ((sI w 13 1 (w.1 17 1)).1 17 2)) 13 3 ((sI (sI w 13 1 (w.1 17 1)) 13 2 ((sI w 13 1 (w.1 17 1)).1 17 2)).1 17 3)).1 17 4)) 13 5 ((sI (sI (sI (sI w 13 1 (w.1 17 1)) 13 2 ((sI w 13 1 (w.1 17 1)).1 17 2)) 13 3 ((sI (sI w 13 1 (w.1 17 1)) 13 2 ((sI w 13 1 (w.1 17 1)).1 17 2)).1 17 3)) 13 4 ((sI (sI (sI w 13 1 (w.1 17 1)) 13 2 ((sI w 13 1 (w.1 17 1)).1 17 2)) 13 3 ((sI (sI w 13 1 (w.1 17 1)) 13 2 ((sI w 13 1 (w.1 17 1)).1 17 2)).1 17 3)).1 17 4)).1 17 5)) 18 0 14 0 3) 19 0 15 0 2) 20 0 16 0 2).1 17 9)).1 17 10)).1 17 11)) else none) else none)
set_option maxRecDepth 100000 in
set_option maxHeartbeats 4000000 in
theorem ct_Sc_copy_13_17 {l : Launch} {g : GG} {σ : Sd} (hg : OKg g σ) (hb : σ.2.1 = true) (hx : ∀ c ∈ ([13, 14, 15, 16, 17, 18, 19, 20] : List Nat), c ∈ σ.1) (w : Wd) {q : Wd} (hq : Sc_copy_13_17 w = some q) : CT l g σ yX5_copy cX5_copy 2 none 1 18 [.ref (gA g 13), .ref (gA g 17)] w none q := by
  refine ct_of (rt := rtV) (res := Sc_copy_13_17 w) (q := q) (own := RX5) (b := true) hg hb hx (by decide) rfl (Nat.le_of_ble_eq_true rfl) hq (fun K e1 e2 e3 F => ?_)
  subst e1 e2 e3
  rw [Sc_copy_13_17]
  show N K _ _ w 0 [(0, .ref (gA (cg K) 13)), (1, .ref (gA (cg K) 17))] []
  refine n_aload_n F dX5_copy_0 rfl 0 rfl ?_
  refine n_aload_n F dX5_copy_1 rfl 1 rfl ?_
  refine n_get F ck_5 lf_RX5_28 (by decide) fg_17_1 (by decide) dX5_copy_2 ?_
  refine n_put F ck_5 lf_RX5_28 (by decide) rfl fp_13_1 (by decide) rfl rfl dX5_copy_5 ?_
  refine n_aload_n F dX5_copy_8 rfl 0 rfl ?_
  refine n_aload_n F dX5_copy_9 rfl 1 rfl ?_
  refine n_get F ck_5 lf_RX5_37 (by decide) fg_17_2 (by decide) dX5_copy_10 ?_
  refine n_put F ck_5 lf_RX5_37 (by decide) rfl fp_13_2 (by decide) rfl rfl dX5_copy_13 ?_
  refine n_aload_n F dX5_copy_16 rfl 0 rfl ?_
  refine n_aload_n F dX5_copy_17 rfl 1 rfl ?_
  refine n_get F ck_5 lf_RX5_40 (by decide) fg_17_3 (by decide) dX5_copy_18 ?_
  refine n_chk (fun e1 => ?_)
  refine n_put F ck_5 lf_RX5_40 (by decide) rfl fp_13_3 (by decide) (bz_n e1) (bz_f e1) dX5_copy_21 ?_
  refine n_aload_n F dX5_copy_24 rfl 0 rfl ?_
  refine n_aload_n F dX5_copy_25 rfl 1 rfl ?_
  refine n_get F ck_5 lf_RX5_59 (by decide) fg_17_4 (by decide) dX5_copy_26 ?_
  refine n_chk (fun e2 => ?_)
  refine n_put F ck_5 lf_RX5_59 (by decide) rfl fp_13_4 (by decide) (bz_n e2) (bz_f e2) dX5_copy_29 ?_
  refine n_aload_n F dX5_copy_32 rfl 0 rfl ?_
  refine n_aload_n F dX5_copy_33 rfl 1 rfl ?_
  refine n_get F ck_5 lf_RX5_71 (by decide) fg_17_5 (by decide) dX5_copy_34 ?_
  refine n_put F ck_5 lf_RX5_71 (by decide) rfl fp_13_5 (by decide) rfl rfl dX5_copy_37 ?_
  refine n_aload_n F dX5_copy_40 rfl 1 rfl ?_
  refine n_get F ck_5 lf_RX5_9 (by decide) fg_17_6 (by decide) dX5_copy_41 ?_
  refine n_iconst F (0 : Int32) dX5_copy_44 (by decide) ?_
  refine n_aload_n F dX5_copy_45 rfl 0 rfl ?_
  refine n_get F ck_5 lf_RX5_9 (by decide) fg_13_6 (by decide) dX5_copy_46 ?_
  refine n_iconst F (0 : Int32) dX5_copy_49 (by decide) ?_
  refine n_iconst F (3 : Int32) dX5_copy_50 (by decide) ?_
  refine n_copyI F ar_18 ar_14 (by decide) (by decide) 0 0 3 (by decide) (by decide) (by decide) (by decide) (by decide) (by decide) (by decide) (by decide) la_RX5_45 (Nat.le_of_ble_eq_true rfl) (Nat.le_of_ble_eq_true rfl) dX5_copy_51 ?_
  refine n_aload_n F dX5_copy_54 rfl 1 rfl ?_
  refine n_get F ck_5 lf_RX5_15 (by decide) fg_17_7 (by decide) dX5_copy_55 ?_
  refine n_iconst F (0 : Int32) dX5_copy_58 (by decide) ?_
  refine n_aload_n F dX5_copy_59 rfl 0 rfl ?_
  refine n_get F ck_5 lf_RX5_15 (by decide) fg_13_7 (by decide) dX5_copy_60 ?_
  refine n_iconst F (0 : Int32) dX5_copy_63 (by decide) ?_
  refine n_iconst F (2 : Int32) dX5_copy_64 (by decide) ?_
  refine n_copyI F ar_19 ar_15 (by decide) (by decide) 0 0 2 (by decide) (by decide) (by decide) (by decide) (by decide) (by decide) (by decide) (by decide) la_RX5_45 (Nat.le_of_ble_eq_true rfl) (Nat.le_of_ble_eq_true rfl) dX5_copy_65 ?_
  refine n_aload_n F dX5_copy_68 rfl 1 rfl ?_
  refine n_get F ck_5 lf_RX5_18 (by decide) fg_17_8 (by decide) dX5_copy_69 ?_
  refine n_iconst F (0 : Int32) dX5_copy_72 (by decide) ?_
  refine n_aload_n F dX5_copy_73 rfl 0 rfl ?_
  refine n_get F ck_5 lf_RX5_18 (by decide) fg_13_8 (by decide) dX5_copy_74 ?_
  refine n_iconst F (0 : Int32) dX5_copy_77 (by decide) ?_
  refine n_iconst F (2 : Int32) dX5_copy_78 (by decide) ?_
  refine n_copyI F ar_20 ar_16 (by decide) (by decide) 0 0 2 (by decide) (by decide) (by decide) (by decide) (by decide) (by decide) (by decide) (by decide) la_RX5_45 (Nat.le_of_ble_eq_true rfl) (Nat.le_of_ble_eq_true rfl) dX5_copy_79 ?_
  refine n_aload_n F dX5_copy_82 rfl 0 rfl ?_
  refine n_aload_n F dX5_copy_83 rfl 1 rfl ?_
  refine n_get F ck_5 lf_RX5_62 (by decide) fg_17_9 (by decide) dX5_copy_84 ?_
  refine n_put F ck_5 lf_RX5_62 (by decide) rfl fp_13_9 (by decide) rfl rfl dX5_copy_87 ?_
  refine n_aload_n F dX5_copy_90 rfl 0 rfl ?_
  refine n_aload_n F dX5_copy_91 rfl 1 rfl ?_
  refine n_get F ck_5 lf_RX5_65 (by decide) fg_17_10 (by decide) dX5_copy_92 ?_
  refine n_put F ck_5 lf_RX5_65 (by decide) rfl fp_13_10 (by decide) rfl rfl dX5_copy_95 ?_
  refine n_aload_n F dX5_copy_98 rfl 0 rfl ?_
  refine n_aload_n F dX5_copy_99 rfl 1 rfl ?_
  refine n_get F ck_5 lf_RX5_68 (by decide) fg_17_11 (by decide) dX5_copy_100 ?_
  refine n_put F ck_5 lf_RX5_68 (by decide) rfl fp_13_11 (by decide) rfl rfl dX5_copy_103 ?_
  exact n_vret F rfl rfl dX5_copy_106
def Sc_copy_13_21 (w : Wd) : Option Wd := (if ((sI (sI w 13 1 (w.1 21 1)) 13 2 ((sI w 13 1 (w.1 21 1)).1 21 2)).1 21 3) &&& (1 : Int32) = ((sI (sI w 13 1 (w.1 21 1)) 13 2 ((sI w 13 1 (w.1 21 1)).1 21 2)).1 21 3) then (if ((sI (sI (sI w 13 1 (w.1 21 1)) 13 2 ((sI w 13 1 (w.1 21 1)).1 21 2)) 13 3 ((sI (sI w 13 1 (w.1 21 1)) 13 2 ((sI w 13 1 (w.1 21 1)).1 21 2)).1 21 3)).1 21 4) &&& (1 : Int32) = ((sI (sI (sI w 13 1 (w.1 21 1)) 13 2 ((sI w 13 1 (w.1 21 1)).1 21 2)) 13 3 ((sI (sI w 13 1 (w.1 21 1)) 13 2 ((sI w 13 1 (w.1 21 1)).1 21 2)).1 21 3)).1 21 4) then some (sI (sI (sI (cI (cI (cI (sI (sI (sI (sI (sI w 13 1 (w.1 21 1)) 13 2 ((sI w 13 1 (w.1 21 1)).1 21 2)) 13 3 ((sI (sI w 13 1 (w.1 21 1)) 13 2 ((sI w 13 1 (w.1 21 1)).1 21 2)).1 21 3)) 13 4 ((sI (sI (sI w 13 1 (w.1 21 1)) 13 2 ((sI w 13 1 (w.1 21 1)).1 21 2)) 13 3 ((sI (sI w 13 1 (w.1 21 1)) 13 2 ((sI w 13 1 (w.1 21 1)).1 21 2)).1 21 3)).1 21 4)) 13 5 ((sI (sI (sI (sI w 13 1 (w.1 21 1)) 13 2 ((sI w 13 1 (w.1 21 1)).1 21 2)) 13 3 ((sI (sI w 13 1 (w.1 21 1)) 13 2 ((sI w 13 1 (w.1 21 1)).1 21 2)).1 21 3)) 13 4 ((sI (sI (sI w 13 1 (w.1 21 1)) 13 2 ((sI w 13 1 (w.1 21 1)).1 21 2)) 13 3 ((sI (sI w 13 1 (w.1 21 1)) 13 2 ((sI w 13 1 (w.1 21 1)).1 21 2)).1 21 3)).1 21 4)).1 21 5)) 22 0 14 0 3) 23 0 15 0 2) 24 0 16 0 2) 13 9 ((cI (cI (cI (sI (sI (sI (sI (sI w 13 1 (w.1 21 1)) 13 2 ((sI w 13 1 (w.1 21 1)).1 21 2)) 13 3 ((sI (sI w 13 1 (w.1 21 1)) 13 2 ((sI w 13 1 (w.1 21 1)).1 21 2)).1 21 3)) 13 4 ((sI (sI (sI w 13 1 (w.1 21 1)) 13 2 ((sI w 13 1 (w.1 21 1)).1 21 2)) 13 3 ((sI (sI w 13 1 (w.1 21 1)) 13 2 ((sI w 13 1 (w.1 21 1)).1 21 2)).1 21 3)).1 21 4)) 13 5 ((sI (sI (sI (sI w 13 1 (w.1 21 1)) 13 2 ((sI w 13 1 (w.1 21 1)).1 21 2)) 13 3 ((sI (sI w 13 1 (w.1 21 1)) 13 2 ((sI w 13 1 (w.1 21 1)).1 21 2)).1 21 3)) 13 4 ((sI (sI (sI w 13 1 (w.1 21 1)) 13 2 ((sI w 13 1 (w.1 21 1)).1 21 2)) 13 3 ((sI (sI w 13 1 (w.1 21 1)) 13 2 ((sI w 13 1 (w.1 21 1)).1 21 2)).1 21 3)).1 21 4)).1 21 5)) 22 0 14 0 3) 23 0 15 0 2) 24 0 16 0 2).1 21 9)) 13 10 ((sI (cI (cI (cI (sI (sI (sI (sI (sI w 13 1 (w.1 21 1)) 13 2 ((sI w 13 1 (w.1 21 1)).1 21 2)) 13 3 ((sI (sI w 13 1 (w.1 21 1)) 13 2 ((sI w 13 1 (w.1 21 1)).1 21 2)).1 21 3)) 13 4 ((sI (sI (sI w 13 1 (w.1 21 1)) 13 2 ((sI w 13 1 (w.1 21 1)).1 21 2)) 13 3 ((sI (sI w 13 1 (w.1 21 1)) 13 2 ((sI w 13 1 (w.1 21 1)).1 21 2)).1 21 3)).1 21 4)) 13 5 ((sI (sI (sI (sI w 13 1 (w.1 21 1)) 13 2 ((sI w 13 1 (w.1 21 1)).1 21 2)) 13 3 ((sI (sI w 13 1 (w.1 21 1)) 13 2 ((sI w 13 1 (w.1 21 1)).1 21 2)).1 21 3)) 13 4 ((sI (sI (sI w 13 1 (w.1 21 1)) 13 2 ((sI w 13 1 (w.1 21 1)).1 21 2)) 13 3 ((sI (sI w 13 1 (w.1 21 1)) 13 2 ((sI w 13 1 (w.1 21 1)).1 21 2)).1 21 3)).1 21 4)).1 21 5)) 22 0 14 0 3) 23 0 15 0 2) 24 0 16 0 2) 13 9 ((cI (cI (cI (sI (sI (sI (sI (sI w 13 1 (w.1 21 1)) 13 2 ((sI w 13 1 (w.1 21 1)).1 21 2)) 13 3 ((sI (sI w 13 1 (w.1 21 1)) 13 2 ((sI w 13 1 (w.1 21 1)).1 21 2)).1 21 3)) 13 4 ((sI (sI (sI w 13 1 (w.1 21 1)) 13 2 ((sI w 13 1 (w.1 21 1)).1 21 2)) 13 3 ((sI (sI w 13 1 (w.1 21 1)) 13 2 ((sI w 13 1 (w.1 21 1)).1 21 2)).1 21 3)).1 21 4)) 13 5 ((sI (sI (sI (sI w 13 1 (w.1 21 1)) 13 2 ((sI w 13 1 (w.1 21 1)).1 21 2)) 13 3 ((sI (sI w 13 1 (w.1 21 1)) 13 2 ((sI w 13 1 (w.1 21 1)).1 21 2)).1 21 3)) 13 4 ((sI (sI (sI w 13 1 (w.1 21 1)) 13 2 ((sI w 13 1 (w.1 21 1)).1 21 2)) 13 3 ((sI (sI w 13 1 (w.1 21 1)) 13 2 ((sI w 13 1 (w.1 21 1)).1 21 2)).1 21 3)).1 21 4)).1 21 5)) 22 0 14 0 3) 23 0 15 0 2) 24 0 16 0 2).1 21 9)).1 21 10)) 13 11 ((sI (sI (cI (cI (cI (sI (sI (sI (sI (sI w 13 1 (w.1 21 1)) 13 2 ((sI w 13 1 (w.1 21 1)).1 21 2)) 13 3 ((sI (sI w 13 1 (w.1 21 1)) 13 2 ((sI w 13 1 (w.1 21 1)).1 21 2)).1 21 3)) 13 4 ((sI (sI (sI w 13 1 (w.1 21 1)) 13 2 ((sI w 13 1 (w.1 21 1)).1 21 2)) 13 3 ((sI (sI w 13 1 (w.1 21 1)) 13 2 ((sI w 13 1 (w.1 21 1)).1 21 2)).1 21 3)).1 21 4)) 13 5 ((sI (sI (sI (sI w 13 1 (w.1 21 1)) 13 2 ((sI w 13 1 (w.1 21 1)).1 21 2)) 13 3 ((sI (sI w 13 1 (w.1 21 1)) 13 2 ((sI w 13 1 (w.1 21 1)).1 21 2)).1 21 3)) 13 4 ((sI (sI (sI w 13 1 (w.1 21 1)) 13 2 ((sI w 13 1 (w.1 21 1)).1 21 2)) 13 3 ((sI (sI w 13 1 (w.1 21 1)) 13 2 ((sI w 13 1 (w.1 21 1)).1 21 2)).1 21 3)).1 21 4)).1 21 5)) 22 0 14 0 3) 23 0 15 0 2) 24 0 16 0 2) 13 9 ((cI (cI (cI (sI (sI (sI (sI (sI w 13 1 (w.1 21 1)) 13 2 ((sI w 13 1 (w.1 21 1)).1 21 2)) 13 3 ((sI (sI w 13 1 (w.1 21 1)) 13 2 ((sI w 13 1 (w.1 21 1)).1 21 2)).1 21 3)) 13 4 ((sI (sI (sI w 13 1 (w.1 21 1)) 13 2 ((sI w 13 1 (w.1 21 1)).1 21 2)) 13 3 ((sI (sI w 13 1 (w.1 21 1)) 13 2 ((sI w 13 1 (w.1 21 1)).1 21 2)).1 21 3)).1 21 4)) 13 5 ((sI (sI (sI (sI w 13 1 (w.1 21 1)) 13 2 ((sI w 13 1 (w.1 21 1)).1 21 2)) 13 3 ((sI (sI w 13 1 (w.1 21 1)) 13 2 ((sI w 13 1 (w.1 21 1)).1 21 2)).1 21 3)) 13 4 ((sI (sI (sI w 13 1 (w.1 21 1)) 13 2 ((sI w 13 1 (w.1 21 1)).1 21 2)) 13 3 ((sI (sI w 13 1 (w.1 21 1)) 13 2 ((sI w 13 1 (w.1 21 1)).1 21 2)).1 21 3)).1 21 4)).1 21 5)) 22 0 14 0 3) 23 0 15 0 2) 24 0 16 0 2).1 21 9)) 13 10 ((sI (cI (cI (cI (sI (sI (sI (sI (sI w 13 1 (w.1 21 1)) 13 2 ((sI w 13 1 (w.1 21 1)).1 21 2)) 13 3 ((sI (sI w 13 1 (w.1 21 1)) 13 2 ((sI w 13 1 (w.1 21 1)).1 21 2)).1 21 3)) 13 4 ((sI (sI (sI w 13 1 (w.1 21 1)) 13 2 ((sI w 13 1 (w.1 21 1)).1 21 2)) 13 3 ((sI (sI w 13 1 (w.1 21 1)) 13 2 ((sI w 13 1 (w.1 21 1)).1 21 2)).1 21 3)).1 21 4)) 13 5 ((sI (sI (sI (sI w 13 1 (w.1 21 1)) 13 2 ((sI w 13 1 (w.1 21 1)).1 21 2)) 13 3 ((sI (sI w 13 1 (w.1 21 1)) 13 2 ((sI w 13 1 (w.1 21 1)).1 21 2)).1 21 3)) 13 4 ((sI (sI (sI w 13 1 (w.1 21 1)) 13 2 ((sI w 13 1 (w.1 21 1)).1 21 2)) 13 3 ((sI (sI w 13 1 (w.1 21 1)) 13 2 ((sI w 13 1 (w.1 21 1)).1 21 2)).1 21 3)).1 21 4)).1 21 5)) 22 0 14 0 3) 23 0 15 0 2) 24 0 16 0 2) 13 9 ((cI (cI (cI (sI (sI (sI (sI (sI w 13 1 (w.1 21 1)) 13 2 ((sI w 13 1 (w.1 21 1)).1 21 2)) 13 3 ((sI (sI w 13 1 (w.1 21 1)) 13 2 ((sI w 13 1 (w.1 21 1)).1 21 2)).1 21 3)) 13 4 ((sI (sI (sI w 13 1 (w.1 21 1)) 13 2 ((sI w 13 1 (w.1 21 1)).1 21 2)) 13 3 ((sI (sI w 13 1 (w.1 21 1)) 13 2 ((sI w 13 1 (w.1 21 1)).1 21 2)).1 21 3)).1 21 4)) 13 5 ((sI (sI (sI (sI w 13 1 (w.1 21 1)) 13 2 ((sI w 13 1 (w.1 21 1)).1 21 2)) 13 3 ((sI (sI w 13 1 (w.1 21 1)) 13 2 ((sI w 13 1 (w.1 21 1)).1 21 2)).1 21 3)) 13 4 ((sI (sI (sI w 13 1 (w.1 21 1)) 13 2 ((sI w 13 1 (w.1 21 1)).1 21 2)) 13 3 ((sI (sI w 13 1 (w.1 21 1)) 13 2 ((sI w 13 1 (w.1 21 1)).1 21 2)).1 21 3)).1 21 4)).1 21 5)) 22 0 14 0 3) 23 0 15 0 2) 24 0 16 0 2).1 21 9)).1 21 10)).1 21 11)) else none) else none)
set_option maxRecDepth 100000 in
set_option maxHeartbeats 4000000 in
theorem ct_Sc_copy_13_21 {l : Launch} {g : GG} {σ : Sd} (hg : OKg g σ) (hb : σ.2.1 = true) (hx : ∀ c ∈ ([13, 14, 15, 16, 21, 22, 23, 24] : List Nat), c ∈ σ.1) (w : Wd) {q : Wd} (hq : Sc_copy_13_21 w = some q) : CT l g σ yX5_copy cX5_copy 2 none 1 18 [.ref (gA g 13), .ref (gA g 21)] w none q := by
  refine ct_of (rt := rtV) (res := Sc_copy_13_21 w) (q := q) (own := RX5) (b := true) hg hb hx (by decide) rfl (Nat.le_of_ble_eq_true rfl) hq (fun K e1 e2 e3 F => ?_)
  subst e1 e2 e3
  rw [Sc_copy_13_21]
  show N K _ _ w 0 [(0, .ref (gA (cg K) 13)), (1, .ref (gA (cg K) 21))] []
  refine n_aload_n F dX5_copy_0 rfl 0 rfl ?_
  refine n_aload_n F dX5_copy_1 rfl 1 rfl ?_
  refine n_get F ck_5 lf_RX5_28 (by decide) fg_21_1 (by decide) dX5_copy_2 ?_
  refine n_put F ck_5 lf_RX5_28 (by decide) rfl fp_13_1 (by decide) rfl rfl dX5_copy_5 ?_
  refine n_aload_n F dX5_copy_8 rfl 0 rfl ?_
  refine n_aload_n F dX5_copy_9 rfl 1 rfl ?_
  refine n_get F ck_5 lf_RX5_37 (by decide) fg_21_2 (by decide) dX5_copy_10 ?_
  refine n_put F ck_5 lf_RX5_37 (by decide) rfl fp_13_2 (by decide) rfl rfl dX5_copy_13 ?_
  refine n_aload_n F dX5_copy_16 rfl 0 rfl ?_
  refine n_aload_n F dX5_copy_17 rfl 1 rfl ?_
  refine n_get F ck_5 lf_RX5_40 (by decide) fg_21_3 (by decide) dX5_copy_18 ?_
  refine n_chk (fun e1 => ?_)
  refine n_put F ck_5 lf_RX5_40 (by decide) rfl fp_13_3 (by decide) (bz_n e1) (bz_f e1) dX5_copy_21 ?_
  refine n_aload_n F dX5_copy_24 rfl 0 rfl ?_
  refine n_aload_n F dX5_copy_25 rfl 1 rfl ?_
  refine n_get F ck_5 lf_RX5_59 (by decide) fg_21_4 (by decide) dX5_copy_26 ?_
  refine n_chk (fun e2 => ?_)
  refine n_put F ck_5 lf_RX5_59 (by decide) rfl fp_13_4 (by decide) (bz_n e2) (bz_f e2) dX5_copy_29 ?_
  refine n_aload_n F dX5_copy_32 rfl 0 rfl ?_
  refine n_aload_n F dX5_copy_33 rfl 1 rfl ?_
  refine n_get F ck_5 lf_RX5_71 (by decide) fg_21_5 (by decide) dX5_copy_34 ?_
  refine n_put F ck_5 lf_RX5_71 (by decide) rfl fp_13_5 (by decide) rfl rfl dX5_copy_37 ?_
  refine n_aload_n F dX5_copy_40 rfl 1 rfl ?_
  refine n_get F ck_5 lf_RX5_9 (by decide) fg_21_6 (by decide) dX5_copy_41 ?_
  refine n_iconst F (0 : Int32) dX5_copy_44 (by decide) ?_
  refine n_aload_n F dX5_copy_45 rfl 0 rfl ?_
  refine n_get F ck_5 lf_RX5_9 (by decide) fg_13_6 (by decide) dX5_copy_46 ?_
  refine n_iconst F (0 : Int32) dX5_copy_49 (by decide) ?_
  refine n_iconst F (3 : Int32) dX5_copy_50 (by decide) ?_
  refine n_copyI F ar_22 ar_14 (by decide) (by decide) 0 0 3 (by decide) (by decide) (by decide) (by decide) (by decide) (by decide) (by decide) (by decide) la_RX5_45 (Nat.le_of_ble_eq_true rfl) (Nat.le_of_ble_eq_true rfl) dX5_copy_51 ?_
  refine n_aload_n F dX5_copy_54 rfl 1 rfl ?_
  refine n_get F ck_5 lf_RX5_15 (by decide) fg_21_7 (by decide) dX5_copy_55 ?_
  refine n_iconst F (0 : Int32) dX5_copy_58 (by decide) ?_
  refine n_aload_n F dX5_copy_59 rfl 0 rfl ?_
  refine n_get F ck_5 lf_RX5_15 (by decide) fg_13_7 (by decide) dX5_copy_60 ?_
  refine n_iconst F (0 : Int32) dX5_copy_63 (by decide) ?_
  refine n_iconst F (2 : Int32) dX5_copy_64 (by decide) ?_
  refine n_copyI F ar_23 ar_15 (by decide) (by decide) 0 0 2 (by decide) (by decide) (by decide) (by decide) (by decide) (by decide) (by decide) (by decide) la_RX5_45 (Nat.le_of_ble_eq_true rfl) (Nat.le_of_ble_eq_true rfl) dX5_copy_65 ?_
  refine n_aload_n F dX5_copy_68 rfl 1 rfl ?_
  refine n_get F ck_5 lf_RX5_18 (by decide) fg_21_8 (by decide) dX5_copy_69 ?_
  refine n_iconst F (0 : Int32) dX5_copy_72 (by decide) ?_
  refine n_aload_n F dX5_copy_73 rfl 0 rfl ?_
  refine n_get F ck_5 lf_RX5_18 (by decide) fg_13_8 (by decide) dX5_copy_74 ?_
  refine n_iconst F (0 : Int32) dX5_copy_77 (by decide) ?_
  refine n_iconst F (2 : Int32) dX5_copy_78 (by decide) ?_
  refine n_copyI F ar_24 ar_16 (by decide) (by decide) 0 0 2 (by decide) (by decide) (by decide) (by decide) (by decide) (by decide) (by decide) (by decide) la_RX5_45 (Nat.le_of_ble_eq_true rfl) (Nat.le_of_ble_eq_true rfl) dX5_copy_79 ?_
  refine n_aload_n F dX5_copy_82 rfl 0 rfl ?_
  refine n_aload_n F dX5_copy_83 rfl 1 rfl ?_
  refine n_get F ck_5 lf_RX5_62 (by decide) fg_21_9 (by decide) dX5_copy_84 ?_
  refine n_put F ck_5 lf_RX5_62 (by decide) rfl fp_13_9 (by decide) rfl rfl dX5_copy_87 ?_
  refine n_aload_n F dX5_copy_90 rfl 0 rfl ?_
  refine n_aload_n F dX5_copy_91 rfl 1 rfl ?_
  refine n_get F ck_5 lf_RX5_65 (by decide) fg_21_10 (by decide) dX5_copy_92 ?_
  refine n_put F ck_5 lf_RX5_65 (by decide) rfl fp_13_10 (by decide) rfl rfl dX5_copy_95 ?_
  refine n_aload_n F dX5_copy_98 rfl 0 rfl ?_
  refine n_aload_n F dX5_copy_99 rfl 1 rfl ?_
  refine n_get F ck_5 lf_RX5_68 (by decide) fg_21_11 (by decide) dX5_copy_100 ?_
  refine n_put F ck_5 lf_RX5_68 (by decide) rfl fp_13_11 (by decide) rfl rfl dX5_copy_103 ?_
  exact n_vret F rfl rfl dX5_copy_106
theorem dX5_ticketsOf_0 : decode cX5_ticketsOf 0 = .ok (.iload_n 1, 1) := by decide +kernel
theorem dX5_ticketsOf_1 : decode cX5_ticketsOf 1 = .ok (.iconst 0, 1) := by decide +kernel
theorem dX5_ticketsOf_2 : decode cX5_ticketsOf 2 = .ok (.iconst 2, 1) := by decide +kernel
theorem dX5_ticketsOf_3 : decode cX5_ticketsOf 3 = .ok (.invokestatic 80, 3) := by decide +kernel
theorem dX5_ticketsOf_6 : decode cX5_ticketsOf 6 = .ok (.ifCond .eq 12, 3) := by decide +kernel
theorem dX5_ticketsOf_9 : decode cX5_ticketsOf 9 = .ok (.aload_n 0, 1) := by decide +kernel
theorem dX5_ticketsOf_10 : decode cX5_ticketsOf 10 = .ok (.getfield 9, 3) := by decide +kernel
theorem dX5_ticketsOf_13 : decode cX5_ticketsOf 13 = .ok (.iload_n 1, 1) := by decide +kernel
theorem dX5_ticketsOf_14 : decode cX5_ticketsOf 14 = .ok (.iaload, 1) := by decide +kernel
theorem dX5_ticketsOf_15 : decode cX5_ticketsOf 15 = .ok (.goto 4, 3) := by decide +kernel
theorem dX5_ticketsOf_18 : decode cX5_ticketsOf 18 = .ok (.iconst 0, 1) := by decide +kernel
theorem dX5_ticketsOf_19 : decode cX5_ticketsOf 19 = .ok (.ireturn, 1) := by decide +kernel
def Sc_ticketsOf (w : Wd) (a1 : Int32) : Option Int32 := (if (Nt_within w a1 (0 : Int32) (2 : Int32)) = (0 : Int32) then some (0 : Int32) else (if ib a1 3 = true then some (w.1 14 (Int32.toNatClampNeg a1)) else none))
set_option maxRecDepth 100000 in
set_option maxHeartbeats 4000000 in
theorem ct_Sc_ticketsOf {l : Launch} {g : GG} {σ : Sd} (hg : OKg g σ) (hb : σ.2.1 = true) (hx : ∀ c ∈ ([13, 14] : List Nat), c ∈ σ.1) (w : Wd) (a1 : Int32) {q : Int32} (hq : Sc_ticketsOf w a1 = some q) : CT l g σ yX5_ticketsOf cX5_ticketsOf 2 (some .int) 1 22 [.ref (gA g 13), .int a1] w (some (.int q)) w := by
  refine ct_of (rt := (rtP w)) (res := Sc_ticketsOf w a1) (q := q) (own := RX5) (b := true) hg hb hx (by decide) rfl (Nat.le_of_ble_eq_true rfl) hq (fun K e1 e2 e3 F => ?_)
  subst e1 e2 e3
  rw [Sc_ticketsOf]
  show N K _ _ w 0 [(0, .ref (gA (cg K) 13)), (1, .int a1)] []
  refine n_iload_n F dX5_ticketsOf_0 rfl 1 rfl ?_
  refine n_iconst F (0 : Int32) dX5_ticketsOf_1 (by decide) ?_
  refine n_iconst F (2 : Int32) dX5_ticketsOf_2 (by decide) ?_
  refine n_callSNi F cb_X7_within lm_RX5_80 (ct_Nt_within (fx_ok F) (fx_sd F) (fx_ix F rfl) w a1 (0 : Int32) (2 : Int32)) rfl rfl (Nat.le_of_ble_eq_true rfl) ⟨Nat.le_of_ble_eq_true rfl, Nat.le_of_ble_eq_true rfl⟩ dX5_ticketsOf_3 ?_
  refine n_if_eq F 18 dX5_ticketsOf_6 (by decide) (fun e1 => ?_) (fun e1 => ?_)
  · rw [if_pos e1]
    refine n_iconst F (0 : Int32) dX5_ticketsOf_18 (by decide) ?_
    exact n_iret F rfl rfl dX5_ticketsOf_19
  rw [if_neg e1]
  refine n_aload_n F dX5_ticketsOf_9 rfl 0 rfl ?_
  refine n_get F ck_5 lf_RX5_9 (by decide) fg_13_6 (by decide) dX5_ticketsOf_10 ?_
  refine n_iload_n F dX5_ticketsOf_13 rfl 1 rfl ?_
  refine n_chk (fun e2 => ?_)
  refine n_iald F ar_14 (by decide) (ib_in e2) rfl dX5_ticketsOf_14 ?_
  refine n_goto F 19 dX5_ticketsOf_15 (by decide) ?_
  exact n_iret F rfl rfl dX5_ticketsOf_19
theorem dX5_seekingBits_0 : decode cX5_seekingBits 0 = .ok (.iconst 0, 1) := by decide +kernel
theorem dX5_seekingBits_1 : decode cX5_seekingBits 1 = .ok (.istore_n 1, 1) := by decide +kernel
theorem dX5_seekingBits_2 : decode cX5_seekingBits 2 = .ok (.iconst 0, 1) := by decide +kernel
theorem dX5_seekingBits_3 : decode cX5_seekingBits 3 = .ok (.istore_n 2, 1) := by decide +kernel
theorem dX5_seekingBits_4 : decode cX5_seekingBits 4 = .ok (.iload_n 2, 1) := by decide +kernel
theorem dX5_seekingBits_5 : decode cX5_seekingBits 5 = .ok (.iconst 2, 1) := by decide +kernel
theorem dX5_seekingBits_6 : decode cX5_seekingBits 6 = .ok (.if_icmp .ge 25, 3) := by decide +kernel
theorem dX5_seekingBits_9 : decode cX5_seekingBits 9 = .ok (.aload_n 0, 1) := by decide +kernel
theorem dX5_seekingBits_10 : decode cX5_seekingBits 10 = .ok (.getfield 15, 3) := by decide +kernel
theorem dX5_seekingBits_13 : decode cX5_seekingBits 13 = .ok (.iload_n 2, 1) := by decide +kernel
theorem dX5_seekingBits_14 : decode cX5_seekingBits 14 = .ok (.iaload, 1) := by decide +kernel
theorem dX5_seekingBits_15 : decode cX5_seekingBits 15 = .ok (.iconst (-1), 1) := by decide +kernel
theorem dX5_seekingBits_16 : decode cX5_seekingBits 16 = .ok (.if_icmp .eq 9, 3) := by decide +kernel
theorem dX5_seekingBits_19 : decode cX5_seekingBits 19 = .ok (.iload_n 1, 1) := by decide +kernel
theorem dX5_seekingBits_20 : decode cX5_seekingBits 20 = .ok (.iconst 1, 1) := by decide +kernel
theorem dX5_seekingBits_21 : decode cX5_seekingBits 21 = .ok (.iload_n 2, 1) := by decide +kernel
theorem dX5_seekingBits_22 : decode cX5_seekingBits 22 = .ok (.ishl, 1) := by decide +kernel
theorem dX5_seekingBits_23 : decode cX5_seekingBits 23 = .ok (.ior, 1) := by decide +kernel
theorem dX5_seekingBits_24 : decode cX5_seekingBits 24 = .ok (.istore_n 1, 1) := by decide +kernel
theorem dX5_seekingBits_25 : decode cX5_seekingBits 25 = .ok (.iinc 2 1, 3) := by decide +kernel
theorem dX5_seekingBits_28 : decode cX5_seekingBits 28 = .ok (.goto (-24), 3) := by decide +kernel
theorem dX5_seekingBits_31 : decode cX5_seekingBits 31 = .ok (.iload_n 1, 1) := by decide +kernel
theorem dX5_seekingBits_32 : decode cX5_seekingBits 32 = .ok (.ireturn, 1) := by decide +kernel
def Sc_seekingBits_L4 (w : Wd) (k31 : Int32 → Option Int32) : Nat → Int32 → Int32 → Option Int32
  | 0, _, _ => none
  | n + 1, v1, v2 => (if (2 : Int32) ≤ v2 then (k31 v1) else (if ib v2 2 = true then (Sc_seekingBits_L4 w k31 n (if (w.1 15 (Int32.toNatClampNeg v2)) = (-1 : Int32) then v1 else (v1 ||| ((1 : Int32) <<< (v2 &&& (31 : Int32))))) (v2 + (1 : Int32))) else none))
set_option maxRecDepth 100000 in
set_option maxHeartbeats 4000000 in
theorem Sc_seekingBits_L4_ok {K : Ctx} (F : Fx K cX5_seekingBits 3 RX5 (some .int) 0 0 true [13, 15]) (w : Wd) {k31 : Int32 → Option Int32} (h31 : ∀ (v1 : Int32), N K (rtP w) (k31 v1) w 31 [(1, .int v1)] []) : ∀ (n : Nat) (v1 : Int32) (v2 : Int32), N K (rtP w) (Sc_seekingBits_L4 w k31 n v1 v2) w 4 [(0, .ref (gA (cg K) 13)), (1, .int v1), (2, .int v2)] [] := by
  intro n
  induction n with
  | zero => intro _ _; exact n_none
  | succ n ih =>
    intro v1 v2
    rw [Sc_seekingBits_L4]
    refine n_iload_n F dX5_seekingBits_4 rfl 2 rfl ?_
    refine n_iconst F (2 : Int32) dX5_seekingBits_5 (by decide) ?_
    refine n_icmp_ge F 31 dX5_seekingBits_6 (by decide) (fun e1 => ?_) (fun e1 => ?_)
    · rw [if_pos e1]
      exact n_sub [1] rfl (h31 _)
    rw [if_neg e1]
    refine n_aload_n F dX5_seekingBits_9 rfl 0 rfl ?_
    refine n_get F ck_5 lf_RX5_15 (by decide) fg_13_7 (by decide) dX5_seekingBits_10 ?_
    refine n_iload_n F dX5_seekingBits_13 rfl 2 rfl ?_
    refine n_chk (fun e2 => ?_)
    refine n_iald F ar_15 (by decide) (ib_in e2) rfl dX5_seekingBits_14 ?_
    refine n_iconst F (-1 : Int32) dX5_seekingBits_15 (by decide) ?_
    refine n_icmp_eq F 25 dX5_seekingBits_16 (by decide) (fun e3 => ?_) (fun e3 => ?_)
    · rw [if_pos e3]
      refine n_iinc F (v2 + (1 : Int32)) (lv' := [(2, .int (v2 + (1 : Int32))), (0, .ref (gA (cg K) 13)), (1, .int v1)]) dX5_seekingBits_25 2 rfl rfl (by decide) rfl ?_
      refine n_goto F 4 dX5_seekingBits_28 (by decide) ?_
      exact n_sub [1, 2, 0] rfl (ih _ _)
    rw [if_neg e3]
    refine n_iload_n F dX5_seekingBits_19 rfl 1 rfl ?_
    refine n_iconst F (1 : Int32) dX5_seekingBits_20 (by decide) ?_
    refine n_iload_n F dX5_seekingBits_21 rfl 2 rfl ?_
    refine n_ishl F dX5_seekingBits_22 ?_
    refine n_ior F dX5_seekingBits_23 ?_
    refine n_istore_n F (lv' := [(1, .int (v1 ||| ((1 : Int32) <<< (v2 &&& (31 : Int32))))), (0, .ref (gA (cg K) 13)), (2, .int v2)]) dX5_seekingBits_24 rfl (by decide) rfl ?_
    refine n_iinc F (v2 + (1 : Int32)) (lv' := [(2, .int (v2 + (1 : Int32))), (1, .int (v1 ||| ((1 : Int32) <<< (v2 &&& (31 : Int32))))), (0, .ref (gA (cg K) 13))]) dX5_seekingBits_25 2 rfl rfl (by decide) rfl ?_
    refine n_goto F 4 dX5_seekingBits_28 (by decide) ?_
    exact n_sub [2, 1, 0] rfl (ih _ _)
def Sc_seekingBits_B31 (w : Wd) (v1 : Int32) : Option Int32 := some v1
set_option maxRecDepth 100000 in
set_option maxHeartbeats 4000000 in
theorem Sc_seekingBits_B31_ok {K : Ctx} (F : Fx K cX5_seekingBits 3 RX5 (some .int) 0 0 true [13, 15]) (w : Wd) (v1 : Int32) : N K (rtP w) (Sc_seekingBits_B31 w v1) w 31 [(1, .int v1)] [] := by
  rw [Sc_seekingBits_B31]
  refine n_iload_n F dX5_seekingBits_31 rfl 0 rfl ?_
  exact n_iret F rfl rfl dX5_seekingBits_32
def Sc_seekingBits (w : Wd) : Option Int32 := (Sc_seekingBits_L4 w (Sc_seekingBits_B31 w) FU (0 : Int32) (0 : Int32))
set_option maxRecDepth 100000 in
set_option maxHeartbeats 4000000 in
theorem ct_Sc_seekingBits {l : Launch} {g : GG} {σ : Sd} (hg : OKg g σ) (hb : σ.2.1 = true) (hx : ∀ c ∈ ([13, 15] : List Nat), c ∈ σ.1) (w : Wd) {q : Int32} (hq : Sc_seekingBits w = some q) : CT l g σ yX5_seekingBits cX5_seekingBits 3 (some .int) 0 0 [.ref (gA g 13)] w (some (.int q)) w := by
  refine ct_of (rt := (rtP w)) (res := Sc_seekingBits w) (q := q) (own := RX5) (b := true) hg hb hx (by decide) rfl (Nat.le_of_ble_eq_true rfl) hq (fun K e1 e2 e3 F => ?_)
  subst e1 e2 e3
  rw [Sc_seekingBits]
  show N K _ _ w 0 [(0, .ref (gA (cg K) 13))] []
  refine n_iconst F (0 : Int32) dX5_seekingBits_0 (by decide) ?_
  refine n_istore_n F (lv' := [(1, .int (0 : Int32)), (0, .ref (gA (cg K) 13))]) dX5_seekingBits_1 rfl (by decide) rfl ?_
  refine n_iconst F (0 : Int32) dX5_seekingBits_2 (by decide) ?_
  refine n_istore_n F (lv' := [(2, .int (0 : Int32)), (1, .int (0 : Int32)), (0, .ref (gA (cg K) 13))]) dX5_seekingBits_3 rfl (by decide) rfl ?_
  exact n_sub [2, 1, 0] rfl (Sc_seekingBits_L4_ok F w (Sc_seekingBits_B31_ok F w) FU _ _)
theorem dX5_anySeeks_0 : decode cX5_anySeeks 0 = .ok (.aload_n 0, 1) := by decide +kernel
theorem dX5_anySeeks_1 : decode cX5_anySeeks 1 = .ok (.invokevirtual 84, 3) := by decide +kernel
theorem dX5_anySeeks_4 : decode cX5_anySeeks 4 = .ok (.ifCond .eq 7, 3) := by decide +kernel
theorem dX5_anySeeks_7 : decode cX5_anySeeks 7 = .ok (.iconst 1, 1) := by decide +kernel
theorem dX5_anySeeks_8 : decode cX5_anySeeks 8 = .ok (.goto 4, 3) := by decide +kernel
theorem dX5_anySeeks_11 : decode cX5_anySeeks 11 = .ok (.iconst 0, 1) := by decide +kernel
theorem dX5_anySeeks_12 : decode cX5_anySeeks 12 = .ok (.ireturn, 1) := by decide +kernel
def Sc_anySeeks (w : Wd) : Option Int32 := (Option.bind (Sc_seekingBits w) (fun q1 => (if q1 = (0 : Int32) then some (0 : Int32) else some (1 : Int32))))
set_option maxRecDepth 100000 in
set_option maxHeartbeats 4000000 in
theorem ct_Sc_anySeeks {l : Launch} {g : GG} {σ : Sd} (hg : OKg g σ) (hb : σ.2.1 = true) (hx : ∀ c ∈ ([13, 15] : List Nat), c ∈ σ.1) (w : Wd) {q : Int32} (hq : Sc_anySeeks w = some q) : CT l g σ yX5_anySeeks cX5_anySeeks 1 (some .boolean) 1 22 [.ref (gA g 13)] w (some (.int q)) w := by
  refine ct_of (rt := (rtP w)) (res := Sc_anySeeks w) (q := q) (own := RX5) (b := true) hg hb hx (by decide) rfl (Nat.le_of_ble_eq_true rfl) hq (fun K e1 e2 e3 F => ?_)
  subst e1 e2 e3
  rw [Sc_anySeeks]
  show N K _ _ w 0 [(0, .ref (gA (cg K) 13))] []
  refine n_aload_n F dX5_anySeeks_0 rfl 0 rfl ?_
  refine n_bind (fun q1 hq1 => ?_)
  refine n_callVi F cb_X5_seekingBits lm_RX5_84 ob_13 (by decide) ⟨_, _, rfl⟩ (ct_Sc_seekingBits (fx_ok F) (fx_sd F) (fx_ix F rfl) w hq1) rfl rfl (Nat.le_of_ble_eq_true rfl) ⟨Nat.le_of_ble_eq_true rfl, Nat.le_of_ble_eq_true rfl⟩ dX5_anySeeks_1 ?_
  refine n_if_eq F 11 dX5_anySeeks_4 (by decide) (fun e2 => ?_) (fun e2 => ?_)
  · rw [if_pos e2]
    refine n_iconst F (0 : Int32) dX5_anySeeks_11 (by decide) ?_
    exact n_zret F .boolean rfl rfl rfl dX5_anySeeks_12
  rw [if_neg e2]
  refine n_iconst F (1 : Int32) dX5_anySeeks_7 (by decide) ?_
  refine n_goto F 12 dX5_anySeeks_8 (by decide) ?_
  exact n_zret F .boolean rfl rfl rfl dX5_anySeeks_12
theorem dX5_canSend_0 : decode cX5_canSend 0 = .ok (.iload_n 1, 1) := by decide +kernel
theorem dX5_canSend_1 : decode cX5_canSend 1 = .ok (.invokestatic 95, 3) := by decide +kernel
theorem dX5_canSend_4 : decode cX5_canSend 4 = .ok (.ifCond .eq 13, 3) := by decide +kernel
theorem dX5_canSend_7 : decode cX5_canSend 7 = .ok (.aload_n 0, 1) := by decide +kernel
theorem dX5_canSend_8 : decode cX5_canSend 8 = .ok (.getfield 15, 3) := by decide +kernel
theorem dX5_canSend_11 : decode cX5_canSend 11 = .ok (.iload_n 1, 1) := by decide +kernel
theorem dX5_canSend_12 : decode cX5_canSend 12 = .ok (.iaload, 1) := by decide +kernel
theorem dX5_canSend_13 : decode cX5_canSend 13 = .ok (.iconst (-1), 1) := by decide +kernel
theorem dX5_canSend_14 : decode cX5_canSend 14 = .ok (.if_icmp .ne 5, 3) := by decide +kernel
theorem dX5_canSend_17 : decode cX5_canSend 17 = .ok (.iconst 0, 1) := by decide +kernel
theorem dX5_canSend_18 : decode cX5_canSend 18 = .ok (.ireturn, 1) := by decide +kernel
theorem dX5_canSend_19 : decode cX5_canSend 19 = .ok (.iload_n 2, 1) := by decide +kernel
theorem dX5_canSend_20 : decode cX5_canSend 20 = .ok (.iconst (-1), 1) := by decide +kernel
theorem dX5_canSend_21 : decode cX5_canSend 21 = .ok (.if_icmp .eq 37, 3) := by decide +kernel
theorem dX5_canSend_24 : decode cX5_canSend 24 = .ok (.aload_n 0, 1) := by decide +kernel
theorem dX5_canSend_25 : decode cX5_canSend 25 = .ok (.getfield 21, 3) := by decide +kernel
theorem dX5_canSend_28 : decode cX5_canSend 28 = .ok (.iload_n 2, 1) := by decide +kernel
theorem dX5_canSend_29 : decode cX5_canSend 29 = .ok (.aload_n 0, 1) := by decide +kernel
theorem dX5_canSend_30 : decode cX5_canSend 30 = .ok (.getfield 15, 3) := by decide +kernel
theorem dX5_canSend_33 : decode cX5_canSend 33 = .ok (.iload_n 1, 1) := by decide +kernel
theorem dX5_canSend_34 : decode cX5_canSend 34 = .ok (.iaload, 1) := by decide +kernel
theorem dX5_canSend_35 : decode cX5_canSend 35 = .ok (.aload_n 0, 1) := by decide +kernel
theorem dX5_canSend_36 : decode cX5_canSend 36 = .ok (.getfield 28, 3) := by decide +kernel
theorem dX5_canSend_39 : decode cX5_canSend 39 = .ok (.invokevirtual 99, 3) := by decide +kernel
theorem dX5_canSend_42 : decode cX5_canSend 42 = .ok (.ifCond .eq 20, 3) := by decide +kernel
theorem dX5_canSend_45 : decode cX5_canSend 45 = .ok (.aload_n 0, 1) := by decide +kernel
theorem dX5_canSend_46 : decode cX5_canSend 46 = .ok (.getfield 21, 3) := by decide +kernel
theorem dX5_canSend_49 : decode cX5_canSend 49 = .ok (.iload_n 2, 1) := by decide +kernel
theorem dX5_canSend_50 : decode cX5_canSend 50 = .ok (.iconst 4, 1) := by decide +kernel
theorem dX5_canSend_51 : decode cX5_canSend 51 = .ok (.invokevirtual 102, 3) := by decide +kernel
theorem dX5_canSend_54 : decode cX5_canSend 54 = .ok (.iconst 1, 1) := by decide +kernel
theorem dX5_canSend_55 : decode cX5_canSend 55 = .ok (.if_icmp .ne 7, 3) := by decide +kernel
theorem dX5_canSend_58 : decode cX5_canSend 58 = .ok (.iconst 1, 1) := by decide +kernel
theorem dX5_canSend_59 : decode cX5_canSend 59 = .ok (.goto 4, 3) := by decide +kernel
theorem dX5_canSend_62 : decode cX5_canSend 62 = .ok (.iconst 0, 1) := by decide +kernel
theorem dX5_canSend_63 : decode cX5_canSend 63 = .ok (.ireturn, 1) := by decide +kernel
def Sc_canSend (w : Wd) (a1 : Int32) (a2 : Int32) : Option Int32 := (if (Nt_isSeeker w a1) = (0 : Int32) then some (0 : Int32) else (if ib a1 2 = true then (if (w.1 15 (Int32.toNatClampNeg a1)) = (-1 : Int32) then some (0 : Int32) else (if a2 = (-1 : Int32) then some (1 : Int32) else (if ib a1 2 = true then (Option.bind (La_leaves w a2 (w.1 15 (Int32.toNatClampNeg a1)) (w.1 13 1)) (fun q6 => (if q6 = (0 : Int32) then some (0 : Int32) else (Option.bind (La_part w a2 (4 : Int32)) (fun q8 => (if q8 = (1 : Int32) then some (1 : Int32) else some (0 : Int32))))))) else none))) else none))
set_option maxRecDepth 100000 in
set_option maxHeartbeats 4000000 in
theorem ct_Sc_canSend {l : Launch} {g : GG} {σ : Sd} (hg : OKg g σ) (hb : σ.2.1 = true) (hx : ∀ c ∈ ([3, 4, 13, 15] : List Nat), c ∈ σ.1) (w : Wd) (a1 : Int32) (a2 : Int32) {q : Int32} (hq : Sc_canSend w a1 a2 = some q) : CT l g σ yX5_canSend cX5_canSend 3 (some .boolean) 3 69 [.ref (gA g 13), .int a1, .int a2] w (some (.int q)) w := by
  refine ct_of (rt := (rtP w)) (res := Sc_canSend w a1 a2) (q := q) (own := RX5) (b := true) hg hb hx (by decide) rfl (Nat.le_of_ble_eq_true rfl) hq (fun K e1 e2 e3 F => ?_)
  subst e1 e2 e3
  rw [Sc_canSend]
  show N K _ _ w 0 [(0, .ref (gA (cg K) 13)), (1, .int a1), (2, .int a2)] []
  refine n_iload_n F dX5_canSend_0 rfl 1 rfl ?_
  refine n_callSNi F cb_X7_isSeeker lm_RX5_95 (ct_Nt_isSeeker (fx_ok F) (fx_sd F) (fx_ix F rfl) w a1) rfl rfl (Nat.le_of_ble_eq_true rfl) ⟨Nat.le_of_ble_eq_true rfl, Nat.le_of_ble_eq_true rfl⟩ dX5_canSend_1 ?_
  refine n_if_eq F 17 dX5_canSend_4 (by decide) (fun e1 => ?_) (fun e1 => ?_)
  · rw [if_pos e1]
    refine n_iconst F (0 : Int32) dX5_canSend_17 (by decide) ?_
    exact n_zret F .boolean rfl rfl rfl dX5_canSend_18
  rw [if_neg e1]
  refine n_aload_n F dX5_canSend_7 rfl 0 rfl ?_
  refine n_get F ck_5 lf_RX5_15 (by decide) fg_13_7 (by decide) dX5_canSend_8 ?_
  refine n_iload_n F dX5_canSend_11 rfl 1 rfl ?_
  refine n_chk (fun e2 => ?_)
  refine n_iald F ar_15 (by decide) (ib_in e2) rfl dX5_canSend_12 ?_
  refine n_iconst F (-1 : Int32) dX5_canSend_13 (by decide) ?_
  refine n_icmp_ne F 19 dX5_canSend_14 (by decide) (fun e3 => ?_) (fun e3 => ?_)
  · rw [if_neg e3]
    refine n_iload_n F dX5_canSend_19 rfl 2 rfl ?_
    refine n_iconst F (-1 : Int32) dX5_canSend_20 (by decide) ?_
    refine n_icmp_eq F 58 dX5_canSend_21 (by decide) (fun e4 => ?_) (fun e4 => ?_)
    · rw [if_pos e4]
      refine n_iconst F (1 : Int32) dX5_canSend_58 (by decide) ?_
      refine n_goto F 63 dX5_canSend_59 (by decide) ?_
      exact n_zret F .boolean rfl rfl rfl dX5_canSend_63
    rw [if_neg e4]
    refine n_aload_n F dX5_canSend_24 rfl 0 rfl ?_
    refine n_get F ck_5 lf_RX5_21 (by decide) fg_13_0 (by decide) dX5_canSend_25 ?_
    refine n_iload_n F dX5_canSend_28 rfl 2 rfl ?_
    refine n_aload_n F dX5_canSend_29 rfl 0 rfl ?_
    refine n_get F ck_5 lf_RX5_15 (by decide) fg_13_7 (by decide) dX5_canSend_30 ?_
    refine n_iload_n F dX5_canSend_33 rfl 1 rfl ?_
    refine n_chk (fun e5 => ?_)
    refine n_iald F ar_15 (by decide) (ib_in e5) rfl dX5_canSend_34 ?_
    refine n_aload_n F dX5_canSend_35 rfl 0 rfl ?_
    refine n_get F ck_5 lf_RX5_28 (by decide) fg_13_1 (by decide) dX5_canSend_36 ?_
    refine n_bind (fun q6 hq6 => ?_)
    refine n_callVi F cb_X1_leaves lm_RX5_99 ob_3 (by decide) ⟨_, _, rfl⟩ (ct_La_leaves (fx_ok F) (fx_sd F) (fx_ix F rfl) w a2 (w.1 15 (Int32.toNatClampNeg a1)) (w.1 13 1) hq6) rfl rfl (Nat.le_of_ble_eq_true rfl) ⟨Nat.le_of_ble_eq_true rfl, Nat.le_of_ble_eq_true rfl⟩ dX5_canSend_39 ?_
    refine n_if_eq F 62 dX5_canSend_42 (by decide) (fun e7 => ?_) (fun e7 => ?_)
    · rw [if_pos e7]
      refine n_iconst F (0 : Int32) dX5_canSend_62 (by decide) ?_
      exact n_zret F .boolean rfl rfl rfl dX5_canSend_63
    rw [if_neg e7]
    refine n_aload_n F dX5_canSend_45 rfl 0 rfl ?_
    refine n_get F ck_5 lf_RX5_21 (by decide) fg_13_0 (by decide) dX5_canSend_46 ?_
    refine n_iload_n F dX5_canSend_49 rfl 2 rfl ?_
    refine n_iconst F (4 : Int32) dX5_canSend_50 (by decide) ?_
    refine n_bind (fun q8 hq8 => ?_)
    refine n_callVi F cb_X1_part lm_RX5_102 ob_3 (by decide) ⟨_, _, rfl⟩ (ct_La_part (fx_ok F) (fx_sd F) (fx_ix F rfl) w a2 (4 : Int32) hq8) rfl rfl (Nat.le_of_ble_eq_true rfl) ⟨Nat.le_of_ble_eq_true rfl, Nat.le_of_ble_eq_true rfl⟩ dX5_canSend_51 ?_
    refine n_iconst F (1 : Int32) dX5_canSend_54 (by decide) ?_
    refine n_icmp_ne F 62 dX5_canSend_55 (by decide) (fun e9 => ?_) (fun e9 => ?_)
    · rw [if_neg e9]
      refine n_iconst F (0 : Int32) dX5_canSend_62 (by decide) ?_
      exact n_zret F .boolean rfl rfl rfl dX5_canSend_63
    rw [if_pos e9]
    refine n_iconst F (1 : Int32) dX5_canSend_58 (by decide) ?_
    refine n_goto F 63 dX5_canSend_59 (by decide) ?_
    exact n_zret F .boolean rfl rfl rfl dX5_canSend_63
  rw [if_pos e3]
  refine n_iconst F (0 : Int32) dX5_canSend_17 (by decide) ?_
  exact n_zret F .boolean rfl rfl rfl dX5_canSend_18
theorem dX5_placeBehind_0 : decode cX5_placeBehind 0 = .ok (.iload_n 1, 1) := by decide +kernel
theorem dX5_placeBehind_1 : decode cX5_placeBehind 1 = .ok (.invokestatic 95, 3) := by decide +kernel
theorem dX5_placeBehind_4 : decode cX5_placeBehind 4 = .ok (.ifCond .ne 5, 3) := by decide +kernel
theorem dX5_placeBehind_7 : decode cX5_placeBehind 7 = .ok (.iconst (-1), 1) := by decide +kernel
theorem dX5_placeBehind_8 : decode cX5_placeBehind 8 = .ok (.ireturn, 1) := by decide +kernel
theorem dX5_placeBehind_9 : decode cX5_placeBehind 9 = .ok (.aload_n 0, 1) := by decide +kernel
theorem dX5_placeBehind_10 : decode cX5_placeBehind 10 = .ok (.getfield 18, 3) := by decide +kernel
theorem dX5_placeBehind_13 : decode cX5_placeBehind 13 = .ok (.iload_n 1, 1) := by decide +kernel
theorem dX5_placeBehind_14 : decode cX5_placeBehind 14 = .ok (.iaload, 1) := by decide +kernel
theorem dX5_placeBehind_15 : decode cX5_placeBehind 15 = .ok (.iconst (-1), 1) := by decide +kernel
theorem dX5_placeBehind_16 : decode cX5_placeBehind 16 = .ok (.if_icmp .ne 12, 3) := by decide +kernel
theorem dX5_placeBehind_19 : decode cX5_placeBehind 19 = .ok (.aload_n 0, 1) := by decide +kernel
theorem dX5_placeBehind_20 : decode cX5_placeBehind 20 = .ok (.getfield 15, 3) := by decide +kernel
theorem dX5_placeBehind_23 : decode cX5_placeBehind 23 = .ok (.iload_n 1, 1) := by decide +kernel
theorem dX5_placeBehind_24 : decode cX5_placeBehind 24 = .ok (.iaload, 1) := by decide +kernel
theorem dX5_placeBehind_25 : decode cX5_placeBehind 25 = .ok (.goto 17, 3) := by decide +kernel
theorem dX5_placeBehind_28 : decode cX5_placeBehind 28 = .ok (.aload_n 0, 1) := by decide +kernel
theorem dX5_placeBehind_29 : decode cX5_placeBehind 29 = .ok (.getfield 21, 3) := by decide +kernel
theorem dX5_placeBehind_32 : decode cX5_placeBehind 32 = .ok (.aload_n 0, 1) := by decide +kernel
theorem dX5_placeBehind_33 : decode cX5_placeBehind 33 = .ok (.getfield 18, 3) := by decide +kernel
theorem dX5_placeBehind_36 : decode cX5_placeBehind 36 = .ok (.iload_n 1, 1) := by decide +kernel
theorem dX5_placeBehind_37 : decode cX5_placeBehind 37 = .ok (.iaload, 1) := by decide +kernel
theorem dX5_placeBehind_38 : decode cX5_placeBehind 38 = .ok (.iconst 1, 1) := by decide +kernel
theorem dX5_placeBehind_39 : decode cX5_placeBehind 39 = .ok (.invokevirtual 102, 3) := by decide +kernel
theorem dX5_placeBehind_42 : decode cX5_placeBehind 42 = .ok (.ireturn, 1) := by decide +kernel
def Sc_placeBehind (w : Wd) (a1 : Int32) : Option Int32 := (if (Nt_isSeeker w a1) = (0 : Int32) then some (-1 : Int32) else (if ib a1 2 = true then (if (w.1 16 (Int32.toNatClampNeg a1)) = (-1 : Int32) then (if ib a1 2 = true then some (w.1 15 (Int32.toNatClampNeg a1)) else none) else (if ib a1 2 = true then (Option.bind (La_part w (w.1 16 (Int32.toNatClampNeg a1)) (1 : Int32)) (fun q5 => some q5)) else none)) else none))
set_option maxRecDepth 100000 in
set_option maxHeartbeats 4000000 in
theorem ct_Sc_placeBehind {l : Launch} {g : GG} {σ : Sd} (hg : OKg g σ) (hb : σ.2.1 = true) (hx : ∀ c ∈ ([3, 4, 13, 15, 16] : List Nat), c ∈ σ.1) (w : Wd) (a1 : Int32) {q : Int32} (hq : Sc_placeBehind w a1 = some q) : CT l g σ yX5_placeBehind cX5_placeBehind 2 (some .int) 2 42 [.ref (gA g 13), .int a1] w (some (.int q)) w := by
  refine ct_of (rt := (rtP w)) (res := Sc_placeBehind w a1) (q := q) (own := RX5) (b := true) hg hb hx (by decide) rfl (Nat.le_of_ble_eq_true rfl) hq (fun K e1 e2 e3 F => ?_)
  subst e1 e2 e3
  rw [Sc_placeBehind]
  show N K _ _ w 0 [(0, .ref (gA (cg K) 13)), (1, .int a1)] []
  refine n_iload_n F dX5_placeBehind_0 rfl 1 rfl ?_
  refine n_callSNi F cb_X7_isSeeker lm_RX5_95 (ct_Nt_isSeeker (fx_ok F) (fx_sd F) (fx_ix F rfl) w a1) rfl rfl (Nat.le_of_ble_eq_true rfl) ⟨Nat.le_of_ble_eq_true rfl, Nat.le_of_ble_eq_true rfl⟩ dX5_placeBehind_1 ?_
  refine n_if_ne F 9 dX5_placeBehind_4 (by decide) (fun e1 => ?_) (fun e1 => ?_)
  · rw [if_neg e1]
    refine n_aload_n F dX5_placeBehind_9 rfl 0 rfl ?_
    refine n_get F ck_5 lf_RX5_18 (by decide) fg_13_8 (by decide) dX5_placeBehind_10 ?_
    refine n_iload_n F dX5_placeBehind_13 rfl 1 rfl ?_
    refine n_chk (fun e2 => ?_)
    refine n_iald F ar_16 (by decide) (ib_in e2) rfl dX5_placeBehind_14 ?_
    refine n_iconst F (-1 : Int32) dX5_placeBehind_15 (by decide) ?_
    refine n_icmp_ne F 28 dX5_placeBehind_16 (by decide) (fun e3 => ?_) (fun e3 => ?_)
    · rw [if_neg e3]
      refine n_aload_n F dX5_placeBehind_28 rfl 0 rfl ?_
      refine n_get F ck_5 lf_RX5_21 (by decide) fg_13_0 (by decide) dX5_placeBehind_29 ?_
      refine n_aload_n F dX5_placeBehind_32 rfl 0 rfl ?_
      refine n_get F ck_5 lf_RX5_18 (by decide) fg_13_8 (by decide) dX5_placeBehind_33 ?_
      refine n_iload_n F dX5_placeBehind_36 rfl 1 rfl ?_
      refine n_chk (fun e4 => ?_)
      refine n_iald F ar_16 (by decide) (ib_in e4) rfl dX5_placeBehind_37 ?_
      refine n_iconst F (1 : Int32) dX5_placeBehind_38 (by decide) ?_
      refine n_bind (fun q5 hq5 => ?_)
      refine n_callVi F cb_X1_part lm_RX5_102 ob_3 (by decide) ⟨_, _, rfl⟩ (ct_La_part (fx_ok F) (fx_sd F) (fx_ix F rfl) w (w.1 16 (Int32.toNatClampNeg a1)) (1 : Int32) hq5) rfl rfl (Nat.le_of_ble_eq_true rfl) ⟨Nat.le_of_ble_eq_true rfl, Nat.le_of_ble_eq_true rfl⟩ dX5_placeBehind_39 ?_
      exact n_iret F rfl rfl dX5_placeBehind_42
    rw [if_pos e3]
    refine n_aload_n F dX5_placeBehind_19 rfl 0 rfl ?_
    refine n_get F ck_5 lf_RX5_15 (by decide) fg_13_7 (by decide) dX5_placeBehind_20 ?_
    refine n_iload_n F dX5_placeBehind_23 rfl 1 rfl ?_
    refine n_chk (fun e6 => ?_)
    refine n_iald F ar_15 (by decide) (ib_in e6) rfl dX5_placeBehind_24 ?_
    refine n_goto F 42 dX5_placeBehind_25 (by decide) ?_
    exact n_iret F rfl rfl dX5_placeBehind_42
  rw [if_pos e1]
  refine n_iconst F (-1 : Int32) dX5_placeBehind_7 (by decide) ?_
  exact n_iret F rfl rfl dX5_placeBehind_8
theorem dX5_learnTicket_0 : decode cX5_learnTicket 0 = .ok (.aload_n 0, 1) := by decide +kernel
theorem dX5_learnTicket_1 : decode cX5_learnTicket 1 = .ok (.getfield 71, 3) := by decide +kernel
theorem dX5_learnTicket_4 : decode cX5_learnTicket 4 = .ok (.iconst (-1), 1) := by decide +kernel
theorem dX5_learnTicket_5 : decode cX5_learnTicket 5 = .ok (.if_icmp .ne 37, 3) := by decide +kernel
theorem dX5_learnTicket_8 : decode cX5_learnTicket 8 = .ok (.aload_n 0, 1) := by decide +kernel
theorem dX5_learnTicket_9 : decode cX5_learnTicket 9 = .ok (.aload_n 0, 1) := by decide +kernel
theorem dX5_learnTicket_10 : decode cX5_learnTicket 10 = .ok (.getfield 21, 3) := by decide +kernel
theorem dX5_learnTicket_13 : decode cX5_learnTicket 13 = .ok (.aload_n 0, 1) := by decide +kernel
theorem dX5_learnTicket_14 : decode cX5_learnTicket 14 = .ok (.getfield 62, 3) := by decide +kernel
theorem dX5_learnTicket_17 : decode cX5_learnTicket 17 = .ok (.aload_n 0, 1) := by decide +kernel
theorem dX5_learnTicket_18 : decode cX5_learnTicket 18 = .ok (.getfield 28, 3) := by decide +kernel
theorem dX5_learnTicket_21 : decode cX5_learnTicket 21 = .ok (.aload_n 0, 1) := by decide +kernel
theorem dX5_learnTicket_22 : decode cX5_learnTicket 22 = .ok (.invokevirtual 88, 3) := by decide +kernel
theorem dX5_learnTicket_25 : decode cX5_learnTicket 25 = .ok (.invokevirtual 110, 3) := by decide +kernel
theorem dX5_learnTicket_28 : decode cX5_learnTicket 28 = .ok (.aload_n 0, 1) := by decide +kernel
theorem dX5_learnTicket_29 : decode cX5_learnTicket 29 = .ok (.getfield 65, 3) := by decide +kernel
theorem dX5_learnTicket_32 : decode cX5_learnTicket 32 = .ok (.ior, 1) := by decide +kernel
theorem dX5_learnTicket_33 : decode cX5_learnTicket 33 = .ok (.putfield 62, 3) := by decide +kernel
theorem dX5_learnTicket_36 : decode cX5_learnTicket 36 = .ok (.aload_n 0, 1) := by decide +kernel
theorem dX5_learnTicket_37 : decode cX5_learnTicket 37 = .ok (.iconst 0, 1) := by decide +kernel
theorem dX5_learnTicket_38 : decode cX5_learnTicket 38 = .ok (.putfield 65, 3) := by decide +kernel
theorem dX5_learnTicket_41 : decode cX5_learnTicket 41 = .ok (.return_, 1) := by decide +kernel
theorem dX5_learnTicket_42 : decode cX5_learnTicket 42 = .ok (.iconst 1, 1) := by decide +kernel
theorem dX5_learnTicket_43 : decode cX5_learnTicket 43 = .ok (.aload_n 0, 1) := by decide +kernel
theorem dX5_learnTicket_44 : decode cX5_learnTicket 44 = .ok (.getfield 21, 3) := by decide +kernel
theorem dX5_learnTicket_47 : decode cX5_learnTicket 47 = .ok (.aload_n 0, 1) := by decide +kernel
theorem dX5_learnTicket_48 : decode cX5_learnTicket 48 = .ok (.getfield 71, 3) := by decide +kernel
theorem dX5_learnTicket_51 : decode cX5_learnTicket 51 = .ok (.iconst 5, 1) := by decide +kernel
theorem dX5_learnTicket_52 : decode cX5_learnTicket 52 = .ok (.invokevirtual 102, 3) := by decide +kernel
theorem dX5_learnTicket_55 : decode cX5_learnTicket 55 = .ok (.ishl, 1) := by decide +kernel
theorem dX5_learnTicket_56 : decode cX5_learnTicket 56 = .ok (.istore_n 1, 1) := by decide +kernel
theorem dX5_learnTicket_57 : decode cX5_learnTicket 57 = .ok (.aload_n 0, 1) := by decide +kernel
theorem dX5_learnTicket_58 : decode cX5_learnTicket 58 = .ok (.aload_n 0, 1) := by decide +kernel
theorem dX5_learnTicket_59 : decode cX5_learnTicket 59 = .ok (.getfield 21, 3) := by decide +kernel
theorem dX5_learnTicket_62 : decode cX5_learnTicket 62 = .ok (.aload_n 0, 1) := by decide +kernel
theorem dX5_learnTicket_63 : decode cX5_learnTicket 63 = .ok (.getfield 62, 3) := by decide +kernel
theorem dX5_learnTicket_66 : decode cX5_learnTicket 66 = .ok (.aload_n 0, 1) := by decide +kernel
theorem dX5_learnTicket_67 : decode cX5_learnTicket 67 = .ok (.getfield 28, 3) := by decide +kernel
theorem dX5_learnTicket_70 : decode cX5_learnTicket 70 = .ok (.iload_n 1, 1) := by decide +kernel
theorem dX5_learnTicket_71 : decode cX5_learnTicket 71 = .ok (.iconst 2, 1) := by decide +kernel
theorem dX5_learnTicket_72 : decode cX5_learnTicket 72 = .ok (.invokevirtual 106, 3) := by decide +kernel
theorem dX5_learnTicket_75 : decode cX5_learnTicket 75 = .ok (.putfield 65, 3) := by decide +kernel
theorem dX5_learnTicket_78 : decode cX5_learnTicket 78 = .ok (.aload_n 0, 1) := by decide +kernel
theorem dX5_learnTicket_79 : decode cX5_learnTicket 79 = .ok (.aload_n 0, 1) := by decide +kernel
theorem dX5_learnTicket_80 : decode cX5_learnTicket 80 = .ok (.getfield 21, 3) := by decide +kernel
theorem dX5_learnTicket_83 : decode cX5_learnTicket 83 = .ok (.aload_n 0, 1) := by decide +kernel
theorem dX5_learnTicket_84 : decode cX5_learnTicket 84 = .ok (.getfield 62, 3) := by decide +kernel
theorem dX5_learnTicket_87 : decode cX5_learnTicket 87 = .ok (.aload_n 0, 1) := by decide +kernel
theorem dX5_learnTicket_88 : decode cX5_learnTicket 88 = .ok (.getfield 28, 3) := by decide +kernel
theorem dX5_learnTicket_91 : decode cX5_learnTicket 91 = .ok (.iload_n 1, 1) := by decide +kernel
theorem dX5_learnTicket_92 : decode cX5_learnTicket 92 = .ok (.iconst 1, 1) := by decide +kernel
theorem dX5_learnTicket_93 : decode cX5_learnTicket 93 = .ok (.invokevirtual 106, 3) := by decide +kernel
theorem dX5_learnTicket_96 : decode cX5_learnTicket 96 = .ok (.putfield 62, 3) := by decide +kernel
theorem dX5_learnTicket_99 : decode cX5_learnTicket 99 = .ok (.return_, 1) := by decide +kernel
def Sc_learnTicket (w : Wd) : Option Wd := (if (w.1 13 5) = (-1 : Int32) then (Option.bind (Sc_kindsLeft w) (fun q5 => (Option.bind (La_stuck w (w.1 13 9) (w.1 13 1) q5) (fun q6 => some (sI (sI w 13 9 (q6 ||| (w.1 13 10))) 13 10 (0 : Int32)))))) else (Option.bind (La_part w (w.1 13 5) (5 : Int32)) (fun q2 => (Option.bind (La_reached w (w.1 13 9) (w.1 13 1) ((1 : Int32) <<< (q2 &&& (31 : Int32))) (2 : Int32)) (fun q3 => (Option.bind (La_reached (sI w 13 10 q3) ((sI w 13 10 q3).1 13 9) ((sI w 13 10 q3).1 13 1) ((1 : Int32) <<< (q2 &&& (31 : Int32))) (1 : Int32)) (fun q4 => some (sI (sI w 13 10 q3) 13 9 q4))))))))
set_option maxRecDepth 100000 in
set_option maxHeartbeats 4000000 in
theorem ct_Sc_learnTicket {l : Launch} {g : GG} {σ : Sd} (hg : OKg g σ) (hb : σ.2.1 = true) (hx : ∀ c ∈ ([3, 4, 13, 14] : List Nat), c ∈ σ.1) (w : Wd) {q : Wd} (hq : Sc_learnTicket w = some q) : CT l g σ yX5_learnTicket cX5_learnTicket 2 none 3 72 [.ref (gA g 13)] w none q := by
  refine ct_of (rt := rtV) (res := Sc_learnTicket w) (q := q) (own := RX5) (b := true) hg hb hx (by decide) rfl (Nat.le_of_ble_eq_true rfl) hq (fun K e1 e2 e3 F => ?_)
  subst e1 e2 e3
  rw [Sc_learnTicket]
  show N K _ _ w 0 [(0, .ref (gA (cg K) 13))] []
  refine n_aload_n F dX5_learnTicket_0 rfl 0 rfl ?_
  refine n_get F ck_5 lf_RX5_71 (by decide) fg_13_5 (by decide) dX5_learnTicket_1 ?_
  refine n_iconst F (-1 : Int32) dX5_learnTicket_4 (by decide) ?_
  refine n_icmp_ne F 42 dX5_learnTicket_5 (by decide) (fun e1 => ?_) (fun e1 => ?_)
  · rw [if_neg e1]
    refine n_iconst F (1 : Int32) dX5_learnTicket_42 (by decide) ?_
    refine n_aload_n F dX5_learnTicket_43 rfl 0 rfl ?_
    refine n_get F ck_5 lf_RX5_21 (by decide) fg_13_0 (by decide) dX5_learnTicket_44 ?_
    refine n_aload_n F dX5_learnTicket_47 rfl 0 rfl ?_
    refine n_get F ck_5 lf_RX5_71 (by decide) fg_13_5 (by decide) dX5_learnTicket_48 ?_
    refine n_iconst F (5 : Int32) dX5_learnTicket_51 (by decide) ?_
    refine n_bind (fun q2 hq2 => ?_)
    refine n_callVi F cb_X1_part lm_RX5_102 ob_3 (by decide) ⟨_, _, rfl⟩ (ct_La_part (fx_ok F) (fx_sd F) (fx_ix F rfl) w (w.1 13 5) (5 : Int32) hq2) rfl rfl (Nat.le_of_ble_eq_true rfl) ⟨Nat.le_of_ble_eq_true rfl, Nat.le_of_ble_eq_true rfl⟩ dX5_learnTicket_52 ?_
    refine n_ishl F dX5_learnTicket_55 ?_
    refine n_istore_n F (lv' := [(1, .int ((1 : Int32) <<< (q2 &&& (31 : Int32)))), (0, .ref (gA (cg K) 13))]) dX5_learnTicket_56 rfl (by decide) rfl ?_
    refine n_aload_n F dX5_learnTicket_57 rfl 1 rfl ?_
    refine n_aload_n F dX5_learnTicket_58 rfl 1 rfl ?_
    refine n_get F ck_5 lf_RX5_21 (by decide) fg_13_0 (by decide) dX5_learnTicket_59 ?_
    refine n_aload_n F dX5_learnTicket_62 rfl 1 rfl ?_
    refine n_get F ck_5 lf_RX5_62 (by decide) fg_13_9 (by decide) dX5_learnTicket_63 ?_
    refine n_aload_n F dX5_learnTicket_66 rfl 1 rfl ?_
    refine n_get F ck_5 lf_RX5_28 (by decide) fg_13_1 (by decide) dX5_learnTicket_67 ?_
    refine n_iload_n F dX5_learnTicket_70 rfl 0 rfl ?_
    refine n_iconst F (2 : Int32) dX5_learnTicket_71 (by decide) ?_
    refine n_bind (fun q3 hq3 => ?_)
    refine n_callVi F cb_X1_reached lm_RX5_106 ob_3 (by decide) ⟨_, _, rfl⟩ (ct_La_reached (fx_ok F) (fx_sd F) (fx_ix F rfl) w (w.1 13 9) (w.1 13 1) ((1 : Int32) <<< (q2 &&& (31 : Int32))) (2 : Int32) hq3) rfl rfl (Nat.le_of_ble_eq_true rfl) ⟨Nat.le_of_ble_eq_true rfl, Nat.le_of_ble_eq_true rfl⟩ dX5_learnTicket_72 ?_
    refine n_put F ck_5 lf_RX5_65 (by decide) rfl fp_13_10 (by decide) rfl rfl dX5_learnTicket_75 ?_
    refine n_aload_n F dX5_learnTicket_78 rfl 1 rfl ?_
    refine n_aload_n F dX5_learnTicket_79 rfl 1 rfl ?_
    refine n_get F ck_5 lf_RX5_21 (by decide) fg_13_0 (by decide) dX5_learnTicket_80 ?_
    refine n_aload_n F dX5_learnTicket_83 rfl 1 rfl ?_
    refine n_get F ck_5 lf_RX5_62 (by decide) fg_13_9 (by decide) dX5_learnTicket_84 ?_
    refine n_aload_n F dX5_learnTicket_87 rfl 1 rfl ?_
    refine n_get F ck_5 lf_RX5_28 (by decide) fg_13_1 (by decide) dX5_learnTicket_88 ?_
    refine n_iload_n F dX5_learnTicket_91 rfl 0 rfl ?_
    refine n_iconst F (1 : Int32) dX5_learnTicket_92 (by decide) ?_
    refine n_bind (fun q4 hq4 => ?_)
    refine n_callVi F cb_X1_reached lm_RX5_106 ob_3 (by decide) ⟨_, _, rfl⟩ (ct_La_reached (fx_ok F) (fx_sd F) (fx_ix F rfl) (sI w 13 10 q3) ((sI w 13 10 q3).1 13 9) ((sI w 13 10 q3).1 13 1) ((1 : Int32) <<< (q2 &&& (31 : Int32))) (1 : Int32) hq4) rfl rfl (Nat.le_of_ble_eq_true rfl) ⟨Nat.le_of_ble_eq_true rfl, Nat.le_of_ble_eq_true rfl⟩ dX5_learnTicket_93 ?_
    refine n_put F ck_5 lf_RX5_62 (by decide) rfl fp_13_9 (by decide) rfl rfl dX5_learnTicket_96 ?_
    exact n_vret F rfl rfl dX5_learnTicket_99
  rw [if_pos e1]
  refine n_aload_n F dX5_learnTicket_8 rfl 0 rfl ?_
  refine n_aload_n F dX5_learnTicket_9 rfl 0 rfl ?_
  refine n_get F ck_5 lf_RX5_21 (by decide) fg_13_0 (by decide) dX5_learnTicket_10 ?_
  refine n_aload_n F dX5_learnTicket_13 rfl 0 rfl ?_
  refine n_get F ck_5 lf_RX5_62 (by decide) fg_13_9 (by decide) dX5_learnTicket_14 ?_
  refine n_aload_n F dX5_learnTicket_17 rfl 0 rfl ?_
  refine n_get F ck_5 lf_RX5_28 (by decide) fg_13_1 (by decide) dX5_learnTicket_18 ?_
  refine n_aload_n F dX5_learnTicket_21 rfl 0 rfl ?_
  refine n_bind (fun q5 hq5 => ?_)
  refine n_callVi F cb_X5_kindsLeft lm_RX5_88 ob_13 (by decide) ⟨_, _, rfl⟩ (ct_Sc_kindsLeft (fx_ok F) (fx_sd F) (fx_ix F rfl) w hq5) rfl rfl (Nat.le_of_ble_eq_true rfl) ⟨Nat.le_of_ble_eq_true rfl, Nat.le_of_ble_eq_true rfl⟩ dX5_learnTicket_22 ?_
  refine n_bind (fun q6 hq6 => ?_)
  refine n_callVi F cb_X1_stuck lm_RX5_110 ob_3 (by decide) ⟨_, _, rfl⟩ (ct_La_stuck (fx_ok F) (fx_sd F) (fx_ix F rfl) w (w.1 13 9) (w.1 13 1) q5 hq6) rfl rfl (Nat.le_of_ble_eq_true rfl) ⟨Nat.le_of_ble_eq_true rfl, Nat.le_of_ble_eq_true rfl⟩ dX5_learnTicket_25 ?_
  refine n_aload_n F dX5_learnTicket_28 rfl 0 rfl ?_
  refine n_get F ck_5 lf_RX5_65 (by decide) fg_13_10 (by decide) dX5_learnTicket_29 ?_
  refine n_ior F dX5_learnTicket_32 ?_
  refine n_put F ck_5 lf_RX5_62 (by decide) rfl fp_13_9 (by decide) rfl rfl dX5_learnTicket_33 ?_
  refine n_aload_n F dX5_learnTicket_36 rfl 0 rfl ?_
  refine n_iconst F (0 : Int32) dX5_learnTicket_37 (by decide) ?_
  refine n_put F ck_5 lf_RX5_65 (by decide) rfl fp_13_10 (by decide) rfl rfl dX5_learnTicket_38 ?_
  exact n_vret F rfl rfl dX5_learnTicket_41
theorem dX5_moveHim_0 : decode cX5_moveHim 0 = .ok (.aload_n 0, 1) := by decide +kernel
theorem dX5_moveHim_1 : decode cX5_moveHim 1 = .ok (.iconst 0, 1) := by decide +kernel
theorem dX5_moveHim_2 : decode cX5_moveHim 2 = .ok (.putfield 40, 3) := by decide +kernel
theorem dX5_moveHim_5 : decode cX5_moveHim 5 = .ok (.aload_n 0, 1) := by decide +kernel
theorem dX5_moveHim_6 : decode cX5_moveHim 6 = .ok (.getfield 71, 3) := by decide +kernel
theorem dX5_moveHim_9 : decode cX5_moveHim 9 = .ok (.iconst (-1), 1) := by decide +kernel
theorem dX5_moveHim_10 : decode cX5_moveHim 10 = .ok (.if_icmp .ne 4, 3) := by decide +kernel
theorem dX5_moveHim_13 : decode cX5_moveHim 13 = .ok (.return_, 1) := by decide +kernel
theorem dX5_moveHim_14 : decode cX5_moveHim 14 = .ok (.aload_n 0, 1) := by decide +kernel
theorem dX5_moveHim_15 : decode cX5_moveHim 15 = .ok (.getfield 21, 3) := by decide +kernel
theorem dX5_moveHim_18 : decode cX5_moveHim 18 = .ok (.aload_n 0, 1) := by decide +kernel
theorem dX5_moveHim_19 : decode cX5_moveHim 19 = .ok (.getfield 71, 3) := by decide +kernel
theorem dX5_moveHim_22 : decode cX5_moveHim 22 = .ok (.iconst 5, 1) := by decide +kernel
theorem dX5_moveHim_23 : decode cX5_moveHim 23 = .ok (.invokevirtual 102, 3) := by decide +kernel
theorem dX5_moveHim_26 : decode cX5_moveHim 26 = .ok (.istore_n 1, 1) := by decide +kernel
theorem dX5_moveHim_27 : decode cX5_moveHim 27 = .ok (.iload_n 1, 1) := by decide +kernel
theorem dX5_moveHim_28 : decode cX5_moveHim 28 = .ok (.iconst 0, 1) := by decide +kernel
theorem dX5_moveHim_29 : decode cX5_moveHim 29 = .ok (.iconst 2, 1) := by decide +kernel
theorem dX5_moveHim_30 : decode cX5_moveHim 30 = .ok (.invokestatic 80, 3) := by decide +kernel
theorem dX5_moveHim_33 : decode cX5_moveHim 33 = .ok (.ifCond .eq 13, 3) := by decide +kernel
theorem dX5_moveHim_36 : decode cX5_moveHim 36 = .ok (.aload_n 0, 1) := by decide +kernel
theorem dX5_moveHim_37 : decode cX5_moveHim 37 = .ok (.getfield 9, 3) := by decide +kernel
theorem dX5_moveHim_40 : decode cX5_moveHim 40 = .ok (.iload_n 1, 1) := by decide +kernel
theorem dX5_moveHim_41 : decode cX5_moveHim 41 = .ok (.dup2, 1) := by decide +kernel
theorem dX5_moveHim_42 : decode cX5_moveHim 42 = .ok (.iaload, 1) := by decide +kernel
theorem dX5_moveHim_43 : decode cX5_moveHim 43 = .ok (.iconst 1, 1) := by decide +kernel
theorem dX5_moveHim_44 : decode cX5_moveHim 44 = .ok (.isub, 1) := by decide +kernel
theorem dX5_moveHim_45 : decode cX5_moveHim 45 = .ok (.iastore, 1) := by decide +kernel
theorem dX5_moveHim_46 : decode cX5_moveHim 46 = .ok (.aload_n 0, 1) := by decide +kernel
theorem dX5_moveHim_47 : decode cX5_moveHim 47 = .ok (.aload_n 0, 1) := by decide +kernel
theorem dX5_moveHim_48 : decode cX5_moveHim 48 = .ok (.getfield 21, 3) := by decide +kernel
theorem dX5_moveHim_51 : decode cX5_moveHim 51 = .ok (.aload_n 0, 1) := by decide +kernel
theorem dX5_moveHim_52 : decode cX5_moveHim 52 = .ok (.getfield 71, 3) := by decide +kernel
theorem dX5_moveHim_55 : decode cX5_moveHim 55 = .ok (.iconst 4, 1) := by decide +kernel
theorem dX5_moveHim_56 : decode cX5_moveHim 56 = .ok (.invokevirtual 102, 3) := by decide +kernel
theorem dX5_moveHim_59 : decode cX5_moveHim 59 = .ok (.iconst 2, 1) := by decide +kernel
theorem dX5_moveHim_60 : decode cX5_moveHim 60 = .ok (.if_icmp .ne 7, 3) := by decide +kernel
theorem dX5_moveHim_63 : decode cX5_moveHim 63 = .ok (.iconst 1, 1) := by decide +kernel
theorem dX5_moveHim_64 : decode cX5_moveHim 64 = .ok (.goto 4, 3) := by decide +kernel
theorem dX5_moveHim_67 : decode cX5_moveHim 67 = .ok (.iconst 0, 1) := by decide +kernel
theorem dX5_moveHim_68 : decode cX5_moveHim 68 = .ok (.putfield 40, 3) := by decide +kernel
theorem dX5_moveHim_71 : decode cX5_moveHim 71 = .ok (.aload_n 0, 1) := by decide +kernel
theorem dX5_moveHim_72 : decode cX5_moveHim 72 = .ok (.aload_n 0, 1) := by decide +kernel
theorem dX5_moveHim_73 : decode cX5_moveHim 73 = .ok (.getfield 21, 3) := by decide +kernel
theorem dX5_moveHim_76 : decode cX5_moveHim 76 = .ok (.aload_n 0, 1) := by decide +kernel
theorem dX5_moveHim_77 : decode cX5_moveHim 77 = .ok (.getfield 71, 3) := by decide +kernel
theorem dX5_moveHim_80 : decode cX5_moveHim 80 = .ok (.iconst 1, 1) := by decide +kernel
theorem dX5_moveHim_81 : decode cX5_moveHim 81 = .ok (.invokevirtual 102, 3) := by decide +kernel
theorem dX5_moveHim_84 : decode cX5_moveHim 84 = .ok (.putfield 37, 3) := by decide +kernel
theorem dX5_moveHim_87 : decode cX5_moveHim 87 = .ok (.return_, 1) := by decide +kernel
def Sc_moveHim_B68 (w : Wd) (s0 : Int32) : Option Wd := (if s0 &&& (1 : Int32) = s0 then (Option.bind (La_part (sI w 13 3 s0) ((sI w 13 3 s0).1 13 5) (1 : Int32)) (fun q7 => some (sI (sI w 13 3 s0) 13 2 q7))) else none)
set_option maxRecDepth 100000 in
set_option maxHeartbeats 4000000 in
theorem Sc_moveHim_B68_ok {K : Ctx} (F : Fx K cX5_moveHim 2 RX5 none 1 23 true [3, 4, 13, 14]) (w : Wd) (s0 : Int32) : N K rtV (Sc_moveHim_B68 w s0) w 68 [(0, .ref (gA (cg K) 13))] [.int s0, .ref (gA (cg K) 13)] := by
  rw [Sc_moveHim_B68]
  refine n_chk (fun e6 => ?_)
  refine n_put F ck_5 lf_RX5_40 (by decide) rfl fp_13_3 (by decide) (bz_n e6) (bz_f e6) dX5_moveHim_68 ?_
  refine n_aload_n F dX5_moveHim_71 rfl 0 rfl ?_
  refine n_aload_n F dX5_moveHim_72 rfl 0 rfl ?_
  refine n_get F ck_5 lf_RX5_21 (by decide) fg_13_0 (by decide) dX5_moveHim_73 ?_
  refine n_aload_n F dX5_moveHim_76 rfl 0 rfl ?_
  refine n_get F ck_5 lf_RX5_71 (by decide) fg_13_5 (by decide) dX5_moveHim_77 ?_
  refine n_iconst F (1 : Int32) dX5_moveHim_80 (by decide) ?_
  refine n_bind (fun q7 hq7 => ?_)
  refine n_callVi F cb_X1_part lm_RX5_102 ob_3 (by decide) ⟨_, _, rfl⟩ (ct_La_part (fx_ok F) (fx_sd F) (fx_ix F rfl) (sI w 13 3 s0) ((sI w 13 3 s0).1 13 5) (1 : Int32) hq7) rfl rfl (Nat.le_of_ble_eq_true rfl) ⟨Nat.le_of_ble_eq_true rfl, Nat.le_of_ble_eq_true rfl⟩ dX5_moveHim_81 ?_
  refine n_put F ck_5 lf_RX5_37 (by decide) rfl fp_13_2 (by decide) rfl rfl dX5_moveHim_84 ?_
  exact n_vret F rfl rfl dX5_moveHim_87
def Sc_moveHim_B46 (w : Wd) : Option Wd := (Option.bind (La_part w (w.1 13 5) (4 : Int32)) (fun q4 => (Sc_moveHim_B68 w (if q4 = (2 : Int32) then (1 : Int32) else (0 : Int32)))))
set_option maxRecDepth 100000 in
set_option maxHeartbeats 4000000 in
theorem Sc_moveHim_B46_ok {K : Ctx} (F : Fx K cX5_moveHim 2 RX5 none 1 23 true [3, 4, 13, 14]) (w : Wd) : N K rtV (Sc_moveHim_B46 w) w 46 [(0, .ref (gA (cg K) 13))] [] := by
  rw [Sc_moveHim_B46]
  refine n_aload_n F dX5_moveHim_46 rfl 0 rfl ?_
  refine n_aload_n F dX5_moveHim_47 rfl 0 rfl ?_
  refine n_get F ck_5 lf_RX5_21 (by decide) fg_13_0 (by decide) dX5_moveHim_48 ?_
  refine n_aload_n F dX5_moveHim_51 rfl 0 rfl ?_
  refine n_get F ck_5 lf_RX5_71 (by decide) fg_13_5 (by decide) dX5_moveHim_52 ?_
  refine n_iconst F (4 : Int32) dX5_moveHim_55 (by decide) ?_
  refine n_bind (fun q4 hq4 => ?_)
  refine n_callVi F cb_X1_part lm_RX5_102 ob_3 (by decide) ⟨_, _, rfl⟩ (ct_La_part (fx_ok F) (fx_sd F) (fx_ix F rfl) w (w.1 13 5) (4 : Int32) hq4) rfl rfl (Nat.le_of_ble_eq_true rfl) ⟨Nat.le_of_ble_eq_true rfl, Nat.le_of_ble_eq_true rfl⟩ dX5_moveHim_56 ?_
  refine n_iconst F (2 : Int32) dX5_moveHim_59 (by decide) ?_
  refine n_icmp_ne F 67 dX5_moveHim_60 (by decide) (fun e5 => ?_) (fun e5 => ?_)
  · rw [if_neg e5]
    refine n_iconst F (0 : Int32) dX5_moveHim_67 (by decide) ?_
    exact n_sub [0] rfl (Sc_moveHim_B68_ok F _ _)
  rw [if_pos e5]
  refine n_iconst F (1 : Int32) dX5_moveHim_63 (by decide) ?_
  refine n_goto F 68 dX5_moveHim_64 (by decide) ?_
  exact n_sub [0] rfl (Sc_moveHim_B68_ok F _ _)
def Sc_moveHim (w : Wd) : Option Wd := (if ((sI w 13 3 (0 : Int32)).1 13 5) = (-1 : Int32) then some (sI w 13 3 (0 : Int32)) else (Option.bind (La_part (sI w 13 3 (0 : Int32)) ((sI w 13 3 (0 : Int32)).1 13 5) (5 : Int32)) (fun q2 => (if (Nt_within (sI w 13 3 (0 : Int32)) q2 (0 : Int32) (2 : Int32)) = (0 : Int32) then (Sc_moveHim_B46 (sI w 13 3 (0 : Int32))) else (if ib q2 3 = true then (if ib q2 3 = true then (Sc_moveHim_B46 (sI (sI w 13 3 (0 : Int32)) 14 (Int32.toNatClampNeg q2) (((sI w 13 3 (0 : Int32)).1 14 (Int32.toNatClampNeg q2)) - (1 : Int32)))) else none) else none)))))
set_option maxRecDepth 100000 in
set_option maxHeartbeats 4000000 in
theorem ct_Sc_moveHim {l : Launch} {g : GG} {σ : Sd} (hg : OKg g σ) (hb : σ.2.1 = true) (hx : ∀ c ∈ ([3, 4, 13, 14] : List Nat), c ∈ σ.1) (w : Wd) {q : Wd} (hq : Sc_moveHim w = some q) : CT l g σ yX5_moveHim cX5_moveHim 2 none 1 23 [.ref (gA g 13)] w none q := by
  refine ct_of (rt := rtV) (res := Sc_moveHim w) (q := q) (own := RX5) (b := true) hg hb hx (by decide) rfl (Nat.le_of_ble_eq_true rfl) hq (fun K e1 e2 e3 F => ?_)
  subst e1 e2 e3
  rw [Sc_moveHim]
  show N K _ _ w 0 [(0, .ref (gA (cg K) 13))] []
  refine n_aload_n F dX5_moveHim_0 rfl 0 rfl ?_
  refine n_iconst F (0 : Int32) dX5_moveHim_1 (by decide) ?_
  refine n_put F ck_5 lf_RX5_40 (by decide) rfl fp_13_3 (by decide) rfl rfl dX5_moveHim_2 ?_
  refine n_aload_n F dX5_moveHim_5 rfl 0 rfl ?_
  refine n_get F ck_5 lf_RX5_71 (by decide) fg_13_5 (by decide) dX5_moveHim_6 ?_
  refine n_iconst F (-1 : Int32) dX5_moveHim_9 (by decide) ?_
  refine n_icmp_ne F 14 dX5_moveHim_10 (by decide) (fun e1 => ?_) (fun e1 => ?_)
  · rw [if_neg e1]
    refine n_aload_n F dX5_moveHim_14 rfl 0 rfl ?_
    refine n_get F ck_5 lf_RX5_21 (by decide) fg_13_0 (by decide) dX5_moveHim_15 ?_
    refine n_aload_n F dX5_moveHim_18 rfl 0 rfl ?_
    refine n_get F ck_5 lf_RX5_71 (by decide) fg_13_5 (by decide) dX5_moveHim_19 ?_
    refine n_iconst F (5 : Int32) dX5_moveHim_22 (by decide) ?_
    refine n_bind (fun q2 hq2 => ?_)
    refine n_callVi F cb_X1_part lm_RX5_102 ob_3 (by decide) ⟨_, _, rfl⟩ (ct_La_part (fx_ok F) (fx_sd F) (fx_ix F rfl) (sI w 13 3 (0 : Int32)) ((sI w 13 3 (0 : Int32)).1 13 5) (5 : Int32) hq2) rfl rfl (Nat.le_of_ble_eq_true rfl) ⟨Nat.le_of_ble_eq_true rfl, Nat.le_of_ble_eq_true rfl⟩ dX5_moveHim_23 ?_
    refine n_istore_n F (lv' := [(1, .int q2), (0, .ref (gA (cg K) 13))]) dX5_moveHim_26 rfl (by decide) rfl ?_
    refine n_iload_n F dX5_moveHim_27 rfl 0 rfl ?_
    refine n_iconst F (0 : Int32) dX5_moveHim_28 (by decide) ?_
    refine n_iconst F (2 : Int32) dX5_moveHim_29 (by decide) ?_
    refine n_callSNi F cb_X7_within lm_RX5_80 (ct_Nt_within (fx_ok F) (fx_sd F) (fx_ix F rfl) (sI w 13 3 (0 : Int32)) q2 (0 : Int32) (2 : Int32)) rfl rfl (Nat.le_of_ble_eq_true rfl) ⟨Nat.le_of_ble_eq_true rfl, Nat.le_of_ble_eq_true rfl⟩ dX5_moveHim_30 ?_
    refine n_if_eq F 46 dX5_moveHim_33 (by decide) (fun e3 => ?_) (fun e3 => ?_)
    · rw [if_pos e3]
      exact n_sub [1] rfl (Sc_moveHim_B46_ok F _)
    rw [if_neg e3]
    refine n_aload_n F dX5_moveHim_36 rfl 1 rfl ?_
    refine n_get F ck_5 lf_RX5_9 (by decide) fg_13_6 (by decide) dX5_moveHim_37 ?_
    refine n_iload_n F dX5_moveHim_40 rfl 0 rfl ?_
    refine n_dup2 F dX5_moveHim_41 rfl rfl ?_
    refine n_chk (fun e8 => ?_)
    refine n_iald F ar_14 (by decide) (ib_in e8) rfl dX5_moveHim_42 ?_
    refine n_iconst F (1 : Int32) dX5_moveHim_43 (by decide) ?_
    refine n_isub F dX5_moveHim_44 ?_
    refine n_chk (fun e9 => ?_)
    refine n_iast F ar_14 (by decide) (ib_in e9) rfl dX5_moveHim_45 ?_
    exact n_sub [1] rfl (Sc_moveHim_B46_ok F _)
  rw [if_pos e1]
  exact n_vret F rfl rfl dX5_moveHim_13
theorem dX5_learnPlaces_0 : decode cX5_learnPlaces 0 = .ok (.aload_n 0, 1) := by decide +kernel
theorem dX5_learnPlaces_1 : decode cX5_learnPlaces 1 = .ok (.getfield 21, 3) := by decide +kernel
theorem dX5_learnPlaces_4 : decode cX5_learnPlaces 4 = .ok (.getfield 129, 3) := by decide +kernel
theorem dX5_learnPlaces_7 : decode cX5_learnPlaces 7 = .ok (.ifCond .le 22, 3) := by decide +kernel
theorem dX5_learnPlaces_10 : decode cX5_learnPlaces 10 = .ok (.aload_n 0, 1) := by decide +kernel
theorem dX5_learnPlaces_11 : decode cX5_learnPlaces 11 = .ok (.getfield 28, 3) := by decide +kernel
theorem dX5_learnPlaces_14 : decode cX5_learnPlaces 14 = .ok (.aload_n 0, 1) := by decide +kernel
theorem dX5_learnPlaces_15 : decode cX5_learnPlaces 15 = .ok (.getfield 21, 3) := by decide +kernel
theorem dX5_learnPlaces_18 : decode cX5_learnPlaces 18 = .ok (.getfield 129, 3) := by decide +kernel
theorem dX5_learnPlaces_21 : decode cX5_learnPlaces 21 = .ok (.irem, 1) := by decide +kernel
theorem dX5_learnPlaces_22 : decode cX5_learnPlaces 22 = .ok (.ifCond .ne 7, 3) := by decide +kernel
theorem dX5_learnPlaces_25 : decode cX5_learnPlaces 25 = .ok (.iconst 1, 1) := by decide +kernel
theorem dX5_learnPlaces_26 : decode cX5_learnPlaces 26 = .ok (.goto 4, 3) := by decide +kernel
theorem dX5_learnPlaces_29 : decode cX5_learnPlaces 29 = .ok (.iconst 0, 1) := by decide +kernel
theorem dX5_learnPlaces_30 : decode cX5_learnPlaces 30 = .ok (.istore_n 1, 1) := by decide +kernel
theorem dX5_learnPlaces_31 : decode cX5_learnPlaces 31 = .ok (.aload_n 0, 1) := by decide +kernel
theorem dX5_learnPlaces_32 : decode cX5_learnPlaces 32 = .ok (.getfield 59, 3) := by decide +kernel
theorem dX5_learnPlaces_35 : decode cX5_learnPlaces 35 = .ok (.ifCond .ne 7, 3) := by decide +kernel
theorem dX5_learnPlaces_38 : decode cX5_learnPlaces 38 = .ok (.iload_n 1, 1) := by decide +kernel
theorem dX5_learnPlaces_39 : decode cX5_learnPlaces 39 = .ok (.ifCond .eq 46, 3) := by decide +kernel
theorem dX5_learnPlaces_42 : decode cX5_learnPlaces 42 = .ok (.aload_n 0, 1) := by decide +kernel
theorem dX5_learnPlaces_43 : decode cX5_learnPlaces 43 = .ok (.aload_n 0, 1) := by decide +kernel
theorem dX5_learnPlaces_44 : decode cX5_learnPlaces 44 = .ok (.getfield 40, 3) := by decide +kernel
theorem dX5_learnPlaces_47 : decode cX5_learnPlaces 47 = .ok (.ifCond .eq 7, 3) := by decide +kernel
theorem dX5_learnPlaces_50 : decode cX5_learnPlaces 50 = .ok (.iconst 0, 1) := by decide +kernel
theorem dX5_learnPlaces_51 : decode cX5_learnPlaces 51 = .ok (.goto 9, 3) := by decide +kernel
theorem dX5_learnPlaces_54 : decode cX5_learnPlaces 54 = .ok (.iconst 1, 1) := by decide +kernel
theorem dX5_learnPlaces_55 : decode cX5_learnPlaces 55 = .ok (.aload_n 0, 1) := by decide +kernel
theorem dX5_learnPlaces_56 : decode cX5_learnPlaces 56 = .ok (.getfield 37, 3) := by decide +kernel
theorem dX5_learnPlaces_59 : decode cX5_learnPlaces 59 = .ok (.ishl, 1) := by decide +kernel
theorem dX5_learnPlaces_60 : decode cX5_learnPlaces 60 = .ok (.putfield 62, 3) := by decide +kernel
theorem dX5_learnPlaces_63 : decode cX5_learnPlaces 63 = .ok (.aload_n 0, 1) := by decide +kernel
theorem dX5_learnPlaces_64 : decode cX5_learnPlaces 64 = .ok (.aload_n 0, 1) := by decide +kernel
theorem dX5_learnPlaces_65 : decode cX5_learnPlaces 65 = .ok (.getfield 40, 3) := by decide +kernel
theorem dX5_learnPlaces_68 : decode cX5_learnPlaces 68 = .ok (.ifCond .eq 12, 3) := by decide +kernel
theorem dX5_learnPlaces_71 : decode cX5_learnPlaces 71 = .ok (.iconst 1, 1) := by decide +kernel
theorem dX5_learnPlaces_72 : decode cX5_learnPlaces 72 = .ok (.aload_n 0, 1) := by decide +kernel
theorem dX5_learnPlaces_73 : decode cX5_learnPlaces 73 = .ok (.getfield 37, 3) := by decide +kernel
theorem dX5_learnPlaces_76 : decode cX5_learnPlaces 76 = .ok (.ishl, 1) := by decide +kernel
theorem dX5_learnPlaces_77 : decode cX5_learnPlaces 77 = .ok (.goto 4, 3) := by decide +kernel
theorem dX5_learnPlaces_80 : decode cX5_learnPlaces 80 = .ok (.iconst 0, 1) := by decide +kernel
theorem dX5_learnPlaces_81 : decode cX5_learnPlaces 81 = .ok (.putfield 65, 3) := by decide +kernel
theorem dX5_learnPlaces_84 : decode cX5_learnPlaces 84 = .ok (.return_, 1) := by decide +kernel
theorem dX5_learnPlaces_85 : decode cX5_learnPlaces 85 = .ok (.iconst 0, 1) := by decide +kernel
theorem dX5_learnPlaces_86 : decode cX5_learnPlaces 86 = .ok (.istore_n 2, 1) := by decide +kernel
theorem dX5_learnPlaces_87 : decode cX5_learnPlaces 87 = .ok (.iload_n 2, 1) := by decide +kernel
theorem dX5_learnPlaces_88 : decode cX5_learnPlaces 88 = .ok (.iconst 2, 1) := by decide +kernel
theorem dX5_learnPlaces_89 : decode cX5_learnPlaces 89 = .ok (.if_icmp .ge 38, 3) := by decide +kernel
theorem dX5_learnPlaces_92 : decode cX5_learnPlaces 92 = .ok (.aload_n 0, 1) := by decide +kernel
theorem dX5_learnPlaces_93 : decode cX5_learnPlaces 93 = .ok (.getfield 15, 3) := by decide +kernel
theorem dX5_learnPlaces_96 : decode cX5_learnPlaces 96 = .ok (.iload_n 2, 1) := by decide +kernel
theorem dX5_learnPlaces_97 : decode cX5_learnPlaces 97 = .ok (.iaload, 1) := by decide +kernel
theorem dX5_learnPlaces_98 : decode cX5_learnPlaces 98 = .ok (.iconst (-1), 1) := by decide +kernel
theorem dX5_learnPlaces_99 : decode cX5_learnPlaces 99 = .ok (.if_icmp .eq 22, 3) := by decide +kernel
theorem dX5_learnPlaces_102 : decode cX5_learnPlaces 102 = .ok (.aload_n 0, 1) := by decide +kernel
theorem dX5_learnPlaces_103 : decode cX5_learnPlaces 103 = .ok (.dup, 1) := by decide +kernel
theorem dX5_learnPlaces_104 : decode cX5_learnPlaces 104 = .ok (.getfield 62, 3) := by decide +kernel
theorem dX5_learnPlaces_107 : decode cX5_learnPlaces 107 = .ok (.iconst 1, 1) := by decide +kernel
theorem dX5_learnPlaces_108 : decode cX5_learnPlaces 108 = .ok (.aload_n 0, 1) := by decide +kernel
theorem dX5_learnPlaces_109 : decode cX5_learnPlaces 109 = .ok (.getfield 15, 3) := by decide +kernel
theorem dX5_learnPlaces_112 : decode cX5_learnPlaces 112 = .ok (.iload_n 2, 1) := by decide +kernel
theorem dX5_learnPlaces_113 : decode cX5_learnPlaces 113 = .ok (.iaload, 1) := by decide +kernel
theorem dX5_learnPlaces_114 : decode cX5_learnPlaces 114 = .ok (.ishl, 1) := by decide +kernel
theorem dX5_learnPlaces_115 : decode cX5_learnPlaces 115 = .ok (.iconst (-1), 1) := by decide +kernel
theorem dX5_learnPlaces_116 : decode cX5_learnPlaces 116 = .ok (.ixor, 1) := by decide +kernel
theorem dX5_learnPlaces_117 : decode cX5_learnPlaces 117 = .ok (.iand, 1) := by decide +kernel
theorem dX5_learnPlaces_118 : decode cX5_learnPlaces 118 = .ok (.putfield 62, 3) := by decide +kernel
theorem dX5_learnPlaces_121 : decode cX5_learnPlaces 121 = .ok (.iinc 2 1, 3) := by decide +kernel
theorem dX5_learnPlaces_124 : decode cX5_learnPlaces 124 = .ok (.goto (-37), 3) := by decide +kernel
theorem dX5_learnPlaces_127 : decode cX5_learnPlaces 127 = .ok (.return_, 1) := by decide +kernel
def Sc_learnPlaces_B60 (w : Wd) (s0 : Int32) : Option Wd := (if ((sI w 13 9 s0).1 13 3) = (0 : Int32) then some (sI (sI w 13 9 s0) 13 10 (0 : Int32)) else some (sI (sI w 13 9 s0) 13 10 ((1 : Int32) <<< (((sI w 13 9 s0).1 13 2) &&& (31 : Int32)))))
set_option maxRecDepth 100000 in
set_option maxHeartbeats 4000000 in
theorem Sc_learnPlaces_B60_ok {K : Ctx} (F : Fx K cX5_learnPlaces 3 RX5 none 0 0 true [3, 13, 15]) (w : Wd) (s0 : Int32) : N K rtV (Sc_learnPlaces_B60 w s0) w 60 [(0, .ref (gA (cg K) 13))] [.int s0, .ref (gA (cg K) 13)] := by
  rw [Sc_learnPlaces_B60]
  refine n_put F ck_5 lf_RX5_62 (by decide) rfl fp_13_9 (by decide) rfl rfl dX5_learnPlaces_60 ?_
  refine n_aload_n F dX5_learnPlaces_63 rfl 0 rfl ?_
  refine n_aload_n F dX5_learnPlaces_64 rfl 0 rfl ?_
  refine n_get F ck_5 lf_RX5_40 (by decide) fg_13_3 (by decide) dX5_learnPlaces_65 ?_
  refine n_if_eq F 80 dX5_learnPlaces_68 (by decide) (fun e4 => ?_) (fun e4 => ?_)
  · rw [if_pos e4]
    refine n_iconst F (0 : Int32) dX5_learnPlaces_80 (by decide) ?_
    refine n_put F ck_5 lf_RX5_65 (by decide) rfl fp_13_10 (by decide) rfl rfl dX5_learnPlaces_81 ?_
    exact n_vret F rfl rfl dX5_learnPlaces_84
  rw [if_neg e4]
  refine n_iconst F (1 : Int32) dX5_learnPlaces_71 (by decide) ?_
  refine n_aload_n F dX5_learnPlaces_72 rfl 0 rfl ?_
  refine n_get F ck_5 lf_RX5_37 (by decide) fg_13_2 (by decide) dX5_learnPlaces_73 ?_
  refine n_ishl F dX5_learnPlaces_76 ?_
  refine n_goto F 81 dX5_learnPlaces_77 (by decide) ?_
  refine n_put F ck_5 lf_RX5_65 (by decide) rfl fp_13_10 (by decide) rfl rfl dX5_learnPlaces_81 ?_
  exact n_vret F rfl rfl dX5_learnPlaces_84
def Sc_learnPlaces_B42 (w : Wd) : Option Wd := (Sc_learnPlaces_B60 w (if (w.1 13 3) = (0 : Int32) then ((1 : Int32) <<< ((w.1 13 2) &&& (31 : Int32))) else (0 : Int32)))
set_option maxRecDepth 100000 in
set_option maxHeartbeats 4000000 in
theorem Sc_learnPlaces_B42_ok {K : Ctx} (F : Fx K cX5_learnPlaces 3 RX5 none 0 0 true [3, 13, 15]) (w : Wd) : N K rtV (Sc_learnPlaces_B42 w) w 42 [(0, .ref (gA (cg K) 13))] [] := by
  rw [Sc_learnPlaces_B42]
  refine n_aload_n F dX5_learnPlaces_42 rfl 0 rfl ?_
  refine n_aload_n F dX5_learnPlaces_43 rfl 0 rfl ?_
  refine n_get F ck_5 lf_RX5_40 (by decide) fg_13_3 (by decide) dX5_learnPlaces_44 ?_
  refine n_if_eq F 54 dX5_learnPlaces_47 (by decide) (fun e3 => ?_) (fun e3 => ?_)
  · rw [if_pos e3]
    refine n_iconst F (1 : Int32) dX5_learnPlaces_54 (by decide) ?_
    refine n_aload_n F dX5_learnPlaces_55 rfl 0 rfl ?_
    refine n_get F ck_5 lf_RX5_37 (by decide) fg_13_2 (by decide) dX5_learnPlaces_56 ?_
    refine n_ishl F dX5_learnPlaces_59 ?_
    exact n_sub [0] rfl (Sc_learnPlaces_B60_ok F _ _)
  rw [if_neg e3]
  refine n_iconst F (0 : Int32) dX5_learnPlaces_50 (by decide) ?_
  refine n_goto F 60 dX5_learnPlaces_51 (by decide) ?_
  exact n_sub [0] rfl (Sc_learnPlaces_B60_ok F _ _)
def Sc_learnPlaces_L87 (k127 : Wd → Option Wd) : Nat → Wd → Int32 → Option Wd
  | 0, _, _ => none
  | n + 1, w, v2 => (if (2 : Int32) ≤ v2 then (k127 w) else (if ib v2 2 = true then (if (w.1 15 (Int32.toNatClampNeg v2)) = (-1 : Int32) then (Sc_learnPlaces_L87 k127 n w (v2 + (1 : Int32))) else (if ib v2 2 = true then (Sc_learnPlaces_L87 k127 n (sI w 13 9 ((w.1 13 9) &&& (((1 : Int32) <<< ((w.1 15 (Int32.toNatClampNeg v2)) &&& (31 : Int32))) ^^^ (-1 : Int32)))) (v2 + (1 : Int32))) else none)) else none))
set_option maxRecDepth 100000 in
set_option maxHeartbeats 4000000 in
theorem Sc_learnPlaces_L87_ok {K : Ctx} (F : Fx K cX5_learnPlaces 3 RX5 none 0 0 true [3, 13, 15]) {k127 : Wd → Option Wd} (h127 : ∀ (w : Wd), N K rtV (k127 w) w 127 [] []) : ∀ (n : Nat) (w : Wd) (v2 : Int32), N K rtV (Sc_learnPlaces_L87 k127 n w v2) w 87 [(0, .ref (gA (cg K) 13)), (2, .int v2)] [] := by
  intro n
  induction n with
  | zero => intro _ _; exact n_none
  | succ n ih =>
    intro w v2
    rw [Sc_learnPlaces_L87]
    refine n_iload_n F dX5_learnPlaces_87 rfl 1 rfl ?_
    refine n_iconst F (2 : Int32) dX5_learnPlaces_88 (by decide) ?_
    refine n_icmp_ge F 127 dX5_learnPlaces_89 (by decide) (fun e6 => ?_) (fun e6 => ?_)
    · rw [if_pos e6]
      exact n_sub [] rfl (h127 _)
    rw [if_neg e6]
    refine n_aload_n F dX5_learnPlaces_92 rfl 0 rfl ?_
    refine n_get F ck_5 lf_RX5_15 (by decide) fg_13_7 (by decide) dX5_learnPlaces_93 ?_
    refine n_iload_n F dX5_learnPlaces_96 rfl 1 rfl ?_
    refine n_chk (fun e7 => ?_)
    refine n_iald F ar_15 (by decide) (ib_in e7) rfl dX5_learnPlaces_97 ?_
    refine n_iconst F (-1 : Int32) dX5_learnPlaces_98 (by decide) ?_
    refine n_icmp_eq F 121 dX5_learnPlaces_99 (by decide) (fun e8 => ?_) (fun e8 => ?_)
    · rw [if_pos e8]
      refine n_iinc F (v2 + (1 : Int32)) (lv' := [(2, .int (v2 + (1 : Int32))), (0, .ref (gA (cg K) 13))]) dX5_learnPlaces_121 1 rfl rfl (by decide) rfl ?_
      refine n_goto F 87 dX5_learnPlaces_124 (by decide) ?_
      exact n_sub [1, 0] rfl (ih _ _)
    rw [if_neg e8]
    refine n_aload_n F dX5_learnPlaces_102 rfl 0 rfl ?_
    refine n_dup F dX5_learnPlaces_103 rfl ?_
    refine n_get F ck_5 lf_RX5_62 (by decide) fg_13_9 (by decide) dX5_learnPlaces_104 ?_
    refine n_iconst F (1 : Int32) dX5_learnPlaces_107 (by decide) ?_
    refine n_aload_n F dX5_learnPlaces_108 rfl 0 rfl ?_
    refine n_get F ck_5 lf_RX5_15 (by decide) fg_13_7 (by decide) dX5_learnPlaces_109 ?_
    refine n_iload_n F dX5_learnPlaces_112 rfl 1 rfl ?_
    refine n_chk (fun e9 => ?_)
    refine n_iald F ar_15 (by decide) (ib_in e9) rfl dX5_learnPlaces_113 ?_
    refine n_ishl F dX5_learnPlaces_114 ?_
    refine n_iconst F (-1 : Int32) dX5_learnPlaces_115 (by decide) ?_
    refine n_ixor F dX5_learnPlaces_116 ?_
    refine n_iand F dX5_learnPlaces_117 ?_
    refine n_put F ck_5 lf_RX5_62 (by decide) rfl fp_13_9 (by decide) rfl rfl dX5_learnPlaces_118 ?_
    refine n_iinc F (v2 + (1 : Int32)) (lv' := [(2, .int (v2 + (1 : Int32))), (0, .ref (gA (cg K) 13))]) dX5_learnPlaces_121 1 rfl rfl (by decide) rfl ?_
    refine n_goto F 87 dX5_learnPlaces_124 (by decide) ?_
    exact n_sub [1, 0] rfl (ih _ _)
def Sc_learnPlaces_B127 (w : Wd) : Option Wd := some w
set_option maxRecDepth 100000 in
set_option maxHeartbeats 4000000 in
theorem Sc_learnPlaces_B127_ok {K : Ctx} (F : Fx K cX5_learnPlaces 3 RX5 none 0 0 true [3, 13, 15]) (w : Wd) : N K rtV (Sc_learnPlaces_B127 w) w 127 [] [] := by
  rw [Sc_learnPlaces_B127]
  exact n_vret F rfl rfl dX5_learnPlaces_127
def Sc_learnPlaces_B30 (w : Wd) (s0 : Int32) : Option Wd := (if (w.1 13 4) = (0 : Int32) then (if s0 = (0 : Int32) then (Sc_learnPlaces_L87 Sc_learnPlaces_B127 FU w (0 : Int32)) else (Sc_learnPlaces_B42 w)) else (Sc_learnPlaces_B42 w))
set_option maxRecDepth 100000 in
set_option maxHeartbeats 4000000 in
theorem Sc_learnPlaces_B30_ok {K : Ctx} (F : Fx K cX5_learnPlaces 3 RX5 none 0 0 true [3, 13, 15]) (w : Wd) (s0 : Int32) : N K rtV (Sc_learnPlaces_B30 w s0) w 30 [(0, .ref (gA (cg K) 13))] [.int s0] := by
  rw [Sc_learnPlaces_B30]
  refine n_istore_n F (lv' := [(1, .int s0), (0, .ref (gA (cg K) 13))]) dX5_learnPlaces_30 rfl (by decide) rfl ?_
  refine n_aload_n F dX5_learnPlaces_31 rfl 1 rfl ?_
  refine n_get F ck_5 lf_RX5_59 (by decide) fg_13_4 (by decide) dX5_learnPlaces_32 ?_
  refine n_if_ne F 42 dX5_learnPlaces_35 (by decide) (fun e2 => ?_) (fun e2 => ?_)
  · rw [if_neg e2]
    exact n_sub [1] rfl (Sc_learnPlaces_B42_ok F _)
  rw [if_pos e2]
  refine n_iload_n F dX5_learnPlaces_38 rfl 0 rfl ?_
  refine n_if_eq F 85 dX5_learnPlaces_39 (by decide) (fun e5 => ?_) (fun e5 => ?_)
  · rw [if_pos e5]
    refine n_iconst F (0 : Int32) dX5_learnPlaces_85 (by decide) ?_
    refine n_istore_n F (lv' := [(2, .int (0 : Int32)), (1, .int s0), (0, .ref (gA (cg K) 13))]) dX5_learnPlaces_86 rfl (by decide) rfl ?_
    exact n_sub [2, 0] rfl (Sc_learnPlaces_L87_ok F (Sc_learnPlaces_B127_ok F) FU _ _)
  rw [if_neg e5]
  exact n_sub [1] rfl (Sc_learnPlaces_B42_ok F _)
def Sc_learnPlaces (w : Wd) : Option Wd := (if (w.1 3 3) ≤ (0 : Int32) then (Sc_learnPlaces_B30 w (0 : Int32)) else (if ¬ (w.1 3 3) = (0 : Int32) then (Sc_learnPlaces_B30 w (if ((w.1 13 1) - (w.1 13 1) / (w.1 3 3) * (w.1 3 3)) = (0 : Int32) then (1 : Int32) else (0 : Int32))) else none))
set_option maxRecDepth 100000 in
set_option maxHeartbeats 4000000 in
theorem ct_Sc_learnPlaces {l : Launch} {g : GG} {σ : Sd} (hg : OKg g σ) (hb : σ.2.1 = true) (hx : ∀ c ∈ ([3, 13, 15] : List Nat), c ∈ σ.1) (w : Wd) {q : Wd} (hq : Sc_learnPlaces w = some q) : CT l g σ yX5_learnPlaces cX5_learnPlaces 3 none 0 0 [.ref (gA g 13)] w none q := by
  refine ct_of (rt := rtV) (res := Sc_learnPlaces w) (q := q) (own := RX5) (b := true) hg hb hx (by decide) rfl (Nat.le_of_ble_eq_true rfl) hq (fun K e1 e2 e3 F => ?_)
  subst e1 e2 e3
  rw [Sc_learnPlaces]
  show N K _ _ w 0 [(0, .ref (gA (cg K) 13))] []
  refine n_aload_n F dX5_learnPlaces_0 rfl 0 rfl ?_
  refine n_get F ck_5 lf_RX5_21 (by decide) fg_13_0 (by decide) dX5_learnPlaces_1 ?_
  refine n_get F ck_1 lf_RX5_129 (by decide) fg_3_3 (by decide) dX5_learnPlaces_4 ?_
  refine n_if_le F 29 dX5_learnPlaces_7 (by decide) (fun e1 => ?_) (fun e1 => ?_)
  · rw [if_pos e1]
    refine n_iconst F (0 : Int32) dX5_learnPlaces_29 (by decide) ?_
    exact n_sub [0] rfl (Sc_learnPlaces_B30_ok F _ _)
  rw [if_neg e1]
  refine n_aload_n F dX5_learnPlaces_10 rfl 0 rfl ?_
  refine n_get F ck_5 lf_RX5_28 (by decide) fg_13_1 (by decide) dX5_learnPlaces_11 ?_
  refine n_aload_n F dX5_learnPlaces_14 rfl 0 rfl ?_
  refine n_get F ck_5 lf_RX5_21 (by decide) fg_13_0 (by decide) dX5_learnPlaces_15 ?_
  refine n_get F ck_1 lf_RX5_129 (by decide) fg_3_3 (by decide) dX5_learnPlaces_18 ?_
  refine n_chk (fun e10 => ?_)
  refine n_irem F dX5_learnPlaces_21 e10 ?_
  refine n_if_ne F 29 dX5_learnPlaces_22 (by decide) (fun e11 => ?_) (fun e11 => ?_)
  · rw [if_neg e11]
    refine n_iconst F (0 : Int32) dX5_learnPlaces_29 (by decide) ?_
    exact n_sub [0] rfl (Sc_learnPlaces_B30_ok F _ _)
  rw [if_pos e11]
  refine n_iconst F (1 : Int32) dX5_learnPlaces_25 (by decide) ?_
  refine n_goto F 30 dX5_learnPlaces_26 (by decide) ?_
  exact n_sub [0] rfl (Sc_learnPlaces_B30_ok F _ _)
theorem dX5_advance_0 : decode cX5_advance 0 = .ok (.aload_n 0, 1) := by decide +kernel
theorem dX5_advance_1 : decode cX5_advance 1 = .ok (.aload_n 0, 1) := by decide +kernel
theorem dX5_advance_2 : decode cX5_advance 2 = .ok (.invokevirtual 113, 3) := by decide +kernel
theorem dX5_advance_5 : decode cX5_advance 5 = .ok (.putfield 68, 3) := by decide +kernel
theorem dX5_advance_8 : decode cX5_advance 8 = .ok (.aload_n 0, 1) := by decide +kernel
theorem dX5_advance_9 : decode cX5_advance 9 = .ok (.invokevirtual 116, 3) := by decide +kernel
theorem dX5_advance_12 : decode cX5_advance 12 = .ok (.aload_n 0, 1) := by decide +kernel
theorem dX5_advance_13 : decode cX5_advance 13 = .ok (.invokevirtual 119, 3) := by decide +kernel
theorem dX5_advance_16 : decode cX5_advance 16 = .ok (.iconst 0, 1) := by decide +kernel
theorem dX5_advance_17 : decode cX5_advance 17 = .ok (.istore_n 1, 1) := by decide +kernel
theorem dX5_advance_18 : decode cX5_advance 18 = .ok (.iload_n 1, 1) := by decide +kernel
theorem dX5_advance_19 : decode cX5_advance 19 = .ok (.iconst 2, 1) := by decide +kernel
theorem dX5_advance_20 : decode cX5_advance 20 = .ok (.if_icmp .ge 20, 3) := by decide +kernel
theorem dX5_advance_23 : decode cX5_advance 23 = .ok (.aload_n 0, 1) := by decide +kernel
theorem dX5_advance_24 : decode cX5_advance 24 = .ok (.getfield 15, 3) := by decide +kernel
theorem dX5_advance_27 : decode cX5_advance 27 = .ok (.iload_n 1, 1) := by decide +kernel
theorem dX5_advance_28 : decode cX5_advance 28 = .ok (.aload_n 0, 1) := by decide +kernel
theorem dX5_advance_29 : decode cX5_advance 29 = .ok (.iload_n 1, 1) := by decide +kernel
theorem dX5_advance_30 : decode cX5_advance 30 = .ok (.invokevirtual 122, 3) := by decide +kernel
theorem dX5_advance_33 : decode cX5_advance 33 = .ok (.iastore, 1) := by decide +kernel
theorem dX5_advance_34 : decode cX5_advance 34 = .ok (.iinc 1 1, 3) := by decide +kernel
theorem dX5_advance_37 : decode cX5_advance 37 = .ok (.goto (-19), 3) := by decide +kernel
theorem dX5_advance_40 : decode cX5_advance 40 = .ok (.aload_n 0, 1) := by decide +kernel
theorem dX5_advance_41 : decode cX5_advance 41 = .ok (.dup, 1) := by decide +kernel
theorem dX5_advance_42 : decode cX5_advance 42 = .ok (.getfield 28, 3) := by decide +kernel
theorem dX5_advance_45 : decode cX5_advance 45 = .ok (.iconst 1, 1) := by decide +kernel
theorem dX5_advance_46 : decode cX5_advance 46 = .ok (.iadd, 1) := by decide +kernel
theorem dX5_advance_47 : decode cX5_advance 47 = .ok (.putfield 28, 3) := by decide +kernel
theorem dX5_advance_50 : decode cX5_advance 50 = .ok (.aload_n 0, 1) := by decide +kernel
theorem dX5_advance_51 : decode cX5_advance 51 = .ok (.invokevirtual 52, 3) := by decide +kernel
theorem dX5_advance_54 : decode cX5_advance 54 = .ok (.aload_n 0, 1) := by decide +kernel
theorem dX5_advance_55 : decode cX5_advance 55 = .ok (.aload_n 0, 1) := by decide +kernel
theorem dX5_advance_56 : decode cX5_advance 56 = .ok (.invokevirtual 55, 3) := by decide +kernel
theorem dX5_advance_59 : decode cX5_advance 59 = .ok (.putfield 59, 3) := by decide +kernel
theorem dX5_advance_62 : decode cX5_advance 62 = .ok (.aload_n 0, 1) := by decide +kernel
theorem dX5_advance_63 : decode cX5_advance 63 = .ok (.invokevirtual 126, 3) := by decide +kernel
theorem dX5_advance_66 : decode cX5_advance 66 = .ok (.return_, 1) := by decide +kernel
def Sc_advance_L18 (k40 : Wd → Option Wd) : Nat → Wd → Int32 → Option Wd
  | 0, _, _ => none
  | n + 1, w, v1 => (if (2 : Int32) ≤ v1 then (k40 w) else (Option.bind (Sc_placeBehind w v1) (fun q5 => (if ib v1 2 = true then (Sc_advance_L18 k40 n (sI w 15 (Int32.toNatClampNeg v1) q5) (v1 + (1 : Int32))) else none))))
set_option maxRecDepth 100000 in
set_option maxHeartbeats 4000000 in
theorem Sc_advance_L18_ok {K : Ctx} (F : Fx K cX5_advance 2 RX5 none 4 93 true [3, 4, 13, 14, 15, 16]) {k40 : Wd → Option Wd} (h40 : ∀ (w : Wd), N K rtV (k40 w) w 40 [(0, .ref (gA (cg K) 13))] []) : ∀ (n : Nat) (w : Wd) (v1 : Int32), N K rtV (Sc_advance_L18 k40 n w v1) w 18 [(0, .ref (gA (cg K) 13)), (1, .int v1)] [] := by
  intro n
  induction n with
  | zero => intro _ _; exact n_none
  | succ n ih =>
    intro w v1
    rw [Sc_advance_L18]
    refine n_iload_n F dX5_advance_18 rfl 1 rfl ?_
    refine n_iconst F (2 : Int32) dX5_advance_19 (by decide) ?_
    refine n_icmp_ge F 40 dX5_advance_20 (by decide) (fun e4 => ?_) (fun e4 => ?_)
    · rw [if_pos e4]
      exact n_sub [0] rfl (h40 _)
    rw [if_neg e4]
    refine n_aload_n F dX5_advance_23 rfl 0 rfl ?_
    refine n_get F ck_5 lf_RX5_15 (by decide) fg_13_7 (by decide) dX5_advance_24 ?_
    refine n_iload_n F dX5_advance_27 rfl 1 rfl ?_
    refine n_aload_n F dX5_advance_28 rfl 0 rfl ?_
    refine n_iload_n F dX5_advance_29 rfl 1 rfl ?_
    refine n_bind (fun q5 hq5 => ?_)
    refine n_callVi F cb_X5_placeBehind lm_RX5_122 ob_13 (by decide) ⟨_, _, rfl⟩ (ct_Sc_placeBehind (fx_ok F) (fx_sd F) (fx_ix F rfl) w v1 hq5) rfl rfl (Nat.le_of_ble_eq_true rfl) ⟨Nat.le_of_ble_eq_true rfl, Nat.le_of_ble_eq_true rfl⟩ dX5_advance_30 ?_
    refine n_chk (fun e6 => ?_)
    refine n_iast F ar_15 (by decide) (ib_in e6) rfl dX5_advance_33 ?_
    refine n_iinc F (v1 + (1 : Int32)) (lv' := [(1, .int (v1 + (1 : Int32))), (0, .ref (gA (cg K) 13))]) dX5_advance_34 1 rfl rfl (by decide) rfl ?_
    refine n_goto F 18 dX5_advance_37 (by decide) ?_
    exact n_sub [1, 0] rfl (ih _ _)
def Sc_advance_B40 (w : Wd) : Option Wd := (Option.bind (Sc_forgetToday (sI w 13 1 ((w.1 13 1) + (1 : Int32)))) (fun q7 => (Option.bind (Sc_isWithSeeker q7) (fun q8 => (if q8 &&& (1 : Int32) = q8 then (Option.bind (Sc_learnPlaces (sI q7 13 4 q8)) (fun q10 => some q10)) else none)))))
set_option maxRecDepth 100000 in
set_option maxHeartbeats 4000000 in
theorem Sc_advance_B40_ok {K : Ctx} (F : Fx K cX5_advance 2 RX5 none 4 93 true [3, 4, 13, 14, 15, 16]) (w : Wd) : N K rtV (Sc_advance_B40 w) w 40 [(0, .ref (gA (cg K) 13))] [] := by
  rw [Sc_advance_B40]
  refine n_aload_n F dX5_advance_40 rfl 0 rfl ?_
  refine n_dup F dX5_advance_41 rfl ?_
  refine n_get F ck_5 lf_RX5_28 (by decide) fg_13_1 (by decide) dX5_advance_42 ?_
  refine n_iconst F (1 : Int32) dX5_advance_45 (by decide) ?_
  refine n_iadd F dX5_advance_46 ?_
  refine n_put F ck_5 lf_RX5_28 (by decide) rfl fp_13_1 (by decide) rfl rfl dX5_advance_47 ?_
  refine n_aload_n F dX5_advance_50 rfl 0 rfl ?_
  refine n_bind (fun q7 hq7 => ?_)
  refine n_callVv F cb_X5_forgetToday lm_RX5_52 ob_13 (by decide) ⟨_, _, rfl⟩ (ct_Sc_forgetToday (fx_ok F) (fx_sd F) (fx_ix F rfl) (sI w 13 1 ((w.1 13 1) + (1 : Int32))) hq7) rfl rfl (Nat.le_of_ble_eq_true rfl) ⟨Nat.le_of_ble_eq_true rfl, Nat.le_of_ble_eq_true rfl⟩ dX5_advance_51 ?_
  refine n_aload_n F dX5_advance_54 rfl 0 rfl ?_
  refine n_aload_n F dX5_advance_55 rfl 0 rfl ?_
  refine n_bind (fun q8 hq8 => ?_)
  refine n_callVi F cb_X5_isWithSeeker lm_RX5_55 ob_13 (by decide) ⟨_, _, rfl⟩ (ct_Sc_isWithSeeker (fx_ok F) (fx_sd F) (fx_ix F rfl) q7 hq8) rfl rfl (Nat.le_of_ble_eq_true rfl) ⟨Nat.le_of_ble_eq_true rfl, Nat.le_of_ble_eq_true rfl⟩ dX5_advance_56 ?_
  refine n_chk (fun e9 => ?_)
  refine n_put F ck_5 lf_RX5_59 (by decide) rfl fp_13_4 (by decide) (bz_n e9) (bz_f e9) dX5_advance_59 ?_
  refine n_aload_n F dX5_advance_62 rfl 0 rfl ?_
  refine n_bind (fun q10 hq10 => ?_)
  refine n_callVv F cb_X5_learnPlaces lm_RX5_126 ob_13 (by decide) ⟨_, _, rfl⟩ (ct_Sc_learnPlaces (fx_ok F) (fx_sd F) (fx_ix F rfl) (sI q7 13 4 q8) hq10) rfl rfl (Nat.le_of_ble_eq_true rfl) ⟨Nat.le_of_ble_eq_true rfl, Nat.le_of_ble_eq_true rfl⟩ dX5_advance_63 ?_
  exact n_vret F rfl rfl dX5_advance_66
def Sc_advance (w : Wd) : Option Wd := (Option.bind (Sc_nextBits w) (fun q1 => (Option.bind (Sc_learnTicket (sI w 13 11 q1)) (fun q2 => (Option.bind (Sc_moveHim q2) (fun q3 => (Sc_advance_L18 Sc_advance_B40 FU q3 (0 : Int32))))))))
set_option maxRecDepth 100000 in
set_option maxHeartbeats 4000000 in
theorem ct_Sc_advance {l : Launch} {g : GG} {σ : Sd} (hg : OKg g σ) (hb : σ.2.1 = true) (hx : ∀ c ∈ ([3, 4, 13, 14, 15, 16] : List Nat), c ∈ σ.1) (w : Wd) {q : Wd} (hq : Sc_advance w = some q) : CT l g σ yX5_advance cX5_advance 2 none 4 93 [.ref (gA g 13)] w none q := by
  refine ct_of (rt := rtV) (res := Sc_advance w) (q := q) (own := RX5) (b := true) hg hb hx (by decide) rfl (Nat.le_of_ble_eq_true rfl) hq (fun K e1 e2 e3 F => ?_)
  subst e1 e2 e3
  rw [Sc_advance]
  show N K _ _ w 0 [(0, .ref (gA (cg K) 13))] []
  refine n_aload_n F dX5_advance_0 rfl 0 rfl ?_
  refine n_aload_n F dX5_advance_1 rfl 0 rfl ?_
  refine n_bind (fun q1 hq1 => ?_)
  refine n_callVi F cb_X5_nextBits lm_RX5_113 ob_13 (by decide) ⟨_, _, rfl⟩ (ct_Sc_nextBits (fx_ok F) (fx_sd F) (fx_ix F rfl) w hq1) rfl rfl (Nat.le_of_ble_eq_true rfl) ⟨Nat.le_of_ble_eq_true rfl, Nat.le_of_ble_eq_true rfl⟩ dX5_advance_2 ?_
  refine n_put F ck_5 lf_RX5_68 (by decide) rfl fp_13_11 (by decide) rfl rfl dX5_advance_5 ?_
  refine n_aload_n F dX5_advance_8 rfl 0 rfl ?_
  refine n_bind (fun q2 hq2 => ?_)
  refine n_callVv F cb_X5_learnTicket lm_RX5_116 ob_13 (by decide) ⟨_, _, rfl⟩ (ct_Sc_learnTicket (fx_ok F) (fx_sd F) (fx_ix F rfl) (sI w 13 11 q1) hq2) rfl rfl (Nat.le_of_ble_eq_true rfl) ⟨Nat.le_of_ble_eq_true rfl, Nat.le_of_ble_eq_true rfl⟩ dX5_advance_9 ?_
  refine n_aload_n F dX5_advance_12 rfl 0 rfl ?_
  refine n_bind (fun q3 hq3 => ?_)
  refine n_callVv F cb_X5_moveHim lm_RX5_119 ob_13 (by decide) ⟨_, _, rfl⟩ (ct_Sc_moveHim (fx_ok F) (fx_sd F) (fx_ix F rfl) q2 hq3) rfl rfl (Nat.le_of_ble_eq_true rfl) ⟨Nat.le_of_ble_eq_true rfl, Nat.le_of_ble_eq_true rfl⟩ dX5_advance_13 ?_
  refine n_iconst F (0 : Int32) dX5_advance_16 (by decide) ?_
  refine n_istore_n F (lv' := [(1, .int (0 : Int32)), (0, .ref (gA (cg K) 13))]) dX5_advance_17 rfl (by decide) rfl ?_
  exact n_sub [1, 0] rfl (Sc_advance_L18_ok F (Sc_advance_B40_ok F) FU _ _)
