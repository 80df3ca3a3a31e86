theorem dX5_learnTicket_0 : decode cX5_learnTicket 0 = .ok (.aload_n 0, 1) := by decide +kernel
theorem dX5_learnTicket_1 : decode cX5_learnTicket 1 = .ok (.getfield 71, 3) := by decide +kernel
theorem dX5_learnTicket_4 : decode cX5_learnTicket 4 = .ok (.iconst (-1), 1) := by decide +kernel
theorem dX5_learnTicket_5 : decode cX5_learnTicket 5 = .ok (.if_icmp .ne 37, 3) := by decide +kernel
theorem dX5_learnTicket_8 : decode cX5_learnTicket 8 = .ok (.aload_n 0, 1) := by decide +kernel
theorem dX5_learnTicket_9 : decode cX5_learnTicket 9 = .ok (.aload_n 0, 1) := by decide +kernel
theorem dX5_learnTicket_10 : decode cX5_learnTicket 10 = .ok (.getfield 21, 3) := by decide +kernel
theorem dX5_learnTicket_13 : decode cX5_learnTicket 13 = .ok (.aload_n 0, 1) := by decide +kernel
theorem dX5_learnTicket_14 : decode cX5_learnTicket 14 = .ok (.getfield 62, 3) := by decide +kernel
theorem dX5_learnTicket_17 : decode cX5_learnTicket 17 = .ok (.aload_n 0, 1) := by decide +kernel
theorem dX5_learnTicket_18 : decode cX5_learnTicket 18 = .ok (.getfield 28, 3) := by decide +kernel
theorem dX5_learnTicket_21 : decode cX5_learnTicket 21 = .ok (.aload_n 0, 1) := by decide +kernel
theorem dX5_learnTicket_22 : decode cX5_learnTicket 22 = .ok (.invokevirtual 88, 3) := by decide +kernel
theorem dX5_learnTicket_25 : decode cX5_learnTicket 25 = .ok (.invokevirtual 110, 3) := by decide +kernel
theorem dX5_learnTicket_28 : decode cX5_learnTicket 28 = .ok (.aload_n 0, 1) := by decide +kernel
theorem dX5_learnTicket_29 : decode cX5_learnTicket 29 = .ok (.getfield 65, 3) := by decide +kernel
theorem dX5_learnTicket_32 : decode cX5_learnTicket 32 = .ok (.ior, 1) := by decide +kernel
theorem dX5_learnTicket_33 : decode cX5_learnTicket 33 = .ok (.putfield 62, 3) := by decide +kernel
theorem dX5_learnTicket_36 : decode cX5_learnTicket 36 = .ok (.aload_n 0, 1) := by decide +kernel
theorem dX5_learnTicket_37 : decode cX5_learnTicket 37 = .ok (.iconst 0, 1) := by decide +kernel
theorem dX5_learnTicket_38 : decode cX5_learnTicket 38 = .ok (.putfield 65, 3) := by decide +kernel
theorem dX5_learnTicket_41 : decode cX5_learnTicket 41 = .ok (.return_, 1) := by decide +kernel
theorem dX5_learnTicket_42 : decode cX5_learnTicket 42 = .ok (.iconst 1, 1) := by decide +kernel
theorem dX5_learnTicket_43 : decode cX5_learnTicket 43 = .ok (.aload_n 0, 1) := by decide +kernel
theorem dX5_learnTicket_44 : decode cX5_learnTicket 44 = .ok (.getfield 21, 3) := by decide +kernel
theorem dX5_learnTicket_47 : decode cX5_learnTicket 47 = .ok (.aload_n 0, 1) := by decide +kernel
theorem dX5_learnTicket_48 : decode cX5_learnTicket 48 = .ok (.getfield 71, 3) := by decide +kernel
theorem dX5_learnTicket_51 : decode cX5_learnTicket 51 = .ok (.iconst 5, 1) := by decide +kernel
theorem dX5_learnTicket_52 : decode cX5_learnTicket 52 = .ok (.invokevirtual 102, 3) := by decide +kernel
theorem dX5_learnTicket_55 : decode cX5_learnTicket 55 = .ok (.ishl, 1) := by decide +kernel
theorem dX5_learnTicket_56 : decode cX5_learnTicket 56 = .ok (.istore_n 1, 1) := by decide +kernel
theorem dX5_learnTicket_57 : decode cX5_learnTicket 57 = .ok (.aload_n 0, 1) := by decide +kernel
theorem dX5_learnTicket_58 : decode cX5_learnTicket 58 = .ok (.aload_n 0, 1) := by decide +kernel
theorem dX5_learnTicket_59 : decode cX5_learnTicket 59 = .ok (.getfield 21, 3) := by decide +kernel
theorem dX5_learnTicket_62 : decode cX5_learnTicket 62 = .ok (.aload_n 0, 1) := by decide +kernel
theorem dX5_learnTicket_63 : decode cX5_learnTicket 63 = .ok (.getfield 62, 3) := by decide +kernel
theorem dX5_learnTicket_66 : decode cX5_learnTicket 66 = .ok (.aload_n 0, 1) := by decide +kernel
theorem dX5_learnTicket_67 : decode cX5_learnTicket 67 = .ok (.getfield 28, 3) := by decide +kernel
theorem dX5_learnTicket_70 : decode cX5_learnTicket 70 = .ok (.iload_n 1, 1) := by decide +kernel
theorem dX5_learnTicket_71 : decode cX5_learnTicket 71 = .ok (.iconst 2, 1) := by decide +kernel
theorem dX5_learnTicket_72 : decode cX5_learnTicket 72 = .ok (.invokevirtual 106, 3) := by decide +kernel
theorem dX5_learnTicket_75 : decode cX5_learnTicket 75 = .ok (.putfield 65, 3) := by decide +kernel
theorem dX5_learnTicket_78 : decode cX5_learnTicket 78 = .ok (.aload_n 0, 1) := by decide +kernel
theorem dX5_learnTicket_79 : decode cX5_learnTicket 79 = .ok (.aload_n 0, 1) := by decide +kernel
theorem dX5_learnTicket_80 : decode cX5_learnTicket 80 = .ok (.getfield 21, 3) := by decide +kernel
theorem dX5_learnTicket_83 : decode cX5_learnTicket 83 = .ok (.aload_n 0, 1) := by decide +kernel
theorem dX5_learnTicket_84 : decode cX5_learnTicket 84 = .ok (.getfield 62, 3) := by decide +kernel
theorem dX5_learnTicket_87 : decode cX5_learnTicket 87 = .ok (.aload_n 0, 1) := by decide +kernel
theorem dX5_learnTicket_88 : decode cX5_learnTicket 88 = .ok (.getfield 28, 3) := by decide +kernel
theorem dX5_learnTicket_91 : decode cX5_learnTicket 91 = .ok (.iload_n 1, 1) := by decide +kernel
theorem dX5_learnTicket_92 : decode cX5_learnTicket 92 = .ok (.iconst 1, 1) := by decide +kernel
theorem dX5_learnTicket_93 : decode cX5_learnTicket 93 = .ok (.invokevirtual 106, 3) := by decide +kernel
theorem dX5_learnTicket_96 : decode cX5_learnTicket 96 = .ok (.putfield 62, 3) := by decide +kernel
theorem dX5_learnTicket_99 : decode cX5_learnTicket 99 = .ok (.return_, 1) := by decide +kernel
def Sc_learnTicket (w : Wd) : Option Wd := (if (w.1 13 5) = (-1 : Int32) then (Option.bind (Sc_kindsLeft w) (fun q5 => (Option.bind (La_stuck w (w.1 13 9) (w.1 13 1) q5) (fun q6 => some (sI (sI w 13 9 (q6 ||| (w.1 13 10))) 13 10 (0 : Int32)))))) else (Option.bind (La_part w (w.1 13 5) (5 : Int32)) (fun q2 => (Option.bind (La_reached w (w.1 13 9) (w.1 13 1) ((1 : Int32) <<< (q2 &&& (31 : Int32))) (2 : Int32)) (fun q3 => (Option.bind (La_reached (sI w 13 10 q3) ((sI w 13 10 q3).1 13 9) ((sI w 13 10 q3).1 13 1) ((1 : Int32) <<< (q2 &&& (31 : Int32))) (1 : Int32)) (fun q4 => some (sI (sI w 13 10 q3) 13 9 q4))))))))
set_option maxRecDepth 100000 in
set_option maxHeartbeats 4000000 in
theorem ct_Sc_learnTicket {l : Launch} {g : GG} {σ : Sd} (hg : OKg g σ) (hb : σ.2.1 = true) (hx : ∀ c ∈ ([3, 4, 13, 14] : List Nat), c ∈ σ.1) (w : Wd) {q : Wd} (hq : Sc_learnTicket w = some q) : CT l g σ yX5_learnTicket cX5_learnTicket 2 none 3 72 [.ref (gA g 13)] w none q := by
  refine ct_of (rt := rtV) (res := Sc_learnTicket w) (q := q) (own := RX5) (b := true) hg hb hx (by decide) rfl (Nat.le_of_ble_eq_true rfl) hq (fun K e1 e2 e3 F => ?_)
  subst e1 e2 e3
  rw [Sc_learnTicket]
  show N K _ _ w 0 [(0, .ref (gA (cg K) 13))] []
  refine n_aload_n F dX5_learnTicket_0 rfl 0 rfl ?_
  refine n_get F ck_5 lf_RX5_71 (by decide) fg_13_5 (by decide) dX5_learnTicket_1 ?_
  refine n_iconst F (-1 : Int32) dX5_learnTicket_4 (by decide) ?_
  refine n_icmp_ne F 42 dX5_learnTicket_5 (by decide) (fun e1 => ?_) (fun e1 => ?_)
  · rw [if_neg e1]
    refine n_iconst F (1 : Int32) dX5_learnTicket_42 (by decide) ?_
    refine n_aload_n F dX5_learnTicket_43 rfl 0 rfl ?_
    refine n_get F ck_5 lf_RX5_21 (by decide) fg_13_0 (by decide) dX5_learnTicket_44 ?_
    refine n_aload_n F dX5_learnTicket_47 rfl 0 rfl ?_
    refine n_get F ck_5 lf_RX5_71 (by decide) fg_13_5 (by decide) dX5_learnTicket_48 ?_
    refine n_iconst F (5 : Int32) dX5_learnTicket_51 (by decide) ?_
    refine n_bind (fun q2 hq2 => ?_)
    refine n_callVi F cb_X1_part lm_RX5_102 ob_3 (by decide) ⟨_, _, rfl⟩ (ct_La_part (fx_ok F) (fx_sd F) (fx_ix F rfl) w (w.1 13 5) (5 : Int32) hq2) rfl rfl (Nat.le_of_ble_eq_true rfl) ⟨Nat.le_of_ble_eq_true rfl, Nat.le_of_ble_eq_true rfl⟩ dX5_learnTicket_52 ?_
    refine n_ishl F dX5_learnTicket_55 ?_
    refine n_istore_n F (lv' := [(1, .int ((1 : Int32) <<< (q2 &&& (31 : Int32)))), (0, .ref (gA (cg K) 13))]) dX5_learnTicket_56 rfl (by decide) rfl ?_
    refine n_aload_n F dX5_learnTicket_57 rfl 1 rfl ?_
    refine n_aload_n F dX5_learnTicket_58 rfl 1 rfl ?_
    refine n_get F ck_5 lf_RX5_21 (by decide) fg_13_0 (by decide) dX5_learnTicket_59 ?_
    refine n_aload_n F dX5_learnTicket_62 rfl 1 rfl ?_
    refine n_get F ck_5 lf_RX5_62 (by decide) fg_13_9 (by decide) dX5_learnTicket_63 ?_
    refine n_aload_n F dX5_learnTicket_66 rfl 1 rfl ?_
    refine n_get F ck_5 lf_RX5_28 (by decide) fg_13_1 (by decide) dX5_learnTicket_67 ?_
    refine n_iload_n F dX5_learnTicket_70 rfl 0 rfl ?_
    refine n_iconst F (2 : Int32) dX5_learnTicket_71 (by decide) ?_
    refine n_bind (fun q3 hq3 => ?_)
    refine n_callVi F cb_X1_reached lm_RX5_106 ob_3 (by decide) ⟨_, _, rfl⟩ (ct_La_reached (fx_ok F) (fx_sd F) (fx_ix F rfl) w (w.1 13 9) (w.1 13 1) ((1 : Int32) <<< (q2 &&& (31 : Int32))) (2 : Int32) hq3) rfl rfl (Nat.le_of_ble_eq_true rfl) ⟨Nat.le_of_ble_eq_true rfl, Nat.le_of_ble_eq_true rfl⟩ dX5_learnTicket_72 ?_
    refine n_put F ck_5 lf_RX5_65 (by decide) rfl fp_13_10 (by decide) rfl rfl dX5_learnTicket_75 ?_
    refine n_aload_n F dX5_learnTicket_78 rfl 1 rfl ?_
    refine n_aload_n F dX5_learnTicket_79 rfl 1 rfl ?_
    refine n_get F ck_5 lf_RX5_21 (by decide) fg_13_0 (by decide) dX5_learnTicket_80 ?_
    refine n_aload_n F dX5_learnTicket_83 rfl 1 rfl ?_
    refine n_get F ck_5 lf_RX5_62 (by decide) fg_13_9 (by decide) dX5_learnTicket_84 ?_
    refine n_aload_n F dX5_learnTicket_87 rfl 1 rfl ?_
    refine n_get F ck_5 lf_RX5_28 (by decide) fg_13_1 (by decide) dX5_learnTicket_88 ?_
    refine n_iload_n F dX5_learnTicket_91 rfl 0 rfl ?_
    refine n_iconst F (1 : Int32) dX5_learnTicket_92 (by decide) ?_
    refine n_bind (fun q4 hq4 => ?_)
    refine n_callVi F cb_X1_reached lm_RX5_106 ob_3 (by decide) ⟨_, _, rfl⟩ (ct_La_reached (fx_ok F) (fx_sd F) (fx_ix F rfl) (sI w 13 10 q3) ((sI w 13 10 q3).1 13 9) ((sI w 13 10 q3).1 13 1) ((1 : Int32) <<< (q2 &&& (31 : Int32))) (1 : Int32) hq4) rfl rfl (Nat.le_of_ble_eq_true rfl) ⟨Nat.le_of_ble_eq_true rfl, Nat.le_of_ble_eq_true rfl⟩ dX5_learnTicket_93 ?_
    refine n_put F ck_5 lf_RX5_62 (by decide) rfl fp_13_9 (by decide) rfl rfl dX5_learnTicket_96 ?_
    exact n_vret F rfl rfl dX5_learnTicket_99
  rw [if_pos e1]
  refine n_aload_n F dX5_learnTicket_8 rfl 0 rfl ?_
  refine n_aload_n F dX5_learnTicket_9 rfl 0 rfl ?_
  refine n_get F ck_5 lf_RX5_21 (by decide) fg_13_0 (by decide) dX5_learnTicket_10 ?_
  refine n_aload_n F dX5_learnTicket_13 rfl 0 rfl ?_
  refine n_get F ck_5 lf_RX5_62 (by decide) fg_13_9 (by decide) dX5_learnTicket_14 ?_
  refine n_aload_n F dX5_learnTicket_17 rfl 0 rfl ?_
  refine n_get F ck_5 lf_RX5_28 (by decide) fg_13_1 (by decide) dX5_learnTicket_18 ?_
  refine n_aload_n F dX5_learnTicket_21 rfl 0 rfl ?_
  refine n_bind (fun q5 hq5 => ?_)
  refine n_callVi F cb_X5_kindsLeft lm_RX5_88 ob_13 (by decide) ⟨_, _, rfl⟩ (ct_Sc_kindsLeft (fx_ok F) (fx_sd F) (fx_ix F rfl) w hq5) rfl rfl (Nat.le_of_ble_eq_true rfl) ⟨Nat.le_of_ble_eq_true rfl, Nat.le_of_ble_eq_true rfl⟩ dX5_learnTicket_22 ?_
  refine n_bind (fun q6 hq6 => ?_)
  refine n_callVi F cb_X1_stuck lm_RX5_110 ob_3 (by decide) ⟨_, _, rfl⟩ (ct_La_stuck (fx_ok F) (fx_sd F) (fx_ix F rfl) w (w.1 13 9) (w.1 13 1) q5 hq6) rfl rfl (Nat.le_of_ble_eq_true rfl) ⟨Nat.le_of_ble_eq_true rfl, Nat.le_of_ble_eq_true rfl⟩ dX5_learnTicket_25 ?_
  refine n_aload_n F dX5_learnTicket_28 rfl 0 rfl ?_
  refine n_get F ck_5 lf_RX5_65 (by decide) fg_13_10 (by decide) dX5_learnTicket_29 ?_
  refine n_ior F dX5_learnTicket_32 ?_
  refine n_put F ck_5 lf_RX5_62 (by decide) rfl fp_13_9 (by decide) rfl rfl dX5_learnTicket_33 ?_
  refine n_aload_n F dX5_learnTicket_36 rfl 0 rfl ?_
  refine n_iconst F (0 : Int32) dX5_learnTicket_37 (by decide) ?_
  refine n_put F ck_5 lf_RX5_65 (by decide) rfl fp_13_10 (by decide) rfl rfl dX5_learnTicket_38 ?_
  exact n_vret F rfl rfl dX5_learnTicket_41
theorem dX5_moveHim_0 : decode cX5_moveHim 0 = .ok (.aload_n 0, 1) := by decide +kernel
theorem dX5_moveHim_1 : decode cX5_moveHim 1 = .ok (.iconst 0, 1) := by decide +kernel
theorem dX5_moveHim_2 : decode cX5_moveHim 2 = .ok (.putfield 40, 3) := by decide +kernel
theorem dX5_moveHim_5 : decode cX5_moveHim 5 = .ok (.aload_n 0, 1) := by decide +kernel
theorem dX5_moveHim_6 : decode cX5_moveHim 6 = .ok (.getfield 71, 3) := by decide +kernel
theorem dX5_moveHim_9 : decode cX5_moveHim 9 = .ok (.iconst (-1), 1) := by decide +kernel
theorem dX5_moveHim_10 : decode cX5_moveHim 10 = .ok (.if_icmp .ne 4, 3) := by decide +kernel
theorem dX5_moveHim_13 : decode cX5_moveHim 13 = .ok (.return_, 1) := by decide +kernel
theorem dX5_moveHim_14 : decode cX5_moveHim 14 = .ok (.aload_n 0, 1) := by decide +kernel
theorem dX5_moveHim_15 : decode cX5_moveHim 15 = .ok (.getfield 21, 3) := by decide +kernel
theorem dX5_moveHim_18 : decode cX5_moveHim 18 = .ok (.aload_n 0, 1) := by decide +kernel
theorem dX5_moveHim_19 : decode cX5_moveHim 19 = .ok (.getfield 71, 3) := by decide +kernel
theorem dX5_moveHim_22 : decode cX5_moveHim 22 = .ok (.iconst 5, 1) := by decide +kernel
theorem dX5_moveHim_23 : decode cX5_moveHim 23 = .ok (.invokevirtual 102, 3) := by decide +kernel
theorem dX5_moveHim_26 : decode cX5_moveHim 26 = .ok (.istore_n 1, 1) := by decide +kernel
theorem dX5_moveHim_27 : decode cX5_moveHim 27 = .ok (.iload_n 1, 1) := by decide +kernel
theorem dX5_moveHim_28 : decode cX5_moveHim 28 = .ok (.iconst 0, 1) := by decide +kernel
theorem dX5_moveHim_29 : decode cX5_moveHim 29 = .ok (.iconst 2, 1) := by decide +kernel
theorem dX5_moveHim_30 : decode cX5_moveHim 30 = .ok (.invokestatic 80, 3) := by decide +kernel
theorem dX5_moveHim_33 : decode cX5_moveHim 33 = .ok (.ifCond .eq 13, 3) := by decide +kernel
theorem dX5_moveHim_36 : decode cX5_moveHim 36 = .ok (.aload_n 0, 1) := by decide +kernel
theorem dX5_moveHim_37 : decode cX5_moveHim 37 = .ok (.getfield 9, 3) := by decide +kernel
theorem dX5_moveHim_40 : decode cX5_moveHim 40 = .ok (.iload_n 1, 1) := by decide +kernel
theorem dX5_moveHim_41 : decode cX5_moveHim 41 = .ok (.dup2, 1) := by decide +kernel
theorem dX5_moveHim_42 : decode cX5_moveHim 42 = .ok (.iaload, 1) := by decide +kernel
theorem dX5_moveHim_43 : decode cX5_moveHim 43 = .ok (.iconst 1, 1) := by decide +kernel
theorem dX5_moveHim_44 : decode cX5_moveHim 44 = .ok (.isub, 1) := by decide +kernel
theorem dX5_moveHim_45 : decode cX5_moveHim 45 = .ok (.iastore, 1) := by decide +kernel
theorem dX5_moveHim_46 : decode cX5_moveHim 46 = .ok (.aload_n 0, 1) := by decide +kernel
theorem dX5_moveHim_47 : decode cX5_moveHim 47 = .ok (.aload_n 0, 1) := by decide +kernel
theorem dX5_moveHim_48 : decode cX5_moveHim 48 = .ok (.getfield 21, 3) := by decide +kernel
theorem dX5_moveHim_51 : decode cX5_moveHim 51 = .ok (.aload_n 0, 1) := by decide +kernel
theorem dX5_moveHim_52 : decode cX5_moveHim 52 = .ok (.getfield 71, 3) := by decide +kernel
theorem dX5_moveHim_55 : decode cX5_moveHim 55 = .ok (.iconst 4, 1) := by decide +kernel
theorem dX5_moveHim_56 : decode cX5_moveHim 56 = .ok (.invokevirtual 102, 3) := by decide +kernel
theorem dX5_moveHim_59 : decode cX5_moveHim 59 = .ok (.iconst 2, 1) := by decide +kernel
theorem dX5_moveHim_60 : decode cX5_moveHim 60 = .ok (.if_icmp .ne 7, 3) := by decide +kernel
theorem dX5_moveHim_63 : decode cX5_moveHim 63 = .ok (.iconst 1, 1) := by decide +kernel
theorem dX5_moveHim_64 : decode cX5_moveHim 64 = .ok (.goto 4, 3) := by decide +kernel
theorem dX5_moveHim_67 : decode cX5_moveHim 67 = .ok (.iconst 0, 1) := by decide +kernel
theorem dX5_moveHim_68 : decode cX5_moveHim 68 = .ok (.putfield 40, 3) := by decide +kernel
theorem dX5_moveHim_71 : decode cX5_moveHim 71 = .ok (.aload_n 0, 1) := by decide +kernel
theorem dX5_moveHim_72 : decode cX5_moveHim 72 = .ok (.aload_n 0, 1) := by decide +kernel
theorem dX5_moveHim_73 : decode cX5_moveHim 73 = .ok (.getfield 21, 3) := by decide +kernel
theorem dX5_moveHim_76 : decode cX5_moveHim 76 = .ok (.aload_n 0, 1) := by decide +kernel
theorem dX5_moveHim_77 : decode cX5_moveHim 77 = .ok (.getfield 71, 3) := by decide +kernel
theorem dX5_moveHim_80 : decode cX5_moveHim 80 = .ok (.iconst 1, 1) := by decide +kernel
theorem dX5_moveHim_81 : decode cX5_moveHim 81 = .ok (.invokevirtual 102, 3) := by decide +kernel
theorem dX5_moveHim_84 : decode cX5_moveHim 84 = .ok (.putfield 37, 3) := by decide +kernel
theorem dX5_moveHim_87 : decode cX5_moveHim 87 = .ok (.return_, 1) := by decide +kernel
def Sc_moveHim_B68 (w : Wd) (s0 : Int32) : Option Wd := (if s0 &&& (1 : Int32) = s0 then (Option.bind (La_part (sI w 13 3 s0) ((sI w 13 3 s0).1 13 5) (1 : Int32)) (fun q7 => some (sI (sI w 13 3 s0) 13 2 q7))) else none)
set_option maxRecDepth 100000 in
set_option maxHeartbeats 4000000 in
theorem Sc_moveHim_B68_ok {K : Ctx} (F : Fx K cX5_moveHim 2 RX5 none 1 23 true [3, 4, 13, 14]) (w : Wd) (s0 : Int32) : N K rtV (Sc_moveHim_B68 w s0) w 68 [(0, .ref (gA (cg K) 13))] [.int s0, .ref (gA (cg K) 13)] := by
  rw [Sc_moveHim_B68]
  refine n_chk (fun e6 => ?_)
  refine n_put F ck_5 lf_RX5_40 (by decide) rfl fp_13_3 (by decide) (bz_n e6) (bz_f e6) dX5_moveHim_68 ?_
  refine n_aload_n F dX5_moveHim_71 rfl 0 rfl ?_
  refine n_aload_n F dX5_moveHim_72 rfl 0 rfl ?_
  refine n_get F ck_5 lf_RX5_21 (by decide) fg_13_0 (by decide) dX5_moveHim_73 ?_
  refine n_aload_n F dX5_moveHim_76 rfl 0 rfl ?_
  refine n_get F ck_5 lf_RX5_71 (by decide) fg_13_5 (by decide) dX5_moveHim_77 ?_
  refine n_iconst F (1 : Int32) dX5_moveHim_80 (by decide) ?_
  refine n_bind (fun q7 hq7 => ?_)
  refine n_callVi F cb_X1_part lm_RX5_102 ob_3 (by decide) ⟨_, _, rfl⟩ (ct_La_part (fx_ok F) (fx_sd F) (fx_ix F rfl) (sI w 13 3 s0) ((sI w 13 3 s0).1 13 5) (1 : Int32) hq7) rfl rfl (Nat.le_of_ble_eq_true rfl) ⟨Nat.le_of_ble_eq_true rfl, Nat.le_of_ble_eq_true rfl⟩ dX5_moveHim_81 ?_
  refine n_put F ck_5 lf_RX5_37 (by decide) rfl fp_13_2 (by decide) rfl rfl dX5_moveHim_84 ?_
  exact n_vret F rfl rfl dX5_moveHim_87
def Sc_moveHim_B46 (w : Wd) : Option Wd := (Option.bind (La_part w (w.1 13 5) (4 : Int32)) (fun q4 => (Sc_moveHim_B68 w (if q4 = (2 : Int32) then (1 : Int32) else (0 : Int32)))))
set_option maxRecDepth 100000 in
set_option maxHeartbeats 4000000 in
theorem Sc_moveHim_B46_ok {K : Ctx} (F : Fx K cX5_moveHim 2 RX5 none 1 23 true [3, 4, 13, 14]) (w : Wd) : N K rtV (Sc_moveHim_B46 w) w 46 [(0, .ref (gA (cg K) 13))] [] := by
  rw [Sc_moveHim_B46]
  refine n_aload_n F dX5_moveHim_46 rfl 0 rfl ?_
  refine n_aload_n F dX5_moveHim_47 rfl 0 rfl ?_
  refine n_get F ck_5 lf_RX5_21 (by decide) fg_13_0 (by decide) dX5_moveHim_48 ?_
  refine n_aload_n F dX5_moveHim_51 rfl 0 rfl ?_
  refine n_get F ck_5 lf_RX5_71 (by decide) fg_13_5 (by decide) dX5_moveHim_52 ?_
  refine n_iconst F (4 : Int32) dX5_moveHim_55 (by decide) ?_
  refine n_bind (fun q4 hq4 => ?_)
  refine n_callVi F cb_X1_part lm_RX5_102 ob_3 (by decide) ⟨_, _, rfl⟩ (ct_La_part (fx_ok F) (fx_sd F) (fx_ix F rfl) w (w.1 13 5) (4 : Int32) hq4) rfl rfl (Nat.le_of_ble_eq_true rfl) ⟨Nat.le_of_ble_eq_true rfl, Nat.le_of_ble_eq_true rfl⟩ dX5_moveHim_56 ?_
  refine n_iconst F (2 : Int32) dX5_moveHim_59 (by decide) ?_
  refine n_icmp_ne F 67 dX5_moveHim_60 (by decide) (fun e5 => ?_) (fun e5 => ?_)
  · rw [if_neg e5]
    refine n_iconst F (0 : Int32) dX5_moveHim_67 (by decide) ?_
    exact n_sub [0] rfl (Sc_moveHim_B68_ok F _ _)
  rw [if_pos e5]
  refine n_iconst F (1 : Int32) dX5_moveHim_63 (by decide) ?_
  refine n_goto F 68 dX5_moveHim_64 (by decide) ?_
  exact n_sub [0] rfl (Sc_moveHim_B68_ok F _ _)
def Sc_moveHim (w : Wd) : Option Wd := (if ((sI w 13 3 (0 : Int32)).1 13 5) = (-1 : Int32) then some (sI w 13 3 (0 : Int32)) else (Option.bind (La_part (sI w 13 3 (0 : Int32)) ((sI w 13 3 (0 : Int32)).1 13 5) (5 : Int32)) (fun q2 => (if (Nt_within (sI w 13 3 (0 : Int32)) q2 (0 : Int32) (2 : Int32)) = (0 : Int32) then (Sc_moveHim_B46 (sI w 13 3 (0 : Int32))) else (if ib q2 3 = true then (if ib q2 3 = true then (Sc_moveHim_B46 (sI (sI w 13 3 (0 : Int32)) 14 (Int32.toNatClampNeg q2) (((sI w 13 3 (0 : Int32)).1 14 (Int32.toNatClampNeg q2)) - (1 : Int32)))) else none) else none)))))
set_option maxRecDepth 100000 in
set_option maxHeartbeats 4000000 in
theorem ct_Sc_moveHim {l : Launch} {g : GG} {σ : Sd} (hg : OKg g σ) (hb : σ.2.1 = true) (hx : ∀ c ∈ ([3, 4, 13, 14] : List Nat), c ∈ σ.1) (w : Wd) {q : Wd} (hq : Sc_moveHim w = some q) : CT l g σ yX5_moveHim cX5_moveHim 2 none 1 23 [.ref (gA g 13)] w none q := by
  refine ct_of (rt := rtV) (res := Sc_moveHim w) (q := q) (own := RX5) (b := true) hg hb hx (by decide) rfl (Nat.le_of_ble_eq_true rfl) hq (fun K e1 e2 e3 F => ?_)
  subst e1 e2 e3
  rw [Sc_moveHim]
  show N K _ _ w 0 [(0, .ref (gA (cg K) 13))] []
  refine n_aload_n F dX5_moveHim_0 rfl 0 rfl ?_
  refine n_iconst F (0 : Int32) dX5_moveHim_1 (by decide) ?_
  refine n_put F ck_5 lf_RX5_40 (by decide) rfl fp_13_3 (by decide) rfl rfl dX5_moveHim_2 ?_
  refine n_aload_n F dX5_moveHim_5 rfl 0 rfl ?_
  refine n_get F ck_5 lf_RX5_71 (by decide) fg_13_5 (by decide) dX5_moveHim_6 ?_
  refine n_iconst F (-1 : Int32) dX5_moveHim_9 (by decide) ?_
  refine n_icmp_ne F 14 dX5_moveHim_10 (by decide) (fun e1 => ?_) (fun e1 => ?_)
  · rw [if_neg e1]
    refine n_aload_n F dX5_moveHim_14 rfl 0 rfl ?_
    refine n_get F ck_5 lf_RX5_21 (by decide) fg_13_0 (by decide) dX5_moveHim_15 ?_
    refine n_aload_n F dX5_moveHim_18 rfl 0 rfl ?_
    refine n_get F ck_5 lf_RX5_71 (by decide) fg_13_5 (by decide) dX5_moveHim_19 ?_
    refine n_iconst F (5 : Int32) dX5_moveHim_22 (by decide) ?_
    refine n_bind (fun q2 hq2 => ?_)
    refine n_callVi F cb_X1_part lm_RX5_102 ob_3 (by decide) ⟨_, _, rfl⟩ (ct_La_part (fx_ok F) (fx_sd F) (fx_ix F rfl) (sI w 13 3 (0 : Int32)) ((sI w 13 3 (0 : Int32)).1 13 5) (5 : Int32) hq2) rfl rfl (Nat.le_of_ble_eq_true rfl) ⟨Nat.le_of_ble_eq_true rfl, Nat.le_of_ble_eq_true rfl⟩ dX5_moveHim_23 ?_
    refine n_istore_n F (lv' := [(1, .int q2), (0, .ref (gA (cg K) 13))]) dX5_moveHim_26 rfl (by decide) rfl ?_
    refine n_iload_n F dX5_moveHim_27 rfl 0 rfl ?_
    refine n_iconst F (0 : Int32) dX5_moveHim_28 (by decide) ?_
    refine n_iconst F (2 : Int32) dX5_moveHim_29 (by decide) ?_
    refine n_callSNi F cb_X7_within lm_RX5_80 (ct_Nt_within (fx_ok F) (fx_sd F) (fx_ix F rfl) (sI w 13 3 (0 : Int32)) q2 (0 : Int32) (2 : Int32)) rfl rfl (Nat.le_of_ble_eq_true rfl) ⟨Nat.le_of_ble_eq_true rfl, Nat.le_of_ble_eq_true rfl⟩ dX5_moveHim_30 ?_
    refine n_if_eq F 46 dX5_moveHim_33 (by decide) (fun e3 => ?_) (fun e3 => ?_)
    · rw [if_pos e3]
      exact n_sub [1] rfl (Sc_moveHim_B46_ok F _)
    rw [if_neg e3]
    refine n_aload_n F dX5_moveHim_36 rfl 1 rfl ?_
    refine n_get F ck_5 lf_RX5_9 (by decide) fg_13_6 (by decide) dX5_moveHim_37 ?_
    refine n_iload_n F dX5_moveHim_40 rfl 0 rfl ?_
    refine n_dup2 F dX5_moveHim_41 rfl rfl ?_
    refine n_chk (fun e8 => ?_)
    refine n_iald F ar_14 (by decide) (ib_in e8) rfl dX5_moveHim_42 ?_
    refine n_iconst F (1 : Int32) dX5_moveHim_43 (by decide) ?_
    refine n_isub F dX5_moveHim_44 ?_
    refine n_chk (fun e9 => ?_)
    refine n_iast F ar_14 (by decide) (ib_in e9) rfl dX5_moveHim_45 ?_
    exact n_sub [1] rfl (Sc_moveHim_B46_ok F _)
  rw [if_pos e1]
  exact n_vret F rfl rfl dX5_moveHim_13
theorem dX5_learnPlaces_0 : decode cX5_learnPlaces 0 = .ok (.aload_n 0, 1) := by decide +kernel
theorem dX5_learnPlaces_1 : decode cX5_learnPlaces 1 = .ok (.getfield 21, 3) := by decide +kernel
theorem dX5_learnPlaces_4 : decode cX5_learnPlaces 4 = .ok (.getfield 129, 3) := by decide +kernel
theorem dX5_learnPlaces_7 : decode cX5_learnPlaces 7 = .ok (.ifCond .le 22, 3) := by decide +kernel
theorem dX5_learnPlaces_10 : decode cX5_learnPlaces 10 = .ok (.aload_n 0, 1) := by decide +kernel
theorem dX5_learnPlaces_11 : decode cX5_learnPlaces 11 = .ok (.getfield 28, 3) := by decide +kernel
theorem dX5_learnPlaces_14 : decode cX5_learnPlaces 14 = .ok (.aload_n 0, 1) := by decide +kernel
theorem dX5_learnPlaces_15 : decode cX5_learnPlaces 15 = .ok (.getfield 21, 3) := by decide +kernel
theorem dX5_learnPlaces_18 : decode cX5_learnPlaces 18 = .ok (.getfield 129, 3) := by decide +kernel
theorem dX5_learnPlaces_21 : decode cX5_learnPlaces 21 = .ok (.irem, 1) := by decide +kernel
theorem dX5_learnPlaces_22 : decode cX5_learnPlaces 22 = .ok (.ifCond .ne 7, 3) := by decide +kernel
theorem dX5_learnPlaces_25 : decode cX5_learnPlaces 25 = .ok (.iconst 1, 1) := by decide +kernel
theorem dX5_learnPlaces_26 : decode cX5_learnPlaces 26 = .ok (.goto 4, 3) := by decide +kernel
theorem dX5_learnPlaces_29 : decode cX5_learnPlaces 29 = .ok (.iconst 0, 1) := by decide +kernel
theorem dX5_learnPlaces_30 : decode cX5_learnPlaces 30 = .ok (.istore_n 1, 1) := by decide +kernel
theorem dX5_learnPlaces_31 : decode cX5_learnPlaces 31 = .ok (.aload_n 0, 1) := by decide +kernel
theorem dX5_learnPlaces_32 : decode cX5_learnPlaces 32 = .ok (.getfield 59, 3) := by decide +kernel
theorem dX5_learnPlaces_35 : decode cX5_learnPlaces 35 = .ok (.ifCond .ne 7, 3) := by decide +kernel
theorem dX5_learnPlaces_38 : decode cX5_learnPlaces 38 = .ok (.iload_n 1, 1) := by decide +kernel
theorem dX5_learnPlaces_39 : decode cX5_learnPlaces 39 = .ok (.ifCond .eq 46, 3) := by decide +kernel
theorem dX5_learnPlaces_42 : decode cX5_learnPlaces 42 = .ok (.aload_n 0, 1) := by decide +kernel
theorem dX5_learnPlaces_43 : decode cX5_learnPlaces 43 = .ok (.aload_n 0, 1) := by decide +kernel
theorem dX5_learnPlaces_44 : decode cX5_learnPlaces 44 = .ok (.getfield 40, 3) := by decide +kernel
theorem dX5_learnPlaces_47 : decode cX5_learnPlaces 47 = .ok (.ifCond .eq 7, 3) := by decide +kernel
theorem dX5_learnPlaces_50 : decode cX5_learnPlaces 50 = .ok (.iconst 0, 1) := by decide +kernel
theorem dX5_learnPlaces_51 : decode cX5_learnPlaces 51 = .ok (.goto 9, 3) := by decide +kernel
theorem dX5_learnPlaces_54 : decode cX5_learnPlaces 54 = .ok (.iconst 1, 1) := by decide +kernel
theorem dX5_learnPlaces_55 : decode cX5_learnPlaces 55 = .ok (.aload_n 0, 1) := by decide +kernel
theorem dX5_learnPlaces_56 : decode cX5_learnPlaces 56 = .ok (.getfield 37, 3) := by decide +kernel
theorem dX5_learnPlaces_59 : decode cX5_learnPlaces 59 = .ok (.ishl, 1) := by decide +kernel
theorem dX5_learnPlaces_60 : decode cX5_learnPlaces 60 = .ok (.putfield 62, 3) := by decide +kernel
theorem dX5_learnPlaces_63 : decode cX5_learnPlaces 63 = .ok (.aload_n 0, 1) := by decide +kernel
theorem dX5_learnPlaces_64 : decode cX5_learnPlaces 64 = .ok (.aload_n 0, 1) := by decide +kernel
theorem dX5_learnPlaces_65 : decode cX5_learnPlaces 65 = .ok (.getfield 40, 3) := by decide +kernel
theorem dX5_learnPlaces_68 : decode cX5_learnPlaces 68 = .ok (.ifCond .eq 12, 3) := by decide +kernel
theorem dX5_learnPlaces_71 : decode cX5_learnPlaces 71 = .ok (.iconst 1, 1) := by decide +kernel
theorem dX5_learnPlaces_72 : decode cX5_learnPlaces 72 = .ok (.aload_n 0, 1) := by decide +kernel
theorem dX5_learnPlaces_73 : decode cX5_learnPlaces 73 = .ok (.getfield 37, 3) := by decide +kernel
theorem dX5_learnPlaces_76 : decode cX5_learnPlaces 76 = .ok (.ishl, 1) := by decide +kernel
theorem dX5_learnPlaces_77 : decode cX5_learnPlaces 77 = .ok (.goto 4, 3) := by decide +kernel
theorem dX5_learnPlaces_80 : decode cX5_learnPlaces 80 = .ok (.iconst 0, 1) := by decide +kernel
theorem dX5_learnPlaces_81 : decode cX5_learnPlaces 81 = .ok (.putfield 65, 3) := by decide +kernel
theorem dX5_learnPlaces_84 : decode cX5_learnPlaces 84 = .ok (.return_, 1) := by decide +kernel
theorem dX5_learnPlaces_85 : decode cX5_learnPlaces 85 = .ok (.iconst 0, 1) := by decide +kernel
theorem dX5_learnPlaces_86 : decode cX5_learnPlaces 86 = .ok (.istore_n 2, 1) := by decide +kernel
theorem dX5_learnPlaces_87 : decode cX5_learnPlaces 87 = .ok (.iload_n 2, 1) := by decide +kernel
theorem dX5_learnPlaces_88 : decode cX5_learnPlaces 88 = .ok (.iconst 2, 1) := by decide +kernel
theorem dX5_learnPlaces_89 : decode cX5_learnPlaces 89 = .ok (.if_icmp .ge 38, 3) := by decide +kernel
theorem dX5_learnPlaces_92 : decode cX5_learnPlaces 92 = .ok (.aload_n 0, 1) := by decide +kernel
theorem dX5_learnPlaces_93 : decode cX5_learnPlaces 93 = .ok (.getfield 15, 3) := by decide +kernel
theorem dX5_learnPlaces_96 : decode cX5_learnPlaces 96 = .ok (.iload_n 2, 1) := by decide +kernel
theorem dX5_learnPlaces_97 : decode cX5_learnPlaces 97 = .ok (.iaload, 1) := by decide +kernel
theorem dX5_learnPlaces_98 : decode cX5_learnPlaces 98 = .ok (.iconst (-1), 1) := by decide +kernel
theorem dX5_learnPlaces_99 : decode cX5_learnPlaces 99 = .ok (.if_icmp .eq 22, 3) := by decide +kernel
theorem dX5_learnPlaces_102 : decode cX5_learnPlaces 102 = .ok (.aload_n 0, 1) := by decide +kernel
theorem dX5_learnPlaces_103 : decode cX5_learnPlaces 103 = .ok (.dup, 1) := by decide +kernel
theorem dX5_learnPlaces_104 : decode cX5_learnPlaces 104 = .ok (.getfield 62, 3) := by decide +kernel
theorem dX5_learnPlaces_107 : decode cX5_learnPlaces 107 = .ok (.iconst 1, 1) := by decide +kernel
theorem dX5_learnPlaces_108 : decode cX5_learnPlaces 108 = .ok (.aload_n 0, 1) := by decide +kernel
theorem dX5_learnPlaces_109 : decode cX5_learnPlaces 109 = .ok (.getfield 15, 3) := by decide +kernel
theorem dX5_learnPlaces_112 : decode cX5_learnPlaces 112 = .ok (.iload_n 2, 1) := by decide +kernel
theorem dX5_learnPlaces_113 : decode cX5_learnPlaces 113 = .ok (.iaload, 1) := by decide +kernel
theorem dX5_learnPlaces_114 : decode cX5_learnPlaces 114 = .ok (.ishl, 1) := by decide +kernel
theorem dX5_learnPlaces_115 : decode cX5_learnPlaces 115 = .ok (.iconst (-1), 1) := by decide +kernel
theorem dX5_learnPlaces_116 : decode cX5_learnPlaces 116 = .ok (.ixor, 1) := by decide +kernel
theorem dX5_learnPlaces_117 : decode cX5_learnPlaces 117 = .ok (.iand, 1) := by decide +kernel
theorem dX5_learnPlaces_118 : decode cX5_learnPlaces 118 = .ok (.putfield 62, 3) := by decide +kernel
theorem dX5_learnPlaces_121 : decode cX5_learnPlaces 121 = .ok (.iinc 2 1, 3) := by decide +kernel
theorem dX5_learnPlaces_124 : decode cX5_learnPlaces 124 = .ok (.goto (-37), 3) := by decide +kernel
theorem dX5_learnPlaces_127 : decode cX5_learnPlaces 127 = .ok (.return_, 1) := by decide +kernel
def Sc_learnPlaces_B60 (w : Wd) (s0 : Int32) : Option Wd := (if ((sI w 13 9 s0).1 13 3) = (0 : Int32) then some (sI (sI w 13 9 s0) 13 10 (0 : Int32)) else some (sI (sI w 13 9 s0) 13 10 ((1 : Int32) <<< (((sI w 13 9 s0).1 13 2) &&& (31 : Int32)))))
set_option maxRecDepth 100000 in
set_option maxHeartbeats 4000000 in
theorem Sc_learnPlaces_B60_ok {K : Ctx} (F : Fx K cX5_learnPlaces 3 RX5 none 0 0 true [3, 13, 15]) (w : Wd) (s0 : Int32) : N K rtV (Sc_learnPlaces_B60 w s0) w 60 [(0, .ref (gA (cg K) 13))] [.int s0, .ref (gA (cg K) 13)] := by
  rw [Sc_learnPlaces_B60]
  refine n_put F ck_5 lf_RX5_62 (by decide) rfl fp_13_9 (by decide) rfl rfl dX5_learnPlaces_60 ?_
  refine n_aload_n F dX5_learnPlaces_63 rfl 0 rfl ?_
  refine n_aload_n F dX5_learnPlaces_64 rfl 0 rfl ?_
  refine n_get F ck_5 lf_RX5_40 (by decide) fg_13_3 (by decide) dX5_learnPlaces_65 ?_
  refine n_if_eq F 80 dX5_learnPlaces_68 (by decide) (fun e4 => ?_) (fun e4 => ?_)
  · rw [if_pos e4]
    refine n_iconst F (0 : Int32) dX5_learnPlaces_80 (by decide) ?_
    refine n_put F ck_5 lf_RX5_65 (by decide) rfl fp_13_10 (by decide) rfl rfl dX5_learnPlaces_81 ?_
    exact n_vret F rfl rfl dX5_learnPlaces_84
  rw [if_neg e4]
  refine n_iconst F (1 : Int32) dX5_learnPlaces_71 (by decide) ?_
  refine n_aload_n F dX5_learnPlaces_72 rfl 0 rfl ?_
  refine n_get F ck_5 lf_RX5_37 (by decide) fg_13_2 (by decide) dX5_learnPlaces_73 ?_
  refine n_ishl F dX5_learnPlaces_76 ?_
  refine n_goto F 81 dX5_learnPlaces_77 (by decide) ?_
  refine n_put F ck_5 lf_RX5_65 (by decide) rfl fp_13_10 (by decide) rfl rfl dX5_learnPlaces_81 ?_
  exact n_vret F rfl rfl dX5_learnPlaces_84
def Sc_learnPlaces_B42 (w : Wd) : Option Wd := (Sc_learnPlaces_B60 w (if (w.1 13 3) = (0 : Int32) then ((1 : Int32) <<< ((w.1 13 2) &&& (31 : Int32))) else (0 : Int32)))
set_option maxRecDepth 100000 in
set_option maxHeartbeats 4000000 in
theorem Sc_learnPlaces_B42_ok {K : Ctx} (F : Fx K cX5_learnPlaces 3 RX5 none 0 0 true [3, 13, 15]) (w : Wd) : N K rtV (Sc_learnPlaces_B42 w) w 42 [(0, .ref (gA (cg K) 13))] [] := by
  rw [Sc_learnPlaces_B42]
  refine n_aload_n F dX5_learnPlaces_42 rfl 0 rfl ?_
  refine n_aload_n F dX5_learnPlaces_43 rfl 0 rfl ?_
  refine n_get F ck_5 lf_RX5_40 (by decide) fg_13_3 (by decide) dX5_learnPlaces_44 ?_
  refine n_if_eq F 54 dX5_learnPlaces_47 (by decide) (fun e3 => ?_) (fun e3 => ?_)
  · rw [if_pos e3]
    refine n_iconst F (1 : Int32) dX5_learnPlaces_54 (by decide) ?_
    refine n_aload_n F dX5_learnPlaces_55 rfl 0 rfl ?_
    refine n_get F ck_5 lf_RX5_37 (by decide) fg_13_2 (by decide) dX5_learnPlaces_56 ?_
    refine n_ishl F dX5_learnPlaces_59 ?_
    exact n_sub [0] rfl (Sc_learnPlaces_B60_ok F _ _)
  rw [if_neg e3]
  refine n_iconst F (0 : Int32) dX5_learnPlaces_50 (by decide) ?_
  refine n_goto F 60 dX5_learnPlaces_51 (by decide) ?_
  exact n_sub [0] rfl (Sc_learnPlaces_B60_ok F _ _)
def Sc_learnPlaces_L87 (k127 : Wd → Option Wd) : Nat → Wd → Int32 → Option Wd
  | 0, _, _ => none
  | n + 1, w, v2 => (if (2 : Int32) ≤ v2 then (k127 w) else (if ib v2 2 = true then (if (w.1 15 (Int32.toNatClampNeg v2)) = (-1 : Int32) then (Sc_learnPlaces_L87 k127 n w (v2 + (1 : Int32))) else (if ib v2 2 = true then (Sc_learnPlaces_L87 k127 n (sI w 13 9 ((w.1 13 9) &&& (((1 : Int32) <<< ((w.1 15 (Int32.toNatClampNeg v2)) &&& (31 : Int32))) ^^^ (-1 : Int32)))) (v2 + (1 : Int32))) else none)) else none))
set_option maxRecDepth 100000 in
set_option maxHeartbeats 4000000 in
theorem Sc_learnPlaces_L87_ok {K : Ctx} (F : Fx K cX5_learnPlaces 3 RX5 none 0 0 true [3, 13, 15]) {k127 : Wd → Option Wd} (h127 : ∀ (w : Wd), N K rtV (k127 w) w 127 [] []) : ∀ (n : Nat) (w : Wd) (v2 : Int32), N K rtV (Sc_learnPlaces_L87 k127 n w v2) w 87 [(0, .ref (gA (cg K) 13)), (2, .int v2)] [] := by
  intro n
  induction n with
  | zero => intro _ _; exact n_none
  | succ n ih =>
    intro w v2
    rw [Sc_learnPlaces_L87]
    refine n_iload_n F dX5_learnPlaces_87 rfl 1 rfl ?_
    refine n_iconst F (2 : Int32) dX5_learnPlaces_88 (by decide) ?_
    refine n_icmp_ge F 127 dX5_learnPlaces_89 (by decide) (fun e6 => ?_) (fun e6 => ?_)
    · rw [if_pos e6]
      exact n_sub [] rfl (h127 _)
    rw [if_neg e6]
    refine n_aload_n F dX5_learnPlaces_92 rfl 0 rfl ?_
    refine n_get F ck_5 lf_RX5_15 (by decide) fg_13_7 (by decide) dX5_learnPlaces_93 ?_
    refine n_iload_n F dX5_learnPlaces_96 rfl 1 rfl ?_
    refine n_chk (fun e7 => ?_)
    refine n_iald F ar_15 (by decide) (ib_in e7) rfl dX5_learnPlaces_97 ?_
    refine n_iconst F (-1 : Int32) dX5_learnPlaces_98 (by decide) ?_
    refine n_icmp_eq F 121 dX5_learnPlaces_99 (by decide) (fun e8 => ?_) (fun e8 => ?_)
    · rw [if_pos e8]
      refine n_iinc F (v2 + (1 : Int32)) (lv' := [(2, .int (v2 + (1 : Int32))), (0, .ref (gA (cg K) 13))]) dX5_learnPlaces_121 1 rfl rfl (by decide) rfl ?_
      refine n_goto F 87 dX5_learnPlaces_124 (by decide) ?_
      exact n_sub [1, 0] rfl (ih _ _)
    rw [if_neg e8]
    refine n_aload_n F dX5_learnPlaces_102 rfl 0 rfl ?_
    refine n_dup F dX5_learnPlaces_103 rfl ?_
    refine n_get F ck_5 lf_RX5_62 (by decide) fg_13_9 (by decide) dX5_learnPlaces_104 ?_
    refine n_iconst F (1 : Int32) dX5_learnPlaces_107 (by decide) ?_
    refine n_aload_n F dX5_learnPlaces_108 rfl 0 rfl ?_
    refine n_get F ck_5 lf_RX5_15 (by decide) fg_13_7 (by decide) dX5_learnPlaces_109 ?_
    refine n_iload_n F dX5_learnPlaces_112 rfl 1 rfl ?_
    refine n_chk (fun e9 => ?_)
    refine n_iald F ar_15 (by decide) (ib_in e9) rfl dX5_learnPlaces_113 ?_
    refine n_ishl F dX5_learnPlaces_114 ?_
    refine n_iconst F (-1 : Int32) dX5_learnPlaces_115 (by decide) ?_
    refine n_ixor F dX5_learnPlaces_116 ?_
    refine n_iand F dX5_learnPlaces_117 ?_
    refine n_put F ck_5 lf_RX5_62 (by decide) rfl fp_13_9 (by decide) rfl rfl dX5_learnPlaces_118 ?_
    refine n_iinc F (v2 + (1 : Int32)) (lv' := [(2, .int (v2 + (1 : Int32))), (0, .ref (gA (cg K) 13))]) dX5_learnPlaces_121 1 rfl rfl (by decide) rfl ?_
    refine n_goto F 87 dX5_learnPlaces_124 (by decide) ?_
    exact n_sub [1, 0] rfl (ih _ _)
def Sc_learnPlaces_B127 (w : Wd) : Option Wd := some w
set_option maxRecDepth 100000 in
set_option maxHeartbeats 4000000 in
theorem Sc_learnPlaces_B127_ok {K : Ctx} (F : Fx K cX5_learnPlaces 3 RX5 none 0 0 true [3, 13, 15]) (w : Wd) : N K rtV (Sc_learnPlaces_B127 w) w 127 [] [] := by
  rw [Sc_learnPlaces_B127]
  exact n_vret F rfl rfl dX5_learnPlaces_127
def Sc_learnPlaces_B30 (w : Wd) (s0 : Int32) : Option Wd := (if (w.1 13 4) = (0 : Int32) then (if s0 = (0 : Int32) then (Sc_learnPlaces_L87 Sc_learnPlaces_B127 FU w (0 : Int32)) else (Sc_learnPlaces_B42 w)) else (Sc_learnPlaces_B42 w))
set_option maxRecDepth 100000 in
set_option maxHeartbeats 4000000 in
theorem Sc_learnPlaces_B30_ok {K : Ctx} (F : Fx K cX5_learnPlaces 3 RX5 none 0 0 true [3, 13, 15]) (w : Wd) (s0 : Int32) : N K rtV (Sc_learnPlaces_B30 w s0) w 30 [(0, .ref (gA (cg K) 13))] [.int s0] := by
  rw [Sc_learnPlaces_B30]
  refine n_istore_n F (lv' := [(1, .int s0), (0, .ref (gA (cg K) 13))]) dX5_learnPlaces_30 rfl (by decide) rfl ?_
  refine n_aload_n F dX5_learnPlaces_31 rfl 1 rfl ?_
  refine n_get F ck_5 lf_RX5_59 (by decide) fg_13_4 (by decide) dX5_learnPlaces_32 ?_
  refine n_if_ne F 42 dX5_learnPlaces_35 (by decide) (fun e2 => ?_) (fun e2 => ?_)
  · rw [if_neg e2]
    exact n_sub [1] rfl (Sc_learnPlaces_B42_ok F _)
  rw [if_pos e2]
  refine n_iload_n F dX5_learnPlaces_38 rfl 0 rfl ?_
  refine n_if_eq F 85 dX5_learnPlaces_39 (by decide) (fun e5 => ?_) (fun e5 => ?_)
  · rw [if_pos e5]
    refine n_iconst F (0 : Int32) dX5_learnPlaces_85 (by decide) ?_
    refine n_istore_n F (lv' := [(2, .int (0 : Int32)), (1, .int s0), (0, .ref (gA (cg K) 13))]) dX5_learnPlaces_86 rfl (by decide) rfl ?_
    exact n_sub [2, 0] rfl (Sc_learnPlaces_L87_ok F (Sc_learnPlaces_B127_ok F) FU _ _)
  rw [if_neg e5]
  exact n_sub [1] rfl (Sc_learnPlaces_B42_ok F _)
def Sc_learnPlaces (w : Wd) : Option Wd := (if (w.1 3 3) ≤ (0 : Int32) then (Sc_learnPlaces_B30 w (0 : Int32)) else (if ¬ (w.1 3 3) = (0 : Int32) then (Sc_learnPlaces_B30 w (if ((w.1 13 1) - (w.1 13 1) / (w.1 3 3) * (w.1 3 3)) = (0 : Int32) then (1 : Int32) else (0 : Int32))) else none))
set_option maxRecDepth 100000 in
set_option maxHeartbeats 4000000 in
theorem ct_Sc_learnPlaces {l : Launch} {g : GG} {σ : Sd} (hg : OKg g σ) (hb : σ.2.1 = true) (hx : ∀ c ∈ ([3, 13, 15] : List Nat), c ∈ σ.1) (w : Wd) {q : Wd} (hq : Sc_learnPlaces w = some q) : CT l g σ yX5_learnPlaces cX5_learnPlaces 3 none 0 0 [.ref (gA g 13)] w none q := by
  refine ct_of (rt := rtV) (res := Sc_learnPlaces w) (q := q) (own := RX5) (b := true) hg hb hx (by decide) rfl (Nat.le_of_ble_eq_true rfl) hq (fun K e1 e2 e3 F => ?_)
  subst e1 e2 e3
  rw [Sc_learnPlaces]
  show N K _ _ w 0 [(0, .ref (gA (cg K) 13))] []
  refine n_aload_n F dX5_learnPlaces_0 rfl 0 rfl ?_
  refine n_get F ck_5 lf_RX5_21 (by decide) fg_13_0 (by decide) dX5_learnPlaces_1 ?_
  refine n_get F ck_1 lf_RX5_129 (by decide) fg_3_3 (by decide) dX5_learnPlaces_4 ?_
  refine n_if_le F 29 dX5_learnPlaces_7 (by decide) (fun e1 => ?_) (fun e1 => ?_)
  · rw [if_pos e1]
    refine n_iconst F (0 : Int32) dX5_learnPlaces_29 (by decide) ?_
    exact n_sub [0] rfl (Sc_learnPlaces_B30_ok F _ _)
  rw [if_neg e1]
  refine n_aload_n F dX5_learnPlaces_10 rfl 0 rfl ?_
  refine n_get F ck_5 lf_RX5_28 (by decide) fg_13_1 (by decide) dX5_learnPlaces_11 ?_
  refine n_aload_n F dX5_learnPlaces_14 rfl 0 rfl ?_
  refine n_get F ck_5 lf_RX5_21 (by decide) fg_13_0 (by decide) dX5_learnPlaces_15 ?_
  refine n_get F ck_1 lf_RX5_129 (by decide) fg_3_3 (by decide) dX5_learnPlaces_18 ?_
  refine n_chk (fun e10 => ?_)
  refine n_irem F dX5_learnPlaces_21 e10 ?_
  refine n_if_ne F 29 dX5_learnPlaces_22 (by decide) (fun e11 => ?_) (fun e11 => ?_)
  · rw [if_neg e11]
    refine n_iconst F (0 : Int32) dX5_learnPlaces_29 (by decide) ?_
    exact n_sub [0] rfl (Sc_learnPlaces_B30_ok F _ _)
  rw [if_pos e11]
  refine n_iconst F (1 : Int32) dX5_learnPlaces_25 (by decide) ?_
  refine n_goto F 30 dX5_learnPlaces_26 (by decide) ?_
  exact n_sub [0] rfl (Sc_learnPlaces_B30_ok F _ _)
theorem dX5_advance_0 : decode cX5_advance 0 = .ok (.aload_n 0, 1) := by decide +kernel
theorem dX5_advance_1 : decode cX5_advance 1 = .ok (.aload_n 0, 1) := by decide +kernel
theorem dX5_advance_2 : decode cX5_advance 2 = .ok (.invokevirtual 113, 3) := by decide +kernel
theorem dX5_advance_5 : decode cX5_advance 5 = .ok (.putfield 68, 3) := by decide +kernel
theorem dX5_advance_8 : decode cX5_advance 8 = .ok (.aload_n 0, 1) := by decide +kernel
theorem dX5_advance_9 : decode cX5_advance 9 = .ok (.invokevirtual 116, 3) := by decide +kernel
theorem dX5_advance_12 : decode cX5_advance 12 = .ok (.aload_n 0, 1) := by decide +kernel
theorem dX5_advance_13 : decode cX5_advance 13 = .ok (.invokevirtual 119, 3) := by decide +kernel
theorem dX5_advance_16 : decode cX5_advance 16 = .ok (.iconst 0, 1) := by decide +kernel
theorem dX5_advance_17 : decode cX5_advance 17 = .ok (.istore_n 1, 1) := by decide +kernel
theorem dX5_advance_18 : decode cX5_advance 18 = .ok (.iload_n 1, 1) := by decide +kernel
theorem dX5_advance_19 : decode cX5_advance 19 = .ok (.iconst 2, 1) := by decide +kernel
theorem dX5_advance_20 : decode cX5_advance 20 = .ok (.if_icmp .ge 20, 3) := by decide +kernel
theorem dX5_advance_23 : decode cX5_advance 23 = .ok (.aload_n 0, 1) := by decide +kernel
theorem dX5_advance_24 : decode cX5_advance 24 = .ok (.getfield 15, 3) := by decide +kernel
theorem dX5_advance_27 : decode cX5_advance 27 = .ok (.iload_n 1, 1) := by decide +kernel
theorem dX5_advance_28 : decode cX5_advance 28 = .ok (.aload_n 0, 1) := by decide +kernel
theorem dX5_advance_29 : decode cX5_advance 29 = .ok (.iload_n 1, 1) := by decide +kernel
theorem dX5_advance_30 : decode cX5_advance 30 = .ok (.invokevirtual 122, 3) := by decide +kernel
theorem dX5_advance_33 : decode cX5_advance 33 = .ok (.iastore, 1) := by decide +kernel
theorem dX5_advance_34 : decode cX5_advance 34 = .ok (.iinc 1 1, 3) := by decide +kernel
theorem dX5_advance_37 : decode cX5_advance 37 = .ok (.goto (-19), 3) := by decide +kernel
theorem dX5_advance_40 : decode cX5_advance 40 = .ok (.aload_n 0, 1) := by decide +kernel
theorem dX5_advance_41 : decode cX5_advance 41 = .ok (.dup, 1) := by decide +kernel
theorem dX5_advance_42 : decode cX5_advance 42 = .ok (.getfield 28, 3) := by decide +kernel
theorem dX5_advance_45 : decode cX5_advance 45 = .ok (.iconst 1, 1) := by decide +kernel
theorem dX5_advance_46 : decode cX5_advance 46 = .ok (.iadd, 1) := by decide +kernel
theorem dX5_advance_47 : decode cX5_advance 47 = .ok (.putfield 28, 3) := by decide +kernel
theorem dX5_advance_50 : decode cX5_advance 50 = .ok (.aload_n 0, 1) := by decide +kernel
theorem dX5_advance_51 : decode cX5_advance 51 = .ok (.invokevirtual 52, 3) := by decide +kernel
theorem dX5_advance_54 : decode cX5_advance 54 = .ok (.aload_n 0, 1) := by decide +kernel
theorem dX5_advance_55 : decode cX5_advance 55 = .ok (.aload_n 0, 1) := by decide +kernel
theorem dX5_advance_56 : decode cX5_advance 56 = .ok (.invokevirtual 55, 3) := by decide +kernel
theorem dX5_advance_59 : decode cX5_advance 59 = .ok (.putfield 59, 3) := by decide +kernel
theorem dX5_advance_62 : decode cX5_advance 62 = .ok (.aload_n 0, 1) := by decide +kernel
theorem dX5_advance_63 : decode cX5_advance 63 = .ok (.invokevirtual 126, 3) := by decide +kernel
theorem dX5_advance_66 : decode cX5_advance 66 = .ok (.return_, 1) := by decide +kernel
def Sc_advance_L18 (k40 : Wd → Option Wd) : Nat → Wd → Int32 → Option Wd
  | 0, _, _ => none
  | n + 1, w, v1 => (if (2 : Int32) ≤ v1 then (k40 w) else (Option.bind (Sc_placeBehind w v1) (fun q5 => (if ib v1 2 = true then (Sc_advance_L18 k40 n (sI w 15 (Int32.toNatClampNeg v1) q5) (v1 + (1 : Int32))) else none))))
set_option maxRecDepth 100000 in
set_option maxHeartbeats 4000000 in
theorem Sc_advance_L18_ok {K : Ctx} (F : Fx K cX5_advance 2 RX5 none 4 93 true [3, 4, 13, 14, 15, 16]) {k40 : Wd → Option Wd} (h40 : ∀ (w : Wd), N K rtV (k40 w) w 40 [(0, .ref (gA (cg K) 13))] []) : ∀ (n : Nat) (w : Wd) (v1 : Int32), N K rtV (Sc_advance_L18 k40 n w v1) w 18 [(0, .ref (gA (cg K) 13)), (1, .int v1)] [] := by
  intro n
  induction n with
  | zero => intro _ _; exact n_none
  | succ n ih =>
    intro w v1
    rw [Sc_advance_L18]
    refine n_iload_n F dX5_advance_18 rfl 1 rfl ?_
    refine n_iconst F (2 : Int32) dX5_advance_19 (by decide) ?_
    refine n_icmp_ge F 40 dX5_advance_20 (by decide) (fun e4 => ?_) (fun e4 => ?_)
    · rw [if_pos e4]
      exact n_sub [0] rfl (h40 _)
    rw [if_neg e4]
    refine n_aload_n F dX5_advance_23 rfl 0 rfl ?_
    refine n_get F ck_5 lf_RX5_15 (by decide) fg_13_7 (by decide) dX5_advance_24 ?_
    refine n_iload_n F dX5_advance_27 rfl 1 rfl ?_
    refine n_aload_n F dX5_advance_28 rfl 0 rfl ?_
    refine n_iload_n F dX5_advance_29 rfl 1 rfl ?_
    refine n_bind (fun q5 hq5 => ?_)
    refine n_callVi F cb_X5_placeBehind lm_RX5_122 ob_13 (by decide) ⟨_, _, rfl⟩ (ct_Sc_placeBehind (fx_ok F) (fx_sd F) (fx_ix F rfl) w v1 hq5) rfl rfl (Nat.le_of_ble_eq_true rfl) ⟨Nat.le_of_ble_eq_true rfl, Nat.le_of_ble_eq_true rfl⟩ dX5_advance_30 ?_
    refine n_chk (fun e6 => ?_)
    refine n_iast F ar_15 (by decide) (ib_in e6) rfl dX5_advance_33 ?_
    refine n_iinc F (v1 + (1 : Int32)) (lv' := [(1, .int (v1 + (1 : Int32))), (0, .ref (gA (cg K) 13))]) dX5_advance_34 1 rfl rfl (by decide) rfl ?_
    refine n_goto F 18 dX5_advance_37 (by decide) ?_
    exact n_sub [1, 0] rfl (ih _ _)
def Sc_advance_B40 (w : Wd) : Option Wd := (Option.bind (Sc_forgetToday (sI w 13 1 ((w.1 13 1) + (1 : Int32)))) (fun q7 => (Option.bind (Sc_isWithSeeker q7) (fun q8 => (if q8 &&& (1 : Int32) = q8 then (Option.bind (Sc_learnPlaces (sI q7 13 4 q8)) (fun q10 => some q10)) else none)))))
set_option maxRecDepth 100000 in
set_option maxHeartbeats 4000000 in
theorem Sc_advance_B40_ok {K : Ctx} (F : Fx K cX5_advance 2 RX5 none 4 93 true [3, 4, 13, 14, 15, 16]) (w : Wd) : N K rtV (Sc_advance_B40 w) w 40 [(0, .ref (gA (cg K) 13))] [] := by
  rw [Sc_advance_B40]
  refine n_aload_n F dX5_advance_40 rfl 0 rfl ?_
  refine n_dup F dX5_advance_41 rfl ?_
  refine n_get F ck_5 lf_RX5_28 (by decide) fg_13_1 (by decide) dX5_advance_42 ?_
  refine n_iconst F (1 : Int32) dX5_advance_45 (by decide) ?_
  refine n_iadd F dX5_advance_46 ?_
  refine n_put F ck_5 lf_RX5_28 (by decide) rfl fp_13_1 (by decide) rfl rfl dX5_advance_47 ?_
  refine n_aload_n F dX5_advance_50 rfl 0 rfl ?_
  refine n_bind (fun q7 hq7 => ?_)
  refine n_callVv F cb_X5_forgetToday lm_RX5_52 ob_13 (by decide) ⟨_, _, rfl⟩ (ct_Sc_forgetToday (fx_ok F) (fx_sd F) (fx_ix F rfl) (sI w 13 1 ((w.1 13 1) + (1 : Int32))) hq7) rfl rfl (Nat.le_of_ble_eq_true rfl) ⟨Nat.le_of_ble_eq_true rfl, Nat.le_of_ble_eq_true rfl⟩ dX5_advance_51 ?_
  refine n_aload_n F dX5_advance_54 rfl 0 rfl ?_
  refine n_aload_n F dX5_advance_55 rfl 0 rfl ?_
  refine n_bind (fun q8 hq8 => ?_)
  refine n_callVi F cb_X5_isWithSeeker lm_RX5_55 ob_13 (by decide) ⟨_, _, rfl⟩ (ct_Sc_isWithSeeker (fx_ok F) (fx_sd F) (fx_ix F rfl) q7 hq8) rfl rfl (Nat.le_of_ble_eq_true rfl) ⟨Nat.le_of_ble_eq_true rfl, Nat.le_of_ble_eq_true rfl⟩ dX5_advance_56 ?_
  refine n_chk (fun e9 => ?_)
  refine n_put F ck_5 lf_RX5_59 (by decide) rfl fp_13_4 (by decide) (bz_n e9) (bz_f e9) dX5_advance_59 ?_
  refine n_aload_n F dX5_advance_62 rfl 0 rfl ?_
  refine n_bind (fun q10 hq10 => ?_)
  refine n_callVv F cb_X5_learnPlaces lm_RX5_126 ob_13 (by decide) ⟨_, _, rfl⟩ (ct_Sc_learnPlaces (fx_ok F) (fx_sd F) (fx_ix F rfl) (sI q7 13 4 q8) hq10) rfl rfl (Nat.le_of_ble_eq_true rfl) ⟨Nat.le_of_ble_eq_true rfl, Nat.le_of_ble_eq_true rfl⟩ dX5_advance_63 ?_
  exact n_vret F rfl rfl dX5_advance_66
def Sc_advance (w : Wd) : Option Wd := (Option.bind (Sc_nextBits w) (fun q1 => (Option.bind (Sc_learnTicket (sI w 13 11 q1)) (fun q2 => (Option.bind (Sc_moveHim q2) (fun q3 => (Sc_advance_L18 Sc_advance_B40 FU q3 (0 : Int32))))))))
set_option maxRecDepth 100000 in
set_option maxHeartbeats 4000000 in
theorem ct_Sc_advance {l : Launch} {g : GG} {σ : Sd} (hg : OKg g σ) (hb : σ.2.1 = true) (hx : ∀ c ∈ ([3, 4, 13, 14, 15, 16] : List Nat), c ∈ σ.1) (w : Wd) {q : Wd} (hq : Sc_advance w = some q) : CT l g σ yX5_advance cX5_advance 2 none 4 93 [.ref (gA g 13)] w none q := by
  refine ct_of (rt := rtV) (res := Sc_advance w) (q := q) (own := RX5) (b := true) hg hb hx (by decide) rfl (Nat.le_of_ble_eq_true rfl) hq (fun K e1 e2 e3 F => ?_)
  subst e1 e2 e3
  rw [Sc_advance]
  show N K _ _ w 0 [(0, .ref (gA (cg K) 13))] []
  refine n_aload_n F dX5_advance_0 rfl 0 rfl ?_
  refine n_aload_n F dX5_advance_1 rfl 0 rfl ?_
  refine n_bind (fun q1 hq1 => ?_)
  refine n_callVi F cb_X5_nextBits lm_RX5_113 ob_13 (by decide) ⟨_, _, rfl⟩ (ct_Sc_nextBits (fx_ok F) (fx_sd F) (fx_ix F rfl) w hq1) rfl rfl (Nat.le_of_ble_eq_true rfl) ⟨Nat.le_of_ble_eq_true rfl, Nat.le_of_ble_eq_true rfl⟩ dX5_advance_2 ?_
  refine n_put F ck_5 lf_RX5_68 (by decide) rfl fp_13_11 (by decide) rfl rfl dX5_advance_5 ?_
  refine n_aload_n F dX5_advance_8 rfl 0 rfl ?_
  refine n_bind (fun q2 hq2 => ?_)
  refine n_callVv F cb_X5_learnTicket lm_RX5_116 ob_13 (by decide) ⟨_, _, rfl⟩ (ct_Sc_learnTicket (fx_ok F) (fx_sd F) (fx_ix F rfl) (sI w 13 11 q1) hq2) rfl rfl (Nat.le_of_ble_eq_true rfl) ⟨Nat.le_of_ble_eq_true rfl, Nat.le_of_ble_eq_true rfl⟩ dX5_advance_9 ?_
  refine n_aload_n F dX5_advance_12 rfl 0 rfl ?_
  refine n_bind (fun q3 hq3 => ?_)
  refine n_callVv F cb_X5_moveHim lm_RX5_119 ob_13 (by decide) ⟨_, _, rfl⟩ (ct_Sc_moveHim (fx_ok F) (fx_sd F) (fx_ix F rfl) q2 hq3) rfl rfl (Nat.le_of_ble_eq_true rfl) ⟨Nat.le_of_ble_eq_true rfl, Nat.le_of_ble_eq_true rfl⟩ dX5_advance_13 ?_
  refine n_iconst F (0 : Int32) dX5_advance_16 (by decide) ?_
  refine n_istore_n F (lv' := [(1, .int (0 : Int32)), (0, .ref (gA (cg K) 13))]) dX5_advance_17 rfl (by decide) rfl ?_
  exact n_sub [1, 0] rfl (Sc_advance_L18_ok F (Sc_advance_B40_ok F) FU _ _)
theorem dX6_append_0 : decode cX6_append 0 = .ok (.aload_n 0, 1) := by decide +kernel
theorem dX6_append_1 : decode cX6_append 1 = .ok (.getfield 15, 3) := by decide +kernel
theorem dX6_append_4 : decode cX6_append 4 = .ok (.iconst 0, 1) := by decide +kernel
theorem dX6_append_5 : decode cX6_append 5 = .ok (.sipush 199, 3) := by decide +kernel
theorem dX6_append_8 : decode cX6_append 8 = .ok (.invokestatic 19, 3) := by decide +kernel
theorem dX6_append_11 : decode cX6_append 11 = .ok (.ifCond .eq 24, 3) := by decide +kernel
theorem dX6_append_14 : decode cX6_append 14 = .ok (.aload_n 0, 1) := by decide +kernel
theorem dX6_append_15 : decode cX6_append 15 = .ok (.getfield 9, 3) := by decide +kernel
theorem dX6_append_18 : decode cX6_append 18 = .ok (.aload_n 0, 1) := by decide +kernel
theorem dX6_append_19 : decode cX6_append 19 = .ok (.getfield 15, 3) := by decide +kernel
theorem dX6_append_22 : decode cX6_append 22 = .ok (.iload_n 1, 1) := by decide +kernel
theorem dX6_append_23 : decode cX6_append 23 = .ok (.i2c, 1) := by decide +kernel
theorem dX6_append_24 : decode cX6_append 24 = .ok (.castore, 1) := by decide +kernel
theorem dX6_append_25 : decode cX6_append 25 = .ok (.aload_n 0, 1) := by decide +kernel
theorem dX6_append_26 : decode cX6_append 26 = .ok (.dup, 1) := by decide +kernel
theorem dX6_append_27 : decode cX6_append 27 = .ok (.getfield 15, 3) := by decide +kernel
theorem dX6_append_30 : decode cX6_append 30 = .ok (.iconst 1, 1) := by decide +kernel
theorem dX6_append_31 : decode cX6_append 31 = .ok (.iadd, 1) := by decide +kernel
theorem dX6_append_32 : decode cX6_append 32 = .ok (.putfield 15, 3) := by decide +kernel
theorem dX6_append_35 : decode cX6_append 35 = .ok (.return_, 1) := by decide +kernel
def Te_append (w : Wd) (a1 : Int32) : Option Wd := (if (Nt_within w (w.1 1 1) (0 : Int32) (199 : Int32)) = (0 : Int32) then some w else (if ib (w.1 1 1) 200 = true then some (sI (sI w 2 (Int32.toNatClampNeg (w.1 1 1)) (vp_nar .char (UInt32.toInt32 (Int32.toUInt32 a1 % (65536 : UInt32))))) 1 1 (((sI w 2 (Int32.toNatClampNeg (w.1 1 1)) (vp_nar .char (UInt32.toInt32 (Int32.toUInt32 a1 % (65536 : UInt32))))).1 1 1) + (1 : Int32))) else none))
set_option maxRecDepth 100000 in
set_option maxHeartbeats 4000000 in
theorem ct_Te_append {l : Launch} {g : GG} {σ : Sd} (hg : OKg g σ) (hb : σ.2.1 = true) (hx : ∀ c ∈ ([1, 2] : List Nat), c ∈ σ.1) (w : Wd) (a1 : Int32) {q : Wd} (hq : Te_append w a1 = some q) : CT l g σ yX6_append cX6_append 2 none 1 22 [.ref (gA g 1), .int a1] w none q := by
  refine ct_of (rt := rtV) (res := Te_append w a1) (q := q) (own := RX6) (b := true) hg hb hx (by decide) rfl (Nat.le_of_ble_eq_true rfl) hq (fun K e1 e2 e3 F => ?_)
  subst e1 e2 e3
  rw [Te_append]
  show N K _ _ w 0 [(0, .ref (gA (cg K) 1)), (1, .int a1)] []
  refine n_aload_n F dX6_append_0 rfl 0 rfl ?_
  refine n_get F ck_6 lf_RX6_15 (by decide) fg_1_1 (by decide) dX6_append_1 ?_
  refine n_iconst F (0 : Int32) dX6_append_4 (by decide) ?_
  refine n_sipush F (199 : Int32) dX6_append_5 (by decide) ?_
  refine n_callSNi F cb_X7_within lm_RX6_19 (ct_Nt_within (fx_ok F) (fx_sd F) (fx_ix F rfl) w (w.1 1 1) (0 : Int32) (199 : Int32)) rfl rfl (Nat.le_of_ble_eq_true rfl) ⟨Nat.le_of_ble_eq_true rfl, Nat.le_of_ble_eq_true rfl⟩ dX6_append_8 ?_
  refine n_if_eq F 35 dX6_append_11 (by decide) (fun e1 => ?_) (fun e1 => ?_)
  · rw [if_pos e1]
    exact n_vret F rfl rfl dX6_append_35
  rw [if_neg e1]
  refine n_aload_n F dX6_append_14 rfl 0 rfl ?_
  refine n_get F ck_6 lf_RX6_9 (by decide) fg_1_0 (by decide) dX6_append_15 ?_
  refine n_aload_n F dX6_append_18 rfl 0 rfl ?_
  refine n_get F ck_6 lf_RX6_15 (by decide) fg_1_1 (by decide) dX6_append_19 ?_
  refine n_iload_n F dX6_append_22 rfl 1 rfl ?_
  refine n_i2c F dX6_append_23 ?_
  refine n_chk (fun e2 => ?_)
  refine n_cast F ar_2 (by decide) (ib_in e2) rfl dX6_append_24 ?_
  refine n_aload_n F dX6_append_25 rfl 0 rfl ?_
  refine n_dup F dX6_append_26 rfl ?_
  refine n_get F ck_6 lf_RX6_15 (by decide) fg_1_1 (by decide) dX6_append_27 ?_
  refine n_iconst F (1 : Int32) dX6_append_30 (by decide) ?_
  refine n_iadd F dX6_append_31 ?_
  refine n_put F ck_6 lf_RX6_15 (by decide) rfl fp_1_1 (by decide) rfl rfl dX6_append_32 ?_
  exact n_vret F rfl rfl dX6_append_35
theorem dX7_write_0 : decode cX7_write 0 = .ok (.iload_n 3, 1) := by decide +kernel
theorem dX7_write_1 : decode cX7_write 1 = .ok (.iconst 1, 1) := by decide +kernel
theorem dX7_write_2 : decode cX7_write 2 = .ok (.bipush 8, 2) := by decide +kernel
theorem dX7_write_4 : decode cX7_write 4 = .ok (.invokestatic 74, 3) := by decide +kernel
theorem dX7_write_7 : decode cX7_write 7 = .ok (.ifCond .ne 6, 3) := by decide +kernel
theorem dX7_write_10 : decode cX7_write 10 = .ok (.bipush (-3), 2) := by decide +kernel
theorem dX7_write_12 : decode cX7_write 12 = .ok (.ireturn, 1) := by decide +kernel
theorem dX7_write_13 : decode cX7_write 13 = .ok (.iload_n 3, 1) := by decide +kernel
theorem dX7_write_14 : decode cX7_write 14 = .ok (.sipush 200, 3) := by decide +kernel
theorem dX7_write_17 : decode cX7_write 17 = .ok (.aload_n 0, 1) := by decide +kernel
theorem dX7_write_18 : decode cX7_write 18 = .ok (.getfield 12, 3) := by decide +kernel
theorem dX7_write_21 : decode cX7_write 21 = .ok (.getfield 78, 3) := by decide +kernel
theorem dX7_write_24 : decode cX7_write 24 = .ok (.isub, 1) := by decide +kernel
theorem dX7_write_25 : decode cX7_write 25 = .ok (.if_icmp .le 6, 3) := by decide +kernel
theorem dX7_write_28 : decode cX7_write 28 = .ok (.bipush (-5), 2) := by decide +kernel
theorem dX7_write_30 : decode cX7_write 30 = .ok (.ireturn, 1) := by decide +kernel
theorem dX7_write_31 : decode cX7_write 31 = .ok (.iconst 0, 1) := by decide +kernel
theorem dX7_write_32 : decode cX7_write 32 = .ok (.istore 4, 2) := by decide +kernel
theorem dX7_write_34 : decode cX7_write 34 = .ok (.iload 4, 2) := by decide +kernel
theorem dX7_write_36 : decode cX7_write 36 = .ok (.iload_n 3, 1) := by decide +kernel
theorem dX7_write_37 : decode cX7_write 37 = .ok (.if_icmp .ge 28, 3) := by decide +kernel
theorem dX7_write_40 : decode cX7_write 40 = .ok (.aload_n 0, 1) := by decide +kernel
theorem dX7_write_41 : decode cX7_write 41 = .ok (.getfield 12, 3) := by decide +kernel
theorem dX7_write_44 : decode cX7_write 44 = .ok (.lload_n 1, 1) := by decide +kernel
theorem dX7_write_45 : decode cX7_write 45 = .ok (.bipush 8, 2) := by decide +kernel
theorem dX7_write_47 : decode cX7_write 47 = .ok (.iload 4, 2) := by decide +kernel
theorem dX7_write_49 : decode cX7_write 49 = .ok (.imul, 1) := by decide +kernel
theorem dX7_write_50 : decode cX7_write 50 = .ok (.lshr, 1) := by decide +kernel
theorem dX7_write_51 : decode cX7_write 51 = .ok (.ldc2_w 81, 3) := by decide +kernel
theorem dX7_write_54 : decode cX7_write 54 = .ok (.land, 1) := by decide +kernel
theorem dX7_write_55 : decode cX7_write 55 = .ok (.l2i, 1) := by decide +kernel
theorem dX7_write_56 : decode cX7_write 56 = .ok (.invokevirtual 83, 3) := by decide +kernel
theorem dX7_write_59 : decode cX7_write 59 = .ok (.iinc 4 1, 3) := by decide +kernel
theorem dX7_write_62 : decode cX7_write 62 = .ok (.goto (-28), 3) := by decide +kernel
theorem dX7_write_65 : decode cX7_write 65 = .ok (.aload_n 0, 1) := by decide +kernel
theorem dX7_write_66 : decode cX7_write 66 = .ok (.getfield 12, 3) := by decide +kernel
theorem dX7_write_69 : decode cX7_write 69 = .ok (.getfield 78, 3) := by decide +kernel
theorem dX7_write_72 : decode cX7_write 72 = .ok (.ireturn, 1) := by decide +kernel
def Nt_write_L34 (k65 : Wd → Option (Int32 × Wd)) : Nat → Wd → Int64 → Int32 → Int32 → Option (Int32 × Wd)
  | 0, _, _, _, _ => none
  | n + 1, w, v1, v3, v4 => (if v3 ≤ v4 then (k65 w) else (Option.bind (Te_append w (Int64.toInt32 ((v1 >>> (Int32.toInt64 ((8 : Int32) * v4) &&& (63 : Int64))) &&& (255 : Int64)))) (fun q4 => (Nt_write_L34 k65 n q4 v1 v3 (v4 + (1 : Int32))))))
set_option maxRecDepth 100000 in
set_option maxHeartbeats 4000000 in
theorem Nt_write_L34_ok {K : Ctx} (F : Fx K cX7_write 5 RX7 (some .int) 2 43 true [0, 1, 2]) {k65 : Wd → Option (Int32 × Wd)} (h65 : ∀ (w : Wd), N K rtI (k65 w) w 65 [(0, .ref (gA (cg K) 0))] []) : ∀ (n : Nat) (w : Wd) (v1 : Int64) (v3 : Int32) (v4 : Int32), N K rtI (Nt_write_L34 k65 n w v1 v3 v4) w 34 [(0, .ref (gA (cg K) 0)), (1, .long v1), (3, .int v3), (4, .int v4)] [] := by
  intro n
  induction n with
  | zero => intro _ _ _ _; exact n_none
  | succ n ih =>
    intro w v1 v3 v4
    rw [Nt_write_L34]
    refine n_iload F dX7_write_34 3 rfl ?_
    refine n_iload_n F dX7_write_36 rfl 2 rfl ?_
    refine n_icmp_ge F 65 dX7_write_37 (by decide) (fun e3 => ?_) (fun e3 => ?_)
    · rw [if_pos e3]
      exact n_sub [0] rfl (h65 _)
    rw [if_neg e3]
    refine n_aload_n F dX7_write_40 rfl 0 rfl ?_
    refine n_get F ck_7 lf_RX7_12 (by decide) fg_0_0 (by decide) dX7_write_41 ?_
    refine n_lload_n F dX7_write_44 rfl 1 rfl ?_
    refine n_bipush F (8 : Int32) dX7_write_45 (by decide) ?_
    refine n_iload F dX7_write_47 3 rfl ?_
    refine n_imul F dX7_write_49 ?_
    refine n_lshr F dX7_write_50 ?_
    refine n_ldc2 F (255 : Int64) dX7_write_51 kc_RX7_81 ?_
    refine n_land F dX7_write_54 ?_
    refine n_l2i F dX7_write_55 ?_
    refine n_bind (fun q4 hq4 => ?_)
    refine n_callVv F cb_X6_append lm_RX7_83 ob_1 (by decide) ⟨_, _, rfl⟩ (ct_Te_append (fx_ok F) (fx_sd F) (fx_ix F rfl) w (Int64.toInt32 ((v1 >>> (Int32.toInt64 ((8 : Int32) * v4) &&& (63 : Int64))) &&& (255 : Int64))) hq4) rfl rfl (Nat.le_of_ble_eq_true rfl) ⟨Nat.le_of_ble_eq_true rfl, Nat.le_of_ble_eq_true rfl⟩ dX7_write_56 ?_
    refine n_iinc F (v4 + (1 : Int32)) (lv' := [(4, .int (v4 + (1 : Int32))), (0, .ref (gA (cg K) 0)), (1, .long v1), (3, .int v3)]) dX7_write_59 3 rfl rfl (by decide) rfl ?_
    refine n_goto F 34 dX7_write_62 (by decide) ?_
    exact n_sub [1, 2, 3, 0] rfl (ih _ _ _ _)
def Nt_write_B65 (w : Wd) : Option (Int32 × Wd) := some ((w.1 1 1), w)
set_option maxRecDepth 100000 in
set_option maxHeartbeats 4000000 in
theorem Nt_write_B65_ok {K : Ctx} (F : Fx K cX7_write 5 RX7 (some .int) 2 43 true [0, 1, 2]) (w : Wd) : N K rtI (Nt_write_B65 w) w 65 [(0, .ref (gA (cg K) 0))] [] := by
  rw [Nt_write_B65]
  refine n_aload_n F dX7_write_65 rfl 0 rfl ?_
  refine n_get F ck_7 lf_RX7_12 (by decide) fg_0_0 (by decide) dX7_write_66 ?_
  refine n_get F ck_6 lf_RX7_78 (by decide) fg_1_1 (by decide) dX7_write_69 ?_
  exact n_iret F rfl rfl dX7_write_72
def Nt_write (w : Wd) (a1 : Int64) (a2 : Int32) : Option (Int32 × Wd) := (if (Nt_within w a2 (1 : Int32) (8 : Int32)) = (0 : Int32) then some ((-3 : Int32), w) else (if a2 ≤ ((200 : Int32) - (w.1 1 1)) then (Nt_write_L34 Nt_write_B65 FU w a1 a2 (0 : Int32)) else some ((-5 : Int32), w)))
set_option maxRecDepth 100000 in
set_option maxHeartbeats 4000000 in
theorem ct_Nt_write {l : Launch} {g : GG} {σ : Sd} (hg : OKg g σ) (hb : σ.2.1 = true) (hx : ∀ c ∈ ([0, 1, 2] : List Nat), c ∈ σ.1) (w : Wd) (a1 : Int64) (a2 : Int32) {q : Int32 × Wd} (hq : Nt_write w a1 a2 = some q) : CT l g σ yX7_write cX7_write 5 (some .int) 2 43 [.ref (gA g 0), .long a1, .int a2] w (some (.int q.1)) q.2 := by
  refine ct_of (rt := rtI) (res := Nt_write w a1 a2) (q := q) (own := RX7) (b := true) hg hb hx (by decide) rfl (Nat.le_of_ble_eq_true rfl) hq (fun K e1 e2 e3 F => ?_)
  subst e1 e2 e3
  rw [Nt_write]
  show N K _ _ w 0 [(0, .ref (gA (cg K) 0)), (1, .long a1), (3, .int a2)] []
  refine n_iload_n F dX7_write_0 rfl 2 rfl ?_
  refine n_iconst F (1 : Int32) dX7_write_1 (by decide) ?_
  refine n_bipush F (8 : Int32) dX7_write_2 (by decide) ?_
  refine n_callSi F cb_X7_within lm_RX7_74 (ct_Nt_within (fx_ok F) (fx_sd F) (fx_ix F rfl) w a2 (1 : Int32) (8 : Int32)) rfl rfl (Nat.le_of_ble_eq_true rfl) ⟨Nat.le_of_ble_eq_true rfl, Nat.le_of_ble_eq_true rfl⟩ dX7_write_4 ?_
  refine n_if_ne F 13 dX7_write_7 (by decide) (fun e1 => ?_) (fun e1 => ?_)
  · rw [if_neg e1]
    refine n_iload_n F dX7_write_13 rfl 2 rfl ?_
    refine n_sipush F (200 : Int32) dX7_write_14 (by decide) ?_
    refine n_aload_n F dX7_write_17 rfl 0 rfl ?_
    refine n_get F ck_7 lf_RX7_12 (by decide) fg_0_0 (by decide) dX7_write_18 ?_
    refine n_get F ck_6 lf_RX7_78 (by decide) fg_1_1 (by decide) dX7_write_21 ?_
    refine n_isub F dX7_write_24 ?_
    refine n_icmp_le F 31 dX7_write_25 (by decide) (fun e2 => ?_) (fun e2 => ?_)
    · rw [if_pos e2]
      refine n_iconst F (0 : Int32) dX7_write_31 (by decide) ?_
      refine n_istore F (lv' := [(4, .int (0 : Int32)), (0, .ref (gA (cg K) 0)), (1, .long a1), (3, .int a2)]) dX7_write_32 (by decide) rfl ?_
      exact n_sub [1, 2, 3, 0] rfl (Nt_write_L34_ok F (Nt_write_B65_ok F) FU _ _ _ _)
    rw [if_neg e2]
    refine n_bipush F (-5 : Int32) dX7_write_28 (by decide) ?_
    exact n_iret F rfl rfl dX7_write_30
  rw [if_pos e1]
  refine n_bipush F (-3 : Int32) dX7_write_10 (by decide) ?_
  exact n_iret F rfl rfl dX7_write_12
theorem dX7_erase_0 : decode cX7_erase 0 = .ok (.aload_n 0, 1) := by decide +kernel
theorem dX7_erase_1 : decode cX7_erase 1 = .ok (.getfield 12, 3) := by decide +kernel
theorem dX7_erase_4 : decode cX7_erase 4 = .ok (.getfield 78, 3) := by decide +kernel
theorem dX7_erase_7 : decode cX7_erase 7 = .ok (.istore_n 1, 1) := by decide +kernel
theorem dX7_erase_8 : decode cX7_erase 8 = .ok (.aload_n 0, 1) := by decide +kernel
theorem dX7_erase_9 : decode cX7_erase 9 = .ok (.getfield 12, 3) := by decide +kernel
theorem dX7_erase_12 : decode cX7_erase 12 = .ok (.iconst 0, 1) := by decide +kernel
theorem dX7_erase_13 : decode cX7_erase 13 = .ok (.putfield 78, 3) := by decide +kernel
theorem dX7_erase_16 : decode cX7_erase 16 = .ok (.iload_n 1, 1) := by decide +kernel
theorem dX7_erase_17 : decode cX7_erase 17 = .ok (.ireturn, 1) := by decide +kernel
def Nt_erase (w : Wd) : Int32 × Wd := ((w.1 1 1), (sI w 1 1 (0 : Int32)))
set_option maxRecDepth 100000 in
set_option maxHeartbeats 4000000 in
theorem ct_Nt_erase {l : Launch} {g : GG} {σ : Sd} (hg : OKg g σ) (hb : σ.2.1 = true) (hx : ∀ c ∈ ([0, 1] : List Nat), c ∈ σ.1) (w : Wd) : CT l g σ yX7_erase cX7_erase 2 (some .int) 0 0 [.ref (gA g 0)] w (some (.int (Nt_erase w).1)) (Nt_erase w).2 := by
  refine ct_of (rt := rtI) (res := some (Nt_erase w)) (q := (Nt_erase w)) (own := RX7) (b := true) hg hb hx (by decide) rfl (Nat.le_of_ble_eq_true rfl) rfl (fun K e1 e2 e3 F => ?_)
  subst e1 e2 e3
  rw [Nt_erase]
  show N K _ _ w 0 [(0, .ref (gA (cg K) 0))] []
  refine n_aload_n F dX7_erase_0 rfl 0 rfl ?_
  refine n_get F ck_7 lf_RX7_12 (by decide) fg_0_0 (by decide) dX7_erase_1 ?_
  refine n_get F ck_6 lf_RX7_78 (by decide) fg_1_1 (by decide) dX7_erase_4 ?_
  refine n_istore_n F (lv' := [(1, .int (w.1 1 1)), (0, .ref (gA (cg K) 0))]) dX7_erase_7 rfl (by decide) rfl ?_
  refine n_aload_n F dX7_erase_8 rfl 1 rfl ?_
  refine n_get F ck_7 lf_RX7_12 (by decide) fg_0_0 (by decide) dX7_erase_9 ?_
  refine n_iconst F (0 : Int32) dX7_erase_12 (by decide) ?_
  refine n_put F ck_6 lf_RX7_78 (by decide) rfl fp_1_1 (by decide) rfl rfl dX7_erase_13 ?_
  refine n_iload_n F dX7_erase_16 rfl 0 rfl ?_
  exact n_iret F rfl rfl dX7_erase_17
theorem dX7_fault_0 : decode cX7_fault 0 = .ok (.aload_n 0, 1) := by decide +kernel
theorem dX7_fault_1 : decode cX7_fault 1 = .ok (.getfield 28, 3) := by decide +kernel
theorem dX7_fault_4 : decode cX7_fault 4 = .ok (.aload_n 0, 1) := by decide +kernel
theorem dX7_fault_5 : decode cX7_fault 5 = .ok (.getfield 19, 3) := by decide +kernel
theorem dX7_fault_8 : decode cX7_fault 8 = .ok (.invokevirtual 87, 3) := by decide +kernel
theorem dX7_fault_11 : decode cX7_fault 11 = .ok (.ireturn, 1) := by decide +kernel
def Nt_fault (w : Wd) : Option (Int32 × Wd) := (Option.bind (Re_firstFault w) (fun q1 => some ((q1.1), (q1.2))))
set_option maxRecDepth 100000 in
set_option maxHeartbeats 4000000 in
theorem ct_Nt_fault {l : Launch} {g : GG} {σ : Sd} (hg : OKg g σ) (hb : σ.2.1 = true) (hx : ∀ c ∈ ([0, 1, 2, 3, 4, 5, 6, 7, 8, 9, 10, 11, 12] : List Nat), c ∈ σ.1) (w : Wd) {q : Int32 × Wd} (hq : Nt_fault w = some q) : CT l g σ yX7_fault cX7_fault 1 (some .int) 8 172 [.ref (gA g 0)] w (some (.int q.1)) q.2 := by
  refine ct_of (rt := rtI) (res := Nt_fault w) (q := q) (own := RX7) (b := true) hg hb hx (by decide) rfl (Nat.le_of_ble_eq_true rfl) hq (fun K e1 e2 e3 F => ?_)
  subst e1 e2 e3
  rw [Nt_fault]
  show N K _ _ w 0 [(0, .ref (gA (cg K) 0))] []
  refine n_aload_n F dX7_fault_0 rfl 0 rfl ?_
  refine n_get F ck_7 lf_RX7_28 (by decide) fg_0_2 (by decide) dX7_fault_1 ?_
  refine n_aload_n F dX7_fault_4 rfl 0 rfl ?_
  refine n_get F ck_7 lf_RX7_19 (by decide) fg_0_1 (by decide) dX7_fault_5 ?_
  refine n_bind (fun q1 hq1 => ?_)
  refine n_callVi F cb_X3_firstFault lm_RX7_87 ob_7 (by decide) ⟨_, _, rfl⟩ (ct_Re_firstFault (fx_ok F) (fx_sd F) (fx_ix F rfl) w hq1) rfl rfl (Nat.le_of_ble_eq_true rfl) ⟨Nat.le_of_ble_eq_true rfl, Nat.le_of_ble_eq_true rfl⟩ dX7_fault_8 ?_
  exact n_iret F rfl rfl dX7_fault_11
theorem dX7_land_0 : decode cX7_land 0 = .ok (.aload_n 0, 1) := by decide +kernel
theorem dX7_land_1 : decode cX7_land 1 = .ok (.getfield 28, 3) := by decide +kernel
theorem dX7_land_4 : decode cX7_land 4 = .ok (.aload_n 0, 1) := by decide +kernel
theorem dX7_land_5 : decode cX7_land 5 = .ok (.getfield 19, 3) := by decide +kernel
theorem dX7_land_8 : decode cX7_land 8 = .ok (.invokevirtual 87, 3) := by decide +kernel
theorem dX7_land_11 : decode cX7_land 11 = .ok (.iconst (-1), 1) := by decide +kernel
theorem dX7_land_12 : decode cX7_land 12 = .ok (.if_icmp .eq 6, 3) := by decide +kernel
theorem dX7_land_15 : decode cX7_land 15 = .ok (.bipush (-4), 2) := by decide +kernel
theorem dX7_land_17 : decode cX7_land 17 = .ok (.ireturn, 1) := by decide +kernel
theorem dX7_land_18 : decode cX7_land 18 = .ok (.aload_n 0, 1) := by decide +kernel
theorem dX7_land_19 : decode cX7_land 19 = .ok (.getfield 19, 3) := by decide +kernel
theorem dX7_land_22 : decode cX7_land 22 = .ok (.aload_n 0, 1) := by decide +kernel
theorem dX7_land_23 : decode cX7_land 23 = .ok (.getfield 28, 3) := by decide +kernel
theorem dX7_land_26 : decode cX7_land 26 = .ok (.getfield 91, 3) := by decide +kernel
theorem dX7_land_29 : decode cX7_land 29 = .ok (.invokevirtual 94, 3) := by decide +kernel
theorem dX7_land_32 : decode cX7_land 32 = .ok (.aload_n 0, 1) := by decide +kernel
theorem dX7_land_33 : decode cX7_land 33 = .ok (.getfield 12, 3) := by decide +kernel
theorem dX7_land_36 : decode cX7_land 36 = .ok (.iconst 0, 1) := by decide +kernel
theorem dX7_land_37 : decode cX7_land 37 = .ok (.putfield 78, 3) := by decide +kernel
theorem dX7_land_40 : decode cX7_land 40 = .ok (.aload_n 0, 1) := by decide +kernel
theorem dX7_land_41 : decode cX7_land 41 = .ok (.getfield 37, 3) := by decide +kernel
theorem dX7_land_44 : decode cX7_land 44 = .ok (.invokevirtual 97, 3) := by decide +kernel
theorem dX7_land_47 : decode cX7_land 47 = .ok (.aload_n 0, 1) := by decide +kernel
theorem dX7_land_48 : decode cX7_land 48 = .ok (.getfield 66, 3) := by decide +kernel
theorem dX7_land_51 : decode cX7_land 51 = .ok (.iconst 0, 1) := by decide +kernel
theorem dX7_land_52 : decode cX7_land 52 = .ok (.putfield 100, 3) := by decide +kernel
theorem dX7_land_55 : decode cX7_land 55 = .ok (.aload_n 0, 1) := by decide +kernel
theorem dX7_land_56 : decode cX7_land 56 = .ok (.iconst 0, 1) := by decide +kernel
theorem dX7_land_57 : decode cX7_land 57 = .ok (.putfield 70, 3) := by decide +kernel
theorem dX7_land_60 : decode cX7_land 60 = .ok (.aload_n 0, 1) := by decide +kernel
theorem dX7_land_61 : decode cX7_land 61 = .ok (.getfield 28, 3) := by decide +kernel
theorem dX7_land_64 : decode cX7_land 64 = .ok (.getfield 101, 3) := by decide +kernel
theorem dX7_land_67 : decode cX7_land 67 = .ok (.ireturn, 1) := by decide +kernel
def Nt_land (w : Wd) : Option (Int32 × Wd) := (Option.bind (Re_firstFault w) (fun q1 => (if (q1.1) = (-1 : Int32) then (Option.bind (Sc_begin (sI (La_copy_3_8 (q1.2)) 1 1 (0 : Int32))) (fun q3 => some (((sI (sI q3 32 2 (0 : Int32)) 0 9 (0 : Int32)).1 7 2), (sI (sI q3 32 2 (0 : Int32)) 0 9 (0 : Int32))))) else some ((-4 : Int32), (q1.2)))))
set_option maxRecDepth 100000 in
set_option maxHeartbeats 4000000 in
theorem ct_Nt_land {l : Launch} {g : GG} {σ : Sd} (hg : OKg g σ) (hb : σ.2.1 = true) (hx : ∀ c ∈ ([0, 1, 2, 3, 4, 5, 6, 7, 8, 9, 10, 11, 12, 13, 14, 15, 16, 32] : List Nat), c ∈ σ.1) (w : Wd) {q : Int32 × Wd} (hq : Nt_land w = some q) : CT l g σ yX7_land cX7_land 1 (some .int) 8 172 [.ref (gA g 0)] w (some (.int q.1)) q.2 := by
  refine ct_of (rt := rtI) (res := Nt_land w) (q := q) (own := RX7) (b := true) hg hb hx (by decide) rfl (Nat.le_of_ble_eq_true rfl) hq (fun K e1 e2 e3 F => ?_)
  subst e1 e2 e3
  rw [Nt_land]
  show N K _ _ w 0 [(0, .ref (gA (cg K) 0))] []
  refine n_aload_n F dX7_land_0 rfl 0 rfl ?_
  refine n_get F ck_7 lf_RX7_28 (by decide) fg_0_2 (by decide) dX7_land_1 ?_
  refine n_aload_n F dX7_land_4 rfl 0 rfl ?_
  refine n_get F ck_7 lf_RX7_19 (by decide) fg_0_1 (by decide) dX7_land_5 ?_
  refine n_bind (fun q1 hq1 => ?_)
  refine n_callVi F cb_X3_firstFault lm_RX7_87 ob_7 (by decide) ⟨_, _, rfl⟩ (ct_Re_firstFault (fx_ok F) (fx_sd F) (fx_ix F rfl) w hq1) rfl rfl (Nat.le_of_ble_eq_true rfl) ⟨Nat.le_of_ble_eq_true rfl, Nat.le_of_ble_eq_true rfl⟩ dX7_land_8 ?_
  refine n_iconst F (-1 : Int32) dX7_land_11 (by decide) ?_
  refine n_icmp_eq F 18 dX7_land_12 (by decide) (fun e2 => ?_) (fun e2 => ?_)
  · rw [if_pos e2]
    refine n_aload_n F dX7_land_18 rfl 0 rfl ?_
    refine n_get F ck_7 lf_RX7_19 (by decide) fg_0_1 (by decide) dX7_land_19 ?_
    refine n_aload_n F dX7_land_22 rfl 0 rfl ?_
    refine n_get F ck_7 lf_RX7_28 (by decide) fg_0_2 (by decide) dX7_land_23 ?_
    refine n_get F ck_3 lf_RX7_91 (by decide) fg_7_1 (by decide) dX7_land_26 ?_
    refine n_callVv F cb_X1_copy lm_RX7_94 ob_3 (by decide) ⟨_, _, rfl⟩ (ct_La_copy_3_8 (fx_ok F) (fx_sd F) (fx_ix F rfl) (q1.2)) rfl rfl (Nat.le_of_ble_eq_true rfl) ⟨Nat.le_of_ble_eq_true rfl, Nat.le_of_ble_eq_true rfl⟩ dX7_land_29 ?_
    refine n_aload_n F dX7_land_32 rfl 0 rfl ?_
    refine n_get F ck_7 lf_RX7_12 (by decide) fg_0_0 (by decide) dX7_land_33 ?_
    refine n_iconst F (0 : Int32) dX7_land_36 (by decide) ?_
    refine n_put F ck_6 lf_RX7_78 (by decide) rfl fp_1_1 (by decide) rfl rfl dX7_land_37 ?_
    refine n_aload_n F dX7_land_40 rfl 0 rfl ?_
    refine n_get F ck_7 lf_RX7_37 (by decide) fg_0_3 (by decide) dX7_land_41 ?_
    refine n_bind (fun q3 hq3 => ?_)
    refine n_callVv F cb_X5_begin lm_RX7_97 ob_13 (by decide) ⟨_, _, rfl⟩ (ct_Sc_begin (fx_ok F) (fx_sd F) (fx_ix F rfl) (sI (La_copy_3_8 (q1.2)) 1 1 (0 : Int32)) hq3) rfl rfl (Nat.le_of_ble_eq_true rfl) ⟨Nat.le_of_ble_eq_true rfl, Nat.le_of_ble_eq_true rfl⟩ dX7_land_44 ?_
    refine n_aload_n F dX7_land_47 rfl 0 rfl ?_
    refine n_get F ck_7 lf_RX7_66 (by decide) fg_0_8 (by decide) dX7_land_48 ?_
    refine n_iconst F (0 : Int32) dX7_land_51 (by decide) ?_
    refine n_put F ck_4 lf_RX7_100 (by decide) rfl fp_32_2 (by decide) rfl rfl dX7_land_52 ?_
    refine n_aload_n F dX7_land_55 rfl 0 rfl ?_
    refine n_iconst F (0 : Int32) dX7_land_56 (by decide) ?_
    refine n_put F ck_7 lf_RX7_70 (by decide) rfl fp_0_9 (by decide) rfl rfl dX7_land_57 ?_
    refine n_aload_n F dX7_land_60 rfl 0 rfl ?_
    refine n_get F ck_7 lf_RX7_28 (by decide) fg_0_2 (by decide) dX7_land_61 ?_
    refine n_get F ck_3 lf_RX7_101 (by decide) fg_7_2 (by decide) dX7_land_64 ?_
    exact n_iret F rfl rfl dX7_land_67
  rw [if_neg e2]
  refine n_bipush F (-4 : Int32) dX7_land_15 (by decide) ?_
  exact n_iret F rfl rfl dX7_land_17
theorem dX7_train_0 : decode cX7_train 0 = .ok (.aload_n 0, 1) := by decide +kernel
theorem dX7_train_1 : decode cX7_train 1 = .ok (.getfield 19, 3) := by decide +kernel
theorem dX7_train_4 : decode cX7_train 4 = .ok (.iload_n 1, 1) := by decide +kernel
theorem dX7_train_5 : decode cX7_train 5 = .ok (.invokevirtual 104, 3) := by decide +kernel
theorem dX7_train_8 : decode cX7_train 8 = .ok (.ifCond .ne 6, 3) := by decide +kernel
theorem dX7_train_11 : decode cX7_train 11 = .ok (.bipush (-2), 2) := by decide +kernel
theorem dX7_train_13 : decode cX7_train 13 = .ok (.ireturn, 1) := by decide +kernel
theorem dX7_train_14 : decode cX7_train 14 = .ok (.iload_n 2, 1) := by decide +kernel
theorem dX7_train_15 : decode cX7_train 15 = .ok (.iconst 0, 1) := by decide +kernel
theorem dX7_train_16 : decode cX7_train 16 = .ok (.iconst 5, 1) := by decide +kernel
theorem dX7_train_17 : decode cX7_train 17 = .ok (.invokestatic 74, 3) := by decide +kernel
theorem dX7_train_20 : decode cX7_train 20 = .ok (.ifCond .eq 15, 3) := by decide +kernel
theorem dX7_train_23 : decode cX7_train 23 = .ok (.aload_n 0, 1) := by decide +kernel
theorem dX7_train_24 : decode cX7_train 24 = .ok (.getfield 19, 3) := by decide +kernel
theorem dX7_train_27 : decode cX7_train 27 = .ok (.iload_n 1, 1) := by decide +kernel
theorem dX7_train_28 : decode cX7_train 28 = .ok (.iload_n 2, 1) := by decide +kernel
theorem dX7_train_29 : decode cX7_train 29 = .ok (.invokevirtual 108, 3) := by decide +kernel
theorem dX7_train_32 : decode cX7_train 32 = .ok (.goto 5, 3) := by decide +kernel
theorem dX7_train_35 : decode cX7_train 35 = .ok (.bipush (-3), 2) := by decide +kernel
theorem dX7_train_37 : decode cX7_train 37 = .ok (.ireturn, 1) := by decide +kernel
def Nt_train (w : Wd) (a1 : Int32) (a2 : Int32) : Option Int32 := (if (La_hasTrain w a1) = (0 : Int32) then some (-2 : Int32) else (if (Nt_within w a2 (0 : Int32) (5 : Int32)) = (0 : Int32) then some (-3 : Int32) else (Option.bind (La_part w a1 a2) (fun q3 => some q3))))
set_option maxRecDepth 100000 in
set_option maxHeartbeats 4000000 in
theorem ct_Nt_train {l : Launch} {g : GG} {σ : Sd} (hg : OKg g σ) (hb : σ.2.1 = true) (hx : ∀ c ∈ ([0, 3, 4] : List Nat), c ∈ σ.1) (w : Wd) (a1 : Int32) (a2 : Int32) {q : Int32} (hq : Nt_train w a1 a2 = some q) : CT l g σ yX7_train cX7_train 3 (some .int) 1 23 [.ref (gA g 0), .int a1, .int a2] w (some (.int q)) w := by
  refine ct_of (rt := (rtP w)) (res := Nt_train w a1 a2) (q := q) (own := RX7) (b := true) hg hb hx (by decide) rfl (Nat.le_of_ble_eq_true rfl) hq (fun K e1 e2 e3 F => ?_)
  subst e1 e2 e3
  rw [Nt_train]
  show N K _ _ w 0 [(0, .ref (gA (cg K) 0)), (1, .int a1), (2, .int a2)] []
  refine n_aload_n F dX7_train_0 rfl 0 rfl ?_
  refine n_get F ck_7 lf_RX7_19 (by decide) fg_0_1 (by decide) dX7_train_1 ?_
  refine n_iload_n F dX7_train_4 rfl 1 rfl ?_
  refine n_callVi F cb_X1_hasTrain lm_RX7_104 ob_3 (by decide) ⟨_, _, rfl⟩ (ct_La_hasTrain (fx_ok F) (fx_sd F) (fx_ix F rfl) w a1) rfl rfl (Nat.le_of_ble_eq_true rfl) ⟨Nat.le_of_ble_eq_true rfl, Nat.le_of_ble_eq_true rfl⟩ dX7_train_5 ?_
  refine n_if_ne F 14 dX7_train_8 (by decide) (fun e1 => ?_) (fun e1 => ?_)
  · rw [if_neg e1]
    refine n_iload_n F dX7_train_14 rfl 2 rfl ?_
    refine n_iconst F (0 : Int32) dX7_train_15 (by decide) ?_
    refine n_iconst F (5 : Int32) dX7_train_16 (by decide) ?_
    refine n_callSi F cb_X7_within lm_RX7_74 (ct_Nt_within (fx_ok F) (fx_sd F) (fx_ix F rfl) w a2 (0 : Int32) (5 : Int32)) rfl rfl (Nat.le_of_ble_eq_true rfl) ⟨Nat.le_of_ble_eq_true rfl, Nat.le_of_ble_eq_true rfl⟩ dX7_train_17 ?_
    refine n_if_eq F 35 dX7_train_20 (by decide) (fun e2 => ?_) (fun e2 => ?_)
    · rw [if_pos e2]
      refine n_bipush F (-3 : Int32) dX7_train_35 (by decide) ?_
      exact n_iret F rfl rfl dX7_train_37
    rw [if_neg e2]
    refine n_aload_n F dX7_train_23 rfl 0 rfl ?_
    refine n_get F ck_7 lf_RX7_19 (by decide) fg_0_1 (by decide) dX7_train_24 ?_
    refine n_iload_n F dX7_train_27 rfl 1 rfl ?_
    refine n_iload_n F dX7_train_28 rfl 2 rfl ?_
    refine n_bind (fun q3 hq3 => ?_)
    refine n_callVi F cb_X1_part lm_RX7_108 ob_3 (by decide) ⟨_, _, rfl⟩ (ct_La_part (fx_ok F) (fx_sd F) (fx_ix F rfl) w a1 a2 hq3) rfl rfl (Nat.le_of_ble_eq_true rfl) ⟨Nat.le_of_ble_eq_true rfl, Nat.le_of_ble_eq_true rfl⟩ dX7_train_29 ?_
    refine n_goto F 37 dX7_train_32 (by decide) ?_
    exact n_iret F rfl rfl dX7_train_37
  rw [if_pos e1]
  refine n_bipush F (-2 : Int32) dX7_train_11 (by decide) ?_
  exact n_iret F rfl rfl dX7_train_13
theorem dX7_runs_0 : decode cX7_runs 0 = .ok (.aload_n 0, 1) := by decide +kernel
theorem dX7_runs_1 : decode cX7_runs 1 = .ok (.getfield 19, 3) := by decide +kernel
theorem dX7_runs_4 : decode cX7_runs 4 = .ok (.iload_n 1, 1) := by decide +kernel
theorem dX7_runs_5 : decode cX7_runs 5 = .ok (.invokevirtual 112, 3) := by decide +kernel
theorem dX7_runs_8 : decode cX7_runs 8 = .ok (.ifCond .ne 6, 3) := by decide +kernel
theorem dX7_runs_11 : decode cX7_runs 11 = .ok (.bipush (-2), 2) := by decide +kernel
theorem dX7_runs_13 : decode cX7_runs 13 = .ok (.ireturn, 1) := by decide +kernel
theorem dX7_runs_14 : decode cX7_runs 14 = .ok (.iload_n 2, 1) := by decide +kernel
theorem dX7_runs_15 : decode cX7_runs 15 = .ok (.ifCond .ge 8, 3) := by decide +kernel
theorem dX7_runs_18 : decode cX7_runs 18 = .ok (.bipush (-3), 2) := by decide +kernel
theorem dX7_runs_20 : decode cX7_runs 20 = .ok (.goto 14, 3) := by decide +kernel
theorem dX7_runs_23 : decode cX7_runs 23 = .ok (.aload_n 0, 1) := by decide +kernel
theorem dX7_runs_24 : decode cX7_runs 24 = .ok (.getfield 19, 3) := by decide +kernel
theorem dX7_runs_27 : decode cX7_runs 27 = .ok (.iload_n 1, 1) := by decide +kernel
theorem dX7_runs_28 : decode cX7_runs 28 = .ok (.iload_n 2, 1) := by decide +kernel
theorem dX7_runs_29 : decode cX7_runs 29 = .ok (.bipush 7, 2) := by decide +kernel
theorem dX7_runs_31 : decode cX7_runs 31 = .ok (.invokevirtual 115, 3) := by decide +kernel
theorem dX7_runs_34 : decode cX7_runs 34 = .ok (.ireturn, 1) := by decide +kernel
def Nt_runs (w : Wd) (a1 : Int32) (a2 : Int32) : Option Int32 := (if (La_hasStation_3 w a1) = (0 : Int32) then some (-2 : Int32) else (if (0 : Int32) ≤ a2 then (Option.bind (La_rideable w a1 a2 (7 : Int32)) (fun q3 => some q3)) else some (-3 : Int32)))
set_option maxRecDepth 100000 in
set_option maxHeartbeats 4000000 in
theorem ct_Nt_runs {l : Launch} {g : GG} {σ : Sd} (hg : OKg g σ) (hb : σ.2.1 = true) (hx : ∀ c ∈ ([0, 3, 4] : List Nat), c ∈ σ.1) (w : Wd) (a1 : Int32) (a2 : Int32) {q : Int32} (hq : Nt_runs w a1 a2 = some q) : CT l g σ yX7_runs cX7_runs 3 (some .int) 4 94 [.ref (gA g 0), .int a1, .int a2] w (some (.int q)) w := by
  refine ct_of (rt := (rtP w)) (res := Nt_runs w a1 a2) (q := q) (own := RX7) (b := true) hg hb hx (by decide) rfl (Nat.le_of_ble_eq_true rfl) hq (fun K e1 e2 e3 F => ?_)
  subst e1 e2 e3
  rw [Nt_runs]
  show N K _ _ w 0 [(0, .ref (gA (cg K) 0)), (1, .int a1), (2, .int a2)] []
  refine n_aload_n F dX7_runs_0 rfl 0 rfl ?_
  refine n_get F ck_7 lf_RX7_19 (by decide) fg_0_1 (by decide) dX7_runs_1 ?_
  refine n_iload_n F dX7_runs_4 rfl 1 rfl ?_
  refine n_callVi F cb_X1_hasStation lm_RX7_112 ob_3 (by decide) ⟨_, _, rfl⟩ (ct_La_hasStation_3 (fx_ok F) (fx_sd F) (fx_ix F rfl) w a1) rfl rfl (Nat.le_of_ble_eq_true rfl) ⟨Nat.le_of_ble_eq_true rfl, Nat.le_of_ble_eq_true rfl⟩ dX7_runs_5 ?_
  refine n_if_ne F 14 dX7_runs_8 (by decide) (fun e1 => ?_) (fun e1 => ?_)
  · rw [if_neg e1]
    refine n_iload_n F dX7_runs_14 rfl 2 rfl ?_
    refine n_if_ge F 23 dX7_runs_15 (by decide) (fun e2 => ?_) (fun e2 => ?_)
    · rw [if_pos e2]
      refine n_aload_n F dX7_runs_23 rfl 0 rfl ?_
      refine n_get F ck_7 lf_RX7_19 (by decide) fg_0_1 (by decide) dX7_runs_24 ?_
      refine n_iload_n F dX7_runs_27 rfl 1 rfl ?_
      refine n_iload_n F dX7_runs_28 rfl 2 rfl ?_
      refine n_bipush F (7 : Int32) dX7_runs_29 (by decide) ?_
      refine n_bind (fun q3 hq3 => ?_)
      refine n_callVi F cb_X1_rideable lm_RX7_115 ob_3 (by decide) ⟨_, _, rfl⟩ (ct_La_rideable (fx_ok F) (fx_sd F) (fx_ix F rfl) w a1 a2 (7 : Int32) hq3) rfl rfl (Nat.le_of_ble_eq_true rfl) ⟨Nat.le_of_ble_eq_true rfl, Nat.le_of_ble_eq_true rfl⟩ dX7_runs_31 ?_
      exact n_iret F rfl rfl dX7_runs_34
    rw [if_neg e2]
    refine n_bipush F (-3 : Int32) dX7_runs_18 (by decide) ?_
    refine n_goto F 34 dX7_runs_20 (by decide) ?_
    exact n_iret F rfl rfl dX7_runs_34
  rw [if_pos e1]
  refine n_bipush F (-2 : Int32) dX7_runs_11 (by decide) ?_
  exact n_iret F rfl rfl dX7_runs_13
theorem dX7_isSuch_0 : decode cX7_isSuch 0 = .ok (.iload_n 2, 1) := by decide +kernel
theorem dX7_isSuch_1 : decode cX7_isSuch 1 = .ok (.lookupswitch 54 #[(0, 27), (3, 29)], 27) := by decide +kernel
theorem dX7_isSuch_28 : decode cX7_isSuch 28 = .ok (.iconst 1, 1) := by decide +kernel
theorem dX7_isSuch_29 : decode cX7_isSuch 29 = .ok (.ireturn, 1) := by decide +kernel
theorem dX7_isSuch_30 : decode cX7_isSuch 30 = .ok (.aload_n 0, 1) := by decide +kernel
theorem dX7_isSuch_31 : decode cX7_isSuch 31 = .ok (.getfield 37, 3) := by decide +kernel
theorem dX7_isSuch_34 : decode cX7_isSuch 34 = .ok (.aload_n 0, 1) := by decide +kernel
theorem dX7_isSuch_35 : decode cX7_isSuch 35 = .ok (.getfield 19, 3) := by decide +kernel
theorem dX7_isSuch_38 : decode cX7_isSuch 38 = .ok (.iload_n 1, 1) := by decide +kernel
theorem dX7_isSuch_39 : decode cX7_isSuch 39 = .ok (.iconst 5, 1) := by decide +kernel
theorem dX7_isSuch_40 : decode cX7_isSuch 40 = .ok (.invokevirtual 108, 3) := by decide +kernel
theorem dX7_isSuch_43 : decode cX7_isSuch 43 = .ok (.invokevirtual 123, 3) := by decide +kernel
theorem dX7_isSuch_46 : decode cX7_isSuch 46 = .ok (.ifCond .ne 7, 3) := by decide +kernel
theorem dX7_isSuch_49 : decode cX7_isSuch 49 = .ok (.iconst 1, 1) := by decide +kernel
theorem dX7_isSuch_50 : decode cX7_isSuch 50 = .ok (.goto 4, 3) := by decide +kernel
theorem dX7_isSuch_53 : decode cX7_isSuch 53 = .ok (.iconst 0, 1) := by decide +kernel
theorem dX7_isSuch_54 : decode cX7_isSuch 54 = .ok (.ireturn, 1) := by decide +kernel
theorem dX7_isSuch_55 : decode cX7_isSuch 55 = .ok (.aload_n 0, 1) := by decide +kernel
theorem dX7_isSuch_56 : decode cX7_isSuch 56 = .ok (.getfield 19, 3) := by decide +kernel
theorem dX7_isSuch_59 : decode cX7_isSuch 59 = .ok (.iload_n 1, 1) := by decide +kernel
theorem dX7_isSuch_60 : decode cX7_isSuch 60 = .ok (.iconst 4, 1) := by decide +kernel
theorem dX7_isSuch_61 : decode cX7_isSuch 61 = .ok (.invokevirtual 108, 3) := by decide +kernel
theorem dX7_isSuch_64 : decode cX7_isSuch 64 = .ok (.iload_n 2, 1) := by decide +kernel
theorem dX7_isSuch_65 : decode cX7_isSuch 65 = .ok (.if_icmp .ne 7, 3) := by decide +kernel
theorem dX7_isSuch_68 : decode cX7_isSuch 68 = .ok (.iconst 1, 1) := by decide +kernel
theorem dX7_isSuch_69 : decode cX7_isSuch 69 = .ok (.goto 4, 3) := by decide +kernel
theorem dX7_isSuch_72 : decode cX7_isSuch 72 = .ok (.iconst 0, 1) := by decide +kernel
theorem dX7_isSuch_73 : decode cX7_isSuch 73 = .ok (.ireturn, 1) := by decide +kernel
def Nt_isSuch (w : Wd) (a1 : Int32) (a2 : Int32) : Option Int32 := (if a2 = (0 : Int32) then some (1 : Int32) else (if a2 = (3 : Int32) then (Option.bind (La_part w a1 (5 : Int32)) (fun q3 => (Option.bind (Sc_ticketsOf w q3) (fun q4 => (if q4 = (0 : Int32) then some (1 : Int32) else some (0 : Int32)))))) else (Option.bind (La_part w a1 (4 : Int32)) (fun q6 => (if q6 = a2 then some (1 : Int32) else some (0 : Int32))))))
set_option maxRecDepth 100000 in
set_option maxHeartbeats 4000000 in
theorem ct_Nt_isSuch {l : Launch} {g : GG} {σ : Sd} (hg : OKg g σ) (hb : σ.2.1 = true) (hx : ∀ c ∈ ([0, 3, 4, 13, 14] : List Nat), c ∈ σ.1) (w : Wd) (a1 : Int32) (a2 : Int32) {q : Int32} (hq : Nt_isSuch w a1 a2 = some q) : CT l g σ yX7_isSuch cX7_isSuch 3 (some .boolean) 2 43 [.ref (gA g 0), .int a1, .int a2] w (some (.int q)) w := by
  refine ct_of (rt := (rtP w)) (res := Nt_isSuch w a1 a2) (q := q) (own := RX7) (b := true) hg hb hx (by decide) rfl (Nat.le_of_ble_eq_true rfl) hq (fun K e1 e2 e3 F => ?_)
  subst e1 e2 e3
  rw [Nt_isSuch]
  show N K _ _ w 0 [(0, .ref (gA (cg K) 0)), (1, .int a1), (2, .int a2)] []
  refine n_iload_n F dX7_isSuch_0 rfl 2 rfl ?_
  by_cases e1 : a2 = (0 : Int32)
  · rw [if_pos e1]
    refine n_look F (off := 27) 28 dX7_isSuch_1 (by decide) (by rw [e1]; decide) (by decide) ?_
    refine n_iconst F (1 : Int32) dX7_isSuch_28 (by decide) ?_
    exact n_zret F .boolean rfl rfl rfl dX7_isSuch_29
  rw [if_neg e1]
  by_cases e2 : a2 = (3 : Int32)
  · rw [if_pos e2]
    refine n_look F (off := 29) 30 dX7_isSuch_1 (by decide) (by rw [e2]; decide) (by decide) ?_
    refine n_aload_n F dX7_isSuch_30 rfl 0 rfl ?_
    refine n_get F ck_7 lf_RX7_37 (by decide) fg_0_3 (by decide) dX7_isSuch_31 ?_
    refine n_aload_n F dX7_isSuch_34 rfl 0 rfl ?_
    refine n_get F ck_7 lf_RX7_19 (by decide) fg_0_1 (by decide) dX7_isSuch_35 ?_
    refine n_iload_n F dX7_isSuch_38 rfl 1 rfl ?_
    refine n_iconst F (5 : Int32) dX7_isSuch_39 (by decide) ?_
    refine n_bind (fun q3 hq3 => ?_)
    refine n_callVi F cb_X1_part lm_RX7_108 ob_3 (by decide) ⟨_, _, rfl⟩ (ct_La_part (fx_ok F) (fx_sd F) (fx_ix F rfl) w a1 (5 : Int32) hq3) rfl rfl (Nat.le_of_ble_eq_true rfl) ⟨Nat.le_of_ble_eq_true rfl, Nat.le_of_ble_eq_true rfl⟩ dX7_isSuch_40 ?_
    refine n_bind (fun q4 hq4 => ?_)
    refine n_callVi F cb_X5_ticketsOf lm_RX7_123 ob_13 (by decide) ⟨_, _, rfl⟩ (ct_Sc_ticketsOf (fx_ok F) (fx_sd F) (fx_ix F rfl) w q3 hq4) rfl rfl (Nat.le_of_ble_eq_true rfl) ⟨Nat.le_of_ble_eq_true rfl, Nat.le_of_ble_eq_true rfl⟩ dX7_isSuch_43 ?_
    refine n_if_ne F 53 dX7_isSuch_46 (by decide) (fun e5 => ?_) (fun e5 => ?_)
    · rw [if_neg e5]
      refine n_iconst F (0 : Int32) dX7_isSuch_53 (by decide) ?_
      exact n_zret F .boolean rfl rfl rfl dX7_isSuch_54
    rw [if_pos e5]
    refine n_iconst F (1 : Int32) dX7_isSuch_49 (by decide) ?_
    refine n_goto F 54 dX7_isSuch_50 (by decide) ?_
    exact n_zret F .boolean rfl rfl rfl dX7_isSuch_54
  rw [if_neg e2]
  refine n_look F (off := 54) 55 dX7_isSuch_1 (by decide) (by rw [show (#[(0, 27), (3, 29)] : Array (Int × Int)).toList = [(0, 27), (3, 29)] from rfl, lv_osw (a := 0) e1 rfl, lv_osw (a := 3) e2 rfl]; rfl) (by decide) ?_
  refine n_aload_n F dX7_isSuch_55 rfl 0 rfl ?_
  refine n_get F ck_7 lf_RX7_19 (by decide) fg_0_1 (by decide) dX7_isSuch_56 ?_
  refine n_iload_n F dX7_isSuch_59 rfl 1 rfl ?_
  refine n_iconst F (4 : Int32) dX7_isSuch_60 (by decide) ?_
  refine n_bind (fun q6 hq6 => ?_)
  refine n_callVi F cb_X1_part lm_RX7_108 ob_3 (by decide) ⟨_, _, rfl⟩ (ct_La_part (fx_ok F) (fx_sd F) (fx_ix F rfl) w a1 (4 : Int32) hq6) rfl rfl (Nat.le_of_ble_eq_true rfl) ⟨Nat.le_of_ble_eq_true rfl, Nat.le_of_ble_eq_true rfl⟩ dX7_isSuch_61 ?_
  refine n_iload_n F dX7_isSuch_64 rfl 2 rfl ?_
  refine n_icmp_ne F 72 dX7_isSuch_65 (by decide) (fun e7 => ?_) (fun e7 => ?_)
  · rw [if_neg e7]
    refine n_iconst F (0 : Int32) dX7_isSuch_72 (by decide) ?_
    exact n_zret F .boolean rfl rfl rfl dX7_isSuch_73
  rw [if_pos e7]
  refine n_iconst F (1 : Int32) dX7_isSuch_68 (by decide) ?_
  refine n_goto F 73 dX7_isSuch_69 (by decide) ?_
  exact n_zret F .boolean rfl rfl rfl dX7_isSuch_73
theorem dX7_as_0 : decode cX7_as 0 = .ok (.aload_n 0, 1) := by decide +kernel
theorem dX7_as_1 : decode cX7_as 1 = .ok (.getfield 19, 3) := by decide +kernel
theorem dX7_as_4 : decode cX7_as 4 = .ok (.iload_n 1, 1) := by decide +kernel
theorem dX7_as_5 : decode cX7_as 5 = .ok (.invokevirtual 104, 3) := by decide +kernel
theorem dX7_as_8 : decode cX7_as 8 = .ok (.ifCond .ne 6, 3) := by decide +kernel
theorem dX7_as_11 : decode cX7_as 11 = .ok (.bipush (-2), 2) := by decide +kernel
theorem dX7_as_13 : decode cX7_as 13 = .ok (.ireturn, 1) := by decide +kernel
theorem dX7_as_14 : decode cX7_as 14 = .ok (.iload_n 2, 1) := by decide +kernel
theorem dX7_as_15 : decode cX7_as 15 = .ok (.iconst 0, 1) := by decide +kernel
theorem dX7_as_16 : decode cX7_as 16 = .ok (.iconst 3, 1) := by decide +kernel
theorem dX7_as_17 : decode cX7_as 17 = .ok (.invokestatic 74, 3) := by decide +kernel
theorem dX7_as_20 : decode cX7_as 20 = .ok (.ifCond .ne 6, 3) := by decide +kernel
theorem dX7_as_23 : decode cX7_as 23 = .ok (.bipush (-3), 2) := by decide +kernel
theorem dX7_as_25 : decode cX7_as 25 = .ok (.ireturn, 1) := by decide +kernel
theorem dX7_as_26 : decode cX7_as 26 = .ok (.aload_n 0, 1) := by decide +kernel
theorem dX7_as_27 : decode cX7_as 27 = .ok (.iload_n 1, 1) := by decide +kernel
theorem dX7_as_28 : decode cX7_as 28 = .ok (.iload_n 2, 1) := by decide +kernel
theorem dX7_as_29 : decode cX7_as 29 = .ok (.invokevirtual 119, 3) := by decide +kernel
theorem dX7_as_32 : decode cX7_as 32 = .ok (.ifCond .eq 15, 3) := by decide +kernel
theorem dX7_as_35 : decode cX7_as 35 = .ok (.aload_n 0, 1) := by decide +kernel
theorem dX7_as_36 : decode cX7_as 36 = .ok (.getfield 19, 3) := by decide +kernel
theorem dX7_as_39 : decode cX7_as 39 = .ok (.iload_n 1, 1) := by decide +kernel
theorem dX7_as_40 : decode cX7_as 40 = .ok (.iconst 5, 1) := by decide +kernel
theorem dX7_as_41 : decode cX7_as 41 = .ok (.invokevirtual 108, 3) := by decide +kernel
theorem dX7_as_44 : decode cX7_as 44 = .ok (.goto 5, 3) := by decide +kernel
theorem dX7_as_47 : decode cX7_as 47 = .ok (.bipush (-4), 2) := by decide +kernel
theorem dX7_as_49 : decode cX7_as 49 = .ok (.ireturn, 1) := by decide +kernel
def Nt_as (w : Wd) (a1 : Int32) (a2 : Int32) : Option Int32 := (if (La_hasTrain w a1) = (0 : Int32) then some (-2 : Int32) else (if (Nt_within w a2 (0 : Int32) (3 : Int32)) = (0 : Int32) then some (-3 : Int32) else (Option.bind (Nt_isSuch w a1 a2) (fun q3 => (if q3 = (0 : Int32) then some (-4 : Int32) else (Option.bind (La_part w a1 (5 : Int32)) (fun q5 => some q5)))))))
set_option maxRecDepth 100000 in
set_option maxHeartbeats 4000000 in
theorem ct_Nt_as {l : Launch} {g : GG} {σ : Sd} (hg : OKg g σ) (hb : σ.2.1 = true) (hx : ∀ c ∈ ([0, 3, 4, 13, 14] : List Nat), c ∈ σ.1) (w : Wd) (a1 : Int32) (a2 : Int32) {q : Int32} (hq : Nt_as w a1 a2 = some q) : CT l g σ yX7_as cX7_as 3 (some .int) 3 65 [.ref (gA g 0), .int a1, .int a2] w (some (.int q)) w := by
  refine ct_of (rt := (rtP w)) (res := Nt_as w a1 a2) (q := q) (own := RX7) (b := true) hg hb hx (by decide) rfl (Nat.le_of_ble_eq_true rfl) hq (fun K e1 e2 e3 F => ?_)
  subst e1 e2 e3
  rw [Nt_as]
  show N K _ _ w 0 [(0, .ref (gA (cg K) 0)), (1, .int a1), (2, .int a2)] []
  refine n_aload_n F dX7_as_0 rfl 0 rfl ?_
  refine n_get F ck_7 lf_RX7_19 (by decide) fg_0_1 (by decide) dX7_as_1 ?_
  refine n_iload_n F dX7_as_4 rfl 1 rfl ?_
  refine n_callVi F cb_X1_hasTrain lm_RX7_104 ob_3 (by decide) ⟨_, _, rfl⟩ (ct_La_hasTrain (fx_ok F) (fx_sd F) (fx_ix F rfl) w a1) rfl rfl (Nat.le_of_ble_eq_true rfl) ⟨Nat.le_of_ble_eq_true rfl, Nat.le_of_ble_eq_true rfl⟩ dX7_as_5 ?_
  refine n_if_ne F 14 dX7_as_8 (by decide) (fun e1 => ?_) (fun e1 => ?_)
  · rw [if_neg e1]
    refine n_iload_n F dX7_as_14 rfl 2 rfl ?_
    refine n_iconst F (0 : Int32) dX7_as_15 (by decide) ?_
    refine n_iconst F (3 : Int32) dX7_as_16 (by decide) ?_
    refine n_callSi F cb_X7_within lm_RX7_74 (ct_Nt_within (fx_ok F) (fx_sd F) (fx_ix F rfl) w a2 (0 : Int32) (3 : Int32)) rfl rfl (Nat.le_of_ble_eq_true rfl) ⟨Nat.le_of_ble_eq_true rfl, Nat.le_of_ble_eq_true rfl⟩ dX7_as_17 ?_
    refine n_if_ne F 26 dX7_as_20 (by decide) (fun e2 => ?_) (fun e2 => ?_)
    · rw [if_neg e2]
      refine n_aload_n F dX7_as_26 rfl 0 rfl ?_
      refine n_iload_n F dX7_as_27 rfl 1 rfl ?_
      refine n_iload_n F dX7_as_28 rfl 2 rfl ?_
      refine n_bind (fun q3 hq3 => ?_)
      refine n_callVi F cb_X7_isSuch lm_RX7_119 ob_0 (by decide) ⟨_, _, rfl⟩ (ct_Nt_isSuch (fx_ok F) (fx_sd F) (fx_ix F rfl) w a1 a2 hq3) rfl rfl (Nat.le_of_ble_eq_true rfl) ⟨Nat.le_of_ble_eq_true rfl, Nat.le_of_ble_eq_true rfl⟩ dX7_as_29 ?_
      refine n_if_eq F 47 dX7_as_32 (by decide) (fun e4 => ?_) (fun e4 => ?_)
      · rw [if_pos e4]
        refine n_bipush F (-4 : Int32) dX7_as_47 (by decide) ?_
        exact n_iret F rfl rfl dX7_as_49
      rw [if_neg e4]
      refine n_aload_n F dX7_as_35 rfl 0 rfl ?_
      refine n_get F ck_7 lf_RX7_19 (by decide) fg_0_1 (by decide) dX7_as_36 ?_
      refine n_iload_n F dX7_as_39 rfl 1 rfl ?_
      refine n_iconst F (5 : Int32) dX7_as_40 (by decide) ?_
      refine n_bind (fun q5 hq5 => ?_)
      refine n_callVi F cb_X1_part lm_RX7_108 ob_3 (by decide) ⟨_, _, rfl⟩ (ct_La_part (fx_ok F) (fx_sd F) (fx_ix F rfl) w a1 (5 : Int32) hq5) rfl rfl (Nat.le_of_ble_eq_true rfl) ⟨Nat.le_of_ble_eq_true rfl, Nat.le_of_ble_eq_true rfl⟩ dX7_as_41 ?_
      refine n_goto F 49 dX7_as_44 (by decide) ?_
      exact n_iret F rfl rfl dX7_as_49
    rw [if_pos e2]
    refine n_bipush F (-3 : Int32) dX7_as_23 (by decide) ?_
    exact n_iret F rfl rfl dX7_as_25
  rw [if_pos e1]
  refine n_bipush F (-2 : Int32) dX7_as_11 (by decide) ?_
  exact n_iret F rfl rfl dX7_as_13
theorem dX7_ride_0 : decode cX7_ride 0 = .ok (.aload_n 0, 1) := by decide +kernel
theorem dX7_ride_1 : decode cX7_ride 1 = .ok (.getfield 19, 3) := by decide +kernel
theorem dX7_ride_4 : decode cX7_ride 4 = .ok (.iload_n 1, 1) := by decide +kernel
theorem dX7_ride_5 : decode cX7_ride 5 = .ok (.invokevirtual 104, 3) := by decide +kernel
theorem dX7_ride_8 : decode cX7_ride 8 = .ok (.ifCond .ne 6, 3) := by decide +kernel
theorem dX7_ride_11 : decode cX7_ride 11 = .ok (.bipush (-2), 2) := by decide +kernel
theorem dX7_ride_13 : decode cX7_ride 13 = .ok (.ireturn, 1) := by decide +kernel
theorem dX7_ride_14 : decode cX7_ride 14 = .ok (.aload_n 0, 1) := by decide +kernel
theorem dX7_ride_15 : decode cX7_ride 15 = .ok (.getfield 37, 3) := by decide +kernel
theorem dX7_ride_18 : decode cX7_ride 18 = .ok (.invokevirtual 127, 3) := by decide +kernel
theorem dX7_ride_21 : decode cX7_ride 21 = .ok (.iload_n 1, 1) := by decide +kernel
theorem dX7_ride_22 : decode cX7_ride 22 = .ok (.ishr, 1) := by decide +kernel
theorem dX7_ride_23 : decode cX7_ride 23 = .ok (.iconst 1, 1) := by decide +kernel
theorem dX7_ride_24 : decode cX7_ride 24 = .ok (.iand, 1) := by decide +kernel
theorem dX7_ride_25 : decode cX7_ride 25 = .ok (.ifCond .ne 6, 3) := by decide +kernel
theorem dX7_ride_28 : decode cX7_ride 28 = .ok (.bipush (-4), 2) := by decide +kernel
theorem dX7_ride_30 : decode cX7_ride 30 = .ok (.ireturn, 1) := by decide +kernel
theorem dX7_ride_31 : decode cX7_ride 31 = .ok (.aload_n 0, 1) := by decide +kernel
theorem dX7_ride_32 : decode cX7_ride 32 = .ok (.getfield 37, 3) := by decide +kernel
theorem dX7_ride_35 : decode cX7_ride 35 = .ok (.iload_n 1, 1) := by decide +kernel
theorem dX7_ride_36 : decode cX7_ride 36 = .ok (.putfield 130, 3) := by decide +kernel
theorem dX7_ride_39 : decode cX7_ride 39 = .ok (.aload_n 0, 1) := by decide +kernel
theorem dX7_ride_40 : decode cX7_ride 40 = .ok (.getfield 19, 3) := by decide +kernel
theorem dX7_ride_43 : decode cX7_ride 43 = .ok (.iload_n 1, 1) := by decide +kernel
theorem dX7_ride_44 : decode cX7_ride 44 = .ok (.iconst 1, 1) := by decide +kernel
theorem dX7_ride_45 : decode cX7_ride 45 = .ok (.invokevirtual 108, 3) := by decide +kernel
theorem dX7_ride_48 : decode cX7_ride 48 = .ok (.ireturn, 1) := by decide +kernel
def Nt_ride (w : Wd) (a1 : Int32) : Option (Int32 × Wd) := (if (La_hasTrain w a1) = (0 : Int32) then some ((-2 : Int32), w) else (Option.bind (Sc_rideable w) (fun q2 => (if ((q2 >>> (a1 &&& (31 : Int32))) &&& (1 : Int32)) = (0 : Int32) then some ((-4 : Int32), w) else (Option.bind (La_part (sI w 13 5 a1) a1 (1 : Int32)) (fun q4 => some (q4, (sI w 13 5 a1))))))))
set_option maxRecDepth 100000 in
set_option maxHeartbeats 4000000 in
theorem ct_Nt_ride {l : Launch} {g : GG} {σ : Sd} (hg : OKg g σ) (hb : σ.2.1 = true) (hx : ∀ c ∈ ([0, 3, 4, 13, 14] : List Nat), c ∈ σ.1) (w : Wd) (a1 : Int32) {q : Int32 × Wd} (hq : Nt_ride w a1 = some q) : CT l g σ yX7_ride cX7_ride 2 (some .int) 5 114 [.ref (gA g 0), .int a1] w (some (.int q.1)) q.2 := by
  refine ct_of (rt := rtI) (res := Nt_ride w a1) (q := q) (own := RX7) (b := true) hg hb hx (by decide) rfl (Nat.le_of_ble_eq_true rfl) hq (fun K e1 e2 e3 F => ?_)
  subst e1 e2 e3
  rw [Nt_ride]
  show N K _ _ w 0 [(0, .ref (gA (cg K) 0)), (1, .int a1)] []
  refine n_aload_n F dX7_ride_0 rfl 0 rfl ?_
  refine n_get F ck_7 lf_RX7_19 (by decide) fg_0_1 (by decide) dX7_ride_1 ?_
  refine n_iload_n F dX7_ride_4 rfl 1 rfl ?_
  refine n_callVi F cb_X1_hasTrain lm_RX7_104 ob_3 (by decide) ⟨_, _, rfl⟩ (ct_La_hasTrain (fx_ok F) (fx_sd F) (fx_ix F rfl) w a1) rfl rfl (Nat.le_of_ble_eq_true rfl) ⟨Nat.le_of_ble_eq_true rfl, Nat.le_of_ble_eq_true rfl⟩ dX7_ride_5 ?_
  refine n_if_ne F 14 dX7_ride_8 (by decide) (fun e1 => ?_) (fun e1 => ?_)
  · rw [if_neg e1]
    refine n_aload_n F dX7_ride_14 rfl 0 rfl ?_
    refine n_get F ck_7 lf_RX7_37 (by decide) fg_0_3 (by decide) dX7_ride_15 ?_
    refine n_bind (fun q2 hq2 => ?_)
    refine n_callVi F cb_X5_rideable lm_RX7_127 ob_13 (by decide) ⟨_, _, rfl⟩ (ct_Sc_rideable (fx_ok F) (fx_sd F) (fx_ix F rfl) w hq2) rfl rfl (Nat.le_of_ble_eq_true rfl) ⟨Nat.le_of_ble_eq_true rfl, Nat.le_of_ble_eq_true rfl⟩ dX7_ride_18 ?_
    refine n_iload_n F dX7_ride_21 rfl 1 rfl ?_
    refine n_ishr F dX7_ride_22 ?_
    refine n_iconst F (1 : Int32) dX7_ride_23 (by decide) ?_
    refine n_iand F dX7_ride_24 ?_
    refine n_if_ne F 31 dX7_ride_25 (by decide) (fun e3 => ?_) (fun e3 => ?_)
    · rw [if_neg e3]
      refine n_aload_n F dX7_ride_31 rfl 0 rfl ?_
      refine n_get F ck_7 lf_RX7_37 (by decide) fg_0_3 (by decide) dX7_ride_32 ?_
      refine n_iload_n F dX7_ride_35 rfl 1 rfl ?_
      refine n_put F ck_5 lf_RX7_130 (by decide) rfl fp_13_5 (by decide) rfl rfl dX7_ride_36 ?_
      refine n_aload_n F dX7_ride_39 rfl 0 rfl ?_
      refine n_get F ck_7 lf_RX7_19 (by decide) fg_0_1 (by decide) dX7_ride_40 ?_
      refine n_iload_n F dX7_ride_43 rfl 1 rfl ?_
      refine n_iconst F (1 : Int32) dX7_ride_44 (by decide) ?_
      refine n_bind (fun q4 hq4 => ?_)
      refine n_callVi F cb_X1_part lm_RX7_108 ob_3 (by decide) ⟨_, _, rfl⟩ (ct_La_part (fx_ok F) (fx_sd F) (fx_ix F rfl) (sI w 13 5 a1) a1 (1 : Int32) hq4) rfl rfl (Nat.le_of_ble_eq_true rfl) ⟨Nat.le_of_ble_eq_true rfl, Nat.le_of_ble_eq_true rfl⟩ dX7_ride_45 ?_
      exact n_iret F rfl rfl dX7_ride_48
    rw [if_pos e3]
    refine n_bipush F (-4 : Int32) dX7_ride_28 (by decide) ?_
    exact n_iret F rfl rfl dX7_ride_30
  rw [if_pos e1]
  refine n_bipush F (-2 : Int32) dX7_ride_11 (by decide) ?_
  exact n_iret F rfl rfl dX7_ride_13
theorem dX7_send_0 : decode cX7_send 0 = .ok (.iload_n 1, 1) := by decide +kernel
theorem dX7_send_1 : decode cX7_send 1 = .ok (.invokestatic 133, 3) := by decide +kernel
theorem dX7_send_4 : decode cX7_send 4 = .ok (.ifCond .eq 19, 3) := by decide +kernel
theorem dX7_send_7 : decode cX7_send 7 = .ok (.iload_n 2, 1) := by decide +kernel
theorem dX7_send_8 : decode cX7_send 8 = .ok (.iconst (-1), 1) := by decide +kernel
theorem dX7_send_9 : decode cX7_send 9 = .ok (.if_icmp .eq 17, 3) := by decide +kernel
theorem dX7_send_12 : decode cX7_send 12 = .ok (.aload_n 0, 1) := by decide +kernel
theorem dX7_send_13 : decode cX7_send 13 = .ok (.getfield 19, 3) := by decide +kernel
theorem dX7_send_16 : decode cX7_send 16 = .ok (.iload_n 2, 1) := by decide +kernel
theorem dX7_send_17 : decode cX7_send 17 = .ok (.invokevirtual 104, 3) := by decide +kernel
theorem dX7_send_20 : decode cX7_send 20 = .ok (.ifCond .ne 6, 3) := by decide +kernel
theorem dX7_send_23 : decode cX7_send 23 = .ok (.bipush (-2), 2) := by decide +kernel
theorem dX7_send_25 : decode cX7_send 25 = .ok (.ireturn, 1) := by decide +kernel
theorem dX7_send_26 : decode cX7_send 26 = .ok (.aload_n 0, 1) := by decide +kernel
theorem dX7_send_27 : decode cX7_send 27 = .ok (.getfield 37, 3) := by decide +kernel
theorem dX7_send_30 : decode cX7_send 30 = .ok (.getfield 136, 3) := by decide +kernel
theorem dX7_send_33 : decode cX7_send 33 = .ok (.ifCond .ne 15, 3) := by decide +kernel
theorem dX7_send_36 : decode cX7_send 36 = .ok (.aload_n 0, 1) := by decide +kernel
theorem dX7_send_37 : decode cX7_send 37 = .ok (.getfield 37, 3) := by decide +kernel
theorem dX7_send_40 : decode cX7_send 40 = .ok (.iload_n 1, 1) := by decide +kernel
theorem dX7_send_41 : decode cX7_send 41 = .ok (.iload_n 2, 1) := by decide +kernel
theorem dX7_send_42 : decode cX7_send 42 = .ok (.invokevirtual 140, 3) := by decide +kernel
theorem dX7_send_45 : decode cX7_send 45 = .ok (.ifCond .ne 6, 3) := by decide +kernel
theorem dX7_send_48 : decode cX7_send 48 = .ok (.bipush (-4), 2) := by decide +kernel
theorem dX7_send_50 : decode cX7_send 50 = .ok (.ireturn, 1) := by decide +kernel
theorem dX7_send_51 : decode cX7_send 51 = .ok (.aload_n 0, 1) := by decide +kernel
theorem dX7_send_52 : decode cX7_send 52 = .ok (.getfield 37, 3) := by decide +kernel
theorem dX7_send_55 : decode cX7_send 55 = .ok (.getfield 143, 3) := by decide +kernel
theorem dX7_send_58 : decode cX7_send 58 = .ok (.iload_n 1, 1) := by decide +kernel
theorem dX7_send_59 : decode cX7_send 59 = .ok (.iload_n 2, 1) := by decide +kernel
theorem dX7_send_60 : decode cX7_send 60 = .ok (.iastore, 1) := by decide +kernel
theorem dX7_send_61 : decode cX7_send 61 = .ok (.aload_n 0, 1) := by decide +kernel
theorem dX7_send_62 : decode cX7_send 62 = .ok (.getfield 37, 3) := by decide +kernel
theorem dX7_send_65 : decode cX7_send 65 = .ok (.iload_n 1, 1) := by decide +kernel
theorem dX7_send_66 : decode cX7_send 66 = .ok (.invokevirtual 147, 3) := by decide +kernel
theorem dX7_send_69 : decode cX7_send 69 = .ok (.ireturn, 1) := by decide +kernel
def Nt_send_B26 (w : Wd) (v1 : Int32) (v2 : Int32) : Option (Int32 × Wd) := (if (w.1 13 4) = (0 : Int32) then (Option.bind (Sc_canSend w v1 v2) (fun q4 => (if q4 = (0 : Int32) then some ((-4 : Int32), w) else (if ib v1 2 = true then (Option.bind (Sc_placeBehind (sI w 16 (Int32.toNatClampNeg v1) v2) v1) (fun q7 => some (q7, (sI w 16 (Int32.toNatClampNeg v1) v2)))) else none)))) else some ((-4 : Int32), w))
set_option maxRecDepth 100000 in
set_option maxHeartbeats 4000000 in
theorem Nt_send_B26_ok {K : Ctx} (F : Fx K cX7_send 3 RX7 (some .int) 4 91 true [0, 3, 4, 13, 15, 16]) (w : Wd) (v1 : Int32) (v2 : Int32) : N K rtI (Nt_send_B26 w v1 v2) w 26 [(0, .ref (gA (cg K) 0)), (1, .int v1), (2, .int v2)] [] := by
  rw [Nt_send_B26]
  refine n_aload_n F dX7_send_26 rfl 0 rfl ?_
  refine n_get F ck_7 lf_RX7_37 (by decide) fg_0_3 (by decide) dX7_send_27 ?_
  refine n_get F ck_5 lf_RX7_136 (by decide) fg_13_4 (by decide) dX7_send_30 ?_
  refine n_if_ne F 48 dX7_send_33 (by decide) (fun e3 => ?_) (fun e3 => ?_)
  · rw [if_neg e3]
    refine n_bipush F (-4 : Int32) dX7_send_48 (by decide) ?_
    exact n_iret F rfl rfl dX7_send_50
  rw [if_pos e3]
  refine n_aload_n F dX7_send_36 rfl 0 rfl ?_
  refine n_get F ck_7 lf_RX7_37 (by decide) fg_0_3 (by decide) dX7_send_37 ?_
  refine n_iload_n F dX7_send_40 rfl 1 rfl ?_
  refine n_iload_n F dX7_send_41 rfl 2 rfl ?_
  refine n_bind (fun q4 hq4 => ?_)
  refine n_callVi F cb_X5_canSend lm_RX7_140 ob_13 (by decide) ⟨_, _, rfl⟩ (ct_Sc_canSend (fx_ok F) (fx_sd F) (fx_ix F rfl) w v1 v2 hq4) rfl rfl (Nat.le_of_ble_eq_true rfl) ⟨Nat.le_of_ble_eq_true rfl, Nat.le_of_ble_eq_true rfl⟩ dX7_send_42 ?_
  refine n_if_ne F 51 dX7_send_45 (by decide) (fun e5 => ?_) (fun e5 => ?_)
  · rw [if_neg e5]
    refine n_aload_n F dX7_send_51 rfl 0 rfl ?_
    refine n_get F ck_7 lf_RX7_37 (by decide) fg_0_3 (by decide) dX7_send_52 ?_
    refine n_get F ck_5 lf_RX7_143 (by decide) fg_13_8 (by decide) dX7_send_55 ?_
    refine n_iload_n F dX7_send_58 rfl 1 rfl ?_
    refine n_iload_n F dX7_send_59 rfl 2 rfl ?_
    refine n_chk (fun e6 => ?_)
    refine n_iast F ar_16 (by decide) (ib_in e6) rfl dX7_send_60 ?_
    refine n_aload_n F dX7_send_61 rfl 0 rfl ?_
    refine n_get F ck_7 lf_RX7_37 (by decide) fg_0_3 (by decide) dX7_send_62 ?_
    refine n_iload_n F dX7_send_65 rfl 1 rfl ?_
    refine n_bind (fun q7 hq7 => ?_)
    refine n_callVi F cb_X5_placeBehind lm_RX7_147 ob_13 (by decide) ⟨_, _, rfl⟩ (ct_Sc_placeBehind (fx_ok F) (fx_sd F) (fx_ix F rfl) (sI w 16 (Int32.toNatClampNeg v1) v2) v1 hq7) rfl rfl (Nat.le_of_ble_eq_true rfl) ⟨Nat.le_of_ble_eq_true rfl, Nat.le_of_ble_eq_true rfl⟩ dX7_send_66 ?_
    exact n_iret F rfl rfl dX7_send_69
  rw [if_pos e5]
  refine n_bipush F (-4 : Int32) dX7_send_48 (by decide) ?_
  exact n_iret F rfl rfl dX7_send_50
def Nt_send (w : Wd) (a1 : Int32) (a2 : Int32) : Option (Int32 × Wd) := (if (Nt_isSeeker w a1) = (0 : Int32) then some ((-2 : Int32), w) else (if a2 = (-1 : Int32) then (Nt_send_B26 w a1 a2) else (if (La_hasTrain w a2) = (0 : Int32) then some ((-2 : Int32), w) else (Nt_send_B26 w a1 a2))))
set_option maxRecDepth 100000 in
set_option maxHeartbeats 4000000 in
theorem ct_Nt_send {l : Launch} {g : GG} {σ : Sd} (hg : OKg g σ) (hb : σ.2.1 = true) (hx : ∀ c ∈ ([0, 3, 4, 13, 15, 16] : List Nat), c ∈ σ.1) (w : Wd) (a1 : Int32) (a2 : Int32) {q : Int32 × Wd} (hq : Nt_send w a1 a2 = some q) : CT l g σ yX7_send cX7_send 3 (some .int) 4 91 [.ref (gA g 0), .int a1, .int a2] w (some (.int q.1)) q.2 := by
  refine ct_of (rt := rtI) (res := Nt_send w a1 a2) (q := q) (own := RX7) (b := true) hg hb hx (by decide) rfl (Nat.le_of_ble_eq_true rfl) hq (fun K e1 e2 e3 F => ?_)
  subst e1 e2 e3
  rw [Nt_send]
  show N K _ _ w 0 [(0, .ref (gA (cg K) 0)), (1, .int a1), (2, .int a2)] []
  refine n_iload_n F dX7_send_0 rfl 1 rfl ?_
  refine n_callSi F cb_X7_isSeeker lm_RX7_133 (ct_Nt_isSeeker (fx_ok F) (fx_sd F) (fx_ix F rfl) w a1) rfl rfl (Nat.le_of_ble_eq_true rfl) ⟨Nat.le_of_ble_eq_true rfl, Nat.le_of_ble_eq_true rfl⟩ dX7_send_1 ?_
  refine n_if_eq F 23 dX7_send_4 (by decide) (fun e1 => ?_) (fun e1 => ?_)
  · rw [if_pos e1]
    refine n_bipush F (-2 : Int32) dX7_send_23 (by decide) ?_
    exact n_iret F rfl rfl dX7_send_25
  rw [if_neg e1]
  refine n_iload_n F dX7_send_7 rfl 2 rfl ?_
  refine n_iconst F (-1 : Int32) dX7_send_8 (by decide) ?_
  refine n_icmp_eq F 26 dX7_send_9 (by decide) (fun e2 => ?_) (fun e2 => ?_)
  · rw [if_pos e2]
    exact n_sub [0, 1, 2] rfl (Nt_send_B26_ok F _ _ _)
  rw [if_neg e2]
  refine n_aload_n F dX7_send_12 rfl 0 rfl ?_
  refine n_get F ck_7 lf_RX7_19 (by decide) fg_0_1 (by decide) dX7_send_13 ?_
  refine n_iload_n F dX7_send_16 rfl 2 rfl ?_
  refine n_callVi F cb_X1_hasTrain lm_RX7_104 ob_3 (by decide) ⟨_, _, rfl⟩ (ct_La_hasTrain (fx_ok F) (fx_sd F) (fx_ix F rfl) w a2) rfl rfl (Nat.le_of_ble_eq_true rfl) ⟨Nat.le_of_ble_eq_true rfl, Nat.le_of_ble_eq_true rfl⟩ dX7_send_17 ?_
  refine n_if_ne F 26 dX7_send_20 (by decide) (fun e8 => ?_) (fun e8 => ?_)
  · rw [if_neg e8]
    exact n_sub [0, 1, 2] rfl (Nt_send_B26_ok F _ _ _)
  rw [if_pos e8]
  refine n_bipush F (-2 : Int32) dX7_send_23 (by decide) ?_
  exact n_iret F rfl rfl dX7_send_25
