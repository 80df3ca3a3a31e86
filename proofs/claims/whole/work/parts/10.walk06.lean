theorem dX7_noon_0 : decode cX7_noon 0 = .ok (.aload_n 0, 1) := by decide +kernel
theorem dX7_noon_1 : decode cX7_noon 1 = .ok (.getfield 37, 3) := by decide +kernel
theorem dX7_noon_4 : decode cX7_noon 4 = .ok (.getfield 136, 3) := by decide +kernel
theorem dX7_noon_7 : decode cX7_noon 7 = .ok (.ifCond .ne 24, 3) := by decide +kernel
theorem dX7_noon_10 : decode cX7_noon 10 = .ok (.aload_n 0, 1) := by decide +kernel
theorem dX7_noon_11 : decode cX7_noon 11 = .ok (.getfield 37, 3) := by decide +kernel
theorem dX7_noon_14 : decode cX7_noon 14 = .ok (.getfield 130, 3) := by decide +kernel
theorem dX7_noon_17 : decode cX7_noon 17 = .ok (.iconst (-1), 1) := by decide +kernel
theorem dX7_noon_18 : decode cX7_noon 18 = .ok (.if_icmp .ne 16, 3) := by decide +kernel
theorem dX7_noon_21 : decode cX7_noon 21 = .ok (.aload_n 0, 1) := by decide +kernel
theorem dX7_noon_22 : decode cX7_noon 22 = .ok (.getfield 37, 3) := by decide +kernel
theorem dX7_noon_25 : decode cX7_noon 25 = .ok (.invokevirtual 127, 3) := by decide +kernel
theorem dX7_noon_28 : decode cX7_noon 28 = .ok (.ifCond .eq 6, 3) := by decide +kernel
theorem dX7_noon_31 : decode cX7_noon 31 = .ok (.bipush (-4), 2) := by decide +kernel
theorem dX7_noon_33 : decode cX7_noon 33 = .ok (.ireturn, 1) := by decide +kernel
theorem dX7_noon_34 : decode cX7_noon 34 = .ok (.aload_n 0, 1) := by decide +kernel
theorem dX7_noon_35 : decode cX7_noon 35 = .ok (.getfield 37, 3) := by decide +kernel
theorem dX7_noon_38 : decode cX7_noon 38 = .ok (.invokevirtual 150, 3) := by decide +kernel
theorem dX7_noon_41 : decode cX7_noon 41 = .ok (.aload_n 0, 1) := by decide +kernel
theorem dX7_noon_42 : decode cX7_noon 42 = .ok (.getfield 37, 3) := by decide +kernel
theorem dX7_noon_45 : decode cX7_noon 45 = .ok (.getfield 136, 3) := by decide +kernel
theorem dX7_noon_48 : decode cX7_noon 48 = .ok (.ifCond .eq 7, 3) := by decide +kernel
theorem dX7_noon_51 : decode cX7_noon 51 = .ok (.iconst 1, 1) := by decide +kernel
theorem dX7_noon_52 : decode cX7_noon 52 = .ok (.goto 4, 3) := by decide +kernel
theorem dX7_noon_55 : decode cX7_noon 55 = .ok (.iconst 0, 1) := by decide +kernel
theorem dX7_noon_56 : decode cX7_noon 56 = .ok (.ireturn, 1) := by decide +kernel
def Nt_noon_B34 (w : Wd) : Option (Int32 × Wd) := (Option.bind (Sc_advance w) (fun q3 => (if (q3.1 13 4) = (0 : Int32) then some ((0 : Int32), q3) else some ((1 : Int32), q3))))
set_option maxRecDepth 100000 in
set_option maxHeartbeats 4000000 in
theorem Nt_noon_B34_ok {K : Ctx} (F : Fx K cX7_noon 1 RX7 (some .int) 5 114 true [0, 3, 4, 13, 14, 15, 16]) (w : Wd) : N K rtI (Nt_noon_B34 w) w 34 [(0, .ref (gA (cg K) 0))] [] := by
  rw [Nt_noon_B34]
  refine n_aload_n F dX7_noon_34 rfl 0 rfl ?_
  refine n_get F ck_7 lf_RX7_37 (by decide) fg_0_3 (by decide) dX7_noon_35 ?_
  refine n_bind (fun q3 hq3 => ?_)
  refine n_callVv F cb_X5_advance lm_RX7_150 ob_13 (by decide) ⟨_, _, rfl⟩ (ct_Sc_advance (fx_ok F) (fx_sd F) (fx_ix F rfl) w hq3) rfl rfl (Nat.le_of_ble_eq_true rfl) ⟨Nat.le_of_ble_eq_true rfl, Nat.le_of_ble_eq_true rfl⟩ dX7_noon_38 ?_
  refine n_aload_n F dX7_noon_41 rfl 0 rfl ?_
  refine n_get F ck_7 lf_RX7_37 (by decide) fg_0_3 (by decide) dX7_noon_42 ?_
  refine n_get F ck_5 lf_RX7_136 (by decide) fg_13_4 (by decide) dX7_noon_45 ?_
  refine n_if_eq F 55 dX7_noon_48 (by decide) (fun e4 => ?_) (fun e4 => ?_)
  · rw [if_pos e4]
    refine n_iconst F (0 : Int32) dX7_noon_55 (by decide) ?_
    exact n_iret F rfl rfl dX7_noon_56
  rw [if_neg e4]
  refine n_iconst F (1 : Int32) dX7_noon_51 (by decide) ?_
  refine n_goto F 56 dX7_noon_52 (by decide) ?_
  exact n_iret F rfl rfl dX7_noon_56
def Nt_noon (w : Wd) : Option (Int32 × Wd) := (if (w.1 13 4) = (0 : Int32) then (if (w.1 13 5) = (-1 : Int32) then (Option.bind (Sc_rideable w) (fun q5 => (if q5 = (0 : Int32) then (Nt_noon_B34 w) else some ((-4 : Int32), w)))) else (Nt_noon_B34 w)) else some ((-4 : Int32), w))
set_option maxRecDepth 100000 in
set_option maxHeartbeats 4000000 in
theorem ct_Nt_noon {l : Launch} {g : GG} {σ : Sd} (hg : OKg g σ) (hb : σ.2.1 = true) (hx : ∀ c ∈ ([0, 3, 4, 13, 14, 15, 16] : List Nat), c ∈ σ.1) (w : Wd) {q : Int32 × Wd} (hq : Nt_noon w = some q) : CT l g σ yX7_noon cX7_noon 1 (some .int) 5 114 [.ref (gA g 0)] w (some (.int q.1)) q.2 := by
  refine ct_of (rt := rtI) (res := Nt_noon w) (q := q) (own := RX7) (b := true) hg hb hx (by decide) rfl (Nat.le_of_ble_eq_true rfl) hq (fun K e1 e2 e3 F => ?_)
  subst e1 e2 e3
  rw [Nt_noon]
  show N K _ _ w 0 [(0, .ref (gA (cg K) 0))] []
  refine n_aload_n F dX7_noon_0 rfl 0 rfl ?_
  refine n_get F ck_7 lf_RX7_37 (by decide) fg_0_3 (by decide) dX7_noon_1 ?_
  refine n_get F ck_5 lf_RX7_136 (by decide) fg_13_4 (by decide) dX7_noon_4 ?_
  refine n_if_ne F 31 dX7_noon_7 (by decide) (fun e1 => ?_) (fun e1 => ?_)
  · rw [if_neg e1]
    refine n_bipush F (-4 : Int32) dX7_noon_31 (by decide) ?_
    exact n_iret F rfl rfl dX7_noon_33
  rw [if_pos e1]
  refine n_aload_n F dX7_noon_10 rfl 0 rfl ?_
  refine n_get F ck_7 lf_RX7_37 (by decide) fg_0_3 (by decide) dX7_noon_11 ?_
  refine n_get F ck_5 lf_RX7_130 (by decide) fg_13_5 (by decide) dX7_noon_14 ?_
  refine n_iconst F (-1 : Int32) dX7_noon_17 (by decide) ?_
  refine n_icmp_ne F 34 dX7_noon_18 (by decide) (fun e2 => ?_) (fun e2 => ?_)
  · rw [if_neg e2]
    exact n_sub [0] rfl (Nt_noon_B34_ok F _)
  rw [if_pos e2]
  refine n_aload_n F dX7_noon_21 rfl 0 rfl ?_
  refine n_get F ck_7 lf_RX7_37 (by decide) fg_0_3 (by decide) dX7_noon_22 ?_
  refine n_bind (fun q5 hq5 => ?_)
  refine n_callVi F cb_X5_rideable lm_RX7_127 ob_13 (by decide) ⟨_, _, rfl⟩ (ct_Sc_rideable (fx_ok F) (fx_sd F) (fx_ix F rfl) w hq5) rfl rfl (Nat.le_of_ble_eq_true rfl) ⟨Nat.le_of_ble_eq_true rfl, Nat.le_of_ble_eq_true rfl⟩ dX7_noon_25 ?_
  refine n_if_eq F 34 dX7_noon_28 (by decide) (fun e6 => ?_) (fun e6 => ?_)
  · rw [if_pos e6]
    exact n_sub [0] rfl (Nt_noon_B34_ok F _)
  rw [if_neg e6]
  refine n_bipush F (-4 : Int32) dX7_noon_31 (by decide) ?_
  exact n_iret F rfl rfl dX7_noon_33
theorem dX7_he_0 : decode cX7_he 0 = .ok (.iload_n 1, 1) := by decide +kernel
theorem dX7_he_1 : decode cX7_he 1 = .ok (.tableswitch 102 0 6 #[43, 51, 67, 83, 83, 83, 94], 43) := by decide +kernel
theorem dX7_he_44 : decode cX7_he 44 = .ok (.aload_n 0, 1) := by decide +kernel
theorem dX7_he_45 : decode cX7_he 45 = .ok (.getfield 37, 3) := by decide +kernel
theorem dX7_he_48 : decode cX7_he 48 = .ok (.getfield 153, 3) := by decide +kernel
theorem dX7_he_51 : decode cX7_he 51 = .ok (.ireturn, 1) := by decide +kernel
theorem dX7_he_52 : decode cX7_he 52 = .ok (.aload_n 0, 1) := by decide +kernel
theorem dX7_he_53 : decode cX7_he 53 = .ok (.getfield 37, 3) := by decide +kernel
theorem dX7_he_56 : decode cX7_he 56 = .ok (.getfield 156, 3) := by decide +kernel
theorem dX7_he_59 : decode cX7_he 59 = .ok (.ifCond .eq 7, 3) := by decide +kernel
theorem dX7_he_62 : decode cX7_he 62 = .ok (.iconst 1, 1) := by decide +kernel
theorem dX7_he_63 : decode cX7_he 63 = .ok (.goto 4, 3) := by decide +kernel
theorem dX7_he_66 : decode cX7_he 66 = .ok (.iconst 0, 1) := by decide +kernel
theorem dX7_he_67 : decode cX7_he 67 = .ok (.ireturn, 1) := by decide +kernel
theorem dX7_he_68 : decode cX7_he 68 = .ok (.aload_n 0, 1) := by decide +kernel
theorem dX7_he_69 : decode cX7_he 69 = .ok (.getfield 37, 3) := by decide +kernel
theorem dX7_he_72 : decode cX7_he 72 = .ok (.getfield 136, 3) := by decide +kernel
theorem dX7_he_75 : decode cX7_he 75 = .ok (.ifCond .eq 7, 3) := by decide +kernel
theorem dX7_he_78 : decode cX7_he 78 = .ok (.iconst 1, 1) := by decide +kernel
theorem dX7_he_79 : decode cX7_he 79 = .ok (.goto 4, 3) := by decide +kernel
theorem dX7_he_82 : decode cX7_he 82 = .ok (.iconst 0, 1) := by decide +kernel
theorem dX7_he_83 : decode cX7_he 83 = .ok (.ireturn, 1) := by decide +kernel
theorem dX7_he_84 : decode cX7_he 84 = .ok (.aload_n 0, 1) := by decide +kernel
theorem dX7_he_85 : decode cX7_he 85 = .ok (.getfield 37, 3) := by decide +kernel
theorem dX7_he_88 : decode cX7_he 88 = .ok (.iload_n 1, 1) := by decide +kernel
theorem dX7_he_89 : decode cX7_he 89 = .ok (.iconst 3, 1) := by decide +kernel
theorem dX7_he_90 : decode cX7_he 90 = .ok (.isub, 1) := by decide +kernel
theorem dX7_he_91 : decode cX7_he 91 = .ok (.invokevirtual 123, 3) := by decide +kernel
theorem dX7_he_94 : decode cX7_he 94 = .ok (.ireturn, 1) := by decide +kernel
theorem dX7_he_95 : decode cX7_he 95 = .ok (.aload_n 0, 1) := by decide +kernel
theorem dX7_he_96 : decode cX7_he 96 = .ok (.getfield 37, 3) := by decide +kernel
theorem dX7_he_99 : decode cX7_he 99 = .ok (.invokevirtual 127, 3) := by decide +kernel
theorem dX7_he_102 : decode cX7_he 102 = .ok (.ireturn, 1) := by decide +kernel
theorem dX7_he_103 : decode cX7_he 103 = .ok (.bipush (-3), 2) := by decide +kernel
theorem dX7_he_105 : decode cX7_he 105 = .ok (.ireturn, 1) := by decide +kernel
def Nt_he (w : Wd) (a1 : Int32) : Option Int32 := (if a1 = (0 : Int32) then some (w.1 13 2) else (if a1 = (1 : Int32) then (if (w.1 13 3) = (0 : Int32) then some (0 : Int32) else some (1 : Int32)) else (if a1 = (2 : Int32) then (if (w.1 13 4) = (0 : Int32) then some (0 : Int32) else some (1 : Int32)) else (if a1 = (3 : Int32) then (Option.bind (Sc_ticketsOf w (a1 - (3 : Int32))) (fun q7 => some q7)) else (if a1 = (4 : Int32) then (Option.bind (Sc_ticketsOf w (a1 - (3 : Int32))) (fun q9 => some q9)) else (if a1 = (5 : Int32) then (Option.bind (Sc_ticketsOf w (a1 - (3 : Int32))) (fun q11 => some q11)) else (if a1 = (6 : Int32) then (Option.bind (Sc_rideable w) (fun q13 => some q13)) else some (-3 : Int32))))))))
set_option maxRecDepth 100000 in
set_option maxHeartbeats 4000000 in
theorem ct_Nt_he {l : Launch} {g : GG} {σ : Sd} (hg : OKg g σ) (hb : σ.2.1 = true) (hx : ∀ c ∈ ([0, 3, 4, 13, 14] : List Nat), c ∈ σ.1) (w : Wd) (a1 : Int32) {q : Int32} (hq : Nt_he w a1 = some q) : CT l g σ yX7_he cX7_he 2 (some .int) 5 114 [.ref (gA g 0), .int a1] w (some (.int q)) w := by
  refine ct_of (rt := (rtP w)) (res := Nt_he w a1) (q := q) (own := RX7) (b := true) hg hb hx (by decide) rfl (Nat.le_of_ble_eq_true rfl) hq (fun K e1 e2 e3 F => ?_)
  subst e1 e2 e3
  rw [Nt_he]
  show N K _ _ w 0 [(0, .ref (gA (cg K) 0)), (1, .int a1)] []
  refine n_iload_n F dX7_he_0 rfl 1 rfl ?_
  by_cases e1 : a1 = (0 : Int32)
  · rw [if_pos e1]
    refine n_tabIn F (0 : Int32) 44 dX7_he_1 e1 (by decide) (by decide) rfl (by decide) ?_
    refine n_aload_n F dX7_he_44 rfl 0 rfl ?_
    refine n_get F ck_7 lf_RX7_37 (by decide) fg_0_3 (by decide) dX7_he_45 ?_
    refine n_get F ck_5 lf_RX7_153 (by decide) fg_13_2 (by decide) dX7_he_48 ?_
    exact n_iret F rfl rfl dX7_he_51
  rw [if_neg e1]
  by_cases e2 : a1 = (1 : Int32)
  · rw [if_pos e2]
    refine n_tabIn F (1 : Int32) 52 dX7_he_1 e2 (by decide) (by decide) rfl (by decide) ?_
    refine n_aload_n F dX7_he_52 rfl 0 rfl ?_
    refine n_get F ck_7 lf_RX7_37 (by decide) fg_0_3 (by decide) dX7_he_53 ?_
    refine n_get F ck_5 lf_RX7_156 (by decide) fg_13_3 (by decide) dX7_he_56 ?_
    refine n_if_eq F 66 dX7_he_59 (by decide) (fun e3 => ?_) (fun e3 => ?_)
    · rw [if_pos e3]
      refine n_iconst F (0 : Int32) dX7_he_66 (by decide) ?_
      exact n_iret F rfl rfl dX7_he_67
    rw [if_neg e3]
    refine n_iconst F (1 : Int32) dX7_he_62 (by decide) ?_
    refine n_goto F 67 dX7_he_63 (by decide) ?_
    exact n_iret F rfl rfl dX7_he_67
  rw [if_neg e2]
  by_cases e4 : a1 = (2 : Int32)
  · rw [if_pos e4]
    refine n_tabIn F (2 : Int32) 68 dX7_he_1 e4 (by decide) (by decide) rfl (by decide) ?_
    refine n_aload_n F dX7_he_68 rfl 0 rfl ?_
    refine n_get F ck_7 lf_RX7_37 (by decide) fg_0_3 (by decide) dX7_he_69 ?_
    refine n_get F ck_5 lf_RX7_136 (by decide) fg_13_4 (by decide) dX7_he_72 ?_
    refine n_if_eq F 82 dX7_he_75 (by decide) (fun e5 => ?_) (fun e5 => ?_)
    · rw [if_pos e5]
      refine n_iconst F (0 : Int32) dX7_he_82 (by decide) ?_
      exact n_iret F rfl rfl dX7_he_83
    rw [if_neg e5]
    refine n_iconst F (1 : Int32) dX7_he_78 (by decide) ?_
    refine n_goto F 83 dX7_he_79 (by decide) ?_
    exact n_iret F rfl rfl dX7_he_83
  rw [if_neg e4]
  by_cases e6 : a1 = (3 : Int32)
  · rw [if_pos e6]
    refine n_tabIn F (3 : Int32) 84 dX7_he_1 e6 (by decide) (by decide) rfl (by decide) ?_
    refine n_aload_n F dX7_he_84 rfl 0 rfl ?_
    refine n_get F ck_7 lf_RX7_37 (by decide) fg_0_3 (by decide) dX7_he_85 ?_
    refine n_iload_n F dX7_he_88 rfl 1 rfl ?_
    refine n_iconst F (3 : Int32) dX7_he_89 (by decide) ?_
    refine n_isub F dX7_he_90 ?_
    refine n_bind (fun q7 hq7 => ?_)
    refine n_callVi F cb_X5_ticketsOf lm_RX7_123 ob_13 (by decide) ⟨_, _, rfl⟩ (ct_Sc_ticketsOf (fx_ok F) (fx_sd F) (fx_ix F rfl) w (a1 - (3 : Int32)) hq7) rfl rfl (Nat.le_of_ble_eq_true rfl) ⟨Nat.le_of_ble_eq_true rfl, Nat.le_of_ble_eq_true rfl⟩ dX7_he_91 ?_
    exact n_iret F rfl rfl dX7_he_94
  rw [if_neg e6]
  by_cases e8 : a1 = (4 : Int32)
  · rw [if_pos e8]
    refine n_tabIn F (4 : Int32) 84 dX7_he_1 e8 (by decide) (by decide) rfl (by decide) ?_
    refine n_aload_n F dX7_he_84 rfl 0 rfl ?_
    refine n_get F ck_7 lf_RX7_37 (by decide) fg_0_3 (by decide) dX7_he_85 ?_
    refine n_iload_n F dX7_he_88 rfl 1 rfl ?_
    refine n_iconst F (3 : Int32) dX7_he_89 (by decide) ?_
    refine n_isub F dX7_he_90 ?_
    refine n_bind (fun q9 hq9 => ?_)
    refine n_callVi F cb_X5_ticketsOf lm_RX7_123 ob_13 (by decide) ⟨_, _, rfl⟩ (ct_Sc_ticketsOf (fx_ok F) (fx_sd F) (fx_ix F rfl) w (a1 - (3 : Int32)) hq9) rfl rfl (Nat.le_of_ble_eq_true rfl) ⟨Nat.le_of_ble_eq_true rfl, Nat.le_of_ble_eq_true rfl⟩ dX7_he_91 ?_
    exact n_iret F rfl rfl dX7_he_94
  rw [if_neg e8]
  by_cases e10 : a1 = (5 : Int32)
  · rw [if_pos e10]
    refine n_tabIn F (5 : Int32) 84 dX7_he_1 e10 (by decide) (by decide) rfl (by decide) ?_
    refine n_aload_n F dX7_he_84 rfl 0 rfl ?_
    refine n_get F ck_7 lf_RX7_37 (by decide) fg_0_3 (by decide) dX7_he_85 ?_
    refine n_iload_n F dX7_he_88 rfl 1 rfl ?_
    refine n_iconst F (3 : Int32) dX7_he_89 (by decide) ?_
    refine n_isub F dX7_he_90 ?_
    refine n_bind (fun q11 hq11 => ?_)
    refine n_callVi F cb_X5_ticketsOf lm_RX7_123 ob_13 (by decide) ⟨_, _, rfl⟩ (ct_Sc_ticketsOf (fx_ok F) (fx_sd F) (fx_ix F rfl) w (a1 - (3 : Int32)) hq11) rfl rfl (Nat.le_of_ble_eq_true rfl) ⟨Nat.le_of_ble_eq_true rfl, Nat.le_of_ble_eq_true rfl⟩ dX7_he_91 ?_
    exact n_iret F rfl rfl dX7_he_94
  rw [if_neg e10]
  by_cases e12 : a1 = (6 : Int32)
  · rw [if_pos e12]
    refine n_tabIn F (6 : Int32) 95 dX7_he_1 e12 (by decide) (by decide) rfl (by decide) ?_
    refine n_aload_n F dX7_he_95 rfl 0 rfl ?_
    refine n_get F ck_7 lf_RX7_37 (by decide) fg_0_3 (by decide) dX7_he_96 ?_
    refine n_bind (fun q13 hq13 => ?_)
    refine n_callVi F cb_X5_rideable lm_RX7_127 ob_13 (by decide) ⟨_, _, rfl⟩ (ct_Sc_rideable (fx_ok F) (fx_sd F) (fx_ix F rfl) w hq13) rfl rfl (Nat.le_of_ble_eq_true rfl) ⟨Nat.le_of_ble_eq_true rfl, Nat.le_of_ble_eq_true rfl⟩ dX7_he_99 ?_
    exact n_iret F rfl rfl dX7_he_102
  rw [if_neg e12]
  have hsw := (⟨lv_neT e1 (a := 0) rfl, lv_neT e2 (a := 1) rfl, lv_neT e4 (a := 2) rfl, lv_neT e6 (a := 3) rfl, lv_neT e8 (a := 4) rfl, lv_neT e10 (a := 5) rfl, lv_neT e12 (a := 6) rfl⟩ : ¬ (a1).toInt = 0 ∧ ¬ (a1).toInt = 1 ∧ ¬ (a1).toInt = 2 ∧ ¬ (a1).toInt = 3 ∧ ¬ (a1).toInt = 4 ∧ ¬ (a1).toInt = 5 ∧ ¬ (a1).toInt = 6)
  refine n_tabOut F 103 dX7_he_1 (by omega) (by decide) ?_
  refine n_bipush F (-3 : Int32) dX7_he_103 (by decide) ?_
  exact n_iret F rfl rfl dX7_he_105
theorem dX7_seeker_0 : decode cX7_seeker 0 = .ok (.iload_n 1, 1) := by decide +kernel
theorem dX7_seeker_1 : decode cX7_seeker 1 = .ok (.invokestatic 133, 3) := by decide +kernel
theorem dX7_seeker_4 : decode cX7_seeker 4 = .ok (.ifCond .eq 15, 3) := by decide +kernel
theorem dX7_seeker_7 : decode cX7_seeker 7 = .ok (.aload_n 0, 1) := by decide +kernel
theorem dX7_seeker_8 : decode cX7_seeker 8 = .ok (.getfield 37, 3) := by decide +kernel
theorem dX7_seeker_11 : decode cX7_seeker 11 = .ok (.getfield 159, 3) := by decide +kernel
theorem dX7_seeker_14 : decode cX7_seeker 14 = .ok (.iload_n 1, 1) := by decide +kernel
theorem dX7_seeker_15 : decode cX7_seeker 15 = .ok (.iaload, 1) := by decide +kernel
theorem dX7_seeker_16 : decode cX7_seeker 16 = .ok (.goto 5, 3) := by decide +kernel
theorem dX7_seeker_19 : decode cX7_seeker 19 = .ok (.bipush (-2), 2) := by decide +kernel
theorem dX7_seeker_21 : decode cX7_seeker 21 = .ok (.ireturn, 1) := by decide +kernel
def Nt_seeker (w : Wd) (a1 : Int32) : Option Int32 := (if (Nt_isSeeker w a1) = (0 : Int32) then some (-2 : Int32) else (if ib a1 2 = true then some (w.1 15 (Int32.toNatClampNeg a1)) else none))
set_option maxRecDepth 100000 in
set_option maxHeartbeats 4000000 in
theorem ct_Nt_seeker {l : Launch} {g : GG} {σ : Sd} (hg : OKg g σ) (hb : σ.2.1 = true) (hx : ∀ c ∈ ([0, 13, 15] : List Nat), c ∈ σ.1) (w : Wd) (a1 : Int32) {q : Int32} (hq : Nt_seeker w a1 = some q) : CT l g σ yX7_seeker cX7_seeker 2 (some .int) 2 42 [.ref (gA g 0), .int a1] w (some (.int q)) w := by
  refine ct_of (rt := (rtP w)) (res := Nt_seeker w a1) (q := q) (own := RX7) (b := true) hg hb hx (by decide) rfl (Nat.le_of_ble_eq_true rfl) hq (fun K e1 e2 e3 F => ?_)
  subst e1 e2 e3
  rw [Nt_seeker]
  show N K _ _ w 0 [(0, .ref (gA (cg K) 0)), (1, .int a1)] []
  refine n_iload_n F dX7_seeker_0 rfl 1 rfl ?_
  refine n_callSi F cb_X7_isSeeker lm_RX7_133 (ct_Nt_isSeeker (fx_ok F) (fx_sd F) (fx_ix F rfl) w a1) rfl rfl (Nat.le_of_ble_eq_true rfl) ⟨Nat.le_of_ble_eq_true rfl, Nat.le_of_ble_eq_true rfl⟩ dX7_seeker_1 ?_
  refine n_if_eq F 19 dX7_seeker_4 (by decide) (fun e1 => ?_) (fun e1 => ?_)
  · rw [if_pos e1]
    refine n_bipush F (-2 : Int32) dX7_seeker_19 (by decide) ?_
    exact n_iret F rfl rfl dX7_seeker_21
  rw [if_neg e1]
  refine n_aload_n F dX7_seeker_7 rfl 0 rfl ?_
  refine n_get F ck_7 lf_RX7_37 (by decide) fg_0_3 (by decide) dX7_seeker_8 ?_
  refine n_get F ck_5 lf_RX7_159 (by decide) fg_13_7 (by decide) dX7_seeker_11 ?_
  refine n_iload_n F dX7_seeker_14 rfl 1 rfl ?_
  refine n_chk (fun e2 => ?_)
  refine n_iald F ar_15 (by decide) (ib_in e2) rfl dX7_seeker_15 ?_
  refine n_goto F 21 dX7_seeker_16 (by decide) ?_
  exact n_iret F rfl rfl dX7_seeker_21
theorem dX7_may_0 : decode cX7_may 0 = .ok (.aload_n 0, 1) := by decide +kernel
theorem dX7_may_1 : decode cX7_may 1 = .ok (.getfield 37, 3) := by decide +kernel
theorem dX7_may_4 : decode cX7_may 4 = .ok (.getfield 162, 3) := by decide +kernel
theorem dX7_may_7 : decode cX7_may 7 = .ok (.ireturn, 1) := by decide +kernel
def Nt_may (w : Wd) : Int32 := (w.1 13 9)
set_option maxRecDepth 100000 in
set_option maxHeartbeats 4000000 in
theorem ct_Nt_may {l : Launch} {g : GG} {σ : Sd} (hg : OKg g σ) (hb : σ.2.1 = true) (hx : ∀ c ∈ ([0, 13] : List Nat), c ∈ σ.1) (w : Wd) : CT l g σ yX7_may cX7_may 1 (some .int) 0 0 [.ref (gA g 0)] w (some (.int (Nt_may w))) w := by
  refine ct_of (rt := (rtP w)) (res := some (Nt_may w)) (q := (Nt_may w)) (own := RX7) (b := true) hg hb hx (by decide) rfl (Nat.le_of_ble_eq_true rfl) rfl (fun K e1 e2 e3 F => ?_)
  subst e1 e2 e3
  rw [Nt_may]
  show N K _ _ w 0 [(0, .ref (gA (cg K) 0))] []
  refine n_aload_n F dX7_may_0 rfl 0 rfl ?_
  refine n_get F ck_7 lf_RX7_37 (by decide) fg_0_3 (by decide) dX7_may_1 ?_
  refine n_get F ck_5 lf_RX7_162 (by decide) fg_13_9 (by decide) dX7_may_4 ?_
  exact n_iret F rfl rfl dX7_may_7
theorem dX7_way_0 : decode cX7_way 0 = .ok (.aload_n 0, 1) := by decide +kernel
theorem dX7_way_1 : decode cX7_way 1 = .ok (.getfield 37, 3) := by decide +kernel
theorem dX7_way_4 : decode cX7_way 4 = .ok (.getfield 165, 3) := by decide +kernel
theorem dX7_way_7 : decode cX7_way 7 = .ok (.ireturn, 1) := by decide +kernel
def Nt_way (w : Wd) : Int32 := (w.1 13 10)
set_option maxRecDepth 100000 in
set_option maxHeartbeats 4000000 in
theorem ct_Nt_way {l : Launch} {g : GG} {σ : Sd} (hg : OKg g σ) (hb : σ.2.1 = true) (hx : ∀ c ∈ ([0, 13] : List Nat), c ∈ σ.1) (w : Wd) : CT l g σ yX7_way cX7_way 1 (some .int) 0 0 [.ref (gA g 0)] w (some (.int (Nt_way w))) w := by
  refine ct_of (rt := (rtP w)) (res := some (Nt_way w)) (q := (Nt_way w)) (own := RX7) (b := true) hg hb hx (by decide) rfl (Nat.le_of_ble_eq_true rfl) rfl (fun K e1 e2 e3 F => ?_)
  subst e1 e2 e3
  rw [Nt_way]
  show N K _ _ w 0 [(0, .ref (gA (cg K) 0))] []
  refine n_aload_n F dX7_way_0 rfl 0 rfl ?_
  refine n_get F ck_7 lf_RX7_37 (by decide) fg_0_3 (by decide) dX7_way_1 ?_
  refine n_get F ck_5 lf_RX7_165 (by decide) fg_13_10 (by decide) dX7_way_4 ?_
  exact n_iret F rfl rfl dX7_way_7
theorem dX7_next_0 : decode cX7_next 0 = .ok (.aload_n 0, 1) := by decide +kernel
theorem dX7_next_1 : decode cX7_next 1 = .ok (.getfield 37, 3) := by decide +kernel
theorem dX7_next_4 : decode cX7_next 4 = .ok (.invokevirtual 168, 3) := by decide +kernel
theorem dX7_next_7 : decode cX7_next 7 = .ok (.ireturn, 1) := by decide +kernel
def Nt_next (w : Wd) : Option Int32 := (Option.bind (Sc_nextBits w) (fun q1 => some q1))
set_option maxRecDepth 100000 in
set_option maxHeartbeats 4000000 in
theorem ct_Nt_next {l : Launch} {g : GG} {σ : Sd} (hg : OKg g σ) (hb : σ.2.1 = true) (hx : ∀ c ∈ ([0, 3, 4, 13, 14] : List Nat), c ∈ σ.1) (w : Wd) {q : Int32} (hq : Nt_next w = some q) : CT l g σ yX7_next cX7_next 1 (some .int) 4 93 [.ref (gA g 0)] w (some (.int q)) w := by
  refine ct_of (rt := (rtP w)) (res := Nt_next w) (q := q) (own := RX7) (b := true) hg hb hx (by decide) rfl (Nat.le_of_ble_eq_true rfl) hq (fun K e1 e2 e3 F => ?_)
  subst e1 e2 e3
  rw [Nt_next]
  show N K _ _ w 0 [(0, .ref (gA (cg K) 0))] []
  refine n_aload_n F dX7_next_0 rfl 0 rfl ?_
  refine n_get F ck_7 lf_RX7_37 (by decide) fg_0_3 (by decide) dX7_next_1 ?_
  refine n_bind (fun q1 hq1 => ?_)
  refine n_callVi F cb_X5_nextBits lm_RX7_168 ob_13 (by decide) ⟨_, _, rfl⟩ (ct_Sc_nextBits (fx_ok F) (fx_sd F) (fx_ix F rfl) w hq1) rfl rfl (Nat.le_of_ble_eq_true rfl) ⟨Nat.le_of_ble_eq_true rfl, Nat.le_of_ble_eq_true rfl⟩ dX7_next_4 ?_
  exact n_iret F rfl rfl dX7_next_7
theorem dX7_letter_0 : decode cX7_letter 0 = .ok (.aload_n 0, 1) := by decide +kernel
theorem dX7_letter_1 : decode cX7_letter 1 = .ok (.getfield 37, 3) := by decide +kernel
theorem dX7_letter_4 : decode cX7_letter 4 = .ok (.getfield 171, 3) := by decide +kernel
theorem dX7_letter_7 : decode cX7_letter 7 = .ok (.ireturn, 1) := by decide +kernel
def Nt_letter (w : Wd) : Int32 := (w.1 13 11)
set_option maxRecDepth 100000 in
set_option maxHeartbeats 4000000 in
theorem ct_Nt_letter {l : Launch} {g : GG} {σ : Sd} (hg : OKg g σ) (hb : σ.2.1 = true) (hx : ∀ c ∈ ([0, 13] : List Nat), c ∈ σ.1) (w : Wd) : CT l g σ yX7_letter cX7_letter 1 (some .int) 0 0 [.ref (gA g 0)] w (some (.int (Nt_letter w))) w := by
  refine ct_of (rt := (rtP w)) (res := some (Nt_letter w)) (q := (Nt_letter w)) (own := RX7) (b := true) hg hb hx (by decide) rfl (Nat.le_of_ble_eq_true rfl) rfl (fun K e1 e2 e3 F => ?_)
  subst e1 e2 e3
  rw [Nt_letter]
  show N K _ _ w 0 [(0, .ref (gA (cg K) 0))] []
  refine n_aload_n F dX7_letter_0 rfl 0 rfl ?_
  refine n_get F ck_7 lf_RX7_37 (by decide) fg_0_3 (by decide) dX7_letter_1 ?_
  refine n_get F ck_5 lf_RX7_171 (by decide) fg_13_11 (by decide) dX7_letter_4 ?_
  exact n_iret F rfl rfl dX7_letter_7
theorem dX7_shut_0 : decode cX7_shut 0 = .ok (.iload_n 1, 1) := by decide +kernel
theorem dX7_shut_1 : decode cX7_shut 1 = .ok (.iconst (-1), 1) := by decide +kernel
theorem dX7_shut_2 : decode cX7_shut 2 = .ok (.if_icmp .eq 13, 3) := by decide +kernel
theorem dX7_shut_5 : decode cX7_shut 5 = .ok (.iload_n 1, 1) := by decide +kernel
theorem dX7_shut_6 : decode cX7_shut 6 = .ok (.invokestatic 133, 3) := by decide +kernel
theorem dX7_shut_9 : decode cX7_shut 9 = .ok (.ifCond .ne 6, 3) := by decide +kernel
theorem dX7_shut_12 : decode cX7_shut 12 = .ok (.bipush (-2), 2) := by decide +kernel
theorem dX7_shut_14 : decode cX7_shut 14 = .ok (.ireturn, 1) := by decide +kernel
theorem dX7_shut_15 : decode cX7_shut 15 = .ok (.aload_n 0, 1) := by decide +kernel
theorem dX7_shut_16 : decode cX7_shut 16 = .ok (.getfield 37, 3) := by decide +kernel
theorem dX7_shut_19 : decode cX7_shut 19 = .ok (.getfield 136, 3) := by decide +kernel
theorem dX7_shut_22 : decode cX7_shut 22 = .ok (.ifCond .eq 6, 3) := by decide +kernel
theorem dX7_shut_25 : decode cX7_shut 25 = .ok (.bipush (-4), 2) := by decide +kernel
theorem dX7_shut_27 : decode cX7_shut 27 = .ok (.ireturn, 1) := by decide +kernel
theorem dX7_shut_28 : decode cX7_shut 28 = .ok (.aload_n 0, 1) := by decide +kernel
theorem dX7_shut_29 : decode cX7_shut 29 = .ok (.getfield 52, 3) := by decide +kernel
theorem dX7_shut_32 : decode cX7_shut 32 = .ok (.invokevirtual 174, 3) := by decide +kernel
theorem dX7_shut_35 : decode cX7_shut 35 = .ok (.iload_n 1, 1) := by decide +kernel
theorem dX7_shut_36 : decode cX7_shut 36 = .ok (.iconst (-1), 1) := by decide +kernel
theorem dX7_shut_37 : decode cX7_shut 37 = .ok (.if_icmp .ne 11, 3) := by decide +kernel
theorem dX7_shut_40 : decode cX7_shut 40 = .ok (.aload_n 0, 1) := by decide +kernel
theorem dX7_shut_41 : decode cX7_shut 41 = .ok (.getfield 52, 3) := by decide +kernel
theorem dX7_shut_44 : decode cX7_shut 44 = .ok (.getfield 177, 3) := by decide +kernel
theorem dX7_shut_47 : decode cX7_shut 47 = .ok (.ireturn, 1) := by decide +kernel
theorem dX7_shut_48 : decode cX7_shut 48 = .ok (.iload_n 1, 1) := by decide +kernel
theorem dX7_shut_49 : decode cX7_shut 49 = .ok (.ifCond .ne 13, 3) := by decide +kernel
theorem dX7_shut_52 : decode cX7_shut 52 = .ok (.aload_n 0, 1) := by decide +kernel
theorem dX7_shut_53 : decode cX7_shut 53 = .ok (.getfield 52, 3) := by decide +kernel
theorem dX7_shut_56 : decode cX7_shut 56 = .ok (.getfield 180, 3) := by decide +kernel
theorem dX7_shut_59 : decode cX7_shut 59 = .ok (.goto 10, 3) := by decide +kernel
theorem dX7_shut_62 : decode cX7_shut 62 = .ok (.aload_n 0, 1) := by decide +kernel
theorem dX7_shut_63 : decode cX7_shut 63 = .ok (.getfield 52, 3) := by decide +kernel
theorem dX7_shut_66 : decode cX7_shut 66 = .ok (.getfield 183, 3) := by decide +kernel
theorem dX7_shut_69 : decode cX7_shut 69 = .ok (.istore_n 2, 1) := by decide +kernel
theorem dX7_shut_70 : decode cX7_shut 70 = .ok (.iload_n 2, 1) := by decide +kernel
theorem dX7_shut_71 : decode cX7_shut 71 = .ok (.bipush 7, 2) := by decide +kernel
theorem dX7_shut_73 : decode cX7_shut 73 = .ok (.if_icmp .ne 7, 3) := by decide +kernel
theorem dX7_shut_76 : decode cX7_shut 76 = .ok (.iconst (-1), 1) := by decide +kernel
theorem dX7_shut_77 : decode cX7_shut 77 = .ok (.goto 4, 3) := by decide +kernel
theorem dX7_shut_80 : decode cX7_shut 80 = .ok (.iload_n 2, 1) := by decide +kernel
theorem dX7_shut_81 : decode cX7_shut 81 = .ok (.ireturn, 1) := by decide +kernel
def Nt_shut_B69 (w : Wd) (s0 : Int32) : Option (Int32 × Wd) := (if s0 = (7 : Int32) then some ((-1 : Int32), w) else some (s0, w))
set_option maxRecDepth 100000 in
set_option maxHeartbeats 4000000 in
theorem Nt_shut_B69_ok {K : Ctx} (F : Fx K cX7_shut 3 RX7 (some .int) 5 120 true [0, 3, 4, 13, 14, 15, 25]) (w : Wd) (s0 : Int32) : N K rtI (Nt_shut_B69 w s0) w 69 [] [.int s0] := by
  rw [Nt_shut_B69]
  refine n_istore_n F (lv' := [(2, .int s0)]) dX7_shut_69 rfl (by decide) rfl ?_
  refine n_iload_n F dX7_shut_70 rfl 0 rfl ?_
  refine n_bipush F (7 : Int32) dX7_shut_71 (by decide) ?_
  refine n_icmp_ne F 80 dX7_shut_73 (by decide) (fun e6 => ?_) (fun e6 => ?_)
  · rw [if_neg e6]
    refine n_iload_n F dX7_shut_80 rfl 0 rfl ?_
    exact n_iret F rfl rfl dX7_shut_81
  rw [if_pos e6]
  refine n_iconst F (-1 : Int32) dX7_shut_76 (by decide) ?_
  refine n_goto F 81 dX7_shut_77 (by decide) ?_
  exact n_iret F rfl rfl dX7_shut_81
def Nt_shut_B15 (w : Wd) (v1 : Int32) : Option (Int32 × Wd) := (if (w.1 13 4) = (0 : Int32) then (Option.bind (Fs_stand w) (fun q3 => (if v1 = (-1 : Int32) then some ((q3.1 25 2), q3) else (Nt_shut_B69 q3 (if v1 = (0 : Int32) then (q3.1 25 3) else (q3.1 25 4)))))) else some ((-4 : Int32), w))
set_option maxRecDepth 100000 in
set_option maxHeartbeats 4000000 in
theorem Nt_shut_B15_ok {K : Ctx} (F : Fx K cX7_shut 3 RX7 (some .int) 5 120 true [0, 3, 4, 13, 14, 15, 25]) (w : Wd) (v1 : Int32) : N K rtI (Nt_shut_B15 w v1) w 15 [(0, .ref (gA (cg K) 0)), (1, .int v1)] [] := by
  rw [Nt_shut_B15]
  refine n_aload_n F dX7_shut_15 rfl 0 rfl ?_
  refine n_get F ck_7 lf_RX7_37 (by decide) fg_0_3 (by decide) dX7_shut_16 ?_
  refine n_get F ck_5 lf_RX7_136 (by decide) fg_13_4 (by decide) dX7_shut_19 ?_
  refine n_if_eq F 28 dX7_shut_22 (by decide) (fun e2 => ?_) (fun e2 => ?_)
  · rw [if_pos e2]
    refine n_aload_n F dX7_shut_28 rfl 0 rfl ?_
    refine n_get F ck_7 lf_RX7_52 (by decide) fg_0_6 (by decide) dX7_shut_29 ?_
    refine n_bind (fun q3 hq3 => ?_)
    refine n_callVv F cb_X0_stand lm_RX7_174 ob_25 (by decide) ⟨_, _, rfl⟩ (ct_Fs_stand (fx_ok F) (fx_sd F) (fx_ix F rfl) w hq3) rfl rfl (Nat.le_of_ble_eq_true rfl) ⟨Nat.le_of_ble_eq_true rfl, Nat.le_of_ble_eq_true rfl⟩ dX7_shut_32 ?_
    refine n_iload_n F dX7_shut_35 rfl 1 rfl ?_
    refine n_iconst F (-1 : Int32) dX7_shut_36 (by decide) ?_
    refine n_icmp_ne F 48 dX7_shut_37 (by decide) (fun e4 => ?_) (fun e4 => ?_)
    · rw [if_neg e4]
      refine n_iload_n F dX7_shut_48 rfl 1 rfl ?_
      refine n_if_ne F 62 dX7_shut_49 (by decide) (fun e5 => ?_) (fun e5 => ?_)
      · rw [if_neg e5]
        refine n_aload_n F dX7_shut_62 rfl 0 rfl ?_
        refine n_get F ck_7 lf_RX7_52 (by decide) fg_0_6 (by decide) dX7_shut_63 ?_
        refine n_get F ck_0 lf_RX7_183 (by decide) fg_25_4 (by decide) dX7_shut_66 ?_
        exact n_sub [] rfl (Nt_shut_B69_ok F _ _)
      rw [if_pos e5]
      refine n_aload_n F dX7_shut_52 rfl 0 rfl ?_
      refine n_get F ck_7 lf_RX7_52 (by decide) fg_0_6 (by decide) dX7_shut_53 ?_
      refine n_get F ck_0 lf_RX7_180 (by decide) fg_25_3 (by decide) dX7_shut_56 ?_
      refine n_goto F 69 dX7_shut_59 (by decide) ?_
      exact n_sub [] rfl (Nt_shut_B69_ok F _ _)
    rw [if_pos e4]
    refine n_aload_n F dX7_shut_40 rfl 0 rfl ?_
    refine n_get F ck_7 lf_RX7_52 (by decide) fg_0_6 (by decide) dX7_shut_41 ?_
    refine n_get F ck_0 lf_RX7_177 (by decide) fg_25_2 (by decide) dX7_shut_44 ?_
    exact n_iret F rfl rfl dX7_shut_47
  rw [if_neg e2]
  refine n_bipush F (-4 : Int32) dX7_shut_25 (by decide) ?_
  exact n_iret F rfl rfl dX7_shut_27
def Nt_shut (w : Wd) (a1 : Int32) : Option (Int32 × Wd) := (if a1 = (-1 : Int32) then (Nt_shut_B15 w a1) else (if (Nt_isSeeker w a1) = (0 : Int32) then some ((-2 : Int32), w) else (Nt_shut_B15 w a1)))
set_option maxRecDepth 100000 in
set_option maxHeartbeats 4000000 in
theorem ct_Nt_shut {l : Launch} {g : GG} {σ : Sd} (hg : OKg g σ) (hb : σ.2.1 = true) (hx : ∀ c ∈ ([0, 3, 4, 13, 14, 15, 25] : List Nat), c ∈ σ.1) (w : Wd) (a1 : Int32) {q : Int32 × Wd} (hq : Nt_shut w a1 = some q) : CT l g σ yX7_shut cX7_shut 3 (some .int) 5 120 [.ref (gA g 0), .int a1] w (some (.int q.1)) q.2 := by
  refine ct_of (rt := rtI) (res := Nt_shut w a1) (q := q) (own := RX7) (b := true) hg hb hx (by decide) rfl (Nat.le_of_ble_eq_true rfl) hq (fun K e1 e2 e3 F => ?_)
  subst e1 e2 e3
  rw [Nt_shut]
  show N K _ _ w 0 [(0, .ref (gA (cg K) 0)), (1, .int a1)] []
  refine n_iload_n F dX7_shut_0 rfl 1 rfl ?_
  refine n_iconst F (-1 : Int32) dX7_shut_1 (by decide) ?_
  refine n_icmp_eq F 15 dX7_shut_2 (by decide) (fun e1 => ?_) (fun e1 => ?_)
  · rw [if_pos e1]
    exact n_sub [0, 1] rfl (Nt_shut_B15_ok F _ _)
  rw [if_neg e1]
  refine n_iload_n F dX7_shut_5 rfl 1 rfl ?_
  refine n_callSi F cb_X7_isSeeker lm_RX7_133 (ct_Nt_isSeeker (fx_ok F) (fx_sd F) (fx_ix F rfl) w a1) rfl rfl (Nat.le_of_ble_eq_true rfl) ⟨Nat.le_of_ble_eq_true rfl, Nat.le_of_ble_eq_true rfl⟩ dX7_shut_6 ?_
  refine n_if_ne F 15 dX7_shut_9 (by decide) (fun e7 => ?_) (fun e7 => ?_)
  · rw [if_neg e7]
    exact n_sub [0, 1] rfl (Nt_shut_B15_ok F _ _)
  rw [if_pos e7]
  refine n_bipush F (-2 : Int32) dX7_shut_12 (by decide) ?_
  exact n_iret F rfl rfl dX7_shut_14
theorem dX7_hides_0 : decode cX7_hides 0 = .ok (.iload_n 1, 1) := by decide +kernel
theorem dX7_hides_1 : decode cX7_hides 1 = .ok (.iconst 0, 1) := by decide +kernel
theorem dX7_hides_2 : decode cX7_hides 2 = .ok (.iconst 1, 1) := by decide +kernel
theorem dX7_hides_3 : decode cX7_hides 3 = .ok (.invokestatic 74, 3) := by decide +kernel
theorem dX7_hides_6 : decode cX7_hides 6 = .ok (.ifCond .ne 6, 3) := by decide +kernel
theorem dX7_hides_9 : decode cX7_hides 9 = .ok (.bipush (-3), 2) := by decide +kernel
theorem dX7_hides_11 : decode cX7_hides 11 = .ok (.ireturn, 1) := by decide +kernel
theorem dX7_hides_12 : decode cX7_hides 12 = .ok (.aload_n 0, 1) := by decide +kernel
theorem dX7_hides_13 : decode cX7_hides 13 = .ok (.getfield 37, 3) := by decide +kernel
theorem dX7_hides_16 : decode cX7_hides 16 = .ok (.getfield 136, 3) := by decide +kernel
theorem dX7_hides_19 : decode cX7_hides 19 = .ok (.ifCond .ne 13, 3) := by decide +kernel
theorem dX7_hides_22 : decode cX7_hides 22 = .ok (.aload_n 0, 1) := by decide +kernel
theorem dX7_hides_23 : decode cX7_hides 23 = .ok (.getfield 37, 3) := by decide +kernel
theorem dX7_hides_26 : decode cX7_hides 26 = .ok (.getfield 156, 3) := by decide +kernel
theorem dX7_hides_29 : decode cX7_hides 29 = .ok (.ifCond .eq 6, 3) := by decide +kernel
theorem dX7_hides_32 : decode cX7_hides 32 = .ok (.bipush (-4), 2) := by decide +kernel
theorem dX7_hides_34 : decode cX7_hides 34 = .ok (.ireturn, 1) := by decide +kernel
theorem dX7_hides_35 : decode cX7_hides 35 = .ok (.aload_n 0, 1) := by decide +kernel
theorem dX7_hides_36 : decode cX7_hides 36 = .ok (.getfield 52, 3) := by decide +kernel
theorem dX7_hides_39 : decode cX7_hides 39 = .ok (.invokevirtual 186, 3) := by decide +kernel
theorem dX7_hides_42 : decode cX7_hides 42 = .ok (.iload_n 1, 1) := by decide +kernel
theorem dX7_hides_43 : decode cX7_hides 43 = .ok (.ifCond .ne 13, 3) := by decide +kernel
theorem dX7_hides_46 : decode cX7_hides 46 = .ok (.aload_n 0, 1) := by decide +kernel
theorem dX7_hides_47 : decode cX7_hides 47 = .ok (.getfield 52, 3) := by decide +kernel
theorem dX7_hides_50 : decode cX7_hides 50 = .ok (.getfield 189, 3) := by decide +kernel
theorem dX7_hides_53 : decode cX7_hides 53 = .ok (.goto 10, 3) := by decide +kernel
theorem dX7_hides_56 : decode cX7_hides 56 = .ok (.aload_n 0, 1) := by decide +kernel
theorem dX7_hides_57 : decode cX7_hides 57 = .ok (.getfield 52, 3) := by decide +kernel
theorem dX7_hides_60 : decode cX7_hides 60 = .ok (.getfield 177, 3) := by decide +kernel
theorem dX7_hides_63 : decode cX7_hides 63 = .ok (.ireturn, 1) := by decide +kernel
def Nt_hides (w : Wd) (a1 : Int32) : Option (Int32 × Wd) := (if (Nt_within w a1 (0 : Int32) (1 : Int32)) = (0 : Int32) then some ((-3 : Int32), w) else (if (w.1 13 4) = (0 : Int32) then (if (w.1 13 3) = (0 : Int32) then (Option.bind (Fs_hide w) (fun q4 => (if a1 = (0 : Int32) then some ((q4.1 25 5), q4) else some ((q4.1 25 2), q4)))) else some ((-4 : Int32), w)) else some ((-4 : Int32), w)))
set_option maxRecDepth 100000 in
set_option maxHeartbeats 4000000 in
theorem ct_Nt_hides {l : Launch} {g : GG} {σ : Sd} (hg : OKg g σ) (hb : σ.2.1 = true) (hx : ∀ c ∈ ([0, 3, 4, 13, 14, 25] : List Nat), c ∈ σ.1) (w : Wd) (a1 : Int32) {q : Int32 × Wd} (hq : Nt_hides w a1 = some q) : CT l g σ yX7_hides cX7_hides 2 (some .int) 6 137 [.ref (gA g 0), .int a1] w (some (.int q.1)) q.2 := by
  refine ct_of (rt := rtI) (res := Nt_hides w a1) (q := q) (own := RX7) (b := true) hg hb hx (by decide) rfl (Nat.le_of_ble_eq_true rfl) hq (fun K e1 e2 e3 F => ?_)
  subst e1 e2 e3
  rw [Nt_hides]
  show N K _ _ w 0 [(0, .ref (gA (cg K) 0)), (1, .int a1)] []
  refine n_iload_n F dX7_hides_0 rfl 1 rfl ?_
  refine n_iconst F (0 : Int32) dX7_hides_1 (by decide) ?_
  refine n_iconst F (1 : Int32) dX7_hides_2 (by decide) ?_
  refine n_callSi F cb_X7_within lm_RX7_74 (ct_Nt_within (fx_ok F) (fx_sd F) (fx_ix F rfl) w a1 (0 : Int32) (1 : Int32)) rfl rfl (Nat.le_of_ble_eq_true rfl) ⟨Nat.le_of_ble_eq_true rfl, Nat.le_of_ble_eq_true rfl⟩ dX7_hides_3 ?_
  refine n_if_ne F 12 dX7_hides_6 (by decide) (fun e1 => ?_) (fun e1 => ?_)
  · rw [if_neg e1]
    refine n_aload_n F dX7_hides_12 rfl 0 rfl ?_
    refine n_get F ck_7 lf_RX7_37 (by decide) fg_0_3 (by decide) dX7_hides_13 ?_
    refine n_get F ck_5 lf_RX7_136 (by decide) fg_13_4 (by decide) dX7_hides_16 ?_
    refine n_if_ne F 32 dX7_hides_19 (by decide) (fun e2 => ?_) (fun e2 => ?_)
    · rw [if_neg e2]
      refine n_bipush F (-4 : Int32) dX7_hides_32 (by decide) ?_
      exact n_iret F rfl rfl dX7_hides_34
    rw [if_pos e2]
    refine n_aload_n F dX7_hides_22 rfl 0 rfl ?_
    refine n_get F ck_7 lf_RX7_37 (by decide) fg_0_3 (by decide) dX7_hides_23 ?_
    refine n_get F ck_5 lf_RX7_156 (by decide) fg_13_3 (by decide) dX7_hides_26 ?_
    refine n_if_eq F 35 dX7_hides_29 (by decide) (fun e3 => ?_) (fun e3 => ?_)
    · rw [if_pos e3]
      refine n_aload_n F dX7_hides_35 rfl 0 rfl ?_
      refine n_get F ck_7 lf_RX7_52 (by decide) fg_0_6 (by decide) dX7_hides_36 ?_
      refine n_bind (fun q4 hq4 => ?_)
      refine n_callVv F cb_X0_hide lm_RX7_186 ob_25 (by decide) ⟨_, _, rfl⟩ (ct_Fs_hide (fx_ok F) (fx_sd F) (fx_ix F rfl) w hq4) rfl rfl (Nat.le_of_ble_eq_true rfl) ⟨Nat.le_of_ble_eq_true rfl, Nat.le_of_ble_eq_true rfl⟩ dX7_hides_39 ?_
      refine n_iload_n F dX7_hides_42 rfl 1 rfl ?_
      refine n_if_ne F 56 dX7_hides_43 (by decide) (fun e5 => ?_) (fun e5 => ?_)
      · rw [if_neg e5]
        refine n_aload_n F dX7_hides_56 rfl 0 rfl ?_
        refine n_get F ck_7 lf_RX7_52 (by decide) fg_0_6 (by decide) dX7_hides_57 ?_
        refine n_get F ck_0 lf_RX7_177 (by decide) fg_25_2 (by decide) dX7_hides_60 ?_
        exact n_iret F rfl rfl dX7_hides_63
      rw [if_pos e5]
      refine n_aload_n F dX7_hides_46 rfl 0 rfl ?_
      refine n_get F ck_7 lf_RX7_52 (by decide) fg_0_6 (by decide) dX7_hides_47 ?_
      refine n_get F ck_0 lf_RX7_189 (by decide) fg_25_5 (by decide) dX7_hides_50 ?_
      refine n_goto F 63 dX7_hides_53 (by decide) ?_
      exact n_iret F rfl rfl dX7_hides_63
    rw [if_neg e3]
    refine n_bipush F (-4 : Int32) dX7_hides_32 (by decide) ?_
    exact n_iret F rfl rfl dX7_hides_34
  rw [if_pos e1]
  refine n_bipush F (-3 : Int32) dX7_hides_9 (by decide) ?_
  exact n_iret F rfl rfl dX7_hides_11
theorem dX7_daysOrNone_0 : decode cX7_daysOrNone 0 = .ok (.iload_n 0, 1) := by decide +kernel
theorem dX7_daysOrNone_1 : decode cX7_daysOrNone 1 = .ok (.bipush 12, 2) := by decide +kernel
theorem dX7_daysOrNone_3 : decode cX7_daysOrNone 3 = .ok (.if_icmp .le 7, 3) := by decide +kernel
theorem dX7_daysOrNone_6 : decode cX7_daysOrNone 6 = .ok (.iconst (-1), 1) := by decide +kernel
theorem dX7_daysOrNone_7 : decode cX7_daysOrNone 7 = .ok (.goto 4, 3) := by decide +kernel
theorem dX7_daysOrNone_10 : decode cX7_daysOrNone 10 = .ok (.iload_n 0, 1) := by decide +kernel
theorem dX7_daysOrNone_11 : decode cX7_daysOrNone 11 = .ok (.ireturn, 1) := by decide +kernel
def Nt_daysOrNone (w : Wd) (a1 : Int32) : Int32 := (if a1 ≤ (12 : Int32) then a1 else (-1 : Int32))
set_option maxRecDepth 100000 in
set_option maxHeartbeats 4000000 in
theorem ct_Nt_daysOrNone {l : Launch} {g : GG} {σ : Sd} (hg : OKg g σ) (hb : σ.2.1 = true) (hx : ∀ c ∈ ([] : List Nat), c ∈ σ.1) (w : Wd) (a1 : Int32) : CT l g σ yX7_daysOrNone cX7_daysOrNone 1 (some .int) 0 0 [.int a1] w (some (.int (Nt_daysOrNone w a1))) w := by
  refine ct_of (rt := (rtP w)) (res := some (Nt_daysOrNone w a1)) (q := (Nt_daysOrNone w a1)) (own := RX7) (b := true) hg hb hx (by decide) rfl (Nat.le_of_ble_eq_true rfl) rfl (fun K e1 e2 e3 F => ?_)
  subst e1 e2 e3
  rw [Nt_daysOrNone]
  show N K _ _ w 0 [(0, .int a1)] []
  refine n_iload_n F dX7_daysOrNone_0 rfl 0 rfl ?_
  refine n_bipush F (12 : Int32) dX7_daysOrNone_1 (by decide) ?_
  refine n_icmp_le F 10 dX7_daysOrNone_3 (by decide) (fun e1 => ?_) (fun e1 => ?_)
  · rw [if_pos e1]
    refine n_iload_n F dX7_daysOrNone_10 rfl 0 rfl ?_
    exact n_iret F rfl rfl dX7_daysOrNone_11
  rw [if_neg e1]
  refine n_iconst F (-1 : Int32) dX7_daysOrNone_6 (by decide) ?_
  refine n_goto F 11 dX7_daysOrNone_7 (by decide) ?_
  exact n_iret F rfl rfl dX7_daysOrNone_11
theorem dX7_chase_0 : decode cX7_chase 0 = .ok (.aload_n 0, 1) := by decide +kernel
theorem dX7_chase_1 : decode cX7_chase 1 = .ok (.getfield 37, 3) := by decide +kernel
theorem dX7_chase_4 : decode cX7_chase 4 = .ok (.getfield 156, 3) := by decide +kernel
theorem dX7_chase_7 : decode cX7_chase 7 = .ok (.ifCond .ne 13, 3) := by decide +kernel
theorem dX7_chase_10 : decode cX7_chase 10 = .ok (.aload_n 0, 1) := by decide +kernel
theorem dX7_chase_11 : decode cX7_chase 11 = .ok (.getfield 37, 3) := by decide +kernel
theorem dX7_chase_14 : decode cX7_chase 14 = .ok (.invokevirtual 192, 3) := by decide +kernel
theorem dX7_chase_17 : decode cX7_chase 17 = .ok (.ifCond .ne 6, 3) := by decide +kernel
theorem dX7_chase_20 : decode cX7_chase 20 = .ok (.bipush (-4), 2) := by decide +kernel
theorem dX7_chase_22 : decode cX7_chase 22 = .ok (.ireturn, 1) := by decide +kernel
theorem dX7_chase_23 : decode cX7_chase 23 = .ok (.aload_n 0, 1) := by decide +kernel
theorem dX7_chase_24 : decode cX7_chase 24 = .ok (.getfield 59, 3) := by decide +kernel
theorem dX7_chase_27 : decode cX7_chase 27 = .ok (.iconst (-1), 1) := by decide +kernel
theorem dX7_chase_28 : decode cX7_chase 28 = .ok (.bipush 12, 2) := by decide +kernel
theorem dX7_chase_30 : decode cX7_chase 30 = .ok (.invokevirtual 196, 3) := by decide +kernel
theorem dX7_chase_33 : decode cX7_chase 33 = .ok (.invokestatic 199, 3) := by decide +kernel
theorem dX7_chase_36 : decode cX7_chase 36 = .ok (.ireturn, 1) := by decide +kernel
def Nt_chase (w : Wd) : Option (Int32 × Wd) := (if (w.1 13 3) = (0 : Int32) then (Option.bind (Sc_anySeeks w) (fun q2 => (if q2 = (0 : Int32) then some ((-4 : Int32), w) else (Option.bind (Pu_fewestDays w (-1 : Int32) (12 : Int32)) (fun q4 => some ((Nt_daysOrNone (q4.2) (q4.1)), (q4.2))))))) else some ((-4 : Int32), w))
set_option maxRecDepth 100000 in
set_option maxHeartbeats 4000000 in
theorem ct_Nt_chase {l : Launch} {g : GG} {σ : Sd} (hg : OKg g σ) (hb : σ.2.1 = true) (hx : ∀ c ∈ ([0, 3, 4, 13, 15, 26, 27, 28, 29, 30, 31] : List Nat), c ∈ σ.1) (w : Wd) {q : Int32 × Wd} (hq : Nt_chase w = some q) : CT l g σ yX7_chase cX7_chase 1 (some .int) 4 95 [.ref (gA g 0)] w (some (.int q.1)) q.2 := by
  refine ct_of (rt := rtI) (res := Nt_chase w) (q := q) (own := RX7) (b := true) hg hb hx (by decide) rfl (Nat.le_of_ble_eq_true rfl) hq (fun K e1 e2 e3 F => ?_)
  subst e1 e2 e3
  rw [Nt_chase]
  show N K _ _ w 0 [(0, .ref (gA (cg K) 0))] []
  refine n_aload_n F dX7_chase_0 rfl 0 rfl ?_
  refine n_get F ck_7 lf_RX7_37 (by decide) fg_0_3 (by decide) dX7_chase_1 ?_
  refine n_get F ck_5 lf_RX7_156 (by decide) fg_13_3 (by decide) dX7_chase_4 ?_
  refine n_if_ne F 20 dX7_chase_7 (by decide) (fun e1 => ?_) (fun e1 => ?_)
  · rw [if_neg e1]
    refine n_bipush F (-4 : Int32) dX7_chase_20 (by decide) ?_
    exact n_iret F rfl rfl dX7_chase_22
  rw [if_pos e1]
  refine n_aload_n F dX7_chase_10 rfl 0 rfl ?_
  refine n_get F ck_7 lf_RX7_37 (by decide) fg_0_3 (by decide) dX7_chase_11 ?_
  refine n_bind (fun q2 hq2 => ?_)
  refine n_callVi F cb_X5_anySeeks lm_RX7_192 ob_13 (by decide) ⟨_, _, rfl⟩ (ct_Sc_anySeeks (fx_ok F) (fx_sd F) (fx_ix F rfl) w hq2) rfl rfl (Nat.le_of_ble_eq_true rfl) ⟨Nat.le_of_ble_eq_true rfl, Nat.le_of_ble_eq_true rfl⟩ dX7_chase_14 ?_
  refine n_if_ne F 23 dX7_chase_17 (by decide) (fun e3 => ?_) (fun e3 => ?_)
  · rw [if_neg e3]
    refine n_aload_n F dX7_chase_23 rfl 0 rfl ?_
    refine n_get F ck_7 lf_RX7_59 (by decide) fg_0_7 (by decide) dX7_chase_24 ?_
    refine n_iconst F (-1 : Int32) dX7_chase_27 (by decide) ?_
    refine n_bipush F (12 : Int32) dX7_chase_28 (by decide) ?_
    refine n_bind (fun q4 hq4 => ?_)
    refine n_callVi F cb_X2_fewestDays lm_RX7_196 ob_26 (by decide) ⟨_, _, rfl⟩ (ct_Pu_fewestDays (fx_ok F) (fx_sd F) (fx_ix F rfl) w (-1 : Int32) (12 : Int32) hq4) rfl rfl (Nat.le_of_ble_eq_true rfl) ⟨Nat.le_of_ble_eq_true rfl, Nat.le_of_ble_eq_true rfl⟩ dX7_chase_30 ?_
    refine n_callSi F cb_X7_daysOrNone lm_RX7_199 (ct_Nt_daysOrNone (fx_ok F) (fx_sd F) (fx_ix F rfl) (q4.2) (q4.1)) rfl rfl (Nat.le_of_ble_eq_true rfl) ⟨Nat.le_of_ble_eq_true rfl, Nat.le_of_ble_eq_true rfl⟩ dX7_chase_33 ?_
    exact n_iret F rfl rfl dX7_chase_36
  rw [if_pos e3]
  refine n_bipush F (-4 : Int32) dX7_chase_20 (by decide) ?_
  exact n_iret F rfl rfl dX7_chase_22
theorem dX7_closed_0 : decode cX7_closed 0 = .ok (.iload_n 1, 1) := by decide +kernel
theorem dX7_closed_1 : decode cX7_closed 1 = .ok (.iconst 0, 1) := by decide +kernel
theorem dX7_closed_2 : decode cX7_closed 2 = .ok (.iconst 1, 1) := by decide +kernel
theorem dX7_closed_3 : decode cX7_closed 3 = .ok (.invokestatic 74, 3) := by decide +kernel
theorem dX7_closed_6 : decode cX7_closed 6 = .ok (.ifCond .ne 6, 3) := by decide +kernel
theorem dX7_closed_9 : decode cX7_closed 9 = .ok (.bipush (-3), 2) := by decide +kernel
theorem dX7_closed_11 : decode cX7_closed 11 = .ok (.ireturn, 1) := by decide +kernel
theorem dX7_closed_12 : decode cX7_closed 12 = .ok (.aload_n 0, 1) := by decide +kernel
theorem dX7_closed_13 : decode cX7_closed 13 = .ok (.getfield 37, 3) := by decide +kernel
theorem dX7_closed_16 : decode cX7_closed 16 = .ok (.getfield 156, 3) := by decide +kernel
theorem dX7_closed_19 : decode cX7_closed 19 = .ok (.ifCond .ne 13, 3) := by decide +kernel
theorem dX7_closed_22 : decode cX7_closed 22 = .ok (.aload_n 0, 1) := by decide +kernel
theorem dX7_closed_23 : decode cX7_closed 23 = .ok (.getfield 37, 3) := by decide +kernel
theorem dX7_closed_26 : decode cX7_closed 26 = .ok (.invokevirtual 192, 3) := by decide +kernel
theorem dX7_closed_29 : decode cX7_closed 29 = .ok (.ifCond .ne 6, 3) := by decide +kernel
theorem dX7_closed_32 : decode cX7_closed 32 = .ok (.bipush (-4), 2) := by decide +kernel
theorem dX7_closed_34 : decode cX7_closed 34 = .ok (.ireturn, 1) := by decide +kernel
theorem dX7_closed_35 : decode cX7_closed 35 = .ok (.aload_n 0, 1) := by decide +kernel
theorem dX7_closed_36 : decode cX7_closed 36 = .ok (.getfield 19, 3) := by decide +kernel
theorem dX7_closed_39 : decode cX7_closed 39 = .ok (.getfield 202, 3) := by decide +kernel
theorem dX7_closed_42 : decode cX7_closed 42 = .ok (.ifCond .ne 5, 3) := by decide +kernel
theorem dX7_closed_45 : decode cX7_closed 45 = .ok (.iconst (-1), 1) := by decide +kernel
theorem dX7_closed_46 : decode cX7_closed 46 = .ok (.ireturn, 1) := by decide +kernel
theorem dX7_closed_47 : decode cX7_closed 47 = .ok (.aload_n 0, 1) := by decide +kernel
theorem dX7_closed_48 : decode cX7_closed 48 = .ok (.getfield 59, 3) := by decide +kernel
theorem dX7_closed_51 : decode cX7_closed 51 = .ok (.invokevirtual 205, 3) := by decide +kernel
theorem dX7_closed_54 : decode cX7_closed 54 = .ok (.iload_n 1, 1) := by decide +kernel
theorem dX7_closed_55 : decode cX7_closed 55 = .ok (.ifCond .ne 13, 3) := by decide +kernel
theorem dX7_closed_58 : decode cX7_closed 58 = .ok (.aload_n 0, 1) := by decide +kernel
theorem dX7_closed_59 : decode cX7_closed 59 = .ok (.getfield 59, 3) := by decide +kernel
theorem dX7_closed_62 : decode cX7_closed 62 = .ok (.getfield 208, 3) := by decide +kernel
theorem dX7_closed_65 : decode cX7_closed 65 = .ok (.goto 13, 3) := by decide +kernel
theorem dX7_closed_68 : decode cX7_closed 68 = .ok (.aload_n 0, 1) := by decide +kernel
theorem dX7_closed_69 : decode cX7_closed 69 = .ok (.getfield 59, 3) := by decide +kernel
theorem dX7_closed_72 : decode cX7_closed 72 = .ok (.getfield 211, 3) := by decide +kernel
theorem dX7_closed_75 : decode cX7_closed 75 = .ok (.invokestatic 199, 3) := by decide +kernel
theorem dX7_closed_78 : decode cX7_closed 78 = .ok (.ireturn, 1) := by decide +kernel
def Nt_closed (w : Wd) (a1 : Int32) : Option (Int32 × Wd) := (if (Nt_within w a1 (0 : Int32) (1 : Int32)) = (0 : Int32) then some ((-3 : Int32), w) else (if (w.1 13 3) = (0 : Int32) then (Option.bind (Sc_anySeeks w) (fun q3 => (if q3 = (0 : Int32) then some ((-4 : Int32), w) else (if (w.1 3 1) = (0 : Int32) then some ((-1 : Int32), w) else (Option.bind (Pu_close w) (fun q6 => (if a1 = (0 : Int32) then some ((q6.1 26 8), q6) else some ((Nt_daysOrNone q6 (q6.1 26 9)), q6)))))))) else some ((-4 : Int32), w)))
set_option maxRecDepth 100000 in
set_option maxHeartbeats 4000000 in
theorem ct_Nt_closed {l : Launch} {g : GG} {σ : Sd} (hg : OKg g σ) (hb : σ.2.1 = true) (hx : ∀ c ∈ ([0, 3, 4, 13, 15, 26, 27, 28, 29, 30, 31] : List Nat), c ∈ σ.1) (w : Wd) (a1 : Int32) {q : Int32 × Wd} (hq : Nt_closed w a1 = some q) : CT l g σ yX7_closed cX7_closed 2 (some .int) 5 117 [.ref (gA g 0), .int a1] w (some (.int q.1)) q.2 := by
  refine ct_of (rt := rtI) (res := Nt_closed w a1) (q := q) (own := RX7) (b := true) hg hb hx (by decide) rfl (Nat.le_of_ble_eq_true rfl) hq (fun K e1 e2 e3 F => ?_)
  subst e1 e2 e3
  rw [Nt_closed]
  show N K _ _ w 0 [(0, .ref (gA (cg K) 0)), (1, .int a1)] []
  refine n_iload_n F dX7_closed_0 rfl 1 rfl ?_
  refine n_iconst F (0 : Int32) dX7_closed_1 (by decide) ?_
  refine n_iconst F (1 : Int32) dX7_closed_2 (by decide) ?_
  refine n_callSi F cb_X7_within lm_RX7_74 (ct_Nt_within (fx_ok F) (fx_sd F) (fx_ix F rfl) w a1 (0 : Int32) (1 : Int32)) rfl rfl (Nat.le_of_ble_eq_true rfl) ⟨Nat.le_of_ble_eq_true rfl, Nat.le_of_ble_eq_true rfl⟩ dX7_closed_3 ?_
  refine n_if_ne F 12 dX7_closed_6 (by decide) (fun e1 => ?_) (fun e1 => ?_)
  · rw [if_neg e1]
    refine n_aload_n F dX7_closed_12 rfl 0 rfl ?_
    refine n_get F ck_7 lf_RX7_37 (by decide) fg_0_3 (by decide) dX7_closed_13 ?_
    refine n_get F ck_5 lf_RX7_156 (by decide) fg_13_3 (by decide) dX7_closed_16 ?_
    refine n_if_ne F 32 dX7_closed_19 (by decide) (fun e2 => ?_) (fun e2 => ?_)
    · rw [if_neg e2]
      refine n_bipush F (-4 : Int32) dX7_closed_32 (by decide) ?_
      exact n_iret F rfl rfl dX7_closed_34
    rw [if_pos e2]
    refine n_aload_n F dX7_closed_22 rfl 0 rfl ?_
    refine n_get F ck_7 lf_RX7_37 (by decide) fg_0_3 (by decide) dX7_closed_23 ?_
    refine n_bind (fun q3 hq3 => ?_)
    refine n_callVi F cb_X5_anySeeks lm_RX7_192 ob_13 (by decide) ⟨_, _, rfl⟩ (ct_Sc_anySeeks (fx_ok F) (fx_sd F) (fx_ix F rfl) w hq3) rfl rfl (Nat.le_of_ble_eq_true rfl) ⟨Nat.le_of_ble_eq_true rfl, Nat.le_of_ble_eq_true rfl⟩ dX7_closed_26 ?_
    refine n_if_ne F 35 dX7_closed_29 (by decide) (fun e4 => ?_) (fun e4 => ?_)
    · rw [if_neg e4]
      refine n_aload_n F dX7_closed_35 rfl 0 rfl ?_
      refine n_get F ck_7 lf_RX7_19 (by decide) fg_0_1 (by decide) dX7_closed_36 ?_
      refine n_get F ck_1 lf_RX7_202 (by decide) fg_3_1 (by decide) dX7_closed_39 ?_
      refine n_if_ne F 47 dX7_closed_42 (by decide) (fun e5 => ?_) (fun e5 => ?_)
      · rw [if_neg e5]
        refine n_aload_n F dX7_closed_47 rfl 0 rfl ?_
        refine n_get F ck_7 lf_RX7_59 (by decide) fg_0_7 (by decide) dX7_closed_48 ?_
        refine n_bind (fun q6 hq6 => ?_)
        refine n_callVv F cb_X2_close lm_RX7_205 ob_26 (by decide) ⟨_, _, rfl⟩ (ct_Pu_close (fx_ok F) (fx_sd F) (fx_ix F rfl) w hq6) rfl rfl (Nat.le_of_ble_eq_true rfl) ⟨Nat.le_of_ble_eq_true rfl, Nat.le_of_ble_eq_true rfl⟩ dX7_closed_51 ?_
        refine n_iload_n F dX7_closed_54 rfl 1 rfl ?_
        refine n_if_ne F 68 dX7_closed_55 (by decide) (fun e7 => ?_) (fun e7 => ?_)
        · rw [if_neg e7]
          refine n_aload_n F dX7_closed_68 rfl 0 rfl ?_
          refine n_get F ck_7 lf_RX7_59 (by decide) fg_0_7 (by decide) dX7_closed_69 ?_
          refine n_get F ck_2 lf_RX7_211 (by decide) fg_26_9 (by decide) dX7_closed_72 ?_
          refine n_callSi F cb_X7_daysOrNone lm_RX7_199 (ct_Nt_daysOrNone (fx_ok F) (fx_sd F) (fx_ix F rfl) q6 (q6.1 26 9)) rfl rfl (Nat.le_of_ble_eq_true rfl) ⟨Nat.le_of_ble_eq_true rfl, Nat.le_of_ble_eq_true rfl⟩ dX7_closed_75 ?_
          exact n_iret F rfl rfl dX7_closed_78
        rw [if_pos e7]
        refine n_aload_n F dX7_closed_58 rfl 0 rfl ?_
        refine n_get F ck_7 lf_RX7_59 (by decide) fg_0_7 (by decide) dX7_closed_59 ?_
        refine n_get F ck_2 lf_RX7_208 (by decide) fg_26_8 (by decide) dX7_closed_62 ?_
        refine n_goto F 78 dX7_closed_65 (by decide) ?_
        exact n_iret F rfl rfl dX7_closed_78
      rw [if_pos e5]
      refine n_iconst F (-1 : Int32) dX7_closed_45 (by decide) ?_
      exact n_iret F rfl rfl dX7_closed_46
    rw [if_pos e4]
    refine n_bipush F (-4 : Int32) dX7_closed_32 (by decide) ?_
    exact n_iret F rfl rfl dX7_closed_34
  rw [if_pos e1]
  refine n_bipush F (-3 : Int32) dX7_closed_9 (by decide) ?_
  exact n_iret F rfl rfl dX7_closed_11
theorem dX7_log_0 : decode cX7_log 0 = .ok (.aload_n 0, 1) := by decide +kernel
theorem dX7_log_1 : decode cX7_log 1 = .ok (.getfield 19, 3) := by decide +kernel
theorem dX7_log_4 : decode cX7_log 4 = .ok (.iload_n 1, 1) := by decide +kernel
theorem dX7_log_5 : decode cX7_log 5 = .ok (.invokevirtual 104, 3) := by decide +kernel
theorem dX7_log_8 : decode cX7_log 8 = .ok (.ifCond .ne 6, 3) := by decide +kernel
theorem dX7_log_11 : decode cX7_log 11 = .ok (.bipush (-2), 2) := by decide +kernel
theorem dX7_log_13 : decode cX7_log 13 = .ok (.ireturn, 1) := by decide +kernel
theorem dX7_log_14 : decode cX7_log 14 = .ok (.aload_n 0, 1) := by decide +kernel
theorem dX7_log_15 : decode cX7_log 15 = .ok (.getfield 66, 3) := by decide +kernel
theorem dX7_log_18 : decode cX7_log 18 = .ok (.iload_n 1, 1) := by decide +kernel
theorem dX7_log_19 : decode cX7_log 19 = .ok (.invokevirtual 214, 3) := by decide +kernel
theorem dX7_log_22 : decode cX7_log 22 = .ok (.ifCond .eq 13, 3) := by decide +kernel
theorem dX7_log_25 : decode cX7_log 25 = .ok (.aload_n 0, 1) := by decide +kernel
theorem dX7_log_26 : decode cX7_log 26 = .ok (.getfield 66, 3) := by decide +kernel
theorem dX7_log_29 : decode cX7_log 29 = .ok (.getfield 100, 3) := by decide +kernel
theorem dX7_log_32 : decode cX7_log 32 = .ok (.goto 5, 3) := by decide +kernel
theorem dX7_log_35 : decode cX7_log 35 = .ok (.bipush (-5), 2) := by decide +kernel
theorem dX7_log_37 : decode cX7_log 37 = .ok (.ireturn, 1) := by decide +kernel
def Nt_log (w : Wd) (a1 : Int32) : Option (Int32 × Wd) := (if (La_hasTrain w a1) = (0 : Int32) then some ((-2 : Int32), w) else (Option.bind (Ri_append w a1) (fun q2 => (if (q2.1) = (0 : Int32) then some ((-5 : Int32), (q2.2)) else some (((q2.2).1 32 2), (q2.2))))))
set_option maxRecDepth 100000 in
set_option maxHeartbeats 4000000 in
theorem ct_Nt_log {l : Launch} {g : GG} {σ : Sd} (hg : OKg g σ) (hb : σ.2.1 = true) (hx : ∀ c ∈ ([0, 3, 32, 33] : List Nat), c ∈ σ.1) (w : Wd) (a1 : Int32) {q : Int32 × Wd} (hq : Nt_log w a1 = some q) : CT l g σ yX7_log cX7_log 2 (some .int) 2 43 [.ref (gA g 0), .int a1] w (some (.int q.1)) q.2 := by
  refine ct_of (rt := rtI) (res := Nt_log w a1) (q := q) (own := RX7) (b := true) hg hb hx (by decide) rfl (Nat.le_of_ble_eq_true rfl) hq (fun K e1 e2 e3 F => ?_)
  subst e1 e2 e3
  rw [Nt_log]
  show N K _ _ w 0 [(0, .ref (gA (cg K) 0)), (1, .int a1)] []
  refine n_aload_n F dX7_log_0 rfl 0 rfl ?_
  refine n_get F ck_7 lf_RX7_19 (by decide) fg_0_1 (by decide) dX7_log_1 ?_
  refine n_iload_n F dX7_log_4 rfl 1 rfl ?_
  refine n_callVi F cb_X1_hasTrain lm_RX7_104 ob_3 (by decide) ⟨_, _, rfl⟩ (ct_La_hasTrain (fx_ok F) (fx_sd F) (fx_ix F rfl) w a1) rfl rfl (Nat.le_of_ble_eq_true rfl) ⟨Nat.le_of_ble_eq_true rfl, Nat.le_of_ble_eq_true rfl⟩ dX7_log_5 ?_
  refine n_if_ne F 14 dX7_log_8 (by decide) (fun e1 => ?_) (fun e1 => ?_)
  · rw [if_neg e1]
    refine n_aload_n F dX7_log_14 rfl 0 rfl ?_
    refine n_get F ck_7 lf_RX7_66 (by decide) fg_0_8 (by decide) dX7_log_15 ?_
    refine n_iload_n F dX7_log_18 rfl 1 rfl ?_
    refine n_bind (fun q2 hq2 => ?_)
    refine n_callVi F cb_X4_append lm_RX7_214 ob_32 (by decide) ⟨_, _, rfl⟩ (ct_Ri_append (fx_ok F) (fx_sd F) (fx_ix F rfl) w a1 hq2) rfl rfl (Nat.le_of_ble_eq_true rfl) ⟨Nat.le_of_ble_eq_true rfl, Nat.le_of_ble_eq_true rfl⟩ dX7_log_19 ?_
    refine n_if_eq F 35 dX7_log_22 (by decide) (fun e3 => ?_) (fun e3 => ?_)
    · rw [if_pos e3]
      refine n_bipush F (-5 : Int32) dX7_log_35 (by decide) ?_
      exact n_iret F rfl rfl dX7_log_37
    rw [if_neg e3]
    refine n_aload_n F dX7_log_25 rfl 0 rfl ?_
    refine n_get F ck_7 lf_RX7_66 (by decide) fg_0_8 (by decide) dX7_log_26 ?_
    refine n_get F ck_4 lf_RX7_100 (by decide) fg_32_2 (by decide) dX7_log_29 ?_
    refine n_goto F 37 dX7_log_32 (by decide) ?_
    exact n_iret F rfl rfl dX7_log_37
  rw [if_pos e1]
  refine n_bipush F (-2 : Int32) dX7_log_11 (by decide) ?_
  exact n_iret F rfl rfl dX7_log_13
theorem dX7_burn_0 : decode cX7_burn 0 = .ok (.aload_n 0, 1) := by decide +kernel
theorem dX7_burn_1 : decode cX7_burn 1 = .ok (.getfield 66, 3) := by decide +kernel
theorem dX7_burn_4 : decode cX7_burn 4 = .ok (.getfield 100, 3) := by decide +kernel
theorem dX7_burn_7 : decode cX7_burn 7 = .ok (.istore_n 1, 1) := by decide +kernel
theorem dX7_burn_8 : decode cX7_burn 8 = .ok (.aload_n 0, 1) := by decide +kernel
theorem dX7_burn_9 : decode cX7_burn 9 = .ok (.getfield 66, 3) := by decide +kernel
theorem dX7_burn_12 : decode cX7_burn 12 = .ok (.iconst 0, 1) := by decide +kernel
theorem dX7_burn_13 : decode cX7_burn 13 = .ok (.putfield 100, 3) := by decide +kernel
theorem dX7_burn_16 : decode cX7_burn 16 = .ok (.iload_n 1, 1) := by decide +kernel
theorem dX7_burn_17 : decode cX7_burn 17 = .ok (.ireturn, 1) := by decide +kernel
def Nt_burn (w : Wd) : Int32 × Wd := ((w.1 32 2), (sI w 32 2 (0 : Int32)))
set_option maxRecDepth 100000 in
set_option maxHeartbeats 4000000 in
theorem ct_Nt_burn {l : Launch} {g : GG} {σ : Sd} (hg : OKg g σ) (hb : σ.2.1 = true) (hx : ∀ c ∈ ([0, 32] : List Nat), c ∈ σ.1) (w : Wd) : CT l g σ yX7_burn cX7_burn 2 (some .int) 0 0 [.ref (gA g 0)] w (some (.int (Nt_burn w).1)) (Nt_burn w).2 := by
  refine ct_of (rt := rtI) (res := some (Nt_burn w)) (q := (Nt_burn w)) (own := RX7) (b := true) hg hb hx (by decide) rfl (Nat.le_of_ble_eq_true rfl) rfl (fun K e1 e2 e3 F => ?_)
  subst e1 e2 e3
  rw [Nt_burn]
  show N K _ _ w 0 [(0, .ref (gA (cg K) 0))] []
  refine n_aload_n F dX7_burn_0 rfl 0 rfl ?_
  refine n_get F ck_7 lf_RX7_66 (by decide) fg_0_8 (by decide) dX7_burn_1 ?_
  refine n_get F ck_4 lf_RX7_100 (by decide) fg_32_2 (by decide) dX7_burn_4 ?_
  refine n_istore_n F (lv' := [(1, .int (w.1 32 2)), (0, .ref (gA (cg K) 0))]) dX7_burn_7 rfl (by decide) rfl ?_
  refine n_aload_n F dX7_burn_8 rfl 1 rfl ?_
  refine n_get F ck_7 lf_RX7_66 (by decide) fg_0_8 (by decide) dX7_burn_9 ?_
  refine n_iconst F (0 : Int32) dX7_burn_12 (by decide) ?_
  refine n_put F ck_4 lf_RX7_100 (by decide) rfl fp_32_2 (by decide) rfl rfl dX7_burn_13 ?_
  refine n_iload_n F dX7_burn_16 rfl 0 rfl ?_
  exact n_iret F rfl rfl dX7_burn_17
theorem dX7_judge_0 : decode cX7_judge 0 = .ok (.aload_n 0, 1) := by decide +kernel
theorem dX7_judge_1 : decode cX7_judge 1 = .ok (.getfield 66, 3) := by decide +kernel
theorem dX7_judge_4 : decode cX7_judge 4 = .ok (.invokevirtual 216, 3) := by decide +kernel
theorem dX7_judge_7 : decode cX7_judge 7 = .ok (.ireturn, 1) := by decide +kernel
def Nt_judge (w : Wd) : Option (Int32 × Wd) := (Option.bind (Ri_firstImpossible w) (fun q1 => some ((q1.1), (q1.2))))
set_option maxRecDepth 100000 in
set_option maxHeartbeats 4000000 in
theorem ct_Nt_judge {l : Launch} {g : GG} {σ : Sd} (hg : OKg g σ) (hb : σ.2.1 = true) (hx : ∀ c ∈ ([0, 3, 4, 5, 32, 33, 34] : List Nat), c ∈ σ.1) (w : Wd) {q : Int32 × Wd} (hq : Nt_judge w = some q) : CT l g σ yX7_judge cX7_judge 1 (some .int) 4 93 [.ref (gA g 0)] w (some (.int q.1)) q.2 := by
  refine ct_of (rt := rtI) (res := Nt_judge w) (q := q) (own := RX7) (b := true) hg hb hx (by decide) rfl (Nat.le_of_ble_eq_true rfl) hq (fun K e1 e2 e3 F => ?_)
  subst e1 e2 e3
  rw [Nt_judge]
  show N K _ _ w 0 [(0, .ref (gA (cg K) 0))] []
  refine n_aload_n F dX7_judge_0 rfl 0 rfl ?_
  refine n_get F ck_7 lf_RX7_66 (by decide) fg_0_8 (by decide) dX7_judge_1 ?_
  refine n_bind (fun q1 hq1 => ?_)
  refine n_callVi F cb_X4_firstImpossible lm_RX7_216 ob_32 (by decide) ⟨_, _, rfl⟩ (ct_Ri_firstImpossible (fx_ok F) (fx_sd F) (fx_ix F rfl) w hq1) rfl rfl (Nat.le_of_ble_eq_true rfl) ⟨Nat.le_of_ble_eq_true rfl, Nat.le_of_ble_eq_true rfl⟩ dX7_judge_4 ?_
  exact n_iret F rfl rfl dX7_judge_7
theorem dX7_commonDivisor_0 : decode cX7_commonDivisor 0 = .ok (.lload_n 0, 1) := by decide +kernel
theorem dX7_commonDivisor_1 : decode cX7_commonDivisor 1 = .ok (.lstore 4, 2) := by decide +kernel
theorem dX7_commonDivisor_3 : decode cX7_commonDivisor 3 = .ok (.lload_n 2, 1) := by decide +kernel
theorem dX7_commonDivisor_4 : decode cX7_commonDivisor 4 = .ok (.lstore 6, 2) := by decide +kernel
theorem dX7_commonDivisor_6 : decode cX7_commonDivisor 6 = .ok (.iconst 0, 1) := by decide +kernel
theorem dX7_commonDivisor_7 : decode cX7_commonDivisor 7 = .ok (.istore 8, 2) := by decide +kernel
theorem dX7_commonDivisor_9 : decode cX7_commonDivisor 9 = .ok (.iload 8, 2) := by decide +kernel
theorem dX7_commonDivisor_11 : decode cX7_commonDivisor 11 = .ok (.sipush 1000, 3) := by decide +kernel
theorem dX7_commonDivisor_14 : decode cX7_commonDivisor 14 = .ok (.if_icmp .ge 31, 3) := by decide +kernel
theorem dX7_commonDivisor_17 : decode cX7_commonDivisor 17 = .ok (.lload 6, 2) := by decide +kernel
theorem dX7_commonDivisor_19 : decode cX7_commonDivisor 19 = .ok (.lconst 0, 1) := by decide +kernel
theorem dX7_commonDivisor_20 : decode cX7_commonDivisor 20 = .ok (.lcmp, 1) := by decide +kernel
theorem dX7_commonDivisor_21 : decode cX7_commonDivisor 21 = .ok (.ifCond .eq 24, 3) := by decide +kernel
theorem dX7_commonDivisor_24 : decode cX7_commonDivisor 24 = .ok (.lload 4, 2) := by decide +kernel
theorem dX7_commonDivisor_26 : decode cX7_commonDivisor 26 = .ok (.lload 6, 2) := by decide +kernel
theorem dX7_commonDivisor_28 : decode cX7_commonDivisor 28 = .ok (.lrem, 1) := by decide +kernel
theorem dX7_commonDivisor_29 : decode cX7_commonDivisor 29 = .ok (.lstore 9, 2) := by decide +kernel
theorem dX7_commonDivisor_31 : decode cX7_commonDivisor 31 = .ok (.lload 6, 2) := by decide +kernel
theorem dX7_commonDivisor_33 : decode cX7_commonDivisor 33 = .ok (.lstore 4, 2) := by decide +kernel
theorem dX7_commonDivisor_35 : decode cX7_commonDivisor 35 = .ok (.lload 9, 2) := by decide +kernel
theorem dX7_commonDivisor_37 : decode cX7_commonDivisor 37 = .ok (.lstore 6, 2) := by decide +kernel
theorem dX7_commonDivisor_39 : decode cX7_commonDivisor 39 = .ok (.iinc 8 1, 3) := by decide +kernel
theorem dX7_commonDivisor_42 : decode cX7_commonDivisor 42 = .ok (.goto (-33), 3) := by decide +kernel
theorem dX7_commonDivisor_45 : decode cX7_commonDivisor 45 = .ok (.lload 4, 2) := by decide +kernel
theorem dX7_commonDivisor_47 : decode cX7_commonDivisor 47 = .ok (.lreturn, 1) := by decide +kernel
def Nt_commonDivisor_L9 (w : Wd) (k45 : Int64 → Option Int64) : Nat → Int64 → Int64 → Int32 → Option Int64
  | 0, _, _, _ => none
  | n + 1, v4, v6, v8 => (if (1000 : Int32) ≤ v8 then (k45 v4) else (if (lg_cmp v6 (0 : Int64)) = (0 : Int32) then (k45 v4) else (if ¬ v6 = (0 : Int64) then (Nt_commonDivisor_L9 w k45 n v6 (v4 - v4 / v6 * v6) (v8 + (1 : Int32))) else none)))
set_option maxRecDepth 100000 in
set_option maxHeartbeats 4000000 in
theorem Nt_commonDivisor_L9_ok {K : Ctx} (F : Fx K cX7_commonDivisor 11 RX7 (some .long) 0 0 true []) (w : Wd) {k45 : Int64 → Option Int64} (h45 : ∀ (v4 : Int64), N K (rtQ w) (k45 v4) w 45 [(4, .long v4)] []) : ∀ (n : Nat) (v4 : Int64) (v6 : Int64) (v8 : Int32), N K (rtQ w) (Nt_commonDivisor_L9 w k45 n v4 v6 v8) w 9 [(4, .long v4), (6, .long v6), (8, .int v8)] [] := by
  intro n
  induction n with
  | zero => intro _ _ _; exact n_none
  | succ n ih =>
    intro v4 v6 v8
    rw [Nt_commonDivisor_L9]
    refine n_iload F dX7_commonDivisor_9 2 rfl ?_
    refine n_sipush F (1000 : Int32) dX7_commonDivisor_11 (by decide) ?_
    refine n_icmp_ge F 45 dX7_commonDivisor_14 (by decide) (fun e1 => ?_) (fun e1 => ?_)
    · rw [if_pos e1]
      exact n_sub [0] rfl (h45 _)
    rw [if_neg e1]
    refine n_lload F dX7_commonDivisor_17 1 rfl ?_
    refine n_lconst F (0 : Int64) dX7_commonDivisor_19 (by decide) ?_
    refine n_lcmp F dX7_commonDivisor_20 ?_
    refine n_if_eq F 45 dX7_commonDivisor_21 (by decide) (fun e2 => ?_) (fun e2 => ?_)
    · rw [if_pos e2]
      exact n_sub [0] rfl (h45 _)
    rw [if_neg e2]
    refine n_lload F dX7_commonDivisor_24 0 rfl ?_
    refine n_lload F dX7_commonDivisor_26 1 rfl ?_
    refine n_chk (fun e3 => ?_)
    refine n_lrem F dX7_commonDivisor_28 e3 ?_
    refine n_lstore F (lv' := [(9, .long (v4 - v4 / v6 * v6)), (4, .long v4), (6, .long v6), (8, .int v8)]) dX7_commonDivisor_29 (by decide) rfl ?_
    refine n_lload F dX7_commonDivisor_31 2 rfl ?_
    refine n_lstore F (lv' := [(4, .long v6), (9, .long (v4 - v4 / v6 * v6)), (6, .long v6), (8, .int v8)]) dX7_commonDivisor_33 (by decide) rfl ?_
    refine n_lload F dX7_commonDivisor_35 1 rfl ?_
    refine n_lstore F (lv' := [(6, .long (v4 - v4 / v6 * v6)), (4, .long v6), (9, .long (v4 - v4 / v6 * v6)), (8, .int v8)]) dX7_commonDivisor_37 (by decide) rfl ?_
    refine n_iinc F (v8 + (1 : Int32)) (lv' := [(8, .int (v8 + (1 : Int32))), (6, .long (v4 - v4 / v6 * v6)), (4, .long v6), (9, .long (v4 - v4 / v6 * v6))]) dX7_commonDivisor_39 3 rfl rfl (by decide) rfl ?_
    refine n_goto F 9 dX7_commonDivisor_42 (by decide) ?_
    exact n_sub [2, 1, 0] rfl (ih _ _ _)
def Nt_commonDivisor_B45 (w : Wd) (v4 : Int64) : Option Int64 := some v4
set_option maxRecDepth 100000 in
set_option maxHeartbeats 4000000 in
theorem Nt_commonDivisor_B45_ok {K : Ctx} (F : Fx K cX7_commonDivisor 11 RX7 (some .long) 0 0 true []) (w : Wd) (v4 : Int64) : N K (rtQ w) (Nt_commonDivisor_B45 w v4) w 45 [(4, .long v4)] [] := by
  rw [Nt_commonDivisor_B45]
  refine n_lload F dX7_commonDivisor_45 0 rfl ?_
  exact n_lret F rfl rfl dX7_commonDivisor_47
def Nt_commonDivisor (w : Wd) (a1 : Int64) (a2 : Int64) : Option Int64 := (Nt_commonDivisor_L9 w (Nt_commonDivisor_B45 w) FU a1 a2 (0 : Int32))
set_option maxRecDepth 100000 in
set_option maxHeartbeats 4000000 in
theorem ct_Nt_commonDivisor {l : Launch} {g : GG} {σ : Sd} (hg : OKg g σ) (hb : σ.2.1 = true) (hx : ∀ c ∈ ([] : List Nat), c ∈ σ.1) (w : Wd) (a1 : Int64) (a2 : Int64) {q : Int64} (hq : Nt_commonDivisor w a1 a2 = some q) : CT l g σ yX7_commonDivisor cX7_commonDivisor 11 (some .long) 0 0 [.long a1, .long a2] w (some (.long q)) w := by
  refine ct_of (rt := (rtQ w)) (res := Nt_commonDivisor w a1 a2) (q := q) (own := RX7) (b := true) hg hb hx (by decide) rfl (Nat.le_of_ble_eq_true rfl) hq (fun K e1 e2 e3 F => ?_)
  subst e1 e2 e3
  rw [Nt_commonDivisor]
  show N K _ _ w 0 [(0, .long a1), (2, .long a2)] []
  refine n_lload_n F dX7_commonDivisor_0 rfl 0 rfl ?_
  refine n_lstore F (lv' := [(4, .long a1), (0, .long a1), (2, .long a2)]) dX7_commonDivisor_1 (by decide) rfl ?_
  refine n_lload_n F dX7_commonDivisor_3 rfl 2 rfl ?_
  refine n_lstore F (lv' := [(6, .long a2), (4, .long a1), (0, .long a1), (2, .long a2)]) dX7_commonDivisor_4 (by decide) rfl ?_
  refine n_iconst F (0 : Int32) dX7_commonDivisor_6 (by decide) ?_
  refine n_istore F (lv' := [(8, .int (0 : Int32)), (6, .long a2), (4, .long a1), (0, .long a1), (2, .long a2)]) dX7_commonDivisor_7 (by decide) rfl ?_
  exact n_sub [2, 1, 0] rfl (Nt_commonDivisor_L9_ok F w (Nt_commonDivisor_B45_ok F w) FU _ _ _)
theorem dX7_late_0 : decode cX7_late 0 = .ok (.iload_n 1, 1) := by decide +kernel
theorem dX7_late_1 : decode cX7_late 1 = .ok (.iconst 0, 1) := by decide +kernel
theorem dX7_late_2 : decode cX7_late 2 = .ok (.bipush 10, 2) := by decide +kernel
theorem dX7_late_4 : decode cX7_late 4 = .ok (.invokestatic 74, 3) := by decide +kernel
theorem dX7_late_7 : decode cX7_late 7 = .ok (.ifCond .eq 22, 3) := by decide +kernel
theorem dX7_late_10 : decode cX7_late 10 = .ok (.iload_n 2, 1) := by decide +kernel
theorem dX7_late_11 : decode cX7_late 11 = .ok (.iconst 0, 1) := by decide +kernel
theorem dX7_late_12 : decode cX7_late 12 = .ok (.bipush 40, 2) := by decide +kernel
theorem dX7_late_14 : decode cX7_late 14 = .ok (.invokestatic 74, 3) := by decide +kernel
theorem dX7_late_17 : decode cX7_late 17 = .ok (.ifCond .eq 12, 3) := by decide +kernel
theorem dX7_late_20 : decode cX7_late 20 = .ok (.iload_n 3, 1) := by decide +kernel
theorem dX7_late_21 : decode cX7_late 21 = .ok (.iconst 0, 1) := by decide +kernel
theorem dX7_late_22 : decode cX7_late 22 = .ok (.iconst 1, 1) := by decide +kernel
theorem dX7_late_23 : decode cX7_late 23 = .ok (.invokestatic 74, 3) := by decide +kernel
theorem dX7_late_26 : decode cX7_late 26 = .ok (.ifCond .ne 7, 3) := by decide +kernel
theorem dX7_late_29 : decode cX7_late 29 = .ok (.ldc2_w 219, 3) := by decide +kernel
theorem dX7_late_32 : decode cX7_late 32 = .ok (.lreturn, 1) := by decide +kernel
theorem dX7_late_33 : decode cX7_late 33 = .ok (.aload_n 0, 1) := by decide +kernel
theorem dX7_late_34 : decode cX7_late 34 = .ok (.getfield 66, 3) := by decide +kernel
theorem dX7_late_37 : decode cX7_late 37 = .ok (.iload_n 1, 1) := by decide +kernel
theorem dX7_late_38 : decode cX7_late 38 = .ok (.iload_n 2, 1) := by decide +kernel
theorem dX7_late_39 : decode cX7_late 39 = .ok (.invokevirtual 221, 3) := by decide +kernel
theorem dX7_late_42 : decode cX7_late 42 = .ok (.lstore 4, 2) := by decide +kernel
theorem dX7_late_44 : decode cX7_late 44 = .ok (.aload_n 0, 1) := by decide +kernel
theorem dX7_late_45 : decode cX7_late 45 = .ok (.getfield 66, 3) := by decide +kernel
theorem dX7_late_48 : decode cX7_late 48 = .ok (.invokevirtual 225, 3) := by decide +kernel
theorem dX7_late_51 : decode cX7_late 51 = .ok (.lstore 6, 2) := by decide +kernel
theorem dX7_late_53 : decode cX7_late 53 = .ok (.lload 4, 2) := by decide +kernel
theorem dX7_late_55 : decode cX7_late 55 = .ok (.lload 6, 2) := by decide +kernel
theorem dX7_late_57 : decode cX7_late 57 = .ok (.invokestatic 229, 3) := by decide +kernel
theorem dX7_late_60 : decode cX7_late 60 = .ok (.lstore 8, 2) := by decide +kernel
theorem dX7_late_62 : decode cX7_late 62 = .ok (.lload 8, 2) := by decide +kernel
theorem dX7_late_64 : decode cX7_late 64 = .ok (.lconst 1, 1) := by decide +kernel
theorem dX7_late_65 : decode cX7_late 65 = .ok (.lcmp, 1) := by decide +kernel
theorem dX7_late_66 : decode cX7_late 66 = .ok (.ifCond .ge 15, 3) := by decide +kernel
theorem dX7_late_69 : decode cX7_late 69 = .ok (.iload_n 3, 1) := by decide +kernel
theorem dX7_late_70 : decode cX7_late 70 = .ok (.ifCond .ne 8, 3) := by decide +kernel
theorem dX7_late_73 : decode cX7_late 73 = .ok (.lload 4, 2) := by decide +kernel
theorem dX7_late_75 : decode cX7_late 75 = .ok (.goto 5, 3) := by decide +kernel
theorem dX7_late_78 : decode cX7_late 78 = .ok (.lload 6, 2) := by decide +kernel
theorem dX7_late_80 : decode cX7_late 80 = .ok (.lreturn, 1) := by decide +kernel
theorem dX7_late_81 : decode cX7_late 81 = .ok (.iload_n 3, 1) := by decide +kernel
theorem dX7_late_82 : decode cX7_late 82 = .ok (.ifCond .ne 11, 3) := by decide +kernel
theorem dX7_late_85 : decode cX7_late 85 = .ok (.lload 4, 2) := by decide +kernel
theorem dX7_late_87 : decode cX7_late 87 = .ok (.lload 8, 2) := by decide +kernel
theorem dX7_late_89 : decode cX7_late 89 = .ok (.ldiv, 1) := by decide +kernel
theorem dX7_late_90 : decode cX7_late 90 = .ok (.goto 8, 3) := by decide +kernel
theorem dX7_late_93 : decode cX7_late 93 = .ok (.lload 6, 2) := by decide +kernel
theorem dX7_late_95 : decode cX7_late 95 = .ok (.lload 8, 2) := by decide +kernel
theorem dX7_late_97 : decode cX7_late 97 = .ok (.ldiv, 1) := by decide +kernel
theorem dX7_late_98 : decode cX7_late 98 = .ok (.lreturn, 1) := by decide +kernel
def Nt_late (w : Wd) (a1 : Int32) (a2 : Int32) (a3 : Int32) : Option (Int64 × Wd) := (if (Nt_within w a1 (0 : Int32) (10 : Int32)) = (0 : Int32) then some ((-3 : Int64), w) else (if (Nt_within w a2 (0 : Int32) (40 : Int32)) = (0 : Int32) then some ((-3 : Int64), w) else (if (Nt_within w a3 (0 : Int32) (1 : Int32)) = (0 : Int32) then some ((-3 : Int64), w) else (Option.bind (Ri_waysInTime w a1 a2) (fun q4 => (Option.bind (Ri_waysInAll (q4.2)) (fun q5 => (Option.bind (Nt_commonDivisor (q4.2) (q4.1) q5) (fun q6 => (if (0 : Int32) ≤ (lg_cmp q6 (1 : Int64)) then (if a3 = (0 : Int32) then (if ¬ q6 = (0 : Int64) then some (((q4.1) / q6), (q4.2)) else none) else (if ¬ q6 = (0 : Int64) then some ((q5 / q6), (q4.2)) else none)) else (if a3 = (0 : Int32) then some ((q4.1), (q4.2)) else some (q5, (q4.2)))))))))))))
set_option maxRecDepth 100000 in
set_option maxHeartbeats 4000000 in
theorem ct_Nt_late {l : Launch} {g : GG} {σ : Sd} (hg : OKg g σ) (hb : σ.2.1 = true) (hx : ∀ c ∈ ([0, 3, 4, 32, 33, 35, 36] : List Nat), c ∈ σ.1) (w : Wd) (a1 : Int32) (a2 : Int32) (a3 : Int32) {q : Int64 × Wd} (hq : Nt_late w a1 a2 a3 = some q) : CT l g σ yX7_late cX7_late 10 (some .long) 4 96 [.ref (gA g 0), .int a1, .int a2, .int a3] w (some (.long q.1)) q.2 := by
  refine ct_of (rt := rtJ) (res := Nt_late w a1 a2 a3) (q := q) (own := RX7) (b := true) hg hb hx (by decide) rfl (Nat.le_of_ble_eq_true rfl) hq (fun K e1 e2 e3 F => ?_)
  subst e1 e2 e3
  rw [Nt_late]
  show N K _ _ w 0 [(0, .ref (gA (cg K) 0)), (1, .int a1), (2, .int a2), (3, .int a3)] []
  refine n_iload_n F dX7_late_0 rfl 1 rfl ?_
  refine n_iconst F (0 : Int32) dX7_late_1 (by decide) ?_
  refine n_bipush F (10 : Int32) dX7_late_2 (by decide) ?_
  refine n_callSi F cb_X7_within lm_RX7_74 (ct_Nt_within (fx_ok F) (fx_sd F) (fx_ix F rfl) w a1 (0 : Int32) (10 : Int32)) rfl rfl (Nat.le_of_ble_eq_true rfl) ⟨Nat.le_of_ble_eq_true rfl, Nat.le_of_ble_eq_true rfl⟩ dX7_late_4 ?_
  refine n_if_eq F 29 dX7_late_7 (by decide) (fun e1 => ?_) (fun e1 => ?_)
  · rw [if_pos e1]
    refine n_ldc2 F (-3 : Int64) dX7_late_29 kc_RX7_219 ?_
    exact n_lret F rfl rfl dX7_late_32
  rw [if_neg e1]
  refine n_iload_n F dX7_late_10 rfl 2 rfl ?_
  refine n_iconst F (0 : Int32) dX7_late_11 (by decide) ?_
  refine n_bipush F (40 : Int32) dX7_late_12 (by decide) ?_
  refine n_callSi F cb_X7_within lm_RX7_74 (ct_Nt_within (fx_ok F) (fx_sd F) (fx_ix F rfl) w a2 (0 : Int32) (40 : Int32)) rfl rfl (Nat.le_of_ble_eq_true rfl) ⟨Nat.le_of_ble_eq_true rfl, Nat.le_of_ble_eq_true rfl⟩ dX7_late_14 ?_
  refine n_if_eq F 29 dX7_late_17 (by decide) (fun e2 => ?_) (fun e2 => ?_)
  · rw [if_pos e2]
    refine n_ldc2 F (-3 : Int64) dX7_late_29 kc_RX7_219 ?_
    exact n_lret F rfl rfl dX7_late_32
  rw [if_neg e2]
  refine n_iload_n F dX7_late_20 rfl 3 rfl ?_
  refine n_iconst F (0 : Int32) dX7_late_21 (by decide) ?_
  refine n_iconst F (1 : Int32) dX7_late_22 (by decide) ?_
  refine n_callSi F cb_X7_within lm_RX7_74 (ct_Nt_within (fx_ok F) (fx_sd F) (fx_ix F rfl) w a3 (0 : Int32) (1 : Int32)) rfl rfl (Nat.le_of_ble_eq_true rfl) ⟨Nat.le_of_ble_eq_true rfl, Nat.le_of_ble_eq_true rfl⟩ dX7_late_23 ?_
  refine n_if_ne F 33 dX7_late_26 (by decide) (fun e3 => ?_) (fun e3 => ?_)
  · rw [if_neg e3]
    refine n_aload_n F dX7_late_33 rfl 0 rfl ?_
    refine n_get F ck_7 lf_RX7_66 (by decide) fg_0_8 (by decide) dX7_late_34 ?_
    refine n_iload_n F dX7_late_37 rfl 1 rfl ?_
    refine n_iload_n F dX7_late_38 rfl 2 rfl ?_
    refine n_bind (fun q4 hq4 => ?_)
    refine n_callVl F cb_X4_waysInTime lm_RX7_221 ob_32 (by decide) ⟨_, _, rfl⟩ (ct_Ri_waysInTime (fx_ok F) (fx_sd F) (fx_ix F rfl) w a1 a2 hq4) rfl rfl (Nat.le_of_ble_eq_true rfl) ⟨Nat.le_of_ble_eq_true rfl, Nat.le_of_ble_eq_true rfl⟩ dX7_late_39 ?_
    refine n_lstore F (lv' := [(4, .long (q4.1)), (0, .ref (gA (cg K) 0)), (1, .int a1), (2, .int a2), (3, .int a3)]) dX7_late_42 (by decide) rfl ?_
    refine n_aload_n F dX7_late_44 rfl 1 rfl ?_
    refine n_get F ck_7 lf_RX7_66 (by decide) fg_0_8 (by decide) dX7_late_45 ?_
    refine n_bind (fun q5 hq5 => ?_)
    refine n_callVl F cb_X4_waysInAll lm_RX7_225 ob_32 (by decide) ⟨_, _, rfl⟩ (ct_Ri_waysInAll (fx_ok F) (fx_sd F) (fx_ix F rfl) (q4.2) hq5) rfl rfl (Nat.le_of_ble_eq_true rfl) ⟨Nat.le_of_ble_eq_true rfl, Nat.le_of_ble_eq_true rfl⟩ dX7_late_48 ?_
    refine n_lstore F (lv' := [(6, .long q5), (4, .long (q4.1)), (0, .ref (gA (cg K) 0)), (1, .int a1), (2, .int a2), (3, .int a3)]) dX7_late_51 (by decide) rfl ?_
    refine n_lload F dX7_late_53 1 rfl ?_
    refine n_lload F dX7_late_55 0 rfl ?_
    refine n_bind (fun q6 hq6 => ?_)
    refine n_callSl F cb_X7_commonDivisor lm_RX7_229 (ct_Nt_commonDivisor (fx_ok F) (fx_sd F) (fx_ix F rfl) (q4.2) (q4.1) q5 hq6) rfl rfl (Nat.le_of_ble_eq_true rfl) ⟨Nat.le_of_ble_eq_true rfl, Nat.le_of_ble_eq_true rfl⟩ dX7_late_57 ?_
    refine n_lstore F (lv' := [(8, .long q6), (6, .long q5), (4, .long (q4.1)), (0, .ref (gA (cg K) 0)), (1, .int a1), (2, .int a2), (3, .int a3)]) dX7_late_60 (by decide) rfl ?_
    refine n_lload F dX7_late_62 0 rfl ?_
    refine n_lconst F (1 : Int64) dX7_late_64 (by decide) ?_
    refine n_lcmp F dX7_late_65 ?_
    refine n_if_ge F 81 dX7_late_66 (by decide) (fun e7 => ?_) (fun e7 => ?_)
    · rw [if_pos e7]
      refine n_iload_n F dX7_late_81 rfl 6 rfl ?_
      refine n_if_ne F 93 dX7_late_82 (by decide) (fun e8 => ?_) (fun e8 => ?_)
      · rw [if_neg e8]
        refine n_lload F dX7_late_93 1 rfl ?_
        refine n_lload F dX7_late_95 0 rfl ?_
        refine n_chk (fun e9 => ?_)
        refine n_ldiv F dX7_late_97 e9 ?_
        exact n_lret F rfl rfl dX7_late_98
      rw [if_pos e8]
      refine n_lload F dX7_late_85 2 rfl ?_
      refine n_lload F dX7_late_87 0 rfl ?_
      refine n_chk (fun e10 => ?_)
      refine n_ldiv F dX7_late_89 e10 ?_
      refine n_goto F 98 dX7_late_90 (by decide) ?_
      exact n_lret F rfl rfl dX7_late_98
    rw [if_neg e7]
    refine n_iload_n F dX7_late_69 rfl 6 rfl ?_
    refine n_if_ne F 78 dX7_late_70 (by decide) (fun e11 => ?_) (fun e11 => ?_)
    · rw [if_neg e11]
      refine n_lload F dX7_late_78 1 rfl ?_
      exact n_lret F rfl rfl dX7_late_80
    rw [if_pos e11]
    refine n_lload F dX7_late_73 2 rfl ?_
    refine n_goto F 80 dX7_late_75 (by decide) ?_
    exact n_lret F rfl rfl dX7_late_80
  rw [if_pos e3]
  refine n_ldc2 F (-3 : Int64) dX7_late_29 kc_RX7_219 ?_
  exact n_lret F rfl rfl dX7_late_32
theorem dX7_keep_0 : decode cX7_keep 0 = .ok (.iload_n 1, 1) := by decide +kernel
theorem dX7_keep_1 : decode cX7_keep 1 = .ok (.iconst 0, 1) := by decide +kernel
theorem dX7_keep_2 : decode cX7_keep 2 = .ok (.iconst 1, 1) := by decide +kernel
theorem dX7_keep_3 : decode cX7_keep 3 = .ok (.invokestatic 74, 3) := by decide +kernel
theorem dX7_keep_6 : decode cX7_keep 6 = .ok (.ifCond .ne 6, 3) := by decide +kernel
theorem dX7_keep_9 : decode cX7_keep 9 = .ok (.bipush (-2), 2) := by decide +kernel
theorem dX7_keep_11 : decode cX7_keep 11 = .ok (.ireturn, 1) := by decide +kernel
theorem dX7_keep_12 : decode cX7_keep 12 = .ok (.aload_n 0, 1) := by decide +kernel
theorem dX7_keep_13 : decode cX7_keep 13 = .ok (.iload_n 1, 1) := by decide +kernel
theorem dX7_keep_14 : decode cX7_keep 14 = .ok (.invokevirtual 233, 3) := by decide +kernel
theorem dX7_keep_17 : decode cX7_keep 17 = .ok (.aload_n 0, 1) := by decide +kernel
theorem dX7_keep_18 : decode cX7_keep 18 = .ok (.getfield 37, 3) := by decide +kernel
theorem dX7_keep_21 : decode cX7_keep 21 = .ok (.invokevirtual 237, 3) := by decide +kernel
theorem dX7_keep_24 : decode cX7_keep 24 = .ok (.aload_n 0, 1) := by decide +kernel
theorem dX7_keep_25 : decode cX7_keep 25 = .ok (.dup, 1) := by decide +kernel
theorem dX7_keep_26 : decode cX7_keep 26 = .ok (.getfield 70, 3) := by decide +kernel
theorem dX7_keep_29 : decode cX7_keep 29 = .ok (.iconst 1, 1) := by decide +kernel
theorem dX7_keep_30 : decode cX7_keep 30 = .ok (.iload_n 1, 1) := by decide +kernel
theorem dX7_keep_31 : decode cX7_keep 31 = .ok (.ishl, 1) := by decide +kernel
theorem dX7_keep_32 : decode cX7_keep 32 = .ok (.ior, 1) := by decide +kernel
theorem dX7_keep_33 : decode cX7_keep 33 = .ok (.putfield 70, 3) := by decide +kernel
theorem dX7_keep_36 : decode cX7_keep 36 = .ok (.aload_n 0, 1) := by decide +kernel
theorem dX7_keep_37 : decode cX7_keep 37 = .ok (.getfield 37, 3) := by decide +kernel
theorem dX7_keep_40 : decode cX7_keep 40 = .ok (.getfield 240, 3) := by decide +kernel
theorem dX7_keep_43 : decode cX7_keep 43 = .ok (.ireturn, 1) := by decide +kernel
def Nt_keep (w : Wd) (a1 : Int32) : Option (Int32 × Wd) := (if (Nt_within w a1 (0 : Int32) (1 : Int32)) = (0 : Int32) then some ((-2 : Int32), w) else (if a1 = (0 : Int32) then (Option.bind (Sc_copy_17_13 w) (fun q3 => some (((sI q3 0 9 ((q3.1 0 9) ||| ((1 : Int32) <<< (a1 &&& (31 : Int32))))).1 13 1), (sI q3 0 9 ((q3.1 0 9) ||| ((1 : Int32) <<< (a1 &&& (31 : Int32)))))))) else (Option.bind (Sc_copy_21_13 w) (fun q4 => some (((sI q4 0 9 ((q4.1 0 9) ||| ((1 : Int32) <<< (a1 &&& (31 : Int32))))).1 13 1), (sI q4 0 9 ((q4.1 0 9) ||| ((1 : Int32) <<< (a1 &&& (31 : Int32))))))))))
set_option maxRecDepth 100000 in
set_option maxHeartbeats 4000000 in
theorem ct_Nt_keep {l : Launch} {g : GG} {σ : Sd} (hg : OKg g σ) (hb : σ.2.1 = true) (hx : ∀ c ∈ ([0, 13, 14, 15, 16, 17, 18, 19, 20, 21, 22, 23, 24] : List Nat), c ∈ σ.1) (w : Wd) (a1 : Int32) {q : Int32 × Wd} (hq : Nt_keep w a1 = some q) : CT l g σ yX7_keep cX7_keep 2 (some .int) 2 39 [.ref (gA g 0), .int a1] w (some (.int q.1)) q.2 := by
  refine ct_of (rt := rtI) (res := Nt_keep w a1) (q := q) (own := RX7) (b := true) hg hb hx (by decide) rfl (Nat.le_of_ble_eq_true rfl) hq (fun K e1 e2 e3 F => ?_)
  subst e1 e2 e3
  rw [Nt_keep]
  show N K _ _ w 0 [(0, .ref (gA (cg K) 0)), (1, .int a1)] []
  refine n_iload_n F dX7_keep_0 rfl 1 rfl ?_
  refine n_iconst F (0 : Int32) dX7_keep_1 (by decide) ?_
  refine n_iconst F (1 : Int32) dX7_keep_2 (by decide) ?_
  refine n_callSi F cb_X7_within lm_RX7_74 (ct_Nt_within (fx_ok F) (fx_sd F) (fx_ix F rfl) w a1 (0 : Int32) (1 : Int32)) rfl rfl (Nat.le_of_ble_eq_true rfl) ⟨Nat.le_of_ble_eq_true rfl, Nat.le_of_ble_eq_true rfl⟩ dX7_keep_3 ?_
  refine n_if_ne F 12 dX7_keep_6 (by decide) (fun e1 => ?_) (fun e1 => ?_)
  · rw [if_neg e1]
    refine n_aload_n F dX7_keep_12 rfl 0 rfl ?_
    refine n_iload_n F dX7_keep_13 rfl 1 rfl ?_
    by_cases e2 : a1 = (0 : Int32)
    · rw [if_pos e2]
      refine n_callVa F cb_X7_image lm_RX7_233 ob_0 (by decide) ⟨_, _, rfl⟩ (ct_Nt_image0 (fx_ok F) (fx_sd F) (fx_ix F rfl) w e2) rfl rfl (Nat.le_of_ble_eq_true rfl) ⟨Nat.le_of_ble_eq_true rfl, Nat.le_of_ble_eq_true rfl⟩ dX7_keep_14 ?_
      refine n_aload_n F dX7_keep_17 rfl 0 rfl ?_
      refine n_get F ck_7 lf_RX7_37 (by decide) fg_0_3 (by decide) dX7_keep_18 ?_
      refine n_bind (fun q3 hq3 => ?_)
      refine n_callVv F cb_X5_copy lm_RX7_237 ob_17 (by decide) ⟨_, _, rfl⟩ (ct_Sc_copy_17_13 (fx_ok F) (fx_sd F) (fx_ix F rfl) w hq3) rfl rfl (Nat.le_of_ble_eq_true rfl) ⟨Nat.le_of_ble_eq_true rfl, Nat.le_of_ble_eq_true rfl⟩ dX7_keep_21 ?_
      refine n_aload_n F dX7_keep_24 rfl 0 rfl ?_
      refine n_dup F dX7_keep_25 rfl ?_
      refine n_get F ck_7 lf_RX7_70 (by decide) fg_0_9 (by decide) dX7_keep_26 ?_
      refine n_iconst F (1 : Int32) dX7_keep_29 (by decide) ?_
      refine n_iload_n F dX7_keep_30 rfl 1 rfl ?_
      refine n_ishl F dX7_keep_31 ?_
      refine n_ior F dX7_keep_32 ?_
      refine n_put F ck_7 lf_RX7_70 (by decide) rfl fp_0_9 (by decide) rfl rfl dX7_keep_33 ?_
      refine n_aload_n F dX7_keep_36 rfl 0 rfl ?_
      refine n_get F ck_7 lf_RX7_37 (by decide) fg_0_3 (by decide) dX7_keep_37 ?_
      refine n_get F ck_5 lf_RX7_240 (by decide) fg_13_1 (by decide) dX7_keep_40 ?_
      exact n_iret F rfl rfl dX7_keep_43
    rw [if_neg e2]
    refine n_callVa F cb_X7_image lm_RX7_233 ob_0 (by decide) ⟨_, _, rfl⟩ (ct_Nt_image1 (fx_ok F) (fx_sd F) (fx_ix F rfl) w e2) rfl rfl (Nat.le_of_ble_eq_true rfl) ⟨Nat.le_of_ble_eq_true rfl, Nat.le_of_ble_eq_true rfl⟩ dX7_keep_14 ?_
    refine n_aload_n F dX7_keep_17 rfl 0 rfl ?_
    refine n_get F ck_7 lf_RX7_37 (by decide) fg_0_3 (by decide) dX7_keep_18 ?_
    refine n_bind (fun q4 hq4 => ?_)
    refine n_callVv F cb_X5_copy lm_RX7_237 ob_21 (by decide) ⟨_, _, rfl⟩ (ct_Sc_copy_21_13 (fx_ok F) (fx_sd F) (fx_ix F rfl) w hq4) rfl rfl (Nat.le_of_ble_eq_true rfl) ⟨Nat.le_of_ble_eq_true rfl, Nat.le_of_ble_eq_true rfl⟩ dX7_keep_21 ?_
    refine n_aload_n F dX7_keep_24 rfl 0 rfl ?_
    refine n_dup F dX7_keep_25 rfl ?_
    refine n_get F ck_7 lf_RX7_70 (by decide) fg_0_9 (by decide) dX7_keep_26 ?_
    refine n_iconst F (1 : Int32) dX7_keep_29 (by decide) ?_
    refine n_iload_n F dX7_keep_30 rfl 1 rfl ?_
    refine n_ishl F dX7_keep_31 ?_
    refine n_ior F dX7_keep_32 ?_
    refine n_put F ck_7 lf_RX7_70 (by decide) rfl fp_0_9 (by decide) rfl rfl dX7_keep_33 ?_
    refine n_aload_n F dX7_keep_36 rfl 0 rfl ?_
    refine n_get F ck_7 lf_RX7_37 (by decide) fg_0_3 (by decide) dX7_keep_37 ?_
    refine n_get F ck_5 lf_RX7_240 (by decide) fg_13_1 (by decide) dX7_keep_40 ?_
    exact n_iret F rfl rfl dX7_keep_43
  rw [if_pos e1]
  refine n_bipush F (-2 : Int32) dX7_keep_9 (by decide) ?_
  exact n_iret F rfl rfl dX7_keep_11
theorem dX7_back_0 : decode cX7_back 0 = .ok (.iload_n 1, 1) := by decide +kernel
theorem dX7_back_1 : decode cX7_back 1 = .ok (.iconst 0, 1) := by decide +kernel
theorem dX7_back_2 : decode cX7_back 2 = .ok (.iconst 1, 1) := by decide +kernel
theorem dX7_back_3 : decode cX7_back 3 = .ok (.invokestatic 74, 3) := by decide +kernel
theorem dX7_back_6 : decode cX7_back 6 = .ok (.ifCond .ne 6, 3) := by decide +kernel
theorem dX7_back_9 : decode cX7_back 9 = .ok (.bipush (-2), 2) := by decide +kernel
theorem dX7_back_11 : decode cX7_back 11 = .ok (.ireturn, 1) := by decide +kernel
theorem dX7_back_12 : decode cX7_back 12 = .ok (.aload_n 0, 1) := by decide +kernel
theorem dX7_back_13 : decode cX7_back 13 = .ok (.getfield 70, 3) := by decide +kernel
theorem dX7_back_16 : decode cX7_back 16 = .ok (.iload_n 1, 1) := by decide +kernel
theorem dX7_back_17 : decode cX7_back 17 = .ok (.ishr, 1) := by decide +kernel
theorem dX7_back_18 : decode cX7_back 18 = .ok (.iconst 1, 1) := by decide +kernel
theorem dX7_back_19 : decode cX7_back 19 = .ok (.iand, 1) := by decide +kernel
theorem dX7_back_20 : decode cX7_back 20 = .ok (.ifCond .ne 6, 3) := by decide +kernel
theorem dX7_back_23 : decode cX7_back 23 = .ok (.bipush (-4), 2) := by decide +kernel
theorem dX7_back_25 : decode cX7_back 25 = .ok (.ireturn, 1) := by decide +kernel
theorem dX7_back_26 : decode cX7_back 26 = .ok (.aload_n 0, 1) := by decide +kernel
theorem dX7_back_27 : decode cX7_back 27 = .ok (.getfield 37, 3) := by decide +kernel
theorem dX7_back_30 : decode cX7_back 30 = .ok (.aload_n 0, 1) := by decide +kernel
theorem dX7_back_31 : decode cX7_back 31 = .ok (.iload_n 1, 1) := by decide +kernel
theorem dX7_back_32 : decode cX7_back 32 = .ok (.invokevirtual 233, 3) := by decide +kernel
theorem dX7_back_35 : decode cX7_back 35 = .ok (.invokevirtual 237, 3) := by decide +kernel
theorem dX7_back_38 : decode cX7_back 38 = .ok (.aload_n 0, 1) := by decide +kernel
theorem dX7_back_39 : decode cX7_back 39 = .ok (.getfield 37, 3) := by decide +kernel
theorem dX7_back_42 : decode cX7_back 42 = .ok (.getfield 240, 3) := by decide +kernel
theorem dX7_back_45 : decode cX7_back 45 = .ok (.ireturn, 1) := by decide +kernel
def Nt_back (w : Wd) (a1 : Int32) : Option (Int32 × Wd) := (if (Nt_within w a1 (0 : Int32) (1 : Int32)) = (0 : Int32) then some ((-2 : Int32), w) else (if (((w.1 0 9) >>> (a1 &&& (31 : Int32))) &&& (1 : Int32)) = (0 : Int32) then some ((-4 : Int32), w) else (if a1 = (0 : Int32) then (Option.bind (Sc_copy_13_17 w) (fun q4 => some ((q4.1 13 1), q4))) else (Option.bind (Sc_copy_13_21 w) (fun q5 => some ((q5.1 13 1), q5))))))
set_option maxRecDepth 100000 in
set_option maxHeartbeats 4000000 in
theorem ct_Nt_back {l : Launch} {g : GG} {σ : Sd} (hg : OKg g σ) (hb : σ.2.1 = true) (hx : ∀ c ∈ ([0, 13, 14, 15, 16, 17, 18, 19, 20, 21, 22, 23, 24] : List Nat), c ∈ σ.1) (w : Wd) (a1 : Int32) {q : Int32 × Wd} (hq : Nt_back w a1 = some q) : CT l g σ yX7_back cX7_back 2 (some .int) 2 39 [.ref (gA g 0), .int a1] w (some (.int q.1)) q.2 := by
  refine ct_of (rt := rtI) (res := Nt_back w a1) (q := q) (own := RX7) (b := true) hg hb hx (by decide) rfl (Nat.le_of_ble_eq_true rfl) hq (fun K e1 e2 e3 F => ?_)
  subst e1 e2 e3
  rw [Nt_back]
  show N K _ _ w 0 [(0, .ref (gA (cg K) 0)), (1, .int a1)] []
  refine n_iload_n F dX7_back_0 rfl 1 rfl ?_
  refine n_iconst F (0 : Int32) dX7_back_1 (by decide) ?_
  refine n_iconst F (1 : Int32) dX7_back_2 (by decide) ?_
  refine n_callSi F cb_X7_within lm_RX7_74 (ct_Nt_within (fx_ok F) (fx_sd F) (fx_ix F rfl) w a1 (0 : Int32) (1 : Int32)) rfl rfl (Nat.le_of_ble_eq_true rfl) ⟨Nat.le_of_ble_eq_true rfl, Nat.le_of_ble_eq_true rfl⟩ dX7_back_3 ?_
  refine n_if_ne F 12 dX7_back_6 (by decide) (fun e1 => ?_) (fun e1 => ?_)
  · rw [if_neg e1]
    refine n_aload_n F dX7_back_12 rfl 0 rfl ?_
    refine n_get F ck_7 lf_RX7_70 (by decide) fg_0_9 (by decide) dX7_back_13 ?_
    refine n_iload_n F dX7_back_16 rfl 1 rfl ?_
    refine n_ishr F dX7_back_17 ?_
    refine n_iconst F (1 : Int32) dX7_back_18 (by decide) ?_
    refine n_iand F dX7_back_19 ?_
    refine n_if_ne F 26 dX7_back_20 (by decide) (fun e2 => ?_) (fun e2 => ?_)
    · rw [if_neg e2]
      refine n_aload_n F dX7_back_26 rfl 0 rfl ?_
      refine n_get F ck_7 lf_RX7_37 (by decide) fg_0_3 (by decide) dX7_back_27 ?_
      refine n_aload_n F dX7_back_30 rfl 0 rfl ?_
      refine n_iload_n F dX7_back_31 rfl 1 rfl ?_
      by_cases e3 : a1 = (0 : Int32)
      · rw [if_pos e3]
        refine n_callVa F cb_X7_image lm_RX7_233 ob_0 (by decide) ⟨_, _, rfl⟩ (ct_Nt_image0 (fx_ok F) (fx_sd F) (fx_ix F rfl) w e3) rfl rfl (Nat.le_of_ble_eq_true rfl) ⟨Nat.le_of_ble_eq_true rfl, Nat.le_of_ble_eq_true rfl⟩ dX7_back_32 ?_
        refine n_bind (fun q4 hq4 => ?_)
        refine n_callVv F cb_X5_copy lm_RX7_237 ob_13 (by decide) ⟨_, _, rfl⟩ (ct_Sc_copy_13_17 (fx_ok F) (fx_sd F) (fx_ix F rfl) w hq4) rfl rfl (Nat.le_of_ble_eq_true rfl) ⟨Nat.le_of_ble_eq_true rfl, Nat.le_of_ble_eq_true rfl⟩ dX7_back_35 ?_
        refine n_aload_n F dX7_back_38 rfl 0 rfl ?_
        refine n_get F ck_7 lf_RX7_37 (by decide) fg_0_3 (by decide) dX7_back_39 ?_
        refine n_get F ck_5 lf_RX7_240 (by decide) fg_13_1 (by decide) dX7_back_42 ?_
        exact n_iret F rfl rfl dX7_back_45
      rw [if_neg e3]
      refine n_callVa F cb_X7_image lm_RX7_233 ob_0 (by decide) ⟨_, _, rfl⟩ (ct_Nt_image1 (fx_ok F) (fx_sd F) (fx_ix F rfl) w e3) rfl rfl (Nat.le_of_ble_eq_true rfl) ⟨Nat.le_of_ble_eq_true rfl, Nat.le_of_ble_eq_true rfl⟩ dX7_back_32 ?_
      refine n_bind (fun q5 hq5 => ?_)
      refine n_callVv F cb_X5_copy lm_RX7_237 ob_13 (by decide) ⟨_, _, rfl⟩ (ct_Sc_copy_13_21 (fx_ok F) (fx_sd F) (fx_ix F rfl) w hq5) rfl rfl (Nat.le_of_ble_eq_true rfl) ⟨Nat.le_of_ble_eq_true rfl, Nat.le_of_ble_eq_true rfl⟩ dX7_back_35 ?_
      refine n_aload_n F dX7_back_38 rfl 0 rfl ?_
      refine n_get F ck_7 lf_RX7_37 (by decide) fg_0_3 (by decide) dX7_back_39 ?_
      refine n_get F ck_5 lf_RX7_240 (by decide) fg_13_1 (by decide) dX7_back_42 ?_
      exact n_iret F rfl rfl dX7_back_45
    rw [if_pos e2]
    refine n_bipush F (-4 : Int32) dX7_back_23 (by decide) ?_
    exact n_iret F rfl rfl dX7_back_25
  rw [if_pos e1]
  refine n_bipush F (-2 : Int32) dX7_back_9 (by decide) ?_
  exact n_iret F rfl rfl dX7_back_11
theorem dX7_count_0 : decode cX7_count 0 = .ok (.iload_n 1, 1) := by decide +kernel
theorem dX7_count_1 : decode cX7_count 1 = .ok (.tableswitch 111 0 7 #[47, 55, 63, 71, 79, 87, 95, 103], 47) := by decide +kernel
theorem dX7_count_48 : decode cX7_count 48 = .ok (.aload_n 0, 1) := by decide +kernel
theorem dX7_count_49 : decode cX7_count 49 = .ok (.getfield 19, 3) := by decide +kernel
theorem dX7_count_52 : decode cX7_count 52 = .ok (.getfield 243, 3) := by decide +kernel
theorem dX7_count_55 : decode cX7_count 55 = .ok (.ireturn, 1) := by decide +kernel
theorem dX7_count_56 : decode cX7_count 56 = .ok (.aload_n 0, 1) := by decide +kernel
theorem dX7_count_57 : decode cX7_count 57 = .ok (.getfield 19, 3) := by decide +kernel
theorem dX7_count_60 : decode cX7_count 60 = .ok (.getfield 202, 3) := by decide +kernel
theorem dX7_count_63 : decode cX7_count 63 = .ok (.ireturn, 1) := by decide +kernel
theorem dX7_count_64 : decode cX7_count 64 = .ok (.aload_n 0, 1) := by decide +kernel
theorem dX7_count_65 : decode cX7_count 65 = .ok (.getfield 19, 3) := by decide +kernel
theorem dX7_count_68 : decode cX7_count 68 = .ok (.getfield 246, 3) := by decide +kernel
theorem dX7_count_71 : decode cX7_count 71 = .ok (.ireturn, 1) := by decide +kernel
theorem dX7_count_72 : decode cX7_count 72 = .ok (.aload_n 0, 1) := by decide +kernel
theorem dX7_count_73 : decode cX7_count 73 = .ok (.getfield 19, 3) := by decide +kernel
theorem dX7_count_76 : decode cX7_count 76 = .ok (.getfield 249, 3) := by decide +kernel
theorem dX7_count_79 : decode cX7_count 79 = .ok (.ireturn, 1) := by decide +kernel
theorem dX7_count_80 : decode cX7_count 80 = .ok (.aload_n 0, 1) := by decide +kernel
theorem dX7_count_81 : decode cX7_count 81 = .ok (.getfield 37, 3) := by decide +kernel
theorem dX7_count_84 : decode cX7_count 84 = .ok (.getfield 240, 3) := by decide +kernel
theorem dX7_count_87 : decode cX7_count 87 = .ok (.ireturn, 1) := by decide +kernel
theorem dX7_count_88 : decode cX7_count 88 = .ok (.aload_n 0, 1) := by decide +kernel
theorem dX7_count_89 : decode cX7_count 89 = .ok (.getfield 12, 3) := by decide +kernel
theorem dX7_count_92 : decode cX7_count 92 = .ok (.getfield 78, 3) := by decide +kernel
theorem dX7_count_95 : decode cX7_count 95 = .ok (.ireturn, 1) := by decide +kernel
theorem dX7_count_96 : decode cX7_count 96 = .ok (.aload_n 0, 1) := by decide +kernel
theorem dX7_count_97 : decode cX7_count 97 = .ok (.getfield 66, 3) := by decide +kernel
theorem dX7_count_100 : decode cX7_count 100 = .ok (.getfield 100, 3) := by decide +kernel
theorem dX7_count_103 : decode cX7_count 103 = .ok (.ireturn, 1) := by decide +kernel
theorem dX7_count_104 : decode cX7_count 104 = .ok (.aload_n 0, 1) := by decide +kernel
theorem dX7_count_105 : decode cX7_count 105 = .ok (.getfield 37, 3) := by decide +kernel
theorem dX7_count_108 : decode cX7_count 108 = .ok (.invokevirtual 252, 3) := by decide +kernel
theorem dX7_count_111 : decode cX7_count 111 = .ok (.ireturn, 1) := by decide +kernel
theorem dX7_count_112 : decode cX7_count 112 = .ok (.bipush (-3), 2) := by decide +kernel
theorem dX7_count_114 : decode cX7_count 114 = .ok (.ireturn, 1) := by decide +kernel
def Nt_count (w : Wd) (a1 : Int32) : Option Int32 := (if a1 = (0 : Int32) then some (w.1 3 0) else (if a1 = (1 : Int32) then some (w.1 3 1) else (if a1 = (2 : Int32) then some (w.1 3 2) else (if a1 = (3 : Int32) then some (w.1 3 3) else (if a1 = (4 : Int32) then some (w.1 13 1) else (if a1 = (5 : Int32) then some (w.1 1 1) else (if a1 = (6 : Int32) then some (w.1 32 2) else (if a1 = (7 : Int32) then (Option.bind (Sc_seekingBits w) (fun q9 => some q9)) else some (-3 : Int32)))))))))
set_option maxRecDepth 100000 in
set_option maxHeartbeats 4000000 in
theorem ct_Nt_count {l : Launch} {g : GG} {σ : Sd} (hg : OKg g σ) (hb : σ.2.1 = true) (hx : ∀ c ∈ ([0, 1, 3, 13, 15, 32] : List Nat), c ∈ σ.1) (w : Wd) (a1 : Int32) {q : Int32} (hq : Nt_count w a1 = some q) : CT l g σ yX7_count cX7_count 2 (some .int) 1 22 [.ref (gA g 0), .int a1] w (some (.int q)) w := by
  refine ct_of (rt := (rtP w)) (res := Nt_count w a1) (q := q) (own := RX7) (b := true) hg hb hx (by decide) rfl (Nat.le_of_ble_eq_true rfl) hq (fun K e1 e2 e3 F => ?_)
  subst e1 e2 e3
  rw [Nt_count]
  show N K _ _ w 0 [(0, .ref (gA (cg K) 0)), (1, .int a1)] []
  refine n_iload_n F dX7_count_0 rfl 1 rfl ?_
  by_cases e1 : a1 = (0 : Int32)
  · rw [if_pos e1]
    refine n_tabIn F (0 : Int32) 48 dX7_count_1 e1 (by decide) (by decide) rfl (by decide) ?_
    refine n_aload_n F dX7_count_48 rfl 0 rfl ?_
    refine n_get F ck_7 lf_RX7_19 (by decide) fg_0_1 (by decide) dX7_count_49 ?_
    refine n_get F ck_1 lf_RX7_243 (by decide) fg_3_0 (by decide) dX7_count_52 ?_
    exact n_iret F rfl rfl dX7_count_55
  rw [if_neg e1]
  by_cases e2 : a1 = (1 : Int32)
  · rw [if_pos e2]
    refine n_tabIn F (1 : Int32) 56 dX7_count_1 e2 (by decide) (by decide) rfl (by decide) ?_
    refine n_aload_n F dX7_count_56 rfl 0 rfl ?_
    refine n_get F ck_7 lf_RX7_19 (by decide) fg_0_1 (by decide) dX7_count_57 ?_
    refine n_get F ck_1 lf_RX7_202 (by decide) fg_3_1 (by decide) dX7_count_60 ?_
    exact n_iret F rfl rfl dX7_count_63
  rw [if_neg e2]
  by_cases e3 : a1 = (2 : Int32)
  · rw [if_pos e3]
    refine n_tabIn F (2 : Int32) 64 dX7_count_1 e3 (by decide) (by decide) rfl (by decide) ?_
    refine n_aload_n F dX7_count_64 rfl 0 rfl ?_
    refine n_get F ck_7 lf_RX7_19 (by decide) fg_0_1 (by decide) dX7_count_65 ?_
    refine n_get F ck_1 lf_RX7_246 (by decide) fg_3_2 (by decide) dX7_count_68 ?_
    exact n_iret F rfl rfl dX7_count_71
  rw [if_neg e3]
  by_cases e4 : a1 = (3 : Int32)
  · rw [if_pos e4]
    refine n_tabIn F (3 : Int32) 72 dX7_count_1 e4 (by decide) (by decide) rfl (by decide) ?_
    refine n_aload_n F dX7_count_72 rfl 0 rfl ?_
    refine n_get F ck_7 lf_RX7_19 (by decide) fg_0_1 (by decide) dX7_count_73 ?_
    refine n_get F ck_1 lf_RX7_249 (by decide) fg_3_3 (by decide) dX7_count_76 ?_
    exact n_iret F rfl rfl dX7_count_79
  rw [if_neg e4]
  by_cases e5 : a1 = (4 : Int32)
  · rw [if_pos e5]
    refine n_tabIn F (4 : Int32) 80 dX7_count_1 e5 (by decide) (by decide) rfl (by decide) ?_
    refine n_aload_n F dX7_count_80 rfl 0 rfl ?_
    refine n_get F ck_7 lf_RX7_37 (by decide) fg_0_3 (by decide) dX7_count_81 ?_
    refine n_get F ck_5 lf_RX7_240 (by decide) fg_13_1 (by decide) dX7_count_84 ?_
    exact n_iret F rfl rfl dX7_count_87
  rw [if_neg e5]
  by_cases e6 : a1 = (5 : Int32)
  · rw [if_pos e6]
    refine n_tabIn F (5 : Int32) 88 dX7_count_1 e6 (by decide) (by decide) rfl (by decide) ?_
    refine n_aload_n F dX7_count_88 rfl 0 rfl ?_
    refine n_get F ck_7 lf_RX7_12 (by decide) fg_0_0 (by decide) dX7_count_89 ?_
    refine n_get F ck_6 lf_RX7_78 (by decide) fg_1_1 (by decide) dX7_count_92 ?_
    exact n_iret F rfl rfl dX7_count_95
  rw [if_neg e6]
  by_cases e7 : a1 = (6 : Int32)
  · rw [if_pos e7]
    refine n_tabIn F (6 : Int32) 96 dX7_count_1 e7 (by decide) (by decide) rfl (by decide) ?_
    refine n_aload_n F dX7_count_96 rfl 0 rfl ?_
    refine n_get F ck_7 lf_RX7_66 (by decide) fg_0_8 (by decide) dX7_count_97 ?_
    refine n_get F ck_4 lf_RX7_100 (by decide) fg_32_2 (by decide) dX7_count_100 ?_
    exact n_iret F rfl rfl dX7_count_103
  rw [if_neg e7]
  by_cases e8 : a1 = (7 : Int32)
  · rw [if_pos e8]
    refine n_tabIn F (7 : Int32) 104 dX7_count_1 e8 (by decide) (by decide) rfl (by decide) ?_
    refine n_aload_n F dX7_count_104 rfl 0 rfl ?_
    refine n_get F ck_7 lf_RX7_37 (by decide) fg_0_3 (by decide) dX7_count_105 ?_
    refine n_bind (fun q9 hq9 => ?_)
    refine n_callVi F cb_X5_seekingBits lm_RX7_252 ob_13 (by decide) ⟨_, _, rfl⟩ (ct_Sc_seekingBits (fx_ok F) (fx_sd F) (fx_ix F rfl) w hq9) rfl rfl (Nat.le_of_ble_eq_true rfl) ⟨Nat.le_of_ble_eq_true rfl, Nat.le_of_ble_eq_true rfl⟩ dX7_count_108 ?_
    exact n_iret F rfl rfl dX7_count_111
  rw [if_neg e8]
  have hsw := (⟨lv_neT e1 (a := 0) rfl, lv_neT e2 (a := 1) rfl, lv_neT e3 (a := 2) rfl, lv_neT e4 (a := 3) rfl, lv_neT e5 (a := 4) rfl, lv_neT e6 (a := 5) rfl, lv_neT e7 (a := 6) rfl, lv_neT e8 (a := 7) rfl⟩ : ¬ (a1).toInt = 0 ∧ ¬ (a1).toInt = 1 ∧ ¬ (a1).toInt = 2 ∧ ¬ (a1).toInt = 3 ∧ ¬ (a1).toInt = 4 ∧ ¬ (a1).toInt = 5 ∧ ¬ (a1).toInt = 6 ∧ ¬ (a1).toInt = 7)
  refine n_tabOut F 112 dX7_count_1 (by omega) (by decide) ?_
  refine n_bipush F (-3 : Int32) dX7_count_112 (by decide) ?_
  exact n_iret F rfl rfl dX7_count_114
theorem dX8_in_0 : decode cX8_in 0 = .ok (.lload_n 0, 1) := by decide +kernel
theorem dX8_in_1 : decode cX8_in 1 = .ok (.lload_n 2, 1) := by decide +kernel
theorem dX8_in_2 : decode cX8_in 2 = .ok (.lcmp, 1) := by decide +kernel
theorem dX8_in_3 : decode cX8_in 3 = .ok (.ifCond .lt 14, 3) := by decide +kernel
theorem dX8_in_6 : decode cX8_in 6 = .ok (.lload_n 0, 1) := by decide +kernel
theorem dX8_in_7 : decode cX8_in 7 = .ok (.lload 4, 2) := by decide +kernel
theorem dX8_in_9 : decode cX8_in 9 = .ok (.lcmp, 1) := by decide +kernel
theorem dX8_in_10 : decode cX8_in 10 = .ok (.ifCond .gt 7, 3) := by decide +kernel
theorem dX8_in_13 : decode cX8_in 13 = .ok (.iconst 1, 1) := by decide +kernel
theorem dX8_in_14 : decode cX8_in 14 = .ok (.goto 4, 3) := by decide +kernel
theorem dX8_in_17 : decode cX8_in 17 = .ok (.iconst 0, 1) := by decide +kernel
theorem dX8_in_18 : decode cX8_in 18 = .ok (.ireturn, 1) := by decide +kernel
def Mo_in (w : Wd) (a1 : Int64) (a2 : Int64) (a3 : Int64) : Int32 := (if (lg_cmp a1 a2) < (0 : Int32) then (0 : Int32) else (if (0 : Int32) < (lg_cmp a1 a3) then (0 : Int32) else (1 : Int32)))
set_option maxRecDepth 100000 in
set_option maxHeartbeats 4000000 in
theorem ct_Mo_in {l : Launch} {g : GG} {σ : Sd} (hg : OKg g σ) (hb : σ.2.1 = false) (hx : ∀ c ∈ ([] : List Nat), c ∈ σ.1) (w : Wd) (a1 : Int64) (a2 : Int64) (a3 : Int64) : CT l g σ yX8_in cX8_in 6 (some .boolean) 0 0 [.long a1, .long a2, .long a3] w (some (.int (Mo_in w a1 a2 a3))) w := by
  refine ct_of (rt := (rtP w)) (res := some (Mo_in w a1 a2 a3)) (q := (Mo_in w a1 a2 a3)) (own := RX8) (b := false) hg hb hx (by decide) rfl (Nat.le_of_ble_eq_true rfl) rfl (fun K e1 e2 e3 F => ?_)
  subst e1 e2 e3
  rw [Mo_in]
  show N K _ _ w 0 [(0, .long a1), (2, .long a2), (4, .long a3)] []
  refine n_lload_n F dX8_in_0 rfl 0 rfl ?_
  refine n_lload_n F dX8_in_1 rfl 1 rfl ?_
  refine n_lcmp F dX8_in_2 ?_
  refine n_if_lt F 17 dX8_in_3 (by decide) (fun e1 => ?_) (fun e1 => ?_)
  · rw [if_pos e1]
    refine n_iconst F (0 : Int32) dX8_in_17 (by decide) ?_
    exact n_zret F .boolean rfl rfl rfl dX8_in_18
  rw [if_neg e1]
  refine n_lload_n F dX8_in_6 rfl 0 rfl ?_
  refine n_lload F dX8_in_7 2 rfl ?_
  refine n_lcmp F dX8_in_9 ?_
  refine n_if_gt F 17 dX8_in_10 (by decide) (fun e2 => ?_) (fun e2 => ?_)
  · rw [if_pos e2]
    refine n_iconst F (0 : Int32) dX8_in_17 (by decide) ?_
    exact n_zret F .boolean rfl rfl rfl dX8_in_18
  rw [if_neg e2]
  refine n_iconst F (1 : Int32) dX8_in_13 (by decide) ?_
  refine n_goto F 18 dX8_in_14 (by decide) ?_
  exact n_zret F .boolean rfl rfl rfl dX8_in_18
theorem bz_Mo_in (w : Wd) (a1 : Int64) (a2 : Int64) (a3 : Int64) : (Mo_in w a1 a2 a3) &&& (1 : Int32) = (Mo_in w a1 a2 a3) := by
  unfold Mo_in
  first | exact bz_auto | (repeat' split) <;> first | rfl | assumption
theorem dX8_has_0 : decode cX8_has 0 = .ok (.iload_n 0, 1) := by decide +kernel
theorem dX8_has_1 : decode cX8_has 1 = .ok (.iload_n 1, 1) := by decide +kernel
theorem dX8_has_2 : decode cX8_has 2 = .ok (.ishr, 1) := by decide +kernel
theorem dX8_has_3 : decode cX8_has 3 = .ok (.iconst 1, 1) := by decide +kernel
theorem dX8_has_4 : decode cX8_has 4 = .ok (.iand, 1) := by decide +kernel
theorem dX8_has_5 : decode cX8_has 5 = .ok (.iconst 1, 1) := by decide +kernel
theorem dX8_has_6 : decode cX8_has 6 = .ok (.if_icmp .ne 7, 3) := by decide +kernel
theorem dX8_has_9 : decode cX8_has 9 = .ok (.iconst 1, 1) := by decide +kernel
theorem dX8_has_10 : decode cX8_has 10 = .ok (.goto 4, 3) := by decide +kernel
theorem dX8_has_13 : decode cX8_has 13 = .ok (.iconst 0, 1) := by decide +kernel
theorem dX8_has_14 : decode cX8_has 14 = .ok (.ireturn, 1) := by decide +kernel
def Mo_has (w : Wd) (a1 : Int32) (a2 : Int32) : Int32 := (if ((a1 >>> (a2 &&& (31 : Int32))) &&& (1 : Int32)) = (1 : Int32) then (1 : Int32) else (0 : Int32))
set_option maxRecDepth 100000 in
set_option maxHeartbeats 4000000 in
theorem ct_Mo_has {l : Launch} {g : GG} {σ : Sd} (hg : OKg g σ) (hb : σ.2.1 = false) (hx : ∀ c ∈ ([] : List Nat), c ∈ σ.1) (w : Wd) (a1 : Int32) (a2 : Int32) : CT l g σ yX8_has cX8_has 2 (some .boolean) 0 0 [.int a1, .int a2] w (some (.int (Mo_has w a1 a2))) w := by
  refine ct_of (rt := (rtP w)) (res := some (Mo_has w a1 a2)) (q := (Mo_has w a1 a2)) (own := RX8) (b := false) hg hb hx (by decide) rfl (Nat.le_of_ble_eq_true rfl) rfl (fun K e1 e2 e3 F => ?_)
  subst e1 e2 e3
  rw [Mo_has]
  show N K _ _ w 0 [(0, .int a1), (1, .int a2)] []
  refine n_iload_n F dX8_has_0 rfl 0 rfl ?_
  refine n_iload_n F dX8_has_1 rfl 1 rfl ?_
  refine n_ishr F dX8_has_2 ?_
  refine n_iconst F (1 : Int32) dX8_has_3 (by decide) ?_
  refine n_iand F dX8_has_4 ?_
  refine n_iconst F (1 : Int32) dX8_has_5 (by decide) ?_
  refine n_icmp_ne F 13 dX8_has_6 (by decide) (fun e1 => ?_) (fun e1 => ?_)
  · rw [if_neg e1]
    refine n_iconst F (0 : Int32) dX8_has_13 (by decide) ?_
    exact n_zret F .boolean rfl rfl rfl dX8_has_14
  rw [if_pos e1]
  refine n_iconst F (1 : Int32) dX8_has_9 (by decide) ?_
  refine n_goto F 14 dX8_has_10 (by decide) ?_
  exact n_zret F .boolean rfl rfl rfl dX8_has_14
theorem bz_Mo_has (w : Wd) (a1 : Int32) (a2 : Int32) : (Mo_has w a1 a2) &&& (1 : Int32) = (Mo_has w a1 a2) := by
  unfold Mo_has
  first | exact bz_auto | (repeat' split) <;> first | rfl | assumption
theorem dX8_begin_0 : decode cX8_begin 0 = .ok (.aload_n 0, 1) := by decide +kernel
theorem dX8_begin_1 : decode cX8_begin 1 = .ok (.getfield 7, 3) := by decide +kernel
theorem dX8_begin_4 : decode cX8_begin 4 = .ok (.iconst 0, 1) := by decide +kernel
theorem dX8_begin_5 : decode cX8_begin 5 = .ok (.iconst 0, 1) := by decide +kernel
theorem dX8_begin_6 : decode cX8_begin 6 = .ok (.iastore, 1) := by decide +kernel
theorem dX8_begin_7 : decode cX8_begin 7 = .ok (.aload_n 0, 1) := by decide +kernel
theorem dX8_begin_8 : decode cX8_begin 8 = .ok (.getfield 7, 3) := by decide +kernel
theorem dX8_begin_11 : decode cX8_begin 11 = .ok (.iconst 1, 1) := by decide +kernel
theorem dX8_begin_12 : decode cX8_begin 12 = .ok (.aload_n 0, 1) := by decide +kernel
theorem dX8_begin_13 : decode cX8_begin 13 = .ok (.getfield 58, 3) := by decide +kernel
theorem dX8_begin_16 : decode cX8_begin 16 = .ok (.iastore, 1) := by decide +kernel
theorem dX8_begin_17 : decode cX8_begin 17 = .ok (.aload_n 0, 1) := by decide +kernel
theorem dX8_begin_18 : decode cX8_begin 18 = .ok (.getfield 7, 3) := by decide +kernel
theorem dX8_begin_21 : decode cX8_begin 21 = .ok (.iconst 2, 1) := by decide +kernel
theorem dX8_begin_22 : decode cX8_begin 22 = .ok (.iconst 0, 1) := by decide +kernel
theorem dX8_begin_23 : decode cX8_begin 23 = .ok (.iastore, 1) := by decide +kernel
theorem dX8_begin_24 : decode cX8_begin 24 = .ok (.aload_n 0, 1) := by decide +kernel
theorem dX8_begin_25 : decode cX8_begin 25 = .ok (.getfield 7, 3) := by decide +kernel
theorem dX8_begin_28 : decode cX8_begin 28 = .ok (.iconst 3, 1) := by decide +kernel
theorem dX8_begin_29 : decode cX8_begin 29 = .ok (.aload_n 0, 1) := by decide +kernel
theorem dX8_begin_30 : decode cX8_begin 30 = .ok (.getfield 36, 3) := by decide +kernel
theorem dX8_begin_33 : decode cX8_begin 33 = .ok (.iconst 0, 1) := by decide +kernel
theorem dX8_begin_34 : decode cX8_begin 34 = .ok (.iaload, 1) := by decide +kernel
theorem dX8_begin_35 : decode cX8_begin 35 = .ok (.aload_n 0, 1) := by decide +kernel
theorem dX8_begin_36 : decode cX8_begin 36 = .ok (.getfield 58, 3) := by decide +kernel
theorem dX8_begin_39 : decode cX8_begin 39 = .ok (.if_icmp .eq 16, 3) := by decide +kernel
theorem dX8_begin_42 : decode cX8_begin 42 = .ok (.aload_n 0, 1) := by decide +kernel
theorem dX8_begin_43 : decode cX8_begin 43 = .ok (.getfield 36, 3) := by decide +kernel
theorem dX8_begin_46 : decode cX8_begin 46 = .ok (.iconst 1, 1) := by decide +kernel
theorem dX8_begin_47 : decode cX8_begin 47 = .ok (.iaload, 1) := by decide +kernel
theorem dX8_begin_48 : decode cX8_begin 48 = .ok (.aload_n 0, 1) := by decide +kernel
theorem dX8_begin_49 : decode cX8_begin 49 = .ok (.getfield 58, 3) := by decide +kernel
theorem dX8_begin_52 : decode cX8_begin 52 = .ok (.if_icmp .ne 7, 3) := by decide +kernel
theorem dX8_begin_55 : decode cX8_begin 55 = .ok (.iconst 1, 1) := by decide +kernel
theorem dX8_begin_56 : decode cX8_begin 56 = .ok (.goto 4, 3) := by decide +kernel
theorem dX8_begin_59 : decode cX8_begin 59 = .ok (.iconst 0, 1) := by decide +kernel
theorem dX8_begin_60 : decode cX8_begin 60 = .ok (.iastore, 1) := by decide +kernel
theorem dX8_begin_61 : decode cX8_begin 61 = .ok (.iconst 0, 1) := by decide +kernel
theorem dX8_begin_62 : decode cX8_begin 62 = .ok (.istore_n 1, 1) := by decide +kernel
theorem dX8_begin_63 : decode cX8_begin 63 = .ok (.iload_n 1, 1) := by decide +kernel
theorem dX8_begin_64 : decode cX8_begin 64 = .ok (.iconst 3, 1) := by decide +kernel
theorem dX8_begin_65 : decode cX8_begin 65 = .ok (.if_icmp .ge 23, 3) := by decide +kernel
theorem dX8_begin_68 : decode cX8_begin 68 = .ok (.aload_n 0, 1) := by decide +kernel
theorem dX8_begin_69 : decode cX8_begin 69 = .ok (.getfield 7, 3) := by decide +kernel
theorem dX8_begin_72 : decode cX8_begin 72 = .ok (.iconst 4, 1) := by decide +kernel
theorem dX8_begin_73 : decode cX8_begin 73 = .ok (.iload_n 1, 1) := by decide +kernel
theorem dX8_begin_74 : decode cX8_begin 74 = .ok (.iadd, 1) := by decide +kernel
theorem dX8_begin_75 : decode cX8_begin 75 = .ok (.aload_n 0, 1) := by decide +kernel
theorem dX8_begin_76 : decode cX8_begin 76 = .ok (.getfield 30, 3) := by decide +kernel
theorem dX8_begin_79 : decode cX8_begin 79 = .ok (.iload_n 1, 1) := by decide +kernel
theorem dX8_begin_80 : decode cX8_begin 80 = .ok (.iaload, 1) := by decide +kernel
theorem dX8_begin_81 : decode cX8_begin 81 = .ok (.iastore, 1) := by decide +kernel
theorem dX8_begin_82 : decode cX8_begin 82 = .ok (.iinc 1 1, 3) := by decide +kernel
theorem dX8_begin_85 : decode cX8_begin 85 = .ok (.goto (-22), 3) := by decide +kernel
theorem dX8_begin_88 : decode cX8_begin 88 = .ok (.aload_n 0, 1) := by decide +kernel
theorem dX8_begin_89 : decode cX8_begin 89 = .ok (.getfield 7, 3) := by decide +kernel
theorem dX8_begin_92 : decode cX8_begin 92 = .ok (.bipush 7, 2) := by decide +kernel
theorem dX8_begin_94 : decode cX8_begin 94 = .ok (.iconst (-1), 1) := by decide +kernel
theorem dX8_begin_95 : decode cX8_begin 95 = .ok (.iastore, 1) := by decide +kernel
theorem dX8_begin_96 : decode cX8_begin 96 = .ok (.iconst 0, 1) := by decide +kernel
theorem dX8_begin_97 : decode cX8_begin 97 = .ok (.istore_n 1, 1) := by decide +kernel
theorem dX8_begin_98 : decode cX8_begin 98 = .ok (.iload_n 1, 1) := by decide +kernel
theorem dX8_begin_99 : decode cX8_begin 99 = .ok (.iconst 2, 1) := by decide +kernel
theorem dX8_begin_100 : decode cX8_begin 100 = .ok (.if_icmp .ge 34, 3) := by decide +kernel
theorem dX8_begin_103 : decode cX8_begin 103 = .ok (.aload_n 0, 1) := by decide +kernel
theorem dX8_begin_104 : decode cX8_begin 104 = .ok (.getfield 7, 3) := by decide +kernel
theorem dX8_begin_107 : decode cX8_begin 107 = .ok (.bipush 8, 2) := by decide +kernel
theorem dX8_begin_109 : decode cX8_begin 109 = .ok (.iload_n 1, 1) := by decide +kernel
theorem dX8_begin_110 : decode cX8_begin 110 = .ok (.iadd, 1) := by decide +kernel
theorem dX8_begin_111 : decode cX8_begin 111 = .ok (.aload_n 0, 1) := by decide +kernel
theorem dX8_begin_112 : decode cX8_begin 112 = .ok (.getfield 36, 3) := by decide +kernel
theorem dX8_begin_115 : decode cX8_begin 115 = .ok (.iload_n 1, 1) := by decide +kernel
theorem dX8_begin_116 : decode cX8_begin 116 = .ok (.iaload, 1) := by decide +kernel
theorem dX8_begin_117 : decode cX8_begin 117 = .ok (.iastore, 1) := by decide +kernel
theorem dX8_begin_118 : decode cX8_begin 118 = .ok (.aload_n 0, 1) := by decide +kernel
theorem dX8_begin_119 : decode cX8_begin 119 = .ok (.getfield 7, 3) := by decide +kernel
theorem dX8_begin_122 : decode cX8_begin 122 = .ok (.bipush 10, 2) := by decide +kernel
theorem dX8_begin_124 : decode cX8_begin 124 = .ok (.iload_n 1, 1) := by decide +kernel
theorem dX8_begin_125 : decode cX8_begin 125 = .ok (.iadd, 1) := by decide +kernel
theorem dX8_begin_126 : decode cX8_begin 126 = .ok (.iconst (-1), 1) := by decide +kernel
theorem dX8_begin_127 : decode cX8_begin 127 = .ok (.iastore, 1) := by decide +kernel
theorem dX8_begin_128 : decode cX8_begin 128 = .ok (.iinc 1 1, 3) := by decide +kernel
theorem dX8_begin_131 : decode cX8_begin 131 = .ok (.goto (-33), 3) := by decide +kernel
theorem dX8_begin_134 : decode cX8_begin 134 = .ok (.aload_n 0, 1) := by decide +kernel
theorem dX8_begin_135 : decode cX8_begin 135 = .ok (.getfield 7, 3) := by decide +kernel
theorem dX8_begin_138 : decode cX8_begin 138 = .ok (.bipush 12, 2) := by decide +kernel
theorem dX8_begin_140 : decode cX8_begin 140 = .ok (.iconst 1, 1) := by decide +kernel
theorem dX8_begin_141 : decode cX8_begin 141 = .ok (.aload_n 0, 1) := by decide +kernel
theorem dX8_begin_142 : decode cX8_begin 142 = .ok (.getfield 58, 3) := by decide +kernel
theorem dX8_begin_145 : decode cX8_begin 145 = .ok (.ishl, 1) := by decide +kernel
theorem dX8_begin_146 : decode cX8_begin 146 = .ok (.iastore, 1) := by decide +kernel
theorem dX8_begin_147 : decode cX8_begin 147 = .ok (.aload_n 0, 1) := by decide +kernel
theorem dX8_begin_148 : decode cX8_begin 148 = .ok (.getfield 7, 3) := by decide +kernel
theorem dX8_begin_151 : decode cX8_begin 151 = .ok (.bipush 13, 2) := by decide +kernel
theorem dX8_begin_153 : decode cX8_begin 153 = .ok (.iconst 0, 1) := by decide +kernel
theorem dX8_begin_154 : decode cX8_begin 154 = .ok (.iastore, 1) := by decide +kernel
theorem dX8_begin_155 : decode cX8_begin 155 = .ok (.aload_n 0, 1) := by decide +kernel
theorem dX8_begin_156 : decode cX8_begin 156 = .ok (.getfield 7, 3) := by decide +kernel
theorem dX8_begin_159 : decode cX8_begin 159 = .ok (.bipush 14, 2) := by decide +kernel
theorem dX8_begin_161 : decode cX8_begin 161 = .ok (.iconst 1, 1) := by decide +kernel
theorem dX8_begin_162 : decode cX8_begin 162 = .ok (.aload_n 0, 1) := by decide +kernel
theorem dX8_begin_163 : decode cX8_begin 163 = .ok (.getfield 58, 3) := by decide +kernel
theorem dX8_begin_166 : decode cX8_begin 166 = .ok (.ishl, 1) := by decide +kernel
theorem dX8_begin_167 : decode cX8_begin 167 = .ok (.iastore, 1) := by decide +kernel
theorem dX8_begin_168 : decode cX8_begin 168 = .ok (.return_, 1) := by decide +kernel
def Mo_begin_L63 (k88 : Wd → Option Wd) : Nat → Wd → Int32 → Option Wd
  | 0, _, _ => none
  | n + 1, w, v1 => (if (3 : Int32) ≤ v1 then (k88 w) else (if ib v1 3 = true then (if ib ((4 : Int32) + v1) 45 = true then (Mo_begin_L63 k88 n (sI w 38 (Int32.toNatClampNeg ((4 : Int32) + v1)) (w.1 43 (Int32.toNatClampNeg v1))) (v1 + (1 : Int32))) else none) else none))
set_option maxRecDepth 100000 in
set_option maxHeartbeats 4000000 in
theorem Mo_begin_L63_ok {K : Ctx} (F : Fx K cX8_begin 2 RX8 none 0 0 false [37, 38, 43, 44]) {k88 : Wd → Option Wd} (h88 : ∀ (w : Wd), N K rtV (k88 w) w 88 [(0, .ref (gA (cg K) 37))] []) : ∀ (n : Nat) (w : Wd) (v1 : Int32), N K rtV (Mo_begin_L63 k88 n w v1) w 63 [(0, .ref (gA (cg K) 37)), (1, .int v1)] [] := by
  intro n
  induction n with
  | zero => intro _ _; exact n_none
  | succ n ih =>
    intro w v1
    rw [Mo_begin_L63]
    refine n_iload_n F dX8_begin_63 rfl 1 rfl ?_
    refine n_iconst F (3 : Int32) dX8_begin_64 (by decide) ?_
    refine n_icmp_ge F 88 dX8_begin_65 (by decide) (fun e2 => ?_) (fun e2 => ?_)
    · rw [if_pos e2]
      exact n_sub [0] rfl (h88 _)
    rw [if_neg e2]
    refine n_aload_n F dX8_begin_68 rfl 0 rfl ?_
    refine n_get F ck_8 lf_RX8_7 (by decide) fg_37_0 (by decide) dX8_begin_69 ?_
    refine n_iconst F (4 : Int32) dX8_begin_72 (by decide) ?_
    refine n_iload_n F dX8_begin_73 rfl 1 rfl ?_
    refine n_iadd F dX8_begin_74 ?_
    refine n_aload_n F dX8_begin_75 rfl 0 rfl ?_
    refine n_get F ck_8 lf_RX8_30 (by decide) fg_37_10 (by decide) dX8_begin_76 ?_
    refine n_iload_n F dX8_begin_79 rfl 1 rfl ?_
    refine n_chk (fun e3 => ?_)
    refine n_iald F ar_43 (by decide) (ib_in e3) rfl dX8_begin_80 ?_
    refine n_chk (fun e4 => ?_)
    refine n_iast F ar_38 (by decide) (ib_in e4) rfl dX8_begin_81 ?_
    refine n_iinc F (v1 + (1 : Int32)) (lv' := [(1, .int (v1 + (1 : Int32))), (0, .ref (gA (cg K) 37))]) dX8_begin_82 1 rfl rfl (by decide) rfl ?_
    refine n_goto F 63 dX8_begin_85 (by decide) ?_
    exact n_sub [1, 0] rfl (ih _ _)
def Mo_begin_L98 (k134 : Wd → Option Wd) : Nat → Wd → Int32 → Option Wd
  | 0, _, _ => none
  | n + 1, w, v1 => (if (2 : Int32) ≤ v1 then (k134 w) else (if ib v1 2 = true then (if ib ((8 : Int32) + v1) 45 = true then (if ib ((10 : Int32) + v1) 45 = true then (Mo_begin_L98 k134 n (sI (sI w 38 (Int32.toNatClampNeg ((8 : Int32) + v1)) (w.1 44 (Int32.toNatClampNeg v1))) 38 (Int32.toNatClampNeg ((10 : Int32) + v1)) (-1 : Int32)) (v1 + (1 : Int32))) else none) else none) else none))
set_option maxRecDepth 100000 in
set_option maxHeartbeats 4000000 in
theorem Mo_begin_L98_ok {K : Ctx} (F : Fx K cX8_begin 2 RX8 none 0 0 false [37, 38, 43, 44]) {k134 : Wd → Option Wd} (h134 : ∀ (w : Wd), N K rtV (k134 w) w 134 [(0, .ref (gA (cg K) 37))] []) : ∀ (n : Nat) (w : Wd) (v1 : Int32), N K rtV (Mo_begin_L98 k134 n w v1) w 98 [(0, .ref (gA (cg K) 37)), (1, .int v1)] [] := by
  intro n
  induction n with
  | zero => intro _ _; exact n_none
  | succ n ih =>
    intro w v1
    rw [Mo_begin_L98]
    refine n_iload_n F dX8_begin_98 rfl 1 rfl ?_
    refine n_iconst F (2 : Int32) dX8_begin_99 (by decide) ?_
    refine n_icmp_ge F 134 dX8_begin_100 (by decide) (fun e5 => ?_) (fun e5 => ?_)
    · rw [if_pos e5]
      exact n_sub [0] rfl (h134 _)
    rw [if_neg e5]
    refine n_aload_n F dX8_begin_103 rfl 0 rfl ?_
    refine n_get F ck_8 lf_RX8_7 (by decide) fg_37_0 (by decide) dX8_begin_104 ?_
    refine n_bipush F (8 : Int32) dX8_begin_107 (by decide) ?_
    refine n_iload_n F dX8_begin_109 rfl 1 rfl ?_
    refine n_iadd F dX8_begin_110 ?_
    refine n_aload_n F dX8_begin_111 rfl 0 rfl ?_
    refine n_get F ck_8 lf_RX8_36 (by decide) fg_37_12 (by decide) dX8_begin_112 ?_
    refine n_iload_n F dX8_begin_115 rfl 1 rfl ?_
    refine n_chk (fun e6 => ?_)
    refine n_iald F ar_44 (by decide) (ib_in e6) rfl dX8_begin_116 ?_
    refine n_chk (fun e7 => ?_)
    refine n_iast F ar_38 (by decide) (ib_in e7) rfl dX8_begin_117 ?_
    refine n_aload_n F dX8_begin_118 rfl 0 rfl ?_
    refine n_get F ck_8 lf_RX8_7 (by decide) fg_37_0 (by decide) dX8_begin_119 ?_
    refine n_bipush F (10 : Int32) dX8_begin_122 (by decide) ?_
    refine n_iload_n F dX8_begin_124 rfl 1 rfl ?_
    refine n_iadd F dX8_begin_125 ?_
    refine n_iconst F (-1 : Int32) dX8_begin_126 (by decide) ?_
    refine n_chk (fun e8 => ?_)
    refine n_iast F ar_38 (by decide) (ib_in e8) rfl dX8_begin_127 ?_
    refine n_iinc F (v1 + (1 : Int32)) (lv' := [(1, .int (v1 + (1 : Int32))), (0, .ref (gA (cg K) 37))]) dX8_begin_128 1 rfl rfl (by decide) rfl ?_
    refine n_goto F 98 dX8_begin_131 (by decide) ?_
    exact n_sub [1, 0] rfl (ih _ _)
def Mo_begin_B134 (w : Wd) : Option Wd := some (sI (sI (sI w 38 12 ((1 : Int32) <<< ((w.1 37 9) &&& (31 : Int32)))) 38 13 (0 : Int32)) 38 14 ((1 : Int32) <<< (((sI (sI w 38 12 ((1 : Int32) <<< ((w.1 37 9) &&& (31 : Int32)))) 38 13 (0 : Int32)).1 37 9) &&& (31 : Int32))))
set_option maxRecDepth 100000 in
set_option maxHeartbeats 4000000 in
theorem Mo_begin_B134_ok {K : Ctx} (F : Fx K cX8_begin 2 RX8 none 0 0 false [37, 38, 43, 44]) (w : Wd) : N K rtV (Mo_begin_B134 w) w 134 [(0, .ref (gA (cg K) 37))] [] := by
  rw [Mo_begin_B134]
  refine n_aload_n F dX8_begin_134 rfl 0 rfl ?_
  refine n_get F ck_8 lf_RX8_7 (by decide) fg_37_0 (by decide) dX8_begin_135 ?_
  refine n_bipush F (12 : Int32) dX8_begin_138 (by decide) ?_
  refine n_iconst F (1 : Int32) dX8_begin_140 (by decide) ?_
  refine n_aload_n F dX8_begin_141 rfl 0 rfl ?_
  refine n_get F ck_8 lf_RX8_58 (by decide) fg_37_9 (by decide) dX8_begin_142 ?_
  refine n_ishl F dX8_begin_145 ?_
  refine n_iast F ar_38 (by decide) (ib_c (n := 45) (by decide)) (j := 12) (by decide) dX8_begin_146 ?_
  refine n_aload_n F dX8_begin_147 rfl 0 rfl ?_
  refine n_get F ck_8 lf_RX8_7 (by decide) fg_37_0 (by decide) dX8_begin_148 ?_
  refine n_bipush F (13 : Int32) dX8_begin_151 (by decide) ?_
  refine n_iconst F (0 : Int32) dX8_begin_153 (by decide) ?_
  refine n_iast F ar_38 (by decide) (ib_c (n := 45) (by decide)) (j := 13) (by decide) dX8_begin_154 ?_
  refine n_aload_n F dX8_begin_155 rfl 0 rfl ?_
  refine n_get F ck_8 lf_RX8_7 (by decide) fg_37_0 (by decide) dX8_begin_156 ?_
  refine n_bipush F (14 : Int32) dX8_begin_159 (by decide) ?_
  refine n_iconst F (1 : Int32) dX8_begin_161 (by decide) ?_
  refine n_aload_n F dX8_begin_162 rfl 0 rfl ?_
  refine n_get F ck_8 lf_RX8_58 (by decide) fg_37_9 (by decide) dX8_begin_163 ?_
  refine n_ishl F dX8_begin_166 ?_
  refine n_iast F ar_38 (by decide) (ib_c (n := 45) (by decide)) (j := 14) (by decide) dX8_begin_167 ?_
  exact n_vret F rfl rfl dX8_begin_168
def Mo_begin_B88 (w : Wd) : Option Wd := (Mo_begin_L98 Mo_begin_B134 FU (sI w 38 7 (-1 : Int32)) (0 : Int32))
set_option maxRecDepth 100000 in
set_option maxHeartbeats 4000000 in
theorem Mo_begin_B88_ok {K : Ctx} (F : Fx K cX8_begin 2 RX8 none 0 0 false [37, 38, 43, 44]) (w : Wd) : N K rtV (Mo_begin_B88 w) w 88 [(0, .ref (gA (cg K) 37))] [] := by
  rw [Mo_begin_B88]
  refine n_aload_n F dX8_begin_88 rfl 0 rfl ?_
  refine n_get F ck_8 lf_RX8_7 (by decide) fg_37_0 (by decide) dX8_begin_89 ?_
  refine n_bipush F (7 : Int32) dX8_begin_92 (by decide) ?_
  refine n_iconst F (-1 : Int32) dX8_begin_94 (by decide) ?_
  refine n_iast F ar_38 (by decide) (ib_c (n := 45) (by decide)) (j := 7) (by decide) dX8_begin_95 ?_
  refine n_iconst F (0 : Int32) dX8_begin_96 (by decide) ?_
  refine n_istore_n F (lv' := [(1, .int (0 : Int32)), (0, .ref (gA (cg K) 37))]) dX8_begin_97 rfl (by decide) rfl ?_
  exact n_sub [1, 0] rfl (Mo_begin_L98_ok F (Mo_begin_B134_ok F) FU _ _)
def Mo_begin (w : Wd) : Option Wd := (Mo_begin_L63 Mo_begin_B88 FU (if ((sI (sI (sI w 38 0 (0 : Int32)) 38 1 ((sI w 38 0 (0 : Int32)).1 37 9)) 38 2 (0 : Int32)).1 44 0) = ((sI (sI (sI w 38 0 (0 : Int32)) 38 1 ((sI w 38 0 (0 : Int32)).1 37 9)) 38 2 (0 : Int32)).1 37 9) then (sI (sI (sI (sI w 38 0 (0 : Int32)) 38 1 ((sI w 38 0 (0 : Int32)).1 37 9)) 38 2 (0 : Int32)) 38 3 (1 : Int32)) else (if ((sI (sI (sI w 38 0 (0 : Int32)) 38 1 ((sI w 38 0 (0 : Int32)).1 37 9)) 38 2 (0 : Int32)).1 44 1) = ((sI (sI (sI w 38 0 (0 : Int32)) 38 1 ((sI w 38 0 (0 : Int32)).1 37 9)) 38 2 (0 : Int32)).1 37 9) then (sI (sI (sI (sI w 38 0 (0 : Int32)) 38 1 ((sI w 38 0 (0 : Int32)).1 37 9)) 38 2 (0 : Int32)) 38 3 (1 : Int32)) else (sI (sI (sI (sI w 38 0 (0 : Int32)) 38 1 ((sI w 38 0 (0 : Int32)).1 37 9)) 38 2 (0 : Int32)) 38 3 (0 : Int32)))) (0 : Int32))
set_option maxRecDepth 100000 in
set_option maxHeartbeats 4000000 in
theorem ct_Mo_begin {l : Launch} {g : GG} {σ : Sd} (hg : OKg g σ) (hb : σ.2.1 = false) (hx : ∀ c ∈ ([37, 38, 43, 44] : List Nat), c ∈ σ.1) (w : Wd) {q : Wd} (hq : Mo_begin w = some q) : CT l g σ yX8_begin cX8_begin 2 none 0 0 [.ref (gA g 37)] w none q := by
  refine ct_of (rt := rtV) (res := Mo_begin w) (q := q) (own := RX8) (b := false) hg hb hx (by decide) rfl (Nat.le_of_ble_eq_true rfl) hq (fun K e1 e2 e3 F => ?_)
  subst e1 e2 e3
  rw [Mo_begin]
  show N K _ _ w 0 [(0, .ref (gA (cg K) 37))] []
  refine n_aload_n F dX8_begin_0 rfl 0 rfl ?_
  refine n_get F ck_8 lf_RX8_7 (by decide) fg_37_0 (by decide) dX8_begin_1 ?_
  refine n_iconst F (0 : Int32) dX8_begin_4 (by decide) ?_
  refine n_iconst F (0 : Int32) dX8_begin_5 (by decide) ?_
  refine n_iast F ar_38 (by decide) (ib_c (n := 45) (by decide)) (j := 0) (by decide) dX8_begin_6 ?_
  refine n_aload_n F dX8_begin_7 rfl 0 rfl ?_
  refine n_get F ck_8 lf_RX8_7 (by decide) fg_37_0 (by decide) dX8_begin_8 ?_
  refine n_iconst F (1 : Int32) dX8_begin_11 (by decide) ?_
  refine n_aload_n F dX8_begin_12 rfl 0 rfl ?_
  refine n_get F ck_8 lf_RX8_58 (by decide) fg_37_9 (by decide) dX8_begin_13 ?_
  refine n_iast F ar_38 (by decide) (ib_c (n := 45) (by decide)) (j := 1) (by decide) dX8_begin_16 ?_
  refine n_aload_n F dX8_begin_17 rfl 0 rfl ?_
  refine n_get F ck_8 lf_RX8_7 (by decide) fg_37_0 (by decide) dX8_begin_18 ?_
  refine n_iconst F (2 : Int32) dX8_begin_21 (by decide) ?_
  refine n_iconst F (0 : Int32) dX8_begin_22 (by decide) ?_
  refine n_iast F ar_38 (by decide) (ib_c (n := 45) (by decide)) (j := 2) (by decide) dX8_begin_23 ?_
  refine n_aload_n F dX8_begin_24 rfl 0 rfl ?_
  refine n_get F ck_8 lf_RX8_7 (by decide) fg_37_0 (by decide) dX8_begin_25 ?_
  refine n_iconst F (3 : Int32) dX8_begin_28 (by decide) ?_
  refine n_aload_n F dX8_begin_29 rfl 0 rfl ?_
  refine n_get F ck_8 lf_RX8_36 (by decide) fg_37_12 (by decide) dX8_begin_30 ?_
  refine n_iconst F (0 : Int32) dX8_begin_33 (by decide) ?_
  refine n_iald F ar_44 (by decide) (ib_c (n := 2) (by decide)) (j := 0) (by decide) dX8_begin_34 ?_
  refine n_aload_n F dX8_begin_35 rfl 0 rfl ?_
  refine n_get F ck_8 lf_RX8_58 (by decide) fg_37_9 (by decide) dX8_begin_36 ?_
  refine n_icmp_eq F 55 dX8_begin_39 (by decide) (fun e1 => ?_) (fun e1 => ?_)
  · rw [if_pos e1]
    refine n_iconst F (1 : Int32) dX8_begin_55 (by decide) ?_
    refine n_goto F 60 dX8_begin_56 (by decide) ?_
    refine n_iast F ar_38 (by decide) (ib_c (n := 45) (by decide)) (j := 3) (by decide) dX8_begin_60 ?_
    refine n_iconst F (0 : Int32) dX8_begin_61 (by decide) ?_
    refine n_istore_n F (lv' := [(1, .int (0 : Int32)), (0, .ref (gA (cg K) 37))]) dX8_begin_62 rfl (by decide) rfl ?_
    exact n_sub [1, 0] rfl (Mo_begin_L63_ok F (Mo_begin_B88_ok F) FU _ _)
  rw [if_neg e1]
  refine n_aload_n F dX8_begin_42 rfl 0 rfl ?_
  refine n_get F ck_8 lf_RX8_36 (by decide) fg_37_12 (by decide) dX8_begin_43 ?_
  refine n_iconst F (1 : Int32) dX8_begin_46 (by decide) ?_
  refine n_iald F ar_44 (by decide) (ib_c (n := 2) (by decide)) (j := 1) (by decide) dX8_begin_47 ?_
  refine n_aload_n F dX8_begin_48 rfl 0 rfl ?_
  refine n_get F ck_8 lf_RX8_58 (by decide) fg_37_9 (by decide) dX8_begin_49 ?_
  refine n_icmp_ne F 59 dX8_begin_52 (by decide) (fun e9 => ?_) (fun e9 => ?_)
  · rw [if_neg e9]
    refine n_iconst F (0 : Int32) dX8_begin_59 (by decide) ?_
    refine n_iast F ar_38 (by decide) (ib_c (n := 45) (by decide)) (j := 3) (by decide) dX8_begin_60 ?_
    refine n_iconst F (0 : Int32) dX8_begin_61 (by decide) ?_
    refine n_istore_n F (lv' := [(1, .int (0 : Int32)), (0, .ref (gA (cg K) 37))]) dX8_begin_62 rfl (by decide) rfl ?_
    exact n_sub [1, 0] rfl (Mo_begin_L63_ok F (Mo_begin_B88_ok F) FU _ _)
  rw [if_pos e9]
  refine n_iconst F (1 : Int32) dX8_begin_55 (by decide) ?_
  refine n_goto F 60 dX8_begin_56 (by decide) ?_
  refine n_iast F ar_38 (by decide) (ib_c (n := 45) (by decide)) (j := 3) (by decide) dX8_begin_60 ?_
  refine n_iconst F (0 : Int32) dX8_begin_61 (by decide) ?_
  refine n_istore_n F (lv' := [(1, .int (0 : Int32)), (0, .ref (gA (cg K) 37))]) dX8_begin_62 rfl (by decide) rfl ?_
  exact n_sub [1, 0] rfl (Mo_begin_L63_ok F (Mo_begin_B88_ok F) FU _ _)
