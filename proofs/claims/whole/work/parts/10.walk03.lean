theorem dX4_append_0 : decode cX4_append 0 = .ok (.aload_n 0, 1) := by decide +kernel
theorem dX4_append_1 : decode cX4_append 1 = .ok (.getfield 15, 3) := by decide +kernel
theorem dX4_append_4 : decode cX4_append 4 = .ok (.iconst 0, 1) := by decide +kernel
theorem dX4_append_5 : decode cX4_append 5 = .ok (.bipush 11, 2) := by decide +kernel
theorem dX4_append_7 : decode cX4_append 7 = .ok (.invokestatic 33, 3) := by decide +kernel
theorem dX4_append_10 : decode cX4_append 10 = .ok (.ifCond .ne 5, 3) := by decide +kernel
theorem dX4_append_13 : decode cX4_append 13 = .ok (.iconst 0, 1) := by decide +kernel
theorem dX4_append_14 : decode cX4_append 14 = .ok (.ireturn, 1) := by decide +kernel
theorem dX4_append_15 : decode cX4_append 15 = .ok (.aload_n 0, 1) := by decide +kernel
theorem dX4_append_16 : decode cX4_append 16 = .ok (.getfield 9, 3) := by decide +kernel
theorem dX4_append_19 : decode cX4_append 19 = .ok (.aload_n 0, 1) := by decide +kernel
theorem dX4_append_20 : decode cX4_append 20 = .ok (.getfield 15, 3) := by decide +kernel
theorem dX4_append_23 : decode cX4_append 23 = .ok (.iload_n 1, 1) := by decide +kernel
theorem dX4_append_24 : decode cX4_append 24 = .ok (.iastore, 1) := by decide +kernel
theorem dX4_append_25 : decode cX4_append 25 = .ok (.aload_n 0, 1) := by decide +kernel
theorem dX4_append_26 : decode cX4_append 26 = .ok (.dup, 1) := by decide +kernel
theorem dX4_append_27 : decode cX4_append 27 = .ok (.getfield 15, 3) := by decide +kernel
theorem dX4_append_30 : decode cX4_append 30 = .ok (.iconst 1, 1) := by decide +kernel
theorem dX4_append_31 : decode cX4_append 31 = .ok (.iadd, 1) := by decide +kernel
theorem dX4_append_32 : decode cX4_append 32 = .ok (.putfield 15, 3) := by decide +kernel
theorem dX4_append_35 : decode cX4_append 35 = .ok (.iconst 1, 1) := by decide +kernel
theorem dX4_append_36 : decode cX4_append 36 = .ok (.ireturn, 1) := by decide +kernel
def Ri_append (w : Wd) (a1 : Int32) : Option (Int32 × Wd) := (if (Nt_within w (w.1 32 2) (0 : Int32) (11 : Int32)) = (0 : Int32) then some ((0 : Int32), w) else (if ib (w.1 32 2) 12 = true then some ((1 : Int32), (sI (sI w 33 (Int32.toNatClampNeg (w.1 32 2)) a1) 32 2 (((sI w 33 (Int32.toNatClampNeg (w.1 32 2)) a1).1 32 2) + (1 : Int32)))) else none))
set_option maxRecDepth 100000 in
set_option maxHeartbeats 4000000 in
theorem ct_Ri_append {l : Launch} {g : GG} {σ : Sd} (hg : OKg g σ) (hb : σ.2.1 = true) (hx : ∀ c ∈ ([32, 33] : List Nat), c ∈ σ.1) (w : Wd) (a1 : Int32) {q : Int32 × Wd} (hq : Ri_append w a1 = some q) : CT l g σ yX4_append cX4_append 2 (some .boolean) 1 22 [.ref (gA g 32), .int a1] w (some (.int q.1)) q.2 := by
  refine ct_of (rt := rtI) (res := Ri_append w a1) (q := q) (own := RX4) (b := true) hg hb hx (by decide) rfl (Nat.le_of_ble_eq_true rfl) hq (fun K e1 e2 e3 F => ?_)
  subst e1 e2 e3
  rw [Ri_append]
  show N K _ _ w 0 [(0, .ref (gA (cg K) 32)), (1, .int a1)] []
  refine n_aload_n F dX4_append_0 rfl 0 rfl ?_
  refine n_get F ck_4 lf_RX4_15 (by decide) fg_32_2 (by decide) dX4_append_1 ?_
  refine n_iconst F (0 : Int32) dX4_append_4 (by decide) ?_
  refine n_bipush F (11 : Int32) dX4_append_5 (by decide) ?_
  refine n_callSNi F cb_X7_within lm_RX4_33 (ct_Nt_within (fx_ok F) (fx_sd F) (fx_ix F rfl) w (w.1 32 2) (0 : Int32) (11 : Int32)) rfl rfl (Nat.le_of_ble_eq_true rfl) ⟨Nat.le_of_ble_eq_true rfl, Nat.le_of_ble_eq_true rfl⟩ dX4_append_7 ?_
  refine n_if_ne F 15 dX4_append_10 (by decide) (fun e1 => ?_) (fun e1 => ?_)
  · rw [if_neg e1]
    refine n_aload_n F dX4_append_15 rfl 0 rfl ?_
    refine n_get F ck_4 lf_RX4_9 (by decide) fg_32_1 (by decide) dX4_append_16 ?_
    refine n_aload_n F dX4_append_19 rfl 0 rfl ?_
    refine n_get F ck_4 lf_RX4_15 (by decide) fg_32_2 (by decide) dX4_append_20 ?_
    refine n_iload_n F dX4_append_23 rfl 1 rfl ?_
    refine n_chk (fun e2 => ?_)
    refine n_iast F ar_33 (by decide) (ib_in e2) rfl dX4_append_24 ?_
    refine n_aload_n F dX4_append_25 rfl 0 rfl ?_
    refine n_dup F dX4_append_26 rfl ?_
    refine n_get F ck_4 lf_RX4_15 (by decide) fg_32_2 (by decide) dX4_append_27 ?_
    refine n_iconst F (1 : Int32) dX4_append_30 (by decide) ?_
    refine n_iadd F dX4_append_31 ?_
    refine n_put F ck_4 lf_RX4_15 (by decide) rfl fp_32_2 (by decide) rfl rfl dX4_append_32 ?_
    refine n_iconst F (1 : Int32) dX4_append_35 (by decide) ?_
    exact n_zret F .boolean rfl rfl rfl dX4_append_36
  rw [if_pos e1]
  refine n_iconst F (0 : Int32) dX4_append_13 (by decide) ?_
  exact n_zret F .boolean rfl rfl rfl dX4_append_14
theorem dX4_spend_0 : decode cX4_spend 0 = .ok (.iload_n 1, 1) := by decide +kernel
theorem dX4_spend_1 : decode cX4_spend 1 = .ok (.iconst 0, 1) := by decide +kernel
theorem dX4_spend_2 : decode cX4_spend 2 = .ok (.iconst 2, 1) := by decide +kernel
theorem dX4_spend_3 : decode cX4_spend 3 = .ok (.invokestatic 33, 3) := by decide +kernel
theorem dX4_spend_6 : decode cX4_spend 6 = .ok (.ifCond .eq 13, 3) := by decide +kernel
theorem dX4_spend_9 : decode cX4_spend 9 = .ok (.aload_n 0, 1) := by decide +kernel
theorem dX4_spend_10 : decode cX4_spend 10 = .ok (.getfield 19, 3) := by decide +kernel
theorem dX4_spend_13 : decode cX4_spend 13 = .ok (.iload_n 1, 1) := by decide +kernel
theorem dX4_spend_14 : decode cX4_spend 14 = .ok (.iaload, 1) := by decide +kernel
theorem dX4_spend_15 : decode cX4_spend 15 = .ok (.iconst 1, 1) := by decide +kernel
theorem dX4_spend_16 : decode cX4_spend 16 = .ok (.if_icmp .ge 5, 3) := by decide +kernel
theorem dX4_spend_19 : decode cX4_spend 19 = .ok (.iconst 0, 1) := by decide +kernel
theorem dX4_spend_20 : decode cX4_spend 20 = .ok (.ireturn, 1) := by decide +kernel
theorem dX4_spend_21 : decode cX4_spend 21 = .ok (.aload_n 0, 1) := by decide +kernel
theorem dX4_spend_22 : decode cX4_spend 22 = .ok (.getfield 19, 3) := by decide +kernel
theorem dX4_spend_25 : decode cX4_spend 25 = .ok (.iload_n 1, 1) := by decide +kernel
theorem dX4_spend_26 : decode cX4_spend 26 = .ok (.dup2, 1) := by decide +kernel
theorem dX4_spend_27 : decode cX4_spend 27 = .ok (.iaload, 1) := by decide +kernel
theorem dX4_spend_28 : decode cX4_spend 28 = .ok (.iconst 1, 1) := by decide +kernel
theorem dX4_spend_29 : decode cX4_spend 29 = .ok (.isub, 1) := by decide +kernel
theorem dX4_spend_30 : decode cX4_spend 30 = .ok (.iastore, 1) := by decide +kernel
theorem dX4_spend_31 : decode cX4_spend 31 = .ok (.iconst 1, 1) := by decide +kernel
theorem dX4_spend_32 : decode cX4_spend 32 = .ok (.ireturn, 1) := by decide +kernel
def Ri_spend (w : Wd) (a1 : Int32) : Option (Int32 × Wd) := (if (Nt_within w a1 (0 : Int32) (2 : Int32)) = (0 : Int32) then some ((0 : Int32), w) else (if ib a1 3 = true then (if (1 : Int32) ≤ (w.1 34 (Int32.toNatClampNeg a1)) then (if ib a1 3 = true then (if ib a1 3 = true then some ((1 : Int32), (sI w 34 (Int32.toNatClampNeg a1) ((w.1 34 (Int32.toNatClampNeg a1)) - (1 : Int32)))) else none) else none) else some ((0 : Int32), w)) else none))
set_option maxRecDepth 100000 in
set_option maxHeartbeats 4000000 in
theorem ct_Ri_spend {l : Launch} {g : GG} {σ : Sd} (hg : OKg g σ) (hb : σ.2.1 = true) (hx : ∀ c ∈ ([32, 34] : List Nat), c ∈ σ.1) (w : Wd) (a1 : Int32) {q : Int32 × Wd} (hq : Ri_spend w a1 = some q) : CT l g σ yX4_spend cX4_spend 2 (some .boolean) 1 22 [.ref (gA g 32), .int a1] w (some (.int q.1)) q.2 := by
  refine ct_of (rt := rtI) (res := Ri_spend w a1) (q := q) (own := RX4) (b := true) hg hb hx (by decide) rfl (Nat.le_of_ble_eq_true rfl) hq (fun K e1 e2 e3 F => ?_)
  subst e1 e2 e3
  rw [Ri_spend]
  show N K _ _ w 0 [(0, .ref (gA (cg K) 32)), (1, .int a1)] []
  refine n_iload_n F dX4_spend_0 rfl 1 rfl ?_
  refine n_iconst F (0 : Int32) dX4_spend_1 (by decide) ?_
  refine n_iconst F (2 : Int32) dX4_spend_2 (by decide) ?_
  refine n_callSNi F cb_X7_within lm_RX4_33 (ct_Nt_within (fx_ok F) (fx_sd F) (fx_ix F rfl) w a1 (0 : Int32) (2 : Int32)) rfl rfl (Nat.le_of_ble_eq_true rfl) ⟨Nat.le_of_ble_eq_true rfl, Nat.le_of_ble_eq_true rfl⟩ dX4_spend_3 ?_
  refine n_if_eq F 19 dX4_spend_6 (by decide) (fun e1 => ?_) (fun e1 => ?_)
  · rw [if_pos e1]
    refine n_iconst F (0 : Int32) dX4_spend_19 (by decide) ?_
    exact n_zret F .boolean rfl rfl rfl dX4_spend_20
  rw [if_neg e1]
  refine n_aload_n F dX4_spend_9 rfl 0 rfl ?_
  refine n_get F ck_4 lf_RX4_19 (by decide) fg_32_3 (by decide) dX4_spend_10 ?_
  refine n_iload_n F dX4_spend_13 rfl 1 rfl ?_
  refine n_chk (fun e2 => ?_)
  refine n_iald F ar_34 (by decide) (ib_in e2) rfl dX4_spend_14 ?_
  refine n_iconst F (1 : Int32) dX4_spend_15 (by decide) ?_
  refine n_icmp_ge F 21 dX4_spend_16 (by decide) (fun e3 => ?_) (fun e3 => ?_)
  · rw [if_pos e3]
    refine n_aload_n F dX4_spend_21 rfl 0 rfl ?_
    refine n_get F ck_4 lf_RX4_19 (by decide) fg_32_3 (by decide) dX4_spend_22 ?_
    refine n_iload_n F dX4_spend_25 rfl 1 rfl ?_
    refine n_dup2 F dX4_spend_26 rfl rfl ?_
    refine n_chk (fun e4 => ?_)
    refine n_iald F ar_34 (by decide) (ib_in e4) rfl dX4_spend_27 ?_
    refine n_iconst F (1 : Int32) dX4_spend_28 (by decide) ?_
    refine n_isub F dX4_spend_29 ?_
    refine n_chk (fun e5 => ?_)
    refine n_iast F ar_34 (by decide) (ib_in e5) rfl dX4_spend_30 ?_
    refine n_iconst F (1 : Int32) dX4_spend_31 (by decide) ?_
    exact n_zret F .boolean rfl rfl rfl dX4_spend_32
  rw [if_neg e3]
  refine n_iconst F (0 : Int32) dX4_spend_19 (by decide) ?_
  exact n_zret F .boolean rfl rfl rfl dX4_spend_20
theorem dX4_firstImpossible_0 : decode cX4_firstImpossible 0 = .ok (.aload_n 0, 1) := by decide +kernel
theorem dX4_firstImpossible_1 : decode cX4_firstImpossible 1 = .ok (.getfield 29, 3) := by decide +kernel
theorem dX4_firstImpossible_4 : decode cX4_firstImpossible 4 = .ok (.getfield 37, 3) := by decide +kernel
theorem dX4_firstImpossible_7 : decode cX4_firstImpossible 7 = .ok (.iconst 0, 1) := by decide +kernel
theorem dX4_firstImpossible_8 : decode cX4_firstImpossible 8 = .ok (.aload_n 0, 1) := by decide +kernel
theorem dX4_firstImpossible_9 : decode cX4_firstImpossible 9 = .ok (.getfield 19, 3) := by decide +kernel
theorem dX4_firstImpossible_12 : decode cX4_firstImpossible 12 = .ok (.iconst 0, 1) := by decide +kernel
theorem dX4_firstImpossible_13 : decode cX4_firstImpossible 13 = .ok (.iconst 3, 1) := by decide +kernel
theorem dX4_firstImpossible_14 : decode cX4_firstImpossible 14 = .ok (.invokestatic 42, 3) := by decide +kernel
theorem dX4_firstImpossible_17 : decode cX4_firstImpossible 17 = .ok (.aload_n 0, 1) := by decide +kernel
theorem dX4_firstImpossible_18 : decode cX4_firstImpossible 18 = .ok (.getfield 29, 3) := by decide +kernel
theorem dX4_firstImpossible_21 : decode cX4_firstImpossible 21 = .ok (.getfield 48, 3) := by decide +kernel
theorem dX4_firstImpossible_24 : decode cX4_firstImpossible 24 = .ok (.istore_n 1, 1) := by decide +kernel
theorem dX4_firstImpossible_25 : decode cX4_firstImpossible 25 = .ok (.iconst 0, 1) := by decide +kernel
theorem dX4_firstImpossible_26 : decode cX4_firstImpossible 26 = .ok (.istore_n 2, 1) := by decide +kernel
theorem dX4_firstImpossible_27 : decode cX4_firstImpossible 27 = .ok (.iconst 0, 1) := by decide +kernel
theorem dX4_firstImpossible_28 : decode cX4_firstImpossible 28 = .ok (.istore_n 3, 1) := by decide +kernel
theorem dX4_firstImpossible_29 : decode cX4_firstImpossible 29 = .ok (.iload_n 3, 1) := by decide +kernel
theorem dX4_firstImpossible_30 : decode cX4_firstImpossible 30 = .ok (.aload_n 0, 1) := by decide +kernel
theorem dX4_firstImpossible_31 : decode cX4_firstImpossible 31 = .ok (.getfield 15, 3) := by decide +kernel
theorem dX4_firstImpossible_34 : decode cX4_firstImpossible 34 = .ok (.if_icmp .ge 80, 3) := by decide +kernel
theorem dX4_firstImpossible_37 : decode cX4_firstImpossible 37 = .ok (.iload_n 3, 1) := by decide +kernel
theorem dX4_firstImpossible_38 : decode cX4_firstImpossible 38 = .ok (.bipush 12, 2) := by decide +kernel
theorem dX4_firstImpossible_40 : decode cX4_firstImpossible 40 = .ok (.if_icmp .ge 74, 3) := by decide +kernel
theorem dX4_firstImpossible_43 : decode cX4_firstImpossible 43 = .ok (.aload_n 0, 1) := by decide +kernel
theorem dX4_firstImpossible_44 : decode cX4_firstImpossible 44 = .ok (.getfield 9, 3) := by decide +kernel
theorem dX4_firstImpossible_47 : decode cX4_firstImpossible 47 = .ok (.iload_n 3, 1) := by decide +kernel
theorem dX4_firstImpossible_48 : decode cX4_firstImpossible 48 = .ok (.iaload, 1) := by decide +kernel
theorem dX4_firstImpossible_49 : decode cX4_firstImpossible 49 = .ok (.istore 4, 2) := by decide +kernel
theorem dX4_firstImpossible_51 : decode cX4_firstImpossible 51 = .ok (.aload_n 0, 1) := by decide +kernel
theorem dX4_firstImpossible_52 : decode cX4_firstImpossible 52 = .ok (.getfield 29, 3) := by decide +kernel
theorem dX4_firstImpossible_55 : decode cX4_firstImpossible 55 = .ok (.iload 4, 2) := by decide +kernel
theorem dX4_firstImpossible_57 : decode cX4_firstImpossible 57 = .ok (.iload_n 1, 1) := by decide +kernel
theorem dX4_firstImpossible_58 : decode cX4_firstImpossible 58 = .ok (.iload_n 2, 1) := by decide +kernel
theorem dX4_firstImpossible_59 : decode cX4_firstImpossible 59 = .ok (.invokevirtual 51, 3) := by decide +kernel
theorem dX4_firstImpossible_62 : decode cX4_firstImpossible 62 = .ok (.ifCond .eq 20, 3) := by decide +kernel
theorem dX4_firstImpossible_65 : decode cX4_firstImpossible 65 = .ok (.aload_n 0, 1) := by decide +kernel
theorem dX4_firstImpossible_66 : decode cX4_firstImpossible 66 = .ok (.aload_n 0, 1) := by decide +kernel
theorem dX4_firstImpossible_67 : decode cX4_firstImpossible 67 = .ok (.getfield 29, 3) := by decide +kernel
theorem dX4_firstImpossible_70 : decode cX4_firstImpossible 70 = .ok (.iload 4, 2) := by decide +kernel
theorem dX4_firstImpossible_72 : decode cX4_firstImpossible 72 = .ok (.iconst 5, 1) := by decide +kernel
theorem dX4_firstImpossible_73 : decode cX4_firstImpossible 73 = .ok (.invokevirtual 54, 3) := by decide +kernel
theorem dX4_firstImpossible_76 : decode cX4_firstImpossible 76 = .ok (.invokevirtual 58, 3) := by decide +kernel
theorem dX4_firstImpossible_79 : decode cX4_firstImpossible 79 = .ok (.ifCond .ne 5, 3) := by decide +kernel
theorem dX4_firstImpossible_82 : decode cX4_firstImpossible 82 = .ok (.iload_n 3, 1) := by decide +kernel
theorem dX4_firstImpossible_83 : decode cX4_firstImpossible 83 = .ok (.ireturn, 1) := by decide +kernel
theorem dX4_firstImpossible_84 : decode cX4_firstImpossible 84 = .ok (.aload_n 0, 1) := by decide +kernel
theorem dX4_firstImpossible_85 : decode cX4_firstImpossible 85 = .ok (.getfield 29, 3) := by decide +kernel
theorem dX4_firstImpossible_88 : decode cX4_firstImpossible 88 = .ok (.iload 4, 2) := by decide +kernel
theorem dX4_firstImpossible_90 : decode cX4_firstImpossible 90 = .ok (.iconst 1, 1) := by decide +kernel
theorem dX4_firstImpossible_91 : decode cX4_firstImpossible 91 = .ok (.invokevirtual 54, 3) := by decide +kernel
theorem dX4_firstImpossible_94 : decode cX4_firstImpossible 94 = .ok (.istore_n 1, 1) := by decide +kernel
theorem dX4_firstImpossible_95 : decode cX4_firstImpossible 95 = .ok (.iload_n 2, 1) := by decide +kernel
theorem dX4_firstImpossible_96 : decode cX4_firstImpossible 96 = .ok (.aload_n 0, 1) := by decide +kernel
theorem dX4_firstImpossible_97 : decode cX4_firstImpossible 97 = .ok (.getfield 29, 3) := by decide +kernel
theorem dX4_firstImpossible_100 : decode cX4_firstImpossible 100 = .ok (.iload 4, 2) := by decide +kernel
theorem dX4_firstImpossible_102 : decode cX4_firstImpossible 102 = .ok (.iconst 4, 1) := by decide +kernel
theorem dX4_firstImpossible_103 : decode cX4_firstImpossible 103 = .ok (.invokevirtual 54, 3) := by decide +kernel
theorem dX4_firstImpossible_106 : decode cX4_firstImpossible 106 = .ok (.iadd, 1) := by decide +kernel
theorem dX4_firstImpossible_107 : decode cX4_firstImpossible 107 = .ok (.istore_n 2, 1) := by decide +kernel
theorem dX4_firstImpossible_108 : decode cX4_firstImpossible 108 = .ok (.iinc 3 1, 3) := by decide +kernel
theorem dX4_firstImpossible_111 : decode cX4_firstImpossible 111 = .ok (.goto (-82), 3) := by decide +kernel
theorem dX4_firstImpossible_114 : decode cX4_firstImpossible 114 = .ok (.iconst (-1), 1) := by decide +kernel
theorem dX4_firstImpossible_115 : decode cX4_firstImpossible 115 = .ok (.ireturn, 1) := by decide +kernel
def Ri_firstImpossible_L29 (k82 : Wd → Int32 → Option (Int32 × Wd)) (k114 : Wd → Option (Int32 × Wd)) : Nat → Wd → Int32 → Int32 → Int32 → Option (Int32 × Wd)
  | 0, _, _, _, _ => none
  | n + 1, w, v1, v2, v3 => (if (w.1 32 2) ≤ v3 then (k114 w) else (if (12 : Int32) ≤ v3 then (k114 w) else (if ib v3 12 = true then (Option.bind (La_leaves w (w.1 33 (Int32.toNatClampNeg v3)) v1 v2) (fun q4 => (if q4 = (0 : Int32) then (k82 w v3) else (Option.bind (La_part w (w.1 33 (Int32.toNatClampNeg v3)) (5 : Int32)) (fun q6 => (Option.bind (Ri_spend w q6) (fun q7 => (if (q7.1) = (0 : Int32) then (k82 (q7.2) v3) else (Option.bind (La_part (q7.2) (w.1 33 (Int32.toNatClampNeg v3)) (1 : Int32)) (fun q9 => (Option.bind (La_part (q7.2) (w.1 33 (Int32.toNatClampNeg v3)) (4 : Int32)) (fun q10 => (Ri_firstImpossible_L29 k82 k114 n (q7.2) q9 (v2 + q10) (v3 + (1 : Int32))))))))))))))) else none)))
set_option maxRecDepth 100000 in
set_option maxHeartbeats 4000000 in
theorem Ri_firstImpossible_L29_ok {K : Ctx} (F : Fx K cX4_firstImpossible 5 RX4 (some .int) 3 69 true [3, 4, 5, 32, 33, 34]) {k82 : Wd → Int32 → Option (Int32 × Wd)} (h82 : ∀ (w : Wd) (v3 : Int32), N K rtI (k82 w v3) w 82 [(3, .int v3)] []) {k114 : Wd → Option (Int32 × Wd)} (h114 : ∀ (w : Wd), N K rtI (k114 w) w 114 [] []) : ∀ (n : Nat) (w : Wd) (v1 : Int32) (v2 : Int32) (v3 : Int32), N K rtI (Ri_firstImpossible_L29 k82 k114 n w v1 v2 v3) w 29 [(0, .ref (gA (cg K) 32)), (1, .int v1), (2, .int v2), (3, .int v3)] [] := by
  intro n
  induction n with
  | zero => intro _ _ _ _; exact n_none
  | succ n ih =>
    intro w v1 v2 v3
    rw [Ri_firstImpossible_L29]
    refine n_iload_n F dX4_firstImpossible_29 rfl 3 rfl ?_
    refine n_aload_n F dX4_firstImpossible_30 rfl 0 rfl ?_
    refine n_get F ck_4 lf_RX4_15 (by decide) fg_32_2 (by decide) dX4_firstImpossible_31 ?_
    refine n_icmp_ge F 114 dX4_firstImpossible_34 (by decide) (fun e1 => ?_) (fun e1 => ?_)
    · rw [if_pos e1]
      exact n_sub [] rfl (h114 _)
    rw [if_neg e1]
    refine n_iload_n F dX4_firstImpossible_37 rfl 3 rfl ?_
    refine n_bipush F (12 : Int32) dX4_firstImpossible_38 (by decide) ?_
    refine n_icmp_ge F 114 dX4_firstImpossible_40 (by decide) (fun e2 => ?_) (fun e2 => ?_)
    · rw [if_pos e2]
      exact n_sub [] rfl (h114 _)
    rw [if_neg e2]
    refine n_aload_n F dX4_firstImpossible_43 rfl 0 rfl ?_
    refine n_get F ck_4 lf_RX4_9 (by decide) fg_32_1 (by decide) dX4_firstImpossible_44 ?_
    refine n_iload_n F dX4_firstImpossible_47 rfl 3 rfl ?_
    refine n_chk (fun e3 => ?_)
    refine n_iald F ar_33 (by decide) (ib_in e3) rfl dX4_firstImpossible_48 ?_
    refine n_istore F (lv' := [(4, .int (w.1 33 (Int32.toNatClampNeg v3))), (0, .ref (gA (cg K) 32)), (1, .int v1), (2, .int v2), (3, .int v3)]) dX4_firstImpossible_49 (by decide) rfl ?_
    refine n_aload_n F dX4_firstImpossible_51 rfl 1 rfl ?_
    refine n_get F ck_4 lf_RX4_29 (by decide) fg_32_0 (by decide) dX4_firstImpossible_52 ?_
    refine n_iload F dX4_firstImpossible_55 0 rfl ?_
    refine n_iload_n F dX4_firstImpossible_57 rfl 2 rfl ?_
    refine n_iload_n F dX4_firstImpossible_58 rfl 3 rfl ?_
    refine n_bind (fun q4 hq4 => ?_)
    refine n_callVi F cb_X1_leaves lm_RX4_51 ob_3 (by decide) ⟨_, _, rfl⟩ (ct_La_leaves (fx_ok F) (fx_sd F) (fx_ix F rfl) w (w.1 33 (Int32.toNatClampNeg v3)) v1 v2 hq4) rfl rfl (Nat.le_of_ble_eq_true rfl) ⟨Nat.le_of_ble_eq_true rfl, Nat.le_of_ble_eq_true rfl⟩ dX4_firstImpossible_59 ?_
    refine n_if_eq F 82 dX4_firstImpossible_62 (by decide) (fun e5 => ?_) (fun e5 => ?_)
    · rw [if_pos e5]
      exact n_sub [4] rfl (h82 _ _)
    rw [if_neg e5]
    refine n_aload_n F dX4_firstImpossible_65 rfl 1 rfl ?_
    refine n_aload_n F dX4_firstImpossible_66 rfl 1 rfl ?_
    refine n_get F ck_4 lf_RX4_29 (by decide) fg_32_0 (by decide) dX4_firstImpossible_67 ?_
    refine n_iload F dX4_firstImpossible_70 0 rfl ?_
    refine n_iconst F (5 : Int32) dX4_firstImpossible_72 (by decide) ?_
    refine n_bind (fun q6 hq6 => ?_)
    refine n_callVi F cb_X1_part lm_RX4_54 ob_3 (by decide) ⟨_, _, rfl⟩ (ct_La_part (fx_ok F) (fx_sd F) (fx_ix F rfl) w (w.1 33 (Int32.toNatClampNeg v3)) (5 : Int32) hq6) rfl rfl (Nat.le_of_ble_eq_true rfl) ⟨Nat.le_of_ble_eq_true rfl, Nat.le_of_ble_eq_true rfl⟩ dX4_firstImpossible_73 ?_
    refine n_bind (fun q7 hq7 => ?_)
    refine n_callVi F cb_X4_spend lm_RX4_58 ob_32 (by decide) ⟨_, _, rfl⟩ (ct_Ri_spend (fx_ok F) (fx_sd F) (fx_ix F rfl) w q6 hq7) rfl rfl (Nat.le_of_ble_eq_true rfl) ⟨Nat.le_of_ble_eq_true rfl, Nat.le_of_ble_eq_true rfl⟩ dX4_firstImpossible_76 ?_
    refine n_if_ne F 84 dX4_firstImpossible_79 (by decide) (fun e8 => ?_) (fun e8 => ?_)
    · rw [if_neg e8]
      refine n_aload_n F dX4_firstImpossible_84 rfl 1 rfl ?_
      refine n_get F ck_4 lf_RX4_29 (by decide) fg_32_0 (by decide) dX4_firstImpossible_85 ?_
      refine n_iload F dX4_firstImpossible_88 0 rfl ?_
      refine n_iconst F (1 : Int32) dX4_firstImpossible_90 (by decide) ?_
      refine n_bind (fun q9 hq9 => ?_)
      refine n_callVi F cb_X1_part lm_RX4_54 ob_3 (by decide) ⟨_, _, rfl⟩ (ct_La_part (fx_ok F) (fx_sd F) (fx_ix F rfl) (q7.2) (w.1 33 (Int32.toNatClampNeg v3)) (1 : Int32) hq9) rfl rfl (Nat.le_of_ble_eq_true rfl) ⟨Nat.le_of_ble_eq_true rfl, Nat.le_of_ble_eq_true rfl⟩ dX4_firstImpossible_91 ?_
      refine n_istore_n F (lv' := [(1, .int q9), (4, .int (w.1 33 (Int32.toNatClampNeg v3))), (0, .ref (gA (cg K) 32)), (2, .int v2), (3, .int v3)]) dX4_firstImpossible_94 rfl (by decide) rfl ?_
      refine n_iload_n F dX4_firstImpossible_95 rfl 3 rfl ?_
      refine n_aload_n F dX4_firstImpossible_96 rfl 2 rfl ?_
      refine n_get F ck_4 lf_RX4_29 (by decide) fg_32_0 (by decide) dX4_firstImpossible_97 ?_
      refine n_iload F dX4_firstImpossible_100 1 rfl ?_
      refine n_iconst F (4 : Int32) dX4_firstImpossible_102 (by decide) ?_
      refine n_bind (fun q10 hq10 => ?_)
      refine n_callVi F cb_X1_part lm_RX4_54 ob_3 (by decide) ⟨_, _, rfl⟩ (ct_La_part (fx_ok F) (fx_sd F) (fx_ix F rfl) (q7.2) (w.1 33 (Int32.toNatClampNeg v3)) (4 : Int32) hq10) rfl rfl (Nat.le_of_ble_eq_true rfl) ⟨Nat.le_of_ble_eq_true rfl, Nat.le_of_ble_eq_true rfl⟩ dX4_firstImpossible_103 ?_
      refine n_iadd F dX4_firstImpossible_106 ?_
      refine n_istore_n F (lv' := [(2, .int (v2 + q10)), (1, .int q9), (4, .int (w.1 33 (Int32.toNatClampNeg v3))), (0, .ref (gA (cg K) 32)), (3, .int v3)]) dX4_firstImpossible_107 rfl (by decide) rfl ?_
      refine n_iinc F (v3 + (1 : Int32)) (lv' := [(3, .int (v3 + (1 : Int32))), (2, .int (v2 + q10)), (1, .int q9), (4, .int (w.1 33 (Int32.toNatClampNeg v3))), (0, .ref (gA (cg K) 32))]) dX4_firstImpossible_108 4 rfl rfl (by decide) rfl ?_
      refine n_goto F 29 dX4_firstImpossible_111 (by decide) ?_
      exact n_sub [4, 2, 1, 0] rfl (ih _ _ _ _)
    rw [if_pos e8]
    exact n_sub [4] rfl (h82 _ _)
def Ri_firstImpossible_B82 (w : Wd) (v3 : Int32) : Option (Int32 × Wd) := some (v3, w)
set_option maxRecDepth 100000 in
set_option maxHeartbeats 4000000 in
theorem Ri_firstImpossible_B82_ok {K : Ctx} (F : Fx K cX4_firstImpossible 5 RX4 (some .int) 3 69 true [3, 4, 5, 32, 33, 34]) (w : Wd) (v3 : Int32) : N K rtI (Ri_firstImpossible_B82 w v3) w 82 [(3, .int v3)] [] := by
  rw [Ri_firstImpossible_B82]
  refine n_iload_n F dX4_firstImpossible_82 rfl 0 rfl ?_
  exact n_iret F rfl rfl dX4_firstImpossible_83
def Ri_firstImpossible_B114 (w : Wd) : Option (Int32 × Wd) := some ((-1 : Int32), w)
set_option maxRecDepth 100000 in
set_option maxHeartbeats 4000000 in
theorem Ri_firstImpossible_B114_ok {K : Ctx} (F : Fx K cX4_firstImpossible 5 RX4 (some .int) 3 69 true [3, 4, 5, 32, 33, 34]) (w : Wd) : N K rtI (Ri_firstImpossible_B114 w) w 114 [] [] := by
  rw [Ri_firstImpossible_B114]
  refine n_iconst F (-1 : Int32) dX4_firstImpossible_114 (by decide) ?_
  exact n_iret F rfl rfl dX4_firstImpossible_115
def Ri_firstImpossible (w : Wd) : Option (Int32 × Wd) := (Ri_firstImpossible_L29 Ri_firstImpossible_B82 Ri_firstImpossible_B114 FU (cI w 5 0 34 0 3) ((cI w 5 0 34 0 3).1 3 2) (0 : Int32) (0 : Int32))
set_option maxRecDepth 100000 in
set_option maxHeartbeats 4000000 in
theorem ct_Ri_firstImpossible {l : Launch} {g : GG} {σ : Sd} (hg : OKg g σ) (hb : σ.2.1 = true) (hx : ∀ c ∈ ([3, 4, 5, 32, 33, 34] : List Nat), c ∈ σ.1) (w : Wd) {q : Int32 × Wd} (hq : Ri_firstImpossible w = some q) : CT l g σ yX4_firstImpossible cX4_firstImpossible 5 (some .int) 3 69 [.ref (gA g 32)] w (some (.int q.1)) q.2 := by
  refine ct_of (rt := rtI) (res := Ri_firstImpossible w) (q := q) (own := RX4) (b := true) hg hb hx (by decide) rfl (Nat.le_of_ble_eq_true rfl) hq (fun K e1 e2 e3 F => ?_)
  subst e1 e2 e3
  rw [Ri_firstImpossible]
  show N K _ _ w 0 [(0, .ref (gA (cg K) 32))] []
  refine n_aload_n F dX4_firstImpossible_0 rfl 0 rfl ?_
  refine n_get F ck_4 lf_RX4_29 (by decide) fg_32_0 (by decide) dX4_firstImpossible_1 ?_
  refine n_getN F ck_1 lf_RX4_37 (by decide) fg_3_5 (by decide) dX4_firstImpossible_4 ?_
  refine n_iconst F (0 : Int32) dX4_firstImpossible_7 (by decide) ?_
  refine n_aload_n F dX4_firstImpossible_8 rfl 0 rfl ?_
  refine n_get F ck_4 lf_RX4_19 (by decide) fg_32_3 (by decide) dX4_firstImpossible_9 ?_
  refine n_iconst F (0 : Int32) dX4_firstImpossible_12 (by decide) ?_
  refine n_iconst F (3 : Int32) dX4_firstImpossible_13 (by decide) ?_
  refine n_copyI F ar_5 ar_34 (by decide) (by decide) 0 0 3 (by decide) (by decide) (by decide) (by decide) (by decide) (by decide) (by decide) (by decide) la_RX4_42 (Nat.le_of_ble_eq_true rfl) (Nat.le_of_ble_eq_true rfl) dX4_firstImpossible_14 ?_
  refine n_aload_n F dX4_firstImpossible_17 rfl 0 rfl ?_
  refine n_get F ck_4 lf_RX4_29 (by decide) fg_32_0 (by decide) dX4_firstImpossible_18 ?_
  refine n_get F ck_1 lf_RX4_48 (by decide) fg_3_2 (by decide) dX4_firstImpossible_21 ?_
  refine n_istore_n F (lv' := [(1, .int ((cI w 5 0 34 0 3).1 3 2)), (0, .ref (gA (cg K) 32))]) dX4_firstImpossible_24 rfl (by decide) rfl ?_
  refine n_iconst F (0 : Int32) dX4_firstImpossible_25 (by decide) ?_
  refine n_istore_n F (lv' := [(2, .int (0 : Int32)), (1, .int ((cI w 5 0 34 0 3).1 3 2)), (0, .ref (gA (cg K) 32))]) dX4_firstImpossible_26 rfl (by decide) rfl ?_
  refine n_iconst F (0 : Int32) dX4_firstImpossible_27 (by decide) ?_
  refine n_istore_n F (lv' := [(3, .int (0 : Int32)), (2, .int (0 : Int32)), (1, .int ((cI w 5 0 34 0 3).1 3 2)), (0, .ref (gA (cg K) 32))]) dX4_firstImpossible_28 rfl (by decide) rfl ?_
  exact n_sub [3, 2, 1, 0] rfl (Ri_firstImpossible_L29_ok F (Ri_firstImpossible_B82_ok F) (Ri_firstImpossible_B114_ok F) FU _ _ _ _)
theorem dJ7_fill_d0a16_0 : decode cJ7_fill_d0a16 0 = .ok (.iconst 0, 1) := by decide +kernel
theorem dJ7_fill_d0a16_1 : decode cJ7_fill_d0a16 1 = .ok (.istore_n 3, 1) := by decide +kernel
theorem dJ7_fill_d0a16_2 : decode cJ7_fill_d0a16 2 = .ok (.aload_n 0, 1) := by decide +kernel
theorem dJ7_fill_d0a16_3 : decode cJ7_fill_d0a16 3 = .ok (.arraylength, 1) := by decide +kernel
theorem dJ7_fill_d0a16_4 : decode cJ7_fill_d0a16 4 = .ok (.istore 4, 2) := by decide +kernel
theorem dJ7_fill_d0a16_6 : decode cJ7_fill_d0a16 6 = .ok (.iload_n 3, 1) := by decide +kernel
theorem dJ7_fill_d0a16_7 : decode cJ7_fill_d0a16 7 = .ok (.iload 4, 2) := by decide +kernel
theorem dJ7_fill_d0a16_9 : decode cJ7_fill_d0a16 9 = .ok (.if_icmp .ge 13, 3) := by decide +kernel
theorem dJ7_fill_d0a16_12 : decode cJ7_fill_d0a16 12 = .ok (.aload_n 0, 1) := by decide +kernel
theorem dJ7_fill_d0a16_13 : decode cJ7_fill_d0a16 13 = .ok (.iload_n 3, 1) := by decide +kernel
theorem dJ7_fill_d0a16_14 : decode cJ7_fill_d0a16 14 = .ok (.lload_n 1, 1) := by decide +kernel
theorem dJ7_fill_d0a16_15 : decode cJ7_fill_d0a16 15 = .ok (.lastore, 1) := by decide +kernel
theorem dJ7_fill_d0a16_16 : decode cJ7_fill_d0a16 16 = .ok (.iinc 3 1, 3) := by decide +kernel
theorem dJ7_fill_d0a16_19 : decode cJ7_fill_d0a16 19 = .ok (.goto (-13), 3) := by decide +kernel
theorem dJ7_fill_d0a16_22 : decode cJ7_fill_d0a16 22 = .ok (.return_, 1) := by decide +kernel
def Jd_fillL_35_L6 (k22 : Wd → Option Wd) : Nat → Wd → Int64 → Int32 → Int32 → Option Wd
  | 0, _, _, _, _ => none
  | n + 1, w, v1, v3, v4 => (if v4 ≤ v3 then (k22 w) else (if ib v3 41 = true then (Jd_fillL_35_L6 k22 n (sJ w 35 (Int32.toNatClampNeg v3) v1) v1 (v3 + (1 : Int32)) v4) else none))
set_option maxRecDepth 100000 in
set_option maxHeartbeats 4000000 in
theorem Jd_fillL_35_L6_ok {K : Ctx} (F : Fx K cJ7_fill_d0a16 5 RJ7 none 0 0 true [35]) {k22 : Wd → Option Wd} (h22 : ∀ (w : Wd), N K rtV (k22 w) w 22 [] []) : ∀ (n : Nat) (w : Wd) (v1 : Int64) (v3 : Int32) (v4 : Int32), N K rtV (Jd_fillL_35_L6 k22 n w v1 v3 v4) w 6 [(0, .ref (gA (cg K) 35)), (1, .long v1), (3, .int v3), (4, .int v4)] [] := by
  intro n
  induction n with
  | zero => intro _ _ _ _; exact n_none
  | succ n ih =>
    intro w v1 v3 v4
    rw [Jd_fillL_35_L6]
    refine n_iload_n F dJ7_fill_d0a16_6 rfl 2 rfl ?_
    refine n_iload F dJ7_fill_d0a16_7 3 rfl ?_
    refine n_icmp_ge F 22 dJ7_fill_d0a16_9 (by decide) (fun e1 => ?_) (fun e1 => ?_)
    · rw [if_pos e1]
      exact n_sub [] rfl (h22 _)
    rw [if_neg e1]
    refine n_aload_n F dJ7_fill_d0a16_12 rfl 0 rfl ?_
    refine n_iload_n F dJ7_fill_d0a16_13 rfl 2 rfl ?_
    refine n_lload_n F dJ7_fill_d0a16_14 rfl 1 rfl ?_
    refine n_chk (fun e2 => ?_)
    refine n_last F ar_35 (by decide) (ib_in e2) rfl dJ7_fill_d0a16_15 ?_
    refine n_iinc F (v3 + (1 : Int32)) (lv' := [(3, .int (v3 + (1 : Int32))), (0, .ref (gA (cg K) 35)), (1, .long v1), (4, .int v4)]) dJ7_fill_d0a16_16 2 rfl rfl (by decide) rfl ?_
    refine n_goto F 6 dJ7_fill_d0a16_19 (by decide) ?_
    exact n_sub [1, 2, 0, 3] rfl (ih _ _ _ _)
def Jd_fillL_35_B22 (w : Wd) : Option Wd := some w
set_option maxRecDepth 100000 in
set_option maxHeartbeats 4000000 in
theorem Jd_fillL_35_B22_ok {K : Ctx} (F : Fx K cJ7_fill_d0a16 5 RJ7 none 0 0 true [35]) (w : Wd) : N K rtV (Jd_fillL_35_B22 w) w 22 [] [] := by
  rw [Jd_fillL_35_B22]
  exact n_vret F rfl rfl dJ7_fill_d0a16_22
def Jd_fillL_35 (w : Wd) (a2 : Int64) : Option Wd := (Jd_fillL_35_L6 Jd_fillL_35_B22 FU w a2 (0 : Int32) (41 : Int32))
set_option maxRecDepth 100000 in
set_option maxHeartbeats 4000000 in
theorem ct_Jd_fillL_35 {l : Launch} {g : GG} {σ : Sd} (hg : OKg g σ) (hb : σ.2.1 = true) (hx : ∀ c ∈ ([35] : List Nat), c ∈ σ.1) (w : Wd) (a2 : Int64) {q : Wd} (hq : Jd_fillL_35 w a2 = some q) : CT l g σ yJ7_fill_d0a16 cJ7_fill_d0a16 5 none 0 0 [.ref (gA g 35), .long a2] w none q := by
  refine ct_of (rt := rtV) (res := Jd_fillL_35 w a2) (q := q) (own := RJ7) (b := true) hg hb hx (by decide) rfl (Nat.le_of_ble_eq_true rfl) hq (fun K e1 e2 e3 F => ?_)
  subst e1 e2 e3
  rw [Jd_fillL_35]
  show N K _ _ w 0 [(0, .ref (gA (cg K) 35)), (1, .long a2)] []
  refine n_iconst F (0 : Int32) dJ7_fill_d0a16_0 (by decide) ?_
  refine n_istore_n F (lv' := [(3, .int (0 : Int32)), (0, .ref (gA (cg K) 35)), (1, .long a2)]) dJ7_fill_d0a16_1 rfl (by decide) rfl ?_
  refine n_aload_n F dJ7_fill_d0a16_2 rfl 1 rfl ?_
  refine n_alenJ F ar_35 (by decide) (v := (41 : Int32)) (by decide) dJ7_fill_d0a16_3 ?_
  refine n_istore F (lv' := [(4, .int (41 : Int32)), (3, .int (0 : Int32)), (0, .ref (gA (cg K) 35)), (1, .long a2)]) dJ7_fill_d0a16_4 (by decide) rfl ?_
  exact n_sub [2, 3, 1, 0] rfl (Jd_fillL_35_L6_ok F (Jd_fillL_35_B22_ok F) FU _ _ _ _)
def Jd_fillL_36_L6 (k22 : Wd → Option Wd) : Nat → Wd → Int64 → Int32 → Int32 → Option Wd
  | 0, _, _, _, _ => none
  | n + 1, w, v1, v3, v4 => (if v4 ≤ v3 then (k22 w) else (if ib v3 41 = true then (Jd_fillL_36_L6 k22 n (sJ w 36 (Int32.toNatClampNeg v3) v1) v1 (v3 + (1 : Int32)) v4) else none))
set_option maxRecDepth 100000 in
set_option maxHeartbeats 4000000 in
theorem Jd_fillL_36_L6_ok {K : Ctx} (F : Fx K cJ7_fill_d0a16 5 RJ7 none 0 0 true [36]) {k22 : Wd → Option Wd} (h22 : ∀ (w : Wd), N K rtV (k22 w) w 22 [] []) : ∀ (n : Nat) (w : Wd) (v1 : Int64) (v3 : Int32) (v4 : Int32), N K rtV (Jd_fillL_36_L6 k22 n w v1 v3 v4) w 6 [(0, .ref (gA (cg K) 36)), (1, .long v1), (3, .int v3), (4, .int v4)] [] := by
  intro n
  induction n with
  | zero => intro _ _ _ _; exact n_none
  | succ n ih =>
    intro w v1 v3 v4
    rw [Jd_fillL_36_L6]
    refine n_iload_n F dJ7_fill_d0a16_6 rfl 2 rfl ?_
    refine n_iload F dJ7_fill_d0a16_7 3 rfl ?_
    refine n_icmp_ge F 22 dJ7_fill_d0a16_9 (by decide) (fun e1 => ?_) (fun e1 => ?_)
    · rw [if_pos e1]
      exact n_sub [] rfl (h22 _)
    rw [if_neg e1]
    refine n_aload_n F dJ7_fill_d0a16_12 rfl 0 rfl ?_
    refine n_iload_n F dJ7_fill_d0a16_13 rfl 2 rfl ?_
    refine n_lload_n F dJ7_fill_d0a16_14 rfl 1 rfl ?_
    refine n_chk (fun e2 => ?_)
    refine n_last F ar_36 (by decide) (ib_in e2) rfl dJ7_fill_d0a16_15 ?_
    refine n_iinc F (v3 + (1 : Int32)) (lv' := [(3, .int (v3 + (1 : Int32))), (0, .ref (gA (cg K) 36)), (1, .long v1), (4, .int v4)]) dJ7_fill_d0a16_16 2 rfl rfl (by decide) rfl ?_
    refine n_goto F 6 dJ7_fill_d0a16_19 (by decide) ?_
    exact n_sub [1, 2, 0, 3] rfl (ih _ _ _ _)
def Jd_fillL_36_B22 (w : Wd) : Option Wd := some w
set_option maxRecDepth 100000 in
set_option maxHeartbeats 4000000 in
theorem Jd_fillL_36_B22_ok {K : Ctx} (F : Fx K cJ7_fill_d0a16 5 RJ7 none 0 0 true [36]) (w : Wd) : N K rtV (Jd_fillL_36_B22 w) w 22 [] [] := by
  rw [Jd_fillL_36_B22]
  exact n_vret F rfl rfl dJ7_fill_d0a16_22
def Jd_fillL_36 (w : Wd) (a2 : Int64) : Option Wd := (Jd_fillL_36_L6 Jd_fillL_36_B22 FU w a2 (0 : Int32) (41 : Int32))
set_option maxRecDepth 100000 in
set_option maxHeartbeats 4000000 in
theorem ct_Jd_fillL_36 {l : Launch} {g : GG} {σ : Sd} (hg : OKg g σ) (hb : σ.2.1 = true) (hx : ∀ c ∈ ([36] : List Nat), c ∈ σ.1) (w : Wd) (a2 : Int64) {q : Wd} (hq : Jd_fillL_36 w a2 = some q) : CT l g σ yJ7_fill_d0a16 cJ7_fill_d0a16 5 none 0 0 [.ref (gA g 36), .long a2] w none q := by
  refine ct_of (rt := rtV) (res := Jd_fillL_36 w a2) (q := q) (own := RJ7) (b := true) hg hb hx (by decide) rfl (Nat.le_of_ble_eq_true rfl) hq (fun K e1 e2 e3 F => ?_)
  subst e1 e2 e3
  rw [Jd_fillL_36]
  show N K _ _ w 0 [(0, .ref (gA (cg K) 36)), (1, .long a2)] []
  refine n_iconst F (0 : Int32) dJ7_fill_d0a16_0 (by decide) ?_
  refine n_istore_n F (lv' := [(3, .int (0 : Int32)), (0, .ref (gA (cg K) 36)), (1, .long a2)]) dJ7_fill_d0a16_1 rfl (by decide) rfl ?_
  refine n_aload_n F dJ7_fill_d0a16_2 rfl 1 rfl ?_
  refine n_alenJ F ar_36 (by decide) (v := (41 : Int32)) (by decide) dJ7_fill_d0a16_3 ?_
  refine n_istore F (lv' := [(4, .int (41 : Int32)), (3, .int (0 : Int32)), (0, .ref (gA (cg K) 36)), (1, .long a2)]) dJ7_fill_d0a16_4 (by decide) rfl ?_
  exact n_sub [2, 3, 1, 0] rfl (Jd_fillL_36_L6_ok F (Jd_fillL_36_B22_ok F) FU _ _ _ _)
theorem dX4_arrive_0 : decode cX4_arrive 0 = .ok (.iload_n 1, 1) := by decide +kernel
theorem dX4_arrive_1 : decode cX4_arrive 1 = .ok (.iconst 0, 1) := by decide +kernel
theorem dX4_arrive_2 : decode cX4_arrive 2 = .ok (.bipush 40, 2) := by decide +kernel
theorem dX4_arrive_4 : decode cX4_arrive 4 = .ok (.invokestatic 33, 3) := by decide +kernel
theorem dX4_arrive_7 : decode cX4_arrive 7 = .ok (.ifCond .eq 13, 3) := by decide +kernel
theorem dX4_arrive_10 : decode cX4_arrive 10 = .ok (.aload_n 0, 1) := by decide +kernel
theorem dX4_arrive_11 : decode cX4_arrive 11 = .ok (.getfield 26, 3) := by decide +kernel
theorem dX4_arrive_14 : decode cX4_arrive 14 = .ok (.iload_n 1, 1) := by decide +kernel
theorem dX4_arrive_15 : decode cX4_arrive 15 = .ok (.dup2, 1) := by decide +kernel
theorem dX4_arrive_16 : decode cX4_arrive 16 = .ok (.laload, 1) := by decide +kernel
theorem dX4_arrive_17 : decode cX4_arrive 17 = .ok (.lload_n 2, 1) := by decide +kernel
theorem dX4_arrive_18 : decode cX4_arrive 18 = .ok (.ladd, 1) := by decide +kernel
theorem dX4_arrive_19 : decode cX4_arrive 19 = .ok (.lastore, 1) := by decide +kernel
theorem dX4_arrive_20 : decode cX4_arrive 20 = .ok (.return_, 1) := by decide +kernel
def Ri_arrive (w : Wd) (a1 : Int32) (a2 : Int64) : Option Wd := (if (Nt_within w a1 (0 : Int32) (40 : Int32)) = (0 : Int32) then some w else (if ib a1 41 = true then (if ib a1 41 = true then some (sJ w 36 (Int32.toNatClampNeg a1) ((w.2 36 (Int32.toNatClampNeg a1)) + a2)) else none) else none))
set_option maxRecDepth 100000 in
set_option maxHeartbeats 4000000 in
theorem ct_Ri_arrive {l : Launch} {g : GG} {σ : Sd} (hg : OKg g σ) (hb : σ.2.1 = true) (hx : ∀ c ∈ ([32, 36] : List Nat), c ∈ σ.1) (w : Wd) (a1 : Int32) (a2 : Int64) {q : Wd} (hq : Ri_arrive w a1 a2 = some q) : CT l g σ yX4_arrive cX4_arrive 4 none 1 22 [.ref (gA g 32), .int a1, .long a2] w none q := by
  refine ct_of (rt := rtV) (res := Ri_arrive w a1 a2) (q := q) (own := RX4) (b := true) hg hb hx (by decide) rfl (Nat.le_of_ble_eq_true rfl) hq (fun K e1 e2 e3 F => ?_)
  subst e1 e2 e3
  rw [Ri_arrive]
  show N K _ _ w 0 [(0, .ref (gA (cg K) 32)), (1, .int a1), (2, .long a2)] []
  refine n_iload_n F dX4_arrive_0 rfl 1 rfl ?_
  refine n_iconst F (0 : Int32) dX4_arrive_1 (by decide) ?_
  refine n_bipush F (40 : Int32) dX4_arrive_2 (by decide) ?_
  refine n_callSNi F cb_X7_within lm_RX4_33 (ct_Nt_within (fx_ok F) (fx_sd F) (fx_ix F rfl) w a1 (0 : Int32) (40 : Int32)) rfl rfl (Nat.le_of_ble_eq_true rfl) ⟨Nat.le_of_ble_eq_true rfl, Nat.le_of_ble_eq_true rfl⟩ dX4_arrive_4 ?_
  refine n_if_eq F 20 dX4_arrive_7 (by decide) (fun e1 => ?_) (fun e1 => ?_)
  · rw [if_pos e1]
    exact n_vret F rfl rfl dX4_arrive_20
  rw [if_neg e1]
  refine n_aload_n F dX4_arrive_10 rfl 0 rfl ?_
  refine n_get F ck_4 lf_RX4_26 (by decide) fg_32_5 (by decide) dX4_arrive_11 ?_
  refine n_iload_n F dX4_arrive_14 rfl 1 rfl ?_
  refine n_dup2 F dX4_arrive_15 rfl rfl ?_
  refine n_chk (fun e2 => ?_)
  refine n_lald F ar_36 (by decide) (ib_in e2) rfl dX4_arrive_16 ?_
  refine n_lload_n F dX4_arrive_17 rfl 2 rfl ?_
  refine n_ladd F dX4_arrive_18 ?_
  refine n_chk (fun e3 => ?_)
  refine n_last F ar_36 (by decide) (ib_in e3) rfl dX4_arrive_19 ?_
  exact n_vret F rfl rfl dX4_arrive_20
theorem dX4_rideOn_0 : decode cX4_rideOn 0 = .ok (.aload_n 0, 1) := by decide +kernel
theorem dX4_rideOn_1 : decode cX4_rideOn 1 = .ok (.getfield 26, 3) := by decide +kernel
theorem dX4_rideOn_4 : decode cX4_rideOn 4 = .ok (.lconst 0, 1) := by decide +kernel
theorem dX4_rideOn_5 : decode cX4_rideOn 5 = .ok (.invokestatic 62, 3) := by decide +kernel
theorem dX4_rideOn_8 : decode cX4_rideOn 8 = .ok (.bipush 41, 2) := by decide +kernel
theorem dX4_rideOn_10 : decode cX4_rideOn 10 = .ok (.istore_n 3, 1) := by decide +kernel
theorem dX4_rideOn_11 : decode cX4_rideOn 11 = .ok (.bipush 40, 2) := by decide +kernel
theorem dX4_rideOn_13 : decode cX4_rideOn 13 = .ok (.istore 4, 2) := by decide +kernel
theorem dX4_rideOn_15 : decode cX4_rideOn 15 = .ok (.iload 4, 2) := by decide +kernel
theorem dX4_rideOn_17 : decode cX4_rideOn 17 = .ok (.ifCond .lt 70, 3) := by decide +kernel
theorem dX4_rideOn_20 : decode cX4_rideOn 20 = .ok (.aload_n 0, 1) := by decide +kernel
theorem dX4_rideOn_21 : decode cX4_rideOn 21 = .ok (.getfield 29, 3) := by decide +kernel
theorem dX4_rideOn_24 : decode cX4_rideOn 24 = .ok (.iload_n 1, 1) := by decide +kernel
theorem dX4_rideOn_25 : decode cX4_rideOn 25 = .ok (.iload 4, 2) := by decide +kernel
theorem dX4_rideOn_27 : decode cX4_rideOn 27 = .ok (.invokevirtual 74, 3) := by decide +kernel
theorem dX4_rideOn_30 : decode cX4_rideOn 30 = .ok (.ifCond .eq 16, 3) := by decide +kernel
theorem dX4_rideOn_33 : decode cX4_rideOn 33 = .ok (.iload 4, 2) := by decide +kernel
theorem dX4_rideOn_35 : decode cX4_rideOn 35 = .ok (.aload_n 0, 1) := by decide +kernel
theorem dX4_rideOn_36 : decode cX4_rideOn 36 = .ok (.getfield 29, 3) := by decide +kernel
theorem dX4_rideOn_39 : decode cX4_rideOn 39 = .ok (.iload_n 1, 1) := by decide +kernel
theorem dX4_rideOn_40 : decode cX4_rideOn 40 = .ok (.iconst 4, 1) := by decide +kernel
theorem dX4_rideOn_41 : decode cX4_rideOn 41 = .ok (.invokevirtual 54, 3) := by decide +kernel
theorem dX4_rideOn_44 : decode cX4_rideOn 44 = .ok (.iadd, 1) := by decide +kernel
theorem dX4_rideOn_45 : decode cX4_rideOn 45 = .ok (.istore_n 3, 1) := by decide +kernel
theorem dX4_rideOn_46 : decode cX4_rideOn 46 = .ok (.aload_n 0, 1) := by decide +kernel
theorem dX4_rideOn_47 : decode cX4_rideOn 47 = .ok (.iload_n 3, 1) := by decide +kernel
theorem dX4_rideOn_48 : decode cX4_rideOn 48 = .ok (.aload_n 0, 1) := by decide +kernel
theorem dX4_rideOn_49 : decode cX4_rideOn 49 = .ok (.getfield 22, 3) := by decide +kernel
theorem dX4_rideOn_52 : decode cX4_rideOn 52 = .ok (.iload 4, 2) := by decide +kernel
theorem dX4_rideOn_54 : decode cX4_rideOn 54 = .ok (.laload, 1) := by decide +kernel
theorem dX4_rideOn_55 : decode cX4_rideOn 55 = .ok (.bipush 10, 2) := by decide +kernel
theorem dX4_rideOn_57 : decode cX4_rideOn 57 = .ok (.iload_n 2, 1) := by decide +kernel
theorem dX4_rideOn_58 : decode cX4_rideOn 58 = .ok (.isub, 1) := by decide +kernel
theorem dX4_rideOn_59 : decode cX4_rideOn 59 = .ok (.i2l, 1) := by decide +kernel
theorem dX4_rideOn_60 : decode cX4_rideOn 60 = .ok (.lmul, 1) := by decide +kernel
theorem dX4_rideOn_61 : decode cX4_rideOn 61 = .ok (.invokevirtual 78, 3) := by decide +kernel
theorem dX4_rideOn_64 : decode cX4_rideOn 64 = .ok (.aload_n 0, 1) := by decide +kernel
theorem dX4_rideOn_65 : decode cX4_rideOn 65 = .ok (.iload_n 3, 1) := by decide +kernel
theorem dX4_rideOn_66 : decode cX4_rideOn 66 = .ok (.iconst 1, 1) := by decide +kernel
theorem dX4_rideOn_67 : decode cX4_rideOn 67 = .ok (.iadd, 1) := by decide +kernel
theorem dX4_rideOn_68 : decode cX4_rideOn 68 = .ok (.aload_n 0, 1) := by decide +kernel
theorem dX4_rideOn_69 : decode cX4_rideOn 69 = .ok (.getfield 22, 3) := by decide +kernel
theorem dX4_rideOn_72 : decode cX4_rideOn 72 = .ok (.iload 4, 2) := by decide +kernel
theorem dX4_rideOn_74 : decode cX4_rideOn 74 = .ok (.laload, 1) := by decide +kernel
theorem dX4_rideOn_75 : decode cX4_rideOn 75 = .ok (.iload_n 2, 1) := by decide +kernel
theorem dX4_rideOn_76 : decode cX4_rideOn 76 = .ok (.i2l, 1) := by decide +kernel
theorem dX4_rideOn_77 : decode cX4_rideOn 77 = .ok (.lmul, 1) := by decide +kernel
theorem dX4_rideOn_78 : decode cX4_rideOn 78 = .ok (.invokevirtual 78, 3) := by decide +kernel
theorem dX4_rideOn_81 : decode cX4_rideOn 81 = .ok (.iinc 4 (-1), 3) := by decide +kernel
theorem dX4_rideOn_84 : decode cX4_rideOn 84 = .ok (.goto (-69), 3) := by decide +kernel
theorem dX4_rideOn_87 : decode cX4_rideOn 87 = .ok (.aload_n 0, 1) := by decide +kernel
theorem dX4_rideOn_88 : decode cX4_rideOn 88 = .ok (.getfield 26, 3) := by decide +kernel
theorem dX4_rideOn_91 : decode cX4_rideOn 91 = .ok (.iconst 0, 1) := by decide +kernel
theorem dX4_rideOn_92 : decode cX4_rideOn 92 = .ok (.aload_n 0, 1) := by decide +kernel
theorem dX4_rideOn_93 : decode cX4_rideOn 93 = .ok (.getfield 22, 3) := by decide +kernel
theorem dX4_rideOn_96 : decode cX4_rideOn 96 = .ok (.iconst 0, 1) := by decide +kernel
theorem dX4_rideOn_97 : decode cX4_rideOn 97 = .ok (.bipush 41, 2) := by decide +kernel
theorem dX4_rideOn_99 : decode cX4_rideOn 99 = .ok (.invokestatic 42, 3) := by decide +kernel
theorem dX4_rideOn_102 : decode cX4_rideOn 102 = .ok (.return_, 1) := by decide +kernel
def Ri_rideOn_B46 (k15 : Wd → Int32 → Int32 → Int32 → Int32 → Option Wd) (w : Wd) (v1 : Int32) (v2 : Int32) (v3 : Int32) (v4 : Int32) : Option Wd := (if ib v4 41 = true then (Option.bind (Ri_arrive w v3 ((w.2 35 (Int32.toNatClampNeg v4)) * (Int32.toInt64 ((10 : Int32) - v2)))) (fun q6 => (if ib v4 41 = true then (Option.bind (Ri_arrive q6 (v3 + (1 : Int32)) ((q6.2 35 (Int32.toNatClampNeg v4)) * (Int32.toInt64 v2))) (fun q8 => (k15 q8 v1 v2 v3 (v4 + (-1 : Int32))))) else none))) else none)
set_option maxRecDepth 100000 in
set_option maxHeartbeats 4000000 in
theorem Ri_rideOn_B46_ok {K : Ctx} (F : Fx K cX4_rideOn 5 RX4 none 2 46 true [3, 4, 32, 35, 36]) {k15 : Wd → Int32 → Int32 → Int32 → Int32 → Option Wd} (h15 : ∀ (w : Wd) (v1 : Int32) (v2 : Int32) (v3 : Int32) (v4 : Int32), N K rtV (k15 w v1 v2 v3 v4) w 15 [(0, .ref (gA (cg K) 32)), (1, .int v1), (2, .int v2), (3, .int v3), (4, .int v4)] []) (w : Wd) (v1 : Int32) (v2 : Int32) (v3 : Int32) (v4 : Int32) : N K rtV (Ri_rideOn_B46 k15 w v1 v2 v3 v4) w 46 [(0, .ref (gA (cg K) 32)), (1, .int v1), (2, .int v2), (3, .int v3), (4, .int v4)] [] := by
  rw [Ri_rideOn_B46]
  refine n_aload_n F dX4_rideOn_46 rfl 0 rfl ?_
  refine n_iload_n F dX4_rideOn_47 rfl 3 rfl ?_
  refine n_aload_n F dX4_rideOn_48 rfl 0 rfl ?_
  refine n_get F ck_4 lf_RX4_22 (by decide) fg_32_4 (by decide) dX4_rideOn_49 ?_
  refine n_iload F dX4_rideOn_52 4 rfl ?_
  refine n_chk (fun e5 => ?_)
  refine n_lald F ar_35 (by decide) (ib_in e5) rfl dX4_rideOn_54 ?_
  refine n_bipush F (10 : Int32) dX4_rideOn_55 (by decide) ?_
  refine n_iload_n F dX4_rideOn_57 rfl 2 rfl ?_
  refine n_isub F dX4_rideOn_58 ?_
  refine n_i2l F dX4_rideOn_59 ?_
  refine n_lmul F dX4_rideOn_60 ?_
  refine n_bind (fun q6 hq6 => ?_)
  refine n_callVv F cb_X4_arrive lm_RX4_78 ob_32 (by decide) ⟨_, _, rfl⟩ (ct_Ri_arrive (fx_ok F) (fx_sd F) (fx_ix F rfl) w v3 ((w.2 35 (Int32.toNatClampNeg v4)) * (Int32.toInt64 ((10 : Int32) - v2))) hq6) rfl rfl (Nat.le_of_ble_eq_true rfl) ⟨Nat.le_of_ble_eq_true rfl, Nat.le_of_ble_eq_true rfl⟩ dX4_rideOn_61 ?_
  refine n_aload_n F dX4_rideOn_64 rfl 0 rfl ?_
  refine n_iload_n F dX4_rideOn_65 rfl 3 rfl ?_
  refine n_iconst F (1 : Int32) dX4_rideOn_66 (by decide) ?_
  refine n_iadd F dX4_rideOn_67 ?_
  refine n_aload_n F dX4_rideOn_68 rfl 0 rfl ?_
  refine n_get F ck_4 lf_RX4_22 (by decide) fg_32_4 (by decide) dX4_rideOn_69 ?_
  refine n_iload F dX4_rideOn_72 4 rfl ?_
  refine n_chk (fun e7 => ?_)
  refine n_lald F ar_35 (by decide) (ib_in e7) rfl dX4_rideOn_74 ?_
  refine n_iload_n F dX4_rideOn_75 rfl 2 rfl ?_
  refine n_i2l F dX4_rideOn_76 ?_
  refine n_lmul F dX4_rideOn_77 ?_
  refine n_bind (fun q8 hq8 => ?_)
  refine n_callVv F cb_X4_arrive lm_RX4_78 ob_32 (by decide) ⟨_, _, rfl⟩ (ct_Ri_arrive (fx_ok F) (fx_sd F) (fx_ix F rfl) q6 (v3 + (1 : Int32)) ((q6.2 35 (Int32.toNatClampNeg v4)) * (Int32.toInt64 v2)) hq8) rfl rfl (Nat.le_of_ble_eq_true rfl) ⟨Nat.le_of_ble_eq_true rfl, Nat.le_of_ble_eq_true rfl⟩ dX4_rideOn_78 ?_
  refine n_iinc F (v4 + (-1 : Int32)) (lv' := [(4, .int (v4 + (-1 : Int32))), (0, .ref (gA (cg K) 32)), (1, .int v1), (2, .int v2), (3, .int v3)]) dX4_rideOn_81 4 rfl rfl (by decide) rfl ?_
  refine n_goto F 15 dX4_rideOn_84 (by decide) ?_
  exact n_sub [1, 2, 3, 4, 0] rfl (h15 _ _ _ _ _)
def Ri_rideOn_L15 (k87 : Wd → Option Wd) : Nat → Wd → Int32 → Int32 → Int32 → Int32 → Option Wd
  | 0, _, _, _, _, _ => none
  | n + 1, w, v1, v2, v3, v4 => (if v4 < (0 : Int32) then (k87 w) else (Option.bind (La_runsOn w v1 v4) (fun q3 => (if q3 = (0 : Int32) then (Ri_rideOn_B46 (Ri_rideOn_L15 k87 n) w v1 v2 v3 v4) else (Option.bind (La_part w v1 (4 : Int32)) (fun q9 => (Ri_rideOn_B46 (Ri_rideOn_L15 k87 n) w v1 v2 (v4 + q9) v4)))))))
set_option maxRecDepth 100000 in
set_option maxHeartbeats 4000000 in
theorem Ri_rideOn_L15_ok {K : Ctx} (F : Fx K cX4_rideOn 5 RX4 none 2 46 true [3, 4, 32, 35, 36]) {k87 : Wd → Option Wd} (h87 : ∀ (w : Wd), N K rtV (k87 w) w 87 [(0, .ref (gA (cg K) 32))] []) : ∀ (n : Nat) (w : Wd) (v1 : Int32) (v2 : Int32) (v3 : Int32) (v4 : Int32), N K rtV (Ri_rideOn_L15 k87 n w v1 v2 v3 v4) w 15 [(0, .ref (gA (cg K) 32)), (1, .int v1), (2, .int v2), (3, .int v3), (4, .int v4)] [] := by
  intro n
  induction n with
  | zero => intro _ _ _ _ _; exact n_none
  | succ n ih =>
    intro w v1 v2 v3 v4
    rw [Ri_rideOn_L15]
    refine n_iload F dX4_rideOn_15 4 rfl ?_
    refine n_if_lt F 87 dX4_rideOn_17 (by decide) (fun e2 => ?_) (fun e2 => ?_)
    · rw [if_pos e2]
      exact n_sub [0] rfl (h87 _)
    rw [if_neg e2]
    refine n_aload_n F dX4_rideOn_20 rfl 0 rfl ?_
    refine n_get F ck_4 lf_RX4_29 (by decide) fg_32_0 (by decide) dX4_rideOn_21 ?_
    refine n_iload_n F dX4_rideOn_24 rfl 1 rfl ?_
    refine n_iload F dX4_rideOn_25 4 rfl ?_
    refine n_bind (fun q3 hq3 => ?_)
    refine n_callVi F cb_X1_runsOn lm_RX4_74 ob_3 (by decide) ⟨_, _, rfl⟩ (ct_La_runsOn (fx_ok F) (fx_sd F) (fx_ix F rfl) w v1 v4 hq3) rfl rfl (Nat.le_of_ble_eq_true rfl) ⟨Nat.le_of_ble_eq_true rfl, Nat.le_of_ble_eq_true rfl⟩ dX4_rideOn_27 ?_
    refine n_if_eq F 46 dX4_rideOn_30 (by decide) (fun e4 => ?_) (fun e4 => ?_)
    · rw [if_pos e4]
      exact n_sub [0, 1, 2, 3, 4] rfl (Ri_rideOn_B46_ok F ih _ _ _ _ _)
    rw [if_neg e4]
    refine n_iload F dX4_rideOn_33 4 rfl ?_
    refine n_aload_n F dX4_rideOn_35 rfl 0 rfl ?_
    refine n_get F ck_4 lf_RX4_29 (by decide) fg_32_0 (by decide) dX4_rideOn_36 ?_
    refine n_iload_n F dX4_rideOn_39 rfl 1 rfl ?_
    refine n_iconst F (4 : Int32) dX4_rideOn_40 (by decide) ?_
    refine n_bind (fun q9 hq9 => ?_)
    refine n_callVi F cb_X1_part lm_RX4_54 ob_3 (by decide) ⟨_, _, rfl⟩ (ct_La_part (fx_ok F) (fx_sd F) (fx_ix F rfl) w v1 (4 : Int32) hq9) rfl rfl (Nat.le_of_ble_eq_true rfl) ⟨Nat.le_of_ble_eq_true rfl, Nat.le_of_ble_eq_true rfl⟩ dX4_rideOn_41 ?_
    refine n_iadd F dX4_rideOn_44 ?_
    refine n_istore_n F (lv' := [(3, .int (v4 + q9)), (0, .ref (gA (cg K) 32)), (1, .int v1), (2, .int v2), (4, .int v4)]) dX4_rideOn_45 rfl (by decide) rfl ?_
    exact n_sub [1, 2, 3, 0, 4] rfl (Ri_rideOn_B46_ok F ih _ _ _ _ _)
def Ri_rideOn_B87 (w : Wd) : Option Wd := some (cJ w 36 0 35 0 41)
set_option maxRecDepth 100000 in
set_option maxHeartbeats 4000000 in
theorem Ri_rideOn_B87_ok {K : Ctx} (F : Fx K cX4_rideOn 5 RX4 none 2 46 true [3, 4, 32, 35, 36]) (w : Wd) : N K rtV (Ri_rideOn_B87 w) w 87 [(0, .ref (gA (cg K) 32))] [] := by
  rw [Ri_rideOn_B87]
  refine n_aload_n F dX4_rideOn_87 rfl 0 rfl ?_
  refine n_get F ck_4 lf_RX4_26 (by decide) fg_32_5 (by decide) dX4_rideOn_88 ?_
  refine n_iconst F (0 : Int32) dX4_rideOn_91 (by decide) ?_
  refine n_aload_n F dX4_rideOn_92 rfl 0 rfl ?_
  refine n_get F ck_4 lf_RX4_22 (by decide) fg_32_4 (by decide) dX4_rideOn_93 ?_
  refine n_iconst F (0 : Int32) dX4_rideOn_96 (by decide) ?_
  refine n_bipush F (41 : Int32) dX4_rideOn_97 (by decide) ?_
  refine n_copyJ F ar_36 ar_35 (by decide) (by decide) 0 0 41 (by decide) (by decide) (by decide) (by decide) (by decide) (by decide) (by decide) (by decide) la_RX4_42 (Nat.le_of_ble_eq_true rfl) (Nat.le_of_ble_eq_true rfl) dX4_rideOn_99 ?_
  exact n_vret F rfl rfl dX4_rideOn_102
def Ri_rideOn (w : Wd) (a1 : Int32) (a2 : Int32) : Option Wd := (Option.bind (Jd_fillL_36 w (0 : Int64)) (fun q1 => (Ri_rideOn_L15 Ri_rideOn_B87 FU q1 a1 a2 (41 : Int32) (40 : Int32))))
set_option maxRecDepth 100000 in
set_option maxHeartbeats 4000000 in
theorem ct_Ri_rideOn {l : Launch} {g : GG} {σ : Sd} (hg : OKg g σ) (hb : σ.2.1 = true) (hx : ∀ c ∈ ([3, 4, 32, 35, 36] : List Nat), c ∈ σ.1) (w : Wd) (a1 : Int32) (a2 : Int32) {q : Wd} (hq : Ri_rideOn w a1 a2 = some q) : CT l g σ yX4_rideOn cX4_rideOn 5 none 2 46 [.ref (gA g 32), .int a1, .int a2] w none q := by
  refine ct_of (rt := rtV) (res := Ri_rideOn w a1 a2) (q := q) (own := RX4) (b := true) hg hb hx (by decide) rfl (Nat.le_of_ble_eq_true rfl) hq (fun K e1 e2 e3 F => ?_)
  subst e1 e2 e3
  rw [Ri_rideOn]
  show N K _ _ w 0 [(0, .ref (gA (cg K) 32)), (1, .int a1), (2, .int a2)] []
  refine n_aload_n F dX4_rideOn_0 rfl 0 rfl ?_
  refine n_get F ck_4 lf_RX4_26 (by decide) fg_32_5 (by decide) dX4_rideOn_1 ?_
  refine n_lconst F (0 : Int64) dX4_rideOn_4 (by decide) ?_
  refine n_bind (fun q1 hq1 => ?_)
  refine n_callSv F cb_J7_fill_d0a16 lm_RX4_62 (ct_Jd_fillL_36 (fx_ok F) (fx_sd F) (fx_ix F rfl) w (0 : Int64) hq1) rfl rfl (Nat.le_of_ble_eq_true rfl) ⟨Nat.le_of_ble_eq_true rfl, Nat.le_of_ble_eq_true rfl⟩ dX4_rideOn_5 ?_
  refine n_bipush F (41 : Int32) dX4_rideOn_8 (by decide) ?_
  refine n_istore_n F (lv' := [(3, .int (41 : Int32)), (0, .ref (gA (cg K) 32)), (1, .int a1), (2, .int a2)]) dX4_rideOn_10 rfl (by decide) rfl ?_
  refine n_bipush F (40 : Int32) dX4_rideOn_11 (by decide) ?_
  refine n_istore F (lv' := [(4, .int (40 : Int32)), (3, .int (41 : Int32)), (0, .ref (gA (cg K) 32)), (1, .int a1), (2, .int a2)]) dX4_rideOn_13 (by decide) rfl ?_
  exact n_sub [2, 3, 4, 1, 0] rfl (Ri_rideOn_L15_ok F (Ri_rideOn_B87_ok F) FU _ _ _ _ _)
theorem dX4_waysInTime_0 : decode cX4_waysInTime 0 = .ok (.aload_n 0, 1) := by decide +kernel
theorem dX4_waysInTime_1 : decode cX4_waysInTime 1 = .ok (.getfield 22, 3) := by decide +kernel
theorem dX4_waysInTime_4 : decode cX4_waysInTime 4 = .ok (.lconst 0, 1) := by decide +kernel
theorem dX4_waysInTime_5 : decode cX4_waysInTime 5 = .ok (.invokestatic 62, 3) := by decide +kernel
theorem dX4_waysInTime_8 : decode cX4_waysInTime 8 = .ok (.aload_n 0, 1) := by decide +kernel
theorem dX4_waysInTime_9 : decode cX4_waysInTime 9 = .ok (.getfield 22, 3) := by decide +kernel
theorem dX4_waysInTime_12 : decode cX4_waysInTime 12 = .ok (.iconst 0, 1) := by decide +kernel
theorem dX4_waysInTime_13 : decode cX4_waysInTime 13 = .ok (.lconst 1, 1) := by decide +kernel
theorem dX4_waysInTime_14 : decode cX4_waysInTime 14 = .ok (.lastore, 1) := by decide +kernel
theorem dX4_waysInTime_15 : decode cX4_waysInTime 15 = .ok (.aload_n 0, 1) := by decide +kernel
theorem dX4_waysInTime_16 : decode cX4_waysInTime 16 = .ok (.getfield 29, 3) := by decide +kernel
theorem dX4_waysInTime_19 : decode cX4_waysInTime 19 = .ok (.getfield 48, 3) := by decide +kernel
theorem dX4_waysInTime_22 : decode cX4_waysInTime 22 = .ok (.istore_n 3, 1) := by decide +kernel
theorem dX4_waysInTime_23 : decode cX4_waysInTime 23 = .ok (.iconst 0, 1) := by decide +kernel
theorem dX4_waysInTime_24 : decode cX4_waysInTime 24 = .ok (.istore 4, 2) := by decide +kernel
theorem dX4_waysInTime_26 : decode cX4_waysInTime 26 = .ok (.iload 4, 2) := by decide +kernel
theorem dX4_waysInTime_28 : decode cX4_waysInTime 28 = .ok (.aload_n 0, 1) := by decide +kernel
theorem dX4_waysInTime_29 : decode cX4_waysInTime 29 = .ok (.getfield 15, 3) := by decide +kernel
theorem dX4_waysInTime_32 : decode cX4_waysInTime 32 = .ok (.if_icmp .ge 65, 3) := by decide +kernel
theorem dX4_waysInTime_35 : decode cX4_waysInTime 35 = .ok (.iload 4, 2) := by decide +kernel
theorem dX4_waysInTime_37 : decode cX4_waysInTime 37 = .ok (.bipush 12, 2) := by decide +kernel
theorem dX4_waysInTime_39 : decode cX4_waysInTime 39 = .ok (.if_icmp .ge 58, 3) := by decide +kernel
theorem dX4_waysInTime_42 : decode cX4_waysInTime 42 = .ok (.aload_n 0, 1) := by decide +kernel
theorem dX4_waysInTime_43 : decode cX4_waysInTime 43 = .ok (.getfield 29, 3) := by decide +kernel
theorem dX4_waysInTime_46 : decode cX4_waysInTime 46 = .ok (.aload_n 0, 1) := by decide +kernel
theorem dX4_waysInTime_47 : decode cX4_waysInTime 47 = .ok (.getfield 9, 3) := by decide +kernel
theorem dX4_waysInTime_50 : decode cX4_waysInTime 50 = .ok (.iload 4, 2) := by decide +kernel
theorem dX4_waysInTime_52 : decode cX4_waysInTime 52 = .ok (.iaload, 1) := by decide +kernel
theorem dX4_waysInTime_53 : decode cX4_waysInTime 53 = .ok (.iconst 0, 1) := by decide +kernel
theorem dX4_waysInTime_54 : decode cX4_waysInTime 54 = .ok (.invokevirtual 54, 3) := by decide +kernel
theorem dX4_waysInTime_57 : decode cX4_waysInTime 57 = .ok (.iload_n 3, 1) := by decide +kernel
theorem dX4_waysInTime_58 : decode cX4_waysInTime 58 = .ok (.if_icmp .eq 5, 3) := by decide +kernel
theorem dX4_waysInTime_61 : decode cX4_waysInTime 61 = .ok (.lconst 0, 1) := by decide +kernel
theorem dX4_waysInTime_62 : decode cX4_waysInTime 62 = .ok (.lreturn, 1) := by decide +kernel
theorem dX4_waysInTime_63 : decode cX4_waysInTime 63 = .ok (.aload_n 0, 1) := by decide +kernel
theorem dX4_waysInTime_64 : decode cX4_waysInTime 64 = .ok (.aload_n 0, 1) := by decide +kernel
theorem dX4_waysInTime_65 : decode cX4_waysInTime 65 = .ok (.getfield 9, 3) := by decide +kernel
theorem dX4_waysInTime_68 : decode cX4_waysInTime 68 = .ok (.iload 4, 2) := by decide +kernel
theorem dX4_waysInTime_70 : decode cX4_waysInTime 70 = .ok (.iaload, 1) := by decide +kernel
theorem dX4_waysInTime_71 : decode cX4_waysInTime 71 = .ok (.iload_n 1, 1) := by decide +kernel
theorem dX4_waysInTime_72 : decode cX4_waysInTime 72 = .ok (.invokevirtual 68, 3) := by decide +kernel
theorem dX4_waysInTime_75 : decode cX4_waysInTime 75 = .ok (.aload_n 0, 1) := by decide +kernel
theorem dX4_waysInTime_76 : decode cX4_waysInTime 76 = .ok (.getfield 29, 3) := by decide +kernel
theorem dX4_waysInTime_79 : decode cX4_waysInTime 79 = .ok (.aload_n 0, 1) := by decide +kernel
theorem dX4_waysInTime_80 : decode cX4_waysInTime 80 = .ok (.getfield 9, 3) := by decide +kernel
theorem dX4_waysInTime_83 : decode cX4_waysInTime 83 = .ok (.iload 4, 2) := by decide +kernel
theorem dX4_waysInTime_85 : decode cX4_waysInTime 85 = .ok (.iaload, 1) := by decide +kernel
theorem dX4_waysInTime_86 : decode cX4_waysInTime 86 = .ok (.iconst 1, 1) := by decide +kernel
theorem dX4_waysInTime_87 : decode cX4_waysInTime 87 = .ok (.invokevirtual 54, 3) := by decide +kernel
theorem dX4_waysInTime_90 : decode cX4_waysInTime 90 = .ok (.istore_n 3, 1) := by decide +kernel
theorem dX4_waysInTime_91 : decode cX4_waysInTime 91 = .ok (.iinc 4 1, 3) := by decide +kernel
theorem dX4_waysInTime_94 : decode cX4_waysInTime 94 = .ok (.goto (-68), 3) := by decide +kernel
theorem dX4_waysInTime_97 : decode cX4_waysInTime 97 = .ok (.lconst 0, 1) := by decide +kernel
theorem dX4_waysInTime_98 : decode cX4_waysInTime 98 = .ok (.lstore 4, 2) := by decide +kernel
theorem dX4_waysInTime_100 : decode cX4_waysInTime 100 = .ok (.iconst 0, 1) := by decide +kernel
theorem dX4_waysInTime_101 : decode cX4_waysInTime 101 = .ok (.istore 6, 2) := by decide +kernel
theorem dX4_waysInTime_103 : decode cX4_waysInTime 103 = .ok (.iload 6, 2) := by decide +kernel
theorem dX4_waysInTime_105 : decode cX4_waysInTime 105 = .ok (.iload_n 2, 1) := by decide +kernel
theorem dX4_waysInTime_106 : decode cX4_waysInTime 106 = .ok (.if_icmp .gt 28, 3) := by decide +kernel
theorem dX4_waysInTime_109 : decode cX4_waysInTime 109 = .ok (.iload 6, 2) := by decide +kernel
theorem dX4_waysInTime_111 : decode cX4_waysInTime 111 = .ok (.bipush 40, 2) := by decide +kernel
theorem dX4_waysInTime_113 : decode cX4_waysInTime 113 = .ok (.if_icmp .gt 21, 3) := by decide +kernel
theorem dX4_waysInTime_116 : decode cX4_waysInTime 116 = .ok (.lload 4, 2) := by decide +kernel
theorem dX4_waysInTime_118 : decode cX4_waysInTime 118 = .ok (.aload_n 0, 1) := by decide +kernel
theorem dX4_waysInTime_119 : decode cX4_waysInTime 119 = .ok (.getfield 22, 3) := by decide +kernel
theorem dX4_waysInTime_122 : decode cX4_waysInTime 122 = .ok (.iload 6, 2) := by decide +kernel
theorem dX4_waysInTime_124 : decode cX4_waysInTime 124 = .ok (.laload, 1) := by decide +kernel
theorem dX4_waysInTime_125 : decode cX4_waysInTime 125 = .ok (.ladd, 1) := by decide +kernel
theorem dX4_waysInTime_126 : decode cX4_waysInTime 126 = .ok (.lstore 4, 2) := by decide +kernel
theorem dX4_waysInTime_128 : decode cX4_waysInTime 128 = .ok (.iinc 6 1, 3) := by decide +kernel
theorem dX4_waysInTime_131 : decode cX4_waysInTime 131 = .ok (.goto (-28), 3) := by decide +kernel
theorem dX4_waysInTime_134 : decode cX4_waysInTime 134 = .ok (.lload 4, 2) := by decide +kernel
theorem dX4_waysInTime_136 : decode cX4_waysInTime 136 = .ok (.lreturn, 1) := by decide +kernel
def Ri_waysInTime_L26 (k61 : Wd → Option (Int64 × Wd)) (k97 : Wd → Int32 → Option (Int64 × Wd)) : Nat → Wd → Int32 → Int32 → Int32 → Int32 → Option (Int64 × Wd)
  | 0, _, _, _, _, _ => none
  | n + 1, w, v1, v2, v3, v4 => (if (w.1 32 2) ≤ v4 then (k97 w v2) else (if (12 : Int32) ≤ v4 then (k97 w v2) else (if ib v4 12 = true then (Option.bind (La_part w (w.1 33 (Int32.toNatClampNeg v4)) (0 : Int32)) (fun q5 => (if q5 = v3 then (if ib v4 12 = true then (Option.bind (Ri_rideOn w (w.1 33 (Int32.toNatClampNeg v4)) v1) (fun q8 => (if ib v4 12 = true then (Option.bind (La_part q8 (q8.1 33 (Int32.toNatClampNeg v4)) (1 : Int32)) (fun q10 => (Ri_waysInTime_L26 k61 k97 n q8 v1 v2 q10 (v4 + (1 : Int32))))) else none))) else none) else (k61 w)))) else none)))
set_option maxRecDepth 100000 in
set_option maxHeartbeats 4000000 in
theorem Ri_waysInTime_L26_ok {K : Ctx} (F : Fx K cX4_waysInTime 7 RX4 (some .long) 3 70 true [3, 4, 32, 33, 35, 36]) {k61 : Wd → Option (Int64 × Wd)} (h61 : ∀ (w : Wd), N K rtJ (k61 w) w 61 [] []) {k97 : Wd → Int32 → Option (Int64 × Wd)} (h97 : ∀ (w : Wd) (v2 : Int32), N K rtJ (k97 w v2) w 97 [(0, .ref (gA (cg K) 32)), (2, .int v2)] []) : ∀ (n : Nat) (w : Wd) (v1 : Int32) (v2 : Int32) (v3 : Int32) (v4 : Int32), N K rtJ (Ri_waysInTime_L26 k61 k97 n w v1 v2 v3 v4) w 26 [(0, .ref (gA (cg K) 32)), (1, .int v1), (2, .int v2), (3, .int v3), (4, .int v4)] [] := by
  intro n
  induction n with
  | zero => intro _ _ _ _ _; exact n_none
  | succ n ih =>
    intro w v1 v2 v3 v4
    rw [Ri_waysInTime_L26]
    refine n_iload F dX4_waysInTime_26 4 rfl ?_
    refine n_aload_n F dX4_waysInTime_28 rfl 0 rfl ?_
    refine n_get F ck_4 lf_RX4_15 (by decide) fg_32_2 (by decide) dX4_waysInTime_29 ?_
    refine n_icmp_ge F 97 dX4_waysInTime_32 (by decide) (fun e2 => ?_) (fun e2 => ?_)
    · rw [if_pos e2]
      exact n_sub [0, 2] rfl (h97 _ _)
    rw [if_neg e2]
    refine n_iload F dX4_waysInTime_35 4 rfl ?_
    refine n_bipush F (12 : Int32) dX4_waysInTime_37 (by decide) ?_
    refine n_icmp_ge F 97 dX4_waysInTime_39 (by decide) (fun e3 => ?_) (fun e3 => ?_)
    · rw [if_pos e3]
      exact n_sub [0, 2] rfl (h97 _ _)
    rw [if_neg e3]
    refine n_aload_n F dX4_waysInTime_42 rfl 0 rfl ?_
    refine n_get F ck_4 lf_RX4_29 (by decide) fg_32_0 (by decide) dX4_waysInTime_43 ?_
    refine n_aload_n F dX4_waysInTime_46 rfl 0 rfl ?_
    refine n_get F ck_4 lf_RX4_9 (by decide) fg_32_1 (by decide) dX4_waysInTime_47 ?_
    refine n_iload F dX4_waysInTime_50 4 rfl ?_
    refine n_chk (fun e4 => ?_)
    refine n_iald F ar_33 (by decide) (ib_in e4) rfl dX4_waysInTime_52 ?_
    refine n_iconst F (0 : Int32) dX4_waysInTime_53 (by decide) ?_
    refine n_bind (fun q5 hq5 => ?_)
    refine n_callVi F cb_X1_part lm_RX4_54 ob_3 (by decide) ⟨_, _, rfl⟩ (ct_La_part (fx_ok F) (fx_sd F) (fx_ix F rfl) w (w.1 33 (Int32.toNatClampNeg v4)) (0 : Int32) hq5) rfl rfl (Nat.le_of_ble_eq_true rfl) ⟨Nat.le_of_ble_eq_true rfl, Nat.le_of_ble_eq_true rfl⟩ dX4_waysInTime_54 ?_
    refine n_iload_n F dX4_waysInTime_57 rfl 3 rfl ?_
    refine n_icmp_eq F 63 dX4_waysInTime_58 (by decide) (fun e6 => ?_) (fun e6 => ?_)
    · rw [if_pos e6]
      refine n_aload_n F dX4_waysInTime_63 rfl 0 rfl ?_
      refine n_aload_n F dX4_waysInTime_64 rfl 0 rfl ?_
      refine n_get F ck_4 lf_RX4_9 (by decide) fg_32_1 (by decide) dX4_waysInTime_65 ?_
      refine n_iload F dX4_waysInTime_68 4 rfl ?_
      refine n_chk (fun e7 => ?_)
      refine n_iald F ar_33 (by decide) (ib_in e7) rfl dX4_waysInTime_70 ?_
      refine n_iload_n F dX4_waysInTime_71 rfl 1 rfl ?_
      refine n_bind (fun q8 hq8 => ?_)
      refine n_callVv F cb_X4_rideOn lm_RX4_68 ob_32 (by decide) ⟨_, _, rfl⟩ (ct_Ri_rideOn (fx_ok F) (fx_sd F) (fx_ix F rfl) w (w.1 33 (Int32.toNatClampNeg v4)) v1 hq8) rfl rfl (Nat.le_of_ble_eq_true rfl) ⟨Nat.le_of_ble_eq_true rfl, Nat.le_of_ble_eq_true rfl⟩ dX4_waysInTime_72 ?_
      refine n_aload_n F dX4_waysInTime_75 rfl 0 rfl ?_
      refine n_get F ck_4 lf_RX4_29 (by decide) fg_32_0 (by decide) dX4_waysInTime_76 ?_
      refine n_aload_n F dX4_waysInTime_79 rfl 0 rfl ?_
      refine n_get F ck_4 lf_RX4_9 (by decide) fg_32_1 (by decide) dX4_waysInTime_80 ?_
      refine n_iload F dX4_waysInTime_83 4 rfl ?_
      refine n_chk (fun e9 => ?_)
      refine n_iald F ar_33 (by decide) (ib_in e9) rfl dX4_waysInTime_85 ?_
      refine n_iconst F (1 : Int32) dX4_waysInTime_86 (by decide) ?_
      refine n_bind (fun q10 hq10 => ?_)
      refine n_callVi F cb_X1_part lm_RX4_54 ob_3 (by decide) ⟨_, _, rfl⟩ (ct_La_part (fx_ok F) (fx_sd F) (fx_ix F rfl) q8 (q8.1 33 (Int32.toNatClampNeg v4)) (1 : Int32) hq10) rfl rfl (Nat.le_of_ble_eq_true rfl) ⟨Nat.le_of_ble_eq_true rfl, Nat.le_of_ble_eq_true rfl⟩ dX4_waysInTime_87 ?_
      refine n_istore_n F (lv' := [(3, .int q10), (0, .ref (gA (cg K) 32)), (1, .int v1), (2, .int v2), (4, .int v4)]) dX4_waysInTime_90 rfl (by decide) rfl ?_
      refine n_iinc F (v4 + (1 : Int32)) (lv' := [(4, .int (v4 + (1 : Int32))), (3, .int q10), (0, .ref (gA (cg K) 32)), (1, .int v1), (2, .int v2)]) dX4_waysInTime_91 4 rfl rfl (by decide) rfl ?_
      refine n_goto F 26 dX4_waysInTime_94 (by decide) ?_
      exact n_sub [2, 3, 4, 1, 0] rfl (ih _ _ _ _ _)
    rw [if_neg e6]
    exact n_sub [] rfl (h61 _)
def Ri_waysInTime_B61 (w : Wd) : Option (Int64 × Wd) := some ((0 : Int64), w)
set_option maxRecDepth 100000 in
set_option maxHeartbeats 4000000 in
theorem Ri_waysInTime_B61_ok {K : Ctx} (F : Fx K cX4_waysInTime 7 RX4 (some .long) 3 70 true [3, 4, 32, 33, 35, 36]) (w : Wd) : N K rtJ (Ri_waysInTime_B61 w) w 61 [] [] := by
  rw [Ri_waysInTime_B61]
  refine n_lconst F (0 : Int64) dX4_waysInTime_61 (by decide) ?_
  exact n_lret F rfl rfl dX4_waysInTime_62
def Ri_waysInTime_L103 (k134 : Wd → Int64 → Option (Int64 × Wd)) : Nat → Wd → Int32 → Int64 → Int32 → Option (Int64 × Wd)
  | 0, _, _, _, _ => none
  | n + 1, w, v2, v4, v6 => (if v2 < v6 then (k134 w v4) else (if (40 : Int32) < v6 then (k134 w v4) else (if ib v6 41 = true then (Ri_waysInTime_L103 k134 n w v2 (v4 + (w.2 35 (Int32.toNatClampNeg v6))) (v6 + (1 : Int32))) else none)))
set_option maxRecDepth 100000 in
set_option maxHeartbeats 4000000 in
theorem Ri_waysInTime_L103_ok {K : Ctx} (F : Fx K cX4_waysInTime 7 RX4 (some .long) 3 70 true [3, 4, 32, 33, 35, 36]) {k134 : Wd → Int64 → Option (Int64 × Wd)} (h134 : ∀ (w : Wd) (v4 : Int64), N K rtJ (k134 w v4) w 134 [(4, .long v4)] []) : ∀ (n : Nat) (w : Wd) (v2 : Int32) (v4 : Int64) (v6 : Int32), N K rtJ (Ri_waysInTime_L103 k134 n w v2 v4 v6) w 103 [(0, .ref (gA (cg K) 32)), (2, .int v2), (4, .long v4), (6, .int v6)] [] := by
  intro n
  induction n with
  | zero => intro _ _ _ _; exact n_none
  | succ n ih =>
    intro w v2 v4 v6
    rw [Ri_waysInTime_L103]
    refine n_iload F dX4_waysInTime_103 3 rfl ?_
    refine n_iload_n F dX4_waysInTime_105 rfl 1 rfl ?_
    refine n_icmp_gt F 134 dX4_waysInTime_106 (by decide) (fun e11 => ?_) (fun e11 => ?_)
    · rw [if_pos e11]
      exact n_sub [2] rfl (h134 _ _)
    rw [if_neg e11]
    refine n_iload F dX4_waysInTime_109 3 rfl ?_
    refine n_bipush F (40 : Int32) dX4_waysInTime_111 (by decide) ?_
    refine n_icmp_gt F 134 dX4_waysInTime_113 (by decide) (fun e12 => ?_) (fun e12 => ?_)
    · rw [if_pos e12]
      exact n_sub [2] rfl (h134 _ _)
    rw [if_neg e12]
    refine n_lload F dX4_waysInTime_116 2 rfl ?_
    refine n_aload_n F dX4_waysInTime_118 rfl 0 rfl ?_
    refine n_get F ck_4 lf_RX4_22 (by decide) fg_32_4 (by decide) dX4_waysInTime_119 ?_
    refine n_iload F dX4_waysInTime_122 3 rfl ?_
    refine n_chk (fun e13 => ?_)
    refine n_lald F ar_35 (by decide) (ib_in e13) rfl dX4_waysInTime_124 ?_
    refine n_ladd F dX4_waysInTime_125 ?_
    refine n_lstore F (lv' := [(4, .long (v4 + (w.2 35 (Int32.toNatClampNeg v6)))), (0, .ref (gA (cg K) 32)), (2, .int v2), (6, .int v6)]) dX4_waysInTime_126 (by decide) rfl ?_
    refine n_iinc F (v6 + (1 : Int32)) (lv' := [(6, .int (v6 + (1 : Int32))), (4, .long (v4 + (w.2 35 (Int32.toNatClampNeg v6)))), (0, .ref (gA (cg K) 32)), (2, .int v2)]) dX4_waysInTime_128 3 rfl rfl (by decide) rfl ?_
    refine n_goto F 103 dX4_waysInTime_131 (by decide) ?_
    exact n_sub [2, 3, 1, 0] rfl (ih _ _ _ _)
def Ri_waysInTime_B134 (w : Wd) (v4 : Int64) : Option (Int64 × Wd) := some (v4, w)
set_option maxRecDepth 100000 in
set_option maxHeartbeats 4000000 in
theorem Ri_waysInTime_B134_ok {K : Ctx} (F : Fx K cX4_waysInTime 7 RX4 (some .long) 3 70 true [3, 4, 32, 33, 35, 36]) (w : Wd) (v4 : Int64) : N K rtJ (Ri_waysInTime_B134 w v4) w 134 [(4, .long v4)] [] := by
  rw [Ri_waysInTime_B134]
  refine n_lload F dX4_waysInTime_134 0 rfl ?_
  exact n_lret F rfl rfl dX4_waysInTime_136
def Ri_waysInTime_B97 (w : Wd) (v2 : Int32) : Option (Int64 × Wd) := (Ri_waysInTime_L103 Ri_waysInTime_B134 FU w v2 (0 : Int64) (0 : Int32))
set_option maxRecDepth 100000 in
set_option maxHeartbeats 4000000 in
theorem Ri_waysInTime_B97_ok {K : Ctx} (F : Fx K cX4_waysInTime 7 RX4 (some .long) 3 70 true [3, 4, 32, 33, 35, 36]) (w : Wd) (v2 : Int32) : N K rtJ (Ri_waysInTime_B97 w v2) w 97 [(0, .ref (gA (cg K) 32)), (2, .int v2)] [] := by
  rw [Ri_waysInTime_B97]
  refine n_lconst F (0 : Int64) dX4_waysInTime_97 (by decide) ?_
  refine n_lstore F (lv' := [(4, .long (0 : Int64)), (0, .ref (gA (cg K) 32)), (2, .int v2)]) dX4_waysInTime_98 (by decide) rfl ?_
  refine n_iconst F (0 : Int32) dX4_waysInTime_100 (by decide) ?_
  refine n_istore F (lv' := [(6, .int (0 : Int32)), (4, .long (0 : Int64)), (0, .ref (gA (cg K) 32)), (2, .int v2)]) dX4_waysInTime_101 (by decide) rfl ?_
  exact n_sub [2, 3, 1, 0] rfl (Ri_waysInTime_L103_ok F (Ri_waysInTime_B134_ok F) FU _ _ _ _)
def Ri_waysInTime (w : Wd) (a1 : Int32) (a2 : Int32) : Option (Int64 × Wd) := (Option.bind (Jd_fillL_35 w (0 : Int64)) (fun q1 => (Ri_waysInTime_L26 Ri_waysInTime_B61 Ri_waysInTime_B97 FU (sJ q1 35 0 (1 : Int64)) a1 a2 ((sJ q1 35 0 (1 : Int64)).1 3 2) (0 : Int32))))
set_option maxRecDepth 100000 in
set_option maxHeartbeats 4000000 in
theorem ct_Ri_waysInTime {l : Launch} {g : GG} {σ : Sd} (hg : OKg g σ) (hb : σ.2.1 = true) (hx : ∀ c ∈ ([3, 4, 32, 33, 35, 36] : List Nat), c ∈ σ.1) (w : Wd) (a1 : Int32) (a2 : Int32) {q : Int64 × Wd} (hq : Ri_waysInTime w a1 a2 = some q) : CT l g σ yX4_waysInTime cX4_waysInTime 7 (some .long) 3 70 [.ref (gA g 32), .int a1, .int a2] w (some (.long q.1)) q.2 := by
  refine ct_of (rt := rtJ) (res := Ri_waysInTime w a1 a2) (q := q) (own := RX4) (b := true) hg hb hx (by decide) rfl (Nat.le_of_ble_eq_true rfl) hq (fun K e1 e2 e3 F => ?_)
  subst e1 e2 e3
  rw [Ri_waysInTime]
  show N K _ _ w 0 [(0, .ref (gA (cg K) 32)), (1, .int a1), (2, .int a2)] []
  refine n_aload_n F dX4_waysInTime_0 rfl 0 rfl ?_
  refine n_get F ck_4 lf_RX4_22 (by decide) fg_32_4 (by decide) dX4_waysInTime_1 ?_
  refine n_lconst F (0 : Int64) dX4_waysInTime_4 (by decide) ?_
  refine n_bind (fun q1 hq1 => ?_)
  refine n_callSv F cb_J7_fill_d0a16 lm_RX4_62 (ct_Jd_fillL_35 (fx_ok F) (fx_sd F) (fx_ix F rfl) w (0 : Int64) hq1) rfl rfl (Nat.le_of_ble_eq_true rfl) ⟨Nat.le_of_ble_eq_true rfl, Nat.le_of_ble_eq_true rfl⟩ dX4_waysInTime_5 ?_
  refine n_aload_n F dX4_waysInTime_8 rfl 0 rfl ?_
  refine n_get F ck_4 lf_RX4_22 (by decide) fg_32_4 (by decide) dX4_waysInTime_9 ?_
  refine n_iconst F (0 : Int32) dX4_waysInTime_12 (by decide) ?_
  refine n_lconst F (1 : Int64) dX4_waysInTime_13 (by decide) ?_
  refine n_last F ar_35 (by decide) (ib_c (n := 41) (by decide)) (j := 0) (by decide) dX4_waysInTime_14 ?_
  refine n_aload_n F dX4_waysInTime_15 rfl 0 rfl ?_
  refine n_get F ck_4 lf_RX4_29 (by decide) fg_32_0 (by decide) dX4_waysInTime_16 ?_
  refine n_get F ck_1 lf_RX4_48 (by decide) fg_3_2 (by decide) dX4_waysInTime_19 ?_
  refine n_istore_n F (lv' := [(3, .int ((sJ q1 35 0 (1 : Int64)).1 3 2)), (0, .ref (gA (cg K) 32)), (1, .int a1), (2, .int a2)]) dX4_waysInTime_22 rfl (by decide) rfl ?_
  refine n_iconst F (0 : Int32) dX4_waysInTime_23 (by decide) ?_
  refine n_istore F (lv' := [(4, .int (0 : Int32)), (3, .int ((sJ q1 35 0 (1 : Int64)).1 3 2)), (0, .ref (gA (cg K) 32)), (1, .int a1), (2, .int a2)]) dX4_waysInTime_24 (by decide) rfl ?_
  exact n_sub [2, 3, 4, 1, 0] rfl (Ri_waysInTime_L26_ok F (Ri_waysInTime_B61_ok F) (Ri_waysInTime_B97_ok F) FU _ _ _ _ _)
theorem dX4_waysInAll_0 : decode cX4_waysInAll 0 = .ok (.lconst 1, 1) := by decide +kernel
theorem dX4_waysInAll_1 : decode cX4_waysInAll 1 = .ok (.lstore_n 1, 1) := by decide +kernel
theorem dX4_waysInAll_2 : decode cX4_waysInAll 2 = .ok (.iconst 0, 1) := by decide +kernel
theorem dX4_waysInAll_3 : decode cX4_waysInAll 3 = .ok (.istore_n 3, 1) := by decide +kernel
theorem dX4_waysInAll_4 : decode cX4_waysInAll 4 = .ok (.iload_n 3, 1) := by decide +kernel
theorem dX4_waysInAll_5 : decode cX4_waysInAll 5 = .ok (.aload_n 0, 1) := by decide +kernel
theorem dX4_waysInAll_6 : decode cX4_waysInAll 6 = .ok (.getfield 15, 3) := by decide +kernel
theorem dX4_waysInAll_9 : decode cX4_waysInAll 9 = .ok (.if_icmp .ge 21, 3) := by decide +kernel
theorem dX4_waysInAll_12 : decode cX4_waysInAll 12 = .ok (.iload_n 3, 1) := by decide +kernel
theorem dX4_waysInAll_13 : decode cX4_waysInAll 13 = .ok (.bipush 12, 2) := by decide +kernel
theorem dX4_waysInAll_15 : decode cX4_waysInAll 15 = .ok (.if_icmp .ge 15, 3) := by decide +kernel
theorem dX4_waysInAll_18 : decode cX4_waysInAll 18 = .ok (.lload_n 1, 1) := by decide +kernel
theorem dX4_waysInAll_19 : decode cX4_waysInAll 19 = .ok (.ldc2_w 72, 3) := by decide +kernel
theorem dX4_waysInAll_22 : decode cX4_waysInAll 22 = .ok (.lmul, 1) := by decide +kernel
theorem dX4_waysInAll_23 : decode cX4_waysInAll 23 = .ok (.lstore_n 1, 1) := by decide +kernel
theorem dX4_waysInAll_24 : decode cX4_waysInAll 24 = .ok (.iinc 3 1, 3) := by decide +kernel
theorem dX4_waysInAll_27 : decode cX4_waysInAll 27 = .ok (.goto (-23), 3) := by decide +kernel
theorem dX4_waysInAll_30 : decode cX4_waysInAll 30 = .ok (.lload_n 1, 1) := by decide +kernel
theorem dX4_waysInAll_31 : decode cX4_waysInAll 31 = .ok (.lreturn, 1) := by decide +kernel
def Ri_waysInAll_L4 (w : Wd) (k30 : Int64 → Option Int64) : Nat → Int64 → Int32 → Option Int64
  | 0, _, _ => none
  | n + 1, v1, v3 => (if (w.1 32 2) ≤ v3 then (k30 v1) else (if (12 : Int32) ≤ v3 then (k30 v1) else (Ri_waysInAll_L4 w k30 n (v1 * (10 : Int64)) (v3 + (1 : Int32)))))
set_option maxRecDepth 100000 in
set_option maxHeartbeats 4000000 in
theorem Ri_waysInAll_L4_ok {K : Ctx} (F : Fx K cX4_waysInAll 4 RX4 (some .long) 0 0 true [32]) (w : Wd) {k30 : Int64 → Option Int64} (h30 : ∀ (v1 : Int64), N K (rtQ w) (k30 v1) w 30 [(1, .long v1)] []) : ∀ (n : Nat) (v1 : Int64) (v3 : Int32), N K (rtQ w) (Ri_waysInAll_L4 w k30 n v1 v3) w 4 [(0, .ref (gA (cg K) 32)), (1, .long v1), (3, .int v3)] [] := by
  intro n
  induction n with
  | zero => intro _ _; exact n_none
  | succ n ih =>
    intro v1 v3
    rw [Ri_waysInAll_L4]
    refine n_iload_n F dX4_waysInAll_4 rfl 2 rfl ?_
    refine n_aload_n F dX4_waysInAll_5 rfl 0 rfl ?_
    refine n_get F ck_4 lf_RX4_15 (by decide) fg_32_2 (by decide) dX4_waysInAll_6 ?_
    refine n_icmp_ge F 30 dX4_waysInAll_9 (by decide) (fun e1 => ?_) (fun e1 => ?_)
    · rw [if_pos e1]
      exact n_sub [1] rfl (h30 _)
    rw [if_neg e1]
    refine n_iload_n F dX4_waysInAll_12 rfl 2 rfl ?_
    refine n_bipush F (12 : Int32) dX4_waysInAll_13 (by decide) ?_
    refine n_icmp_ge F 30 dX4_waysInAll_15 (by decide) (fun e2 => ?_) (fun e2 => ?_)
    · rw [if_pos e2]
      exact n_sub [1] rfl (h30 _)
    rw [if_neg e2]
    refine n_lload_n F dX4_waysInAll_18 rfl 1 rfl ?_
    refine n_ldc2 F (10 : Int64) dX4_waysInAll_19 kc_RX4_72 ?_
    refine n_lmul F dX4_waysInAll_22 ?_
    refine n_lstore_n F (lv' := [(1, .long (v1 * (10 : Int64))), (0, .ref (gA (cg K) 32)), (3, .int v3)]) dX4_waysInAll_23 rfl (by decide) rfl ?_
    refine n_iinc F (v3 + (1 : Int32)) (lv' := [(3, .int (v3 + (1 : Int32))), (1, .long (v1 * (10 : Int64))), (0, .ref (gA (cg K) 32))]) dX4_waysInAll_24 2 rfl rfl (by decide) rfl ?_
    refine n_goto F 4 dX4_waysInAll_27 (by decide) ?_
    exact n_sub [2, 1, 0] rfl (ih _ _)
def Ri_waysInAll_B30 (w : Wd) (v1 : Int64) : Option Int64 := some v1
set_option maxRecDepth 100000 in
set_option maxHeartbeats 4000000 in
theorem Ri_waysInAll_B30_ok {K : Ctx} (F : Fx K cX4_waysInAll 4 RX4 (some .long) 0 0 true [32]) (w : Wd) (v1 : Int64) : N K (rtQ w) (Ri_waysInAll_B30 w v1) w 30 [(1, .long v1)] [] := by
  rw [Ri_waysInAll_B30]
  refine n_lload_n F dX4_waysInAll_30 rfl 0 rfl ?_
  exact n_lret F rfl rfl dX4_waysInAll_31
def Ri_waysInAll (w : Wd) : Option Int64 := (Ri_waysInAll_L4 w (Ri_waysInAll_B30 w) FU (1 : Int64) (0 : Int32))
set_option maxRecDepth 100000 in
set_option maxHeartbeats 4000000 in
theorem ct_Ri_waysInAll {l : Launch} {g : GG} {σ : Sd} (hg : OKg g σ) (hb : σ.2.1 = true) (hx : ∀ c ∈ ([32] : List Nat), c ∈ σ.1) (w : Wd) {q : Int64} (hq : Ri_waysInAll w = some q) : CT l g σ yX4_waysInAll cX4_waysInAll 4 (some .long) 0 0 [.ref (gA g 32)] w (some (.long q)) w := by
  refine ct_of (rt := (rtQ w)) (res := Ri_waysInAll w) (q := q) (own := RX4) (b := true) hg hb hx (by decide) rfl (Nat.le_of_ble_eq_true rfl) hq (fun K e1 e2 e3 F => ?_)
  subst e1 e2 e3
  rw [Ri_waysInAll]
  show N K _ _ w 0 [(0, .ref (gA (cg K) 32))] []
  refine n_lconst F (1 : Int64) dX4_waysInAll_0 (by decide) ?_
  refine n_lstore_n F (lv' := [(1, .long (1 : Int64)), (0, .ref (gA (cg K) 32))]) dX4_waysInAll_1 rfl (by decide) rfl ?_
  refine n_iconst F (0 : Int32) dX4_waysInAll_2 (by decide) ?_
  refine n_istore_n F (lv' := [(3, .int (0 : Int32)), (1, .long (1 : Int64)), (0, .ref (gA (cg K) 32))]) dX4_waysInAll_3 rfl (by decide) rfl ?_
  exact n_sub [2, 1, 0] rfl (Ri_waysInAll_L4_ok F w (Ri_waysInAll_B30_ok F w) FU _ _)
def Jd_fillI_16_L5 (k20 : Wd → Option Wd) : Nat → Wd → Int32 → Int32 → Int32 → Option Wd
  | 0, _, _, _, _ => none
  | n + 1, w, v1, v2, v3 => (if v3 ≤ v2 then (k20 w) else (if ib v2 2 = true then (Jd_fillI_16_L5 k20 n (sI w 16 (Int32.toNatClampNeg v2) v1) v1 (v2 + (1 : Int32)) v3) else none))
set_option maxRecDepth 100000 in
set_option maxHeartbeats 4000000 in
theorem Jd_fillI_16_L5_ok {K : Ctx} (F : Fx K cJ7_fill_53178 4 RJ7 none 0 0 true [16]) {k20 : Wd → Option Wd} (h20 : ∀ (w : Wd), N K rtV (k20 w) w 20 [] []) : ∀ (n : Nat) (w : Wd) (v1 : Int32) (v2 : Int32) (v3 : Int32), N K rtV (Jd_fillI_16_L5 k20 n w v1 v2 v3) w 5 [(0, .ref (gA (cg K) 16)), (1, .int v1), (2, .int v2), (3, .int v3)] [] := by
  intro n
  induction n with
  | zero => intro _ _ _ _; exact n_none
  | succ n ih =>
    intro w v1 v2 v3
    rw [Jd_fillI_16_L5]
    refine n_iload_n F dJ7_fill_53178_5 rfl 2 rfl ?_
    refine n_iload_n F dJ7_fill_53178_6 rfl 3 rfl ?_
    refine n_icmp_ge F 20 dJ7_fill_53178_7 (by decide) (fun e1 => ?_) (fun e1 => ?_)
    · rw [if_pos e1]
      exact n_sub [] rfl (h20 _)
    rw [if_neg e1]
    refine n_aload_n F dJ7_fill_53178_10 rfl 0 rfl ?_
    refine n_iload_n F dJ7_fill_53178_11 rfl 2 rfl ?_
    refine n_iload_n F dJ7_fill_53178_12 rfl 1 rfl ?_
    refine n_chk (fun e2 => ?_)
    refine n_iast F ar_16 (by decide) (ib_in e2) rfl dJ7_fill_53178_13 ?_
    refine n_iinc F (v2 + (1 : Int32)) (lv' := [(2, .int (v2 + (1 : Int32))), (0, .ref (gA (cg K) 16)), (1, .int v1), (3, .int v3)]) dJ7_fill_53178_14 2 rfl rfl (by decide) rfl ?_
    refine n_goto F 5 dJ7_fill_53178_17 (by decide) ?_
    exact n_sub [1, 2, 0, 3] rfl (ih _ _ _ _)
def Jd_fillI_16_B20 (w : Wd) : Option Wd := some w
set_option maxRecDepth 100000 in
set_option maxHeartbeats 4000000 in
theorem Jd_fillI_16_B20_ok {K : Ctx} (F : Fx K cJ7_fill_53178 4 RJ7 none 0 0 true [16]) (w : Wd) : N K rtV (Jd_fillI_16_B20 w) w 20 [] [] := by
  rw [Jd_fillI_16_B20]
  exact n_vret F rfl rfl dJ7_fill_53178_20
def Jd_fillI_16 (w : Wd) (a2 : Int32) : Option Wd := (Jd_fillI_16_L5 Jd_fillI_16_B20 FU w a2 (0 : Int32) (2 : Int32))
set_option maxRecDepth 100000 in
set_option maxHeartbeats 4000000 in
theorem ct_Jd_fillI_16 {l : Launch} {g : GG} {σ : Sd} (hg : OKg g σ) (hb : σ.2.1 = true) (hx : ∀ c ∈ ([16] : List Nat), c ∈ σ.1) (w : Wd) (a2 : Int32) {q : Wd} (hq : Jd_fillI_16 w a2 = some q) : CT l g σ yJ7_fill_53178 cJ7_fill_53178 4 none 0 0 [.ref (gA g 16), .int a2] w none q := by
  refine ct_of (rt := rtV) (res := Jd_fillI_16 w a2) (q := q) (own := RJ7) (b := true) hg hb hx (by decide) rfl (Nat.le_of_ble_eq_true rfl) hq (fun K e1 e2 e3 F => ?_)
  subst e1 e2 e3
  rw [Jd_fillI_16]
  show N K _ _ w 0 [(0, .ref (gA (cg K) 16)), (1, .int a2)] []
  refine n_iconst F (0 : Int32) dJ7_fill_53178_0 (by decide) ?_
  refine n_istore_n F (lv' := [(2, .int (0 : Int32)), (0, .ref (gA (cg K) 16)), (1, .int a2)]) dJ7_fill_53178_1 rfl (by decide) rfl ?_
  refine n_aload_n F dJ7_fill_53178_2 rfl 1 rfl ?_
  refine n_alenI F ar_16 (by decide) (v := (2 : Int32)) (by decide) dJ7_fill_53178_3 ?_
  refine n_istore_n F (lv' := [(3, .int (2 : Int32)), (2, .int (0 : Int32)), (0, .ref (gA (cg K) 16)), (1, .int a2)]) dJ7_fill_53178_4 rfl (by decide) rfl ?_
  exact n_sub [2, 3, 1, 0] rfl (Jd_fillI_16_L5_ok F (Jd_fillI_16_B20_ok F) FU _ _ _ _)
theorem dX5_forgetToday_0 : decode cX5_forgetToday 0 = .ok (.aload_n 0, 1) := by decide +kernel
theorem dX5_forgetToday_1 : decode cX5_forgetToday 1 = .ok (.iconst (-1), 1) := by decide +kernel
theorem dX5_forgetToday_2 : decode cX5_forgetToday 2 = .ok (.putfield 71, 3) := by decide +kernel
theorem dX5_forgetToday_5 : decode cX5_forgetToday 5 = .ok (.aload_n 0, 1) := by decide +kernel
theorem dX5_forgetToday_6 : decode cX5_forgetToday 6 = .ok (.getfield 18, 3) := by decide +kernel
theorem dX5_forgetToday_9 : decode cX5_forgetToday 9 = .ok (.iconst (-1), 1) := by decide +kernel
theorem dX5_forgetToday_10 : decode cX5_forgetToday 10 = .ok (.invokestatic 74, 3) := by decide +kernel
theorem dX5_forgetToday_13 : decode cX5_forgetToday 13 = .ok (.return_, 1) := by decide +kernel
def Sc_forgetToday (w : Wd) : Option Wd := (Option.bind (Jd_fillI_16 (sI w 13 5 (-1 : Int32)) (-1 : Int32)) (fun q1 => some q1))
set_option maxRecDepth 100000 in
set_option maxHeartbeats 4000000 in
theorem ct_Sc_forgetToday {l : Launch} {g : GG} {σ : Sd} (hg : OKg g σ) (hb : σ.2.1 = true) (hx : ∀ c ∈ ([13, 16] : List Nat), c ∈ σ.1) (w : Wd) {q : Wd} (hq : Sc_forgetToday w = some q) : CT l g σ yX5_forgetToday cX5_forgetToday 1 none 1 23 [.ref (gA g 13)] w none q := by
  refine ct_of (rt := rtV) (res := Sc_forgetToday w) (q := q) (own := RX5) (b := true) hg hb hx (by decide) rfl (Nat.le_of_ble_eq_true rfl) hq (fun K e1 e2 e3 F => ?_)
  subst e1 e2 e3
  rw [Sc_forgetToday]
  show N K _ _ w 0 [(0, .ref (gA (cg K) 13))] []
  refine n_aload_n F dX5_forgetToday_0 rfl 0 rfl ?_
  refine n_iconst F (-1 : Int32) dX5_forgetToday_1 (by decide) ?_
  refine n_put F ck_5 lf_RX5_71 (by decide) rfl fp_13_5 (by decide) rfl rfl dX5_forgetToday_2 ?_
  refine n_aload_n F dX5_forgetToday_5 rfl 0 rfl ?_
  refine n_get F ck_5 lf_RX5_18 (by decide) fg_13_8 (by decide) dX5_forgetToday_6 ?_
  refine n_iconst F (-1 : Int32) dX5_forgetToday_9 (by decide) ?_
  refine n_bind (fun q1 hq1 => ?_)
  refine n_callSv F cb_J7_fill_53178 lm_RX5_74 (ct_Jd_fillI_16 (fx_ok F) (fx_sd F) (fx_ix F rfl) (sI w 13 5 (-1 : Int32)) (-1 : Int32) hq1) rfl rfl (Nat.le_of_ble_eq_true rfl) ⟨Nat.le_of_ble_eq_true rfl, Nat.le_of_ble_eq_true rfl⟩ dX5_forgetToday_10 ?_
  exact n_vret F rfl rfl dX5_forgetToday_13
theorem dX5_isWithSeeker_0 : decode cX5_isWithSeeker 0 = .ok (.iconst 0, 1) := by decide +kernel
theorem dX5_isWithSeeker_1 : decode cX5_isWithSeeker 1 = .ok (.istore_n 1, 1) := by decide +kernel
theorem dX5_isWithSeeker_2 : decode cX5_isWithSeeker 2 = .ok (.iconst 0, 1) := by decide +kernel
theorem dX5_isWithSeeker_3 : decode cX5_isWithSeeker 3 = .ok (.istore_n 2, 1) := by decide +kernel
theorem dX5_isWithSeeker_4 : decode cX5_isWithSeeker 4 = .ok (.iload_n 2, 1) := by decide +kernel
theorem dX5_isWithSeeker_5 : decode cX5_isWithSeeker 5 = .ok (.iconst 2, 1) := by decide +kernel
theorem dX5_isWithSeeker_6 : decode cX5_isWithSeeker 6 = .ok (.if_icmp .ge 32, 3) := by decide +kernel
theorem dX5_isWithSeeker_9 : decode cX5_isWithSeeker 9 = .ok (.iload_n 1, 1) := by decide +kernel
theorem dX5_isWithSeeker_10 : decode cX5_isWithSeeker 10 = .ok (.ifCond .ne 16, 3) := by decide +kernel
theorem dX5_isWithSeeker_13 : decode cX5_isWithSeeker 13 = .ok (.aload_n 0, 1) := by decide +kernel
theorem dX5_isWithSeeker_14 : decode cX5_isWithSeeker 14 = .ok (.getfield 15, 3) := by decide +kernel
theorem dX5_isWithSeeker_17 : decode cX5_isWithSeeker 17 = .ok (.iload_n 2, 1) := by decide +kernel
theorem dX5_isWithSeeker_18 : decode cX5_isWithSeeker 18 = .ok (.iaload, 1) := by decide +kernel
theorem dX5_isWithSeeker_19 : decode cX5_isWithSeeker 19 = .ok (.aload_n 0, 1) := by decide +kernel
theorem dX5_isWithSeeker_20 : decode cX5_isWithSeeker 20 = .ok (.getfield 37, 3) := by decide +kernel
theorem dX5_isWithSeeker_23 : decode cX5_isWithSeeker 23 = .ok (.if_icmp .ne 7, 3) := by decide +kernel
theorem dX5_isWithSeeker_26 : decode cX5_isWithSeeker 26 = .ok (.iconst 1, 1) := by decide +kernel
theorem dX5_isWithSeeker_27 : decode cX5_isWithSeeker 27 = .ok (.goto 4, 3) := by decide +kernel
theorem dX5_isWithSeeker_30 : decode cX5_isWithSeeker 30 = .ok (.iconst 0, 1) := by decide +kernel
theorem dX5_isWithSeeker_31 : decode cX5_isWithSeeker 31 = .ok (.istore_n 1, 1) := by decide +kernel
theorem dX5_isWithSeeker_32 : decode cX5_isWithSeeker 32 = .ok (.iinc 2 1, 3) := by decide +kernel
theorem dX5_isWithSeeker_35 : decode cX5_isWithSeeker 35 = .ok (.goto (-31), 3) := by decide +kernel
theorem dX5_isWithSeeker_38 : decode cX5_isWithSeeker 38 = .ok (.iload_n 1, 1) := by decide +kernel
theorem dX5_isWithSeeker_39 : decode cX5_isWithSeeker 39 = .ok (.ifCond .eq 14, 3) := by decide +kernel
theorem dX5_isWithSeeker_42 : decode cX5_isWithSeeker 42 = .ok (.aload_n 0, 1) := by decide +kernel
theorem dX5_isWithSeeker_43 : decode cX5_isWithSeeker 43 = .ok (.getfield 40, 3) := by decide +kernel
theorem dX5_isWithSeeker_46 : decode cX5_isWithSeeker 46 = .ok (.ifCond .ne 7, 3) := by decide +kernel
theorem dX5_isWithSeeker_49 : decode cX5_isWithSeeker 49 = .ok (.iconst 1, 1) := by decide +kernel
theorem dX5_isWithSeeker_50 : decode cX5_isWithSeeker 50 = .ok (.goto 4, 3) := by decide +kernel
theorem dX5_isWithSeeker_53 : decode cX5_isWithSeeker 53 = .ok (.iconst 0, 1) := by decide +kernel
theorem dX5_isWithSeeker_54 : decode cX5_isWithSeeker 54 = .ok (.ireturn, 1) := by decide +kernel
def Sc_isWithSeeker_L4 (w : Wd) (k38 : Int32 → Option Int32) : Nat → Int32 → Int32 → Option Int32
  | 0, _, _ => none
  | n + 1, v1, v2 => (if (2 : Int32) ≤ v2 then (k38 v1) else (if v1 = (0 : Int32) then (if ib v2 2 = true then (Sc_isWithSeeker_L4 w k38 n (if (w.1 15 (Int32.toNatClampNeg v2)) = (w.1 13 2) then (1 : Int32) else (0 : Int32)) (v2 + (1 : Int32))) else none) else (Sc_isWithSeeker_L4 w k38 n (1 : Int32) (v2 + (1 : Int32)))))
set_option maxRecDepth 100000 in
set_option maxHeartbeats 4000000 in
theorem Sc_isWithSeeker_L4_ok {K : Ctx} (F : Fx K cX5_isWithSeeker 3 RX5 (some .boolean) 0 0 true [13, 15]) (w : Wd) {k38 : Int32 → Option Int32} (h38 : ∀ (v1 : Int32), N K (rtP w) (k38 v1) w 38 [(0, .ref (gA (cg K) 13)), (1, .int v1)] []) : ∀ (n : Nat) (v1 : Int32) (v2 : Int32), N K (rtP w) (Sc_isWithSeeker_L4 w k38 n v1 v2) w 4 [(0, .ref (gA (cg K) 13)), (1, .int v1), (2, .int v2)] [] := by
  intro n
  induction n with
  | zero => intro _ _; exact n_none
  | succ n ih =>
    intro v1 v2
    rw [Sc_isWithSeeker_L4]
    refine n_iload_n F dX5_isWithSeeker_4 rfl 2 rfl ?_
    refine n_iconst F (2 : Int32) dX5_isWithSeeker_5 (by decide) ?_
    refine n_icmp_ge F 38 dX5_isWithSeeker_6 (by decide) (fun e1 => ?_) (fun e1 => ?_)
    · rw [if_pos e1]
      exact n_sub [0, 1] rfl (h38 _)
    rw [if_neg e1]
    refine n_iload_n F dX5_isWithSeeker_9 rfl 1 rfl ?_
    refine n_if_ne F 26 dX5_isWithSeeker_10 (by decide) (fun e2 => ?_) (fun e2 => ?_)
    · rw [if_neg e2]
      refine n_iconst F (1 : Int32) dX5_isWithSeeker_26 (by decide) ?_
      refine n_goto F 31 dX5_isWithSeeker_27 (by decide) ?_
      refine n_istore_n F (lv' := [(1, .int (1 : Int32)), (0, .ref (gA (cg K) 13)), (2, .int v2)]) dX5_isWithSeeker_31 rfl (by decide) rfl ?_
      refine n_iinc F (v2 + (1 : Int32)) (lv' := [(2, .int (v2 + (1 : Int32))), (1, .int (1 : Int32)), (0, .ref (gA (cg K) 13))]) dX5_isWithSeeker_32 2 rfl rfl (by decide) rfl ?_
      refine n_goto F 4 dX5_isWithSeeker_35 (by decide) ?_
      exact n_sub [2, 1, 0] rfl (ih _ _)
    rw [if_pos e2]
    refine n_aload_n F dX5_isWithSeeker_13 rfl 0 rfl ?_
    refine n_get F ck_5 lf_RX5_15 (by decide) fg_13_7 (by decide) dX5_isWithSeeker_14 ?_
    refine n_iload_n F dX5_isWithSeeker_17 rfl 2 rfl ?_
    refine n_chk (fun e3 => ?_)
    refine n_iald F ar_15 (by decide) (ib_in e3) rfl dX5_isWithSeeker_18 ?_
    refine n_aload_n F dX5_isWithSeeker_19 rfl 0 rfl ?_
    refine n_get F ck_5 lf_RX5_37 (by decide) fg_13_2 (by decide) dX5_isWithSeeker_20 ?_
    refine n_icmp_ne F 30 dX5_isWithSeeker_23 (by decide) (fun e4 => ?_) (fun e4 => ?_)
    · rw [if_neg e4]
      refine n_iconst F (0 : Int32) dX5_isWithSeeker_30 (by decide) ?_
      refine n_istore_n F (lv' := [(1, .int (0 : Int32)), (0, .ref (gA (cg K) 13)), (2, .int v2)]) dX5_isWithSeeker_31 rfl (by decide) rfl ?_
      refine n_iinc F (v2 + (1 : Int32)) (lv' := [(2, .int (v2 + (1 : Int32))), (1, .int (0 : Int32)), (0, .ref (gA (cg K) 13))]) dX5_isWithSeeker_32 2 rfl rfl (by decide) rfl ?_
      refine n_goto F 4 dX5_isWithSeeker_35 (by decide) ?_
      exact n_sub [2, 1, 0] rfl (ih _ _)
    rw [if_pos e4]
    refine n_iconst F (1 : Int32) dX5_isWithSeeker_26 (by decide) ?_
    refine n_goto F 31 dX5_isWithSeeker_27 (by decide) ?_
    refine n_istore_n F (lv' := [(1, .int (1 : Int32)), (0, .ref (gA (cg K) 13)), (2, .int v2)]) dX5_isWithSeeker_31 rfl (by decide) rfl ?_
    refine n_iinc F (v2 + (1 : Int32)) (lv' := [(2, .int (v2 + (1 : Int32))), (1, .int (1 : Int32)), (0, .ref (gA (cg K) 13))]) dX5_isWithSeeker_32 2 rfl rfl (by decide) rfl ?_
    refine n_goto F 4 dX5_isWithSeeker_35 (by decide) ?_
    exact n_sub [2, 1, 0] rfl (ih _ _)
def Sc_isWithSeeker_B38 (w : Wd) (v1 : Int32) : Option Int32 := (if v1 = (0 : Int32) then some (0 : Int32) else (if (w.1 13 3) = (0 : Int32) then some (1 : Int32) else some (0 : Int32)))
set_option maxRecDepth 100000 in
set_option maxHeartbeats 4000000 in
theorem Sc_isWithSeeker_B38_ok {K : Ctx} (F : Fx K cX5_isWithSeeker 3 RX5 (some .boolean) 0 0 true [13, 15]) (w : Wd) (v1 : Int32) : N K (rtP w) (Sc_isWithSeeker_B38 w v1) w 38 [(0, .ref (gA (cg K) 13)), (1, .int v1)] [] := by
  rw [Sc_isWithSeeker_B38]
  refine n_iload_n F dX5_isWithSeeker_38 rfl 1 rfl ?_
  refine n_if_eq F 53 dX5_isWithSeeker_39 (by decide) (fun e5 => ?_) (fun e5 => ?_)
  · rw [if_pos e5]
    refine n_iconst F (0 : Int32) dX5_isWithSeeker_53 (by decide) ?_
    exact n_zret F .boolean rfl rfl rfl dX5_isWithSeeker_54
  rw [if_neg e5]
  refine n_aload_n F dX5_isWithSeeker_42 rfl 0 rfl ?_
  refine n_get F ck_5 lf_RX5_40 (by decide) fg_13_3 (by decide) dX5_isWithSeeker_43 ?_
  refine n_if_ne F 53 dX5_isWithSeeker_46 (by decide) (fun e6 => ?_) (fun e6 => ?_)
  · rw [if_neg e6]
    refine n_iconst F (0 : Int32) dX5_isWithSeeker_53 (by decide) ?_
    exact n_zret F .boolean rfl rfl rfl dX5_isWithSeeker_54
  rw [if_pos e6]
  refine n_iconst F (1 : Int32) dX5_isWithSeeker_49 (by decide) ?_
  refine n_goto F 54 dX5_isWithSeeker_50 (by decide) ?_
  exact n_zret F .boolean rfl rfl rfl dX5_isWithSeeker_54
def Sc_isWithSeeker (w : Wd) : Option Int32 := (Sc_isWithSeeker_L4 w (Sc_isWithSeeker_B38 w) FU (0 : Int32) (0 : Int32))
set_option maxRecDepth 100000 in
set_option maxHeartbeats 4000000 in
theorem ct_Sc_isWithSeeker {l : Launch} {g : GG} {σ : Sd} (hg : OKg g σ) (hb : σ.2.1 = true) (hx : ∀ c ∈ ([13, 15] : List Nat), c ∈ σ.1) (w : Wd) {q : Int32} (hq : Sc_isWithSeeker w = some q) : CT l g σ yX5_isWithSeeker cX5_isWithSeeker 3 (some .boolean) 0 0 [.ref (gA g 13)] w (some (.int q)) w := by
  refine ct_of (rt := (rtP w)) (res := Sc_isWithSeeker w) (q := q) (own := RX5) (b := true) hg hb hx (by decide) rfl (Nat.le_of_ble_eq_true rfl) hq (fun K e1 e2 e3 F => ?_)
  subst e1 e2 e3
  rw [Sc_isWithSeeker]
  show N K _ _ w 0 [(0, .ref (gA (cg K) 13))] []
  refine n_iconst F (0 : Int32) dX5_isWithSeeker_0 (by decide) ?_
  refine n_istore_n F (lv' := [(1, .int (0 : Int32)), (0, .ref (gA (cg K) 13))]) dX5_isWithSeeker_1 rfl (by decide) rfl ?_
  refine n_iconst F (0 : Int32) dX5_isWithSeeker_2 (by decide) ?_
  refine n_istore_n F (lv' := [(2, .int (0 : Int32)), (1, .int (0 : Int32)), (0, .ref (gA (cg K) 13))]) dX5_isWithSeeker_3 rfl (by decide) rfl ?_
  exact n_sub [2, 1, 0] rfl (Sc_isWithSeeker_L4_ok F w (Sc_isWithSeeker_B38_ok F w) FU _ _)
theorem dX5_begin_0 : decode cX5_begin 0 = .ok (.aload_n 0, 1) := by decide +kernel
theorem dX5_begin_1 : decode cX5_begin 1 = .ok (.iconst 0, 1) := by decide +kernel
theorem dX5_begin_2 : decode cX5_begin 2 = .ok (.putfield 28, 3) := by decide +kernel
theorem dX5_begin_5 : decode cX5_begin 5 = .ok (.aload_n 0, 1) := by decide +kernel
theorem dX5_begin_6 : decode cX5_begin 6 = .ok (.aload_n 0, 1) := by decide +kernel
theorem dX5_begin_7 : decode cX5_begin 7 = .ok (.getfield 21, 3) := by decide +kernel
theorem dX5_begin_10 : decode cX5_begin 10 = .ok (.getfield 32, 3) := by decide +kernel
theorem dX5_begin_13 : decode cX5_begin 13 = .ok (.putfield 37, 3) := by decide +kernel
theorem dX5_begin_16 : decode cX5_begin 16 = .ok (.aload_n 0, 1) := by decide +kernel
theorem dX5_begin_17 : decode cX5_begin 17 = .ok (.iconst 0, 1) := by decide +kernel
theorem dX5_begin_18 : decode cX5_begin 18 = .ok (.putfield 40, 3) := by decide +kernel
theorem dX5_begin_21 : decode cX5_begin 21 = .ok (.aload_n 0, 1) := by decide +kernel
theorem dX5_begin_22 : decode cX5_begin 22 = .ok (.getfield 21, 3) := by decide +kernel
theorem dX5_begin_25 : decode cX5_begin 25 = .ok (.getfield 44, 3) := by decide +kernel
theorem dX5_begin_28 : decode cX5_begin 28 = .ok (.iconst 0, 1) := by decide +kernel
theorem dX5_begin_29 : decode cX5_begin 29 = .ok (.aload_n 0, 1) := by decide +kernel
theorem dX5_begin_30 : decode cX5_begin 30 = .ok (.getfield 9, 3) := by decide +kernel
theorem dX5_begin_33 : decode cX5_begin 33 = .ok (.iconst 0, 1) := by decide +kernel
theorem dX5_begin_34 : decode cX5_begin 34 = .ok (.iconst 3, 1) := by decide +kernel
theorem dX5_begin_35 : decode cX5_begin 35 = .ok (.invokestatic 45, 3) := by decide +kernel
theorem dX5_begin_38 : decode cX5_begin 38 = .ok (.aload_n 0, 1) := by decide +kernel
theorem dX5_begin_39 : decode cX5_begin 39 = .ok (.getfield 21, 3) := by decide +kernel
theorem dX5_begin_42 : decode cX5_begin 42 = .ok (.getfield 51, 3) := by decide +kernel
theorem dX5_begin_45 : decode cX5_begin 45 = .ok (.iconst 0, 1) := by decide +kernel
theorem dX5_begin_46 : decode cX5_begin 46 = .ok (.aload_n 0, 1) := by decide +kernel
theorem dX5_begin_47 : decode cX5_begin 47 = .ok (.getfield 15, 3) := by decide +kernel
theorem dX5_begin_50 : decode cX5_begin 50 = .ok (.iconst 0, 1) := by decide +kernel
theorem dX5_begin_51 : decode cX5_begin 51 = .ok (.iconst 2, 1) := by decide +kernel
theorem dX5_begin_52 : decode cX5_begin 52 = .ok (.invokestatic 45, 3) := by decide +kernel
theorem dX5_begin_55 : decode cX5_begin 55 = .ok (.aload_n 0, 1) := by decide +kernel
theorem dX5_begin_56 : decode cX5_begin 56 = .ok (.invokevirtual 52, 3) := by decide +kernel
theorem dX5_begin_59 : decode cX5_begin 59 = .ok (.aload_n 0, 1) := by decide +kernel
theorem dX5_begin_60 : decode cX5_begin 60 = .ok (.aload_n 0, 1) := by decide +kernel
theorem dX5_begin_61 : decode cX5_begin 61 = .ok (.invokevirtual 55, 3) := by decide +kernel
theorem dX5_begin_64 : decode cX5_begin 64 = .ok (.putfield 59, 3) := by decide +kernel
theorem dX5_begin_67 : decode cX5_begin 67 = .ok (.aload_n 0, 1) := by decide +kernel
theorem dX5_begin_68 : decode cX5_begin 68 = .ok (.iconst 1, 1) := by decide +kernel
theorem dX5_begin_69 : decode cX5_begin 69 = .ok (.aload_n 0, 1) := by decide +kernel
theorem dX5_begin_70 : decode cX5_begin 70 = .ok (.getfield 37, 3) := by decide +kernel
theorem dX5_begin_73 : decode cX5_begin 73 = .ok (.ishl, 1) := by decide +kernel
theorem dX5_begin_74 : decode cX5_begin 74 = .ok (.putfield 62, 3) := by decide +kernel
theorem dX5_begin_77 : decode cX5_begin 77 = .ok (.aload_n 0, 1) := by decide +kernel
theorem dX5_begin_78 : decode cX5_begin 78 = .ok (.iconst 0, 1) := by decide +kernel
theorem dX5_begin_79 : decode cX5_begin 79 = .ok (.putfield 65, 3) := by decide +kernel
theorem dX5_begin_82 : decode cX5_begin 82 = .ok (.aload_n 0, 1) := by decide +kernel
theorem dX5_begin_83 : decode cX5_begin 83 = .ok (.aload_n 0, 1) := by decide +kernel
theorem dX5_begin_84 : decode cX5_begin 84 = .ok (.getfield 62, 3) := by decide +kernel
theorem dX5_begin_87 : decode cX5_begin 87 = .ok (.putfield 68, 3) := by decide +kernel
theorem dX5_begin_90 : decode cX5_begin 90 = .ok (.return_, 1) := by decide +kernel
def Sc_begin (w : Wd) : Option Wd := (Option.bind (Sc_forgetToday (cI (cI (sI (sI (sI w 13 1 (0 : Int32)) 13 2 ((sI w 13 1 (0 : Int32)).1 3 2)) 13 3 (0 : Int32)) 5 0 14 0 3) 6 0 15 0 2)) (fun q1 => (Option.bind (Sc_isWithSeeker q1) (fun q2 => (if q2 &&& (1 : Int32) = q2 then some (sI (sI (sI (sI q1 13 4 q2) 13 9 ((1 : Int32) <<< (((sI q1 13 4 q2).1 13 2) &&& (31 : Int32)))) 13 10 (0 : Int32)) 13 11 ((sI (sI (sI q1 13 4 q2) 13 9 ((1 : Int32) <<< (((sI q1 13 4 q2).1 13 2) &&& (31 : Int32)))) 13 10 (0 : Int32)).1 13 9)) else none)))))
set_option maxRecDepth 100000 in
set_option maxHeartbeats 4000000 in
theorem ct_Sc_begin {l : Launch} {g : GG} {σ : Sd} (hg : OKg g σ) (hb : σ.2.1 = true) (hx : ∀ c ∈ ([3, 5, 6, 13, 14, 15, 16] : List Nat), c ∈ σ.1) (w : Wd) {q : Wd} (hq : Sc_begin w = some q) : CT l g σ yX5_begin cX5_begin 1 none 2 43 [.ref (gA g 13)] w none q := by
  refine ct_of (rt := rtV) (res := Sc_begin w) (q := q) (own := RX5) (b := true) hg hb hx (by decide) rfl (Nat.le_of_ble_eq_true rfl) hq (fun K e1 e2 e3 F => ?_)
  subst e1 e2 e3
  rw [Sc_begin]
  show N K _ _ w 0 [(0, .ref (gA (cg K) 13))] []
  refine n_aload_n F dX5_begin_0 rfl 0 rfl ?_
  refine n_iconst F (0 : Int32) dX5_begin_1 (by decide) ?_
  refine n_put F ck_5 lf_RX5_28 (by decide) rfl fp_13_1 (by decide) rfl rfl dX5_begin_2 ?_
  refine n_aload_n F dX5_begin_5 rfl 0 rfl ?_
  refine n_aload_n F dX5_begin_6 rfl 0 rfl ?_
  refine n_get F ck_5 lf_RX5_21 (by decide) fg_13_0 (by decide) dX5_begin_7 ?_
  refine n_get F ck_1 lf_RX5_32 (by decide) fg_3_2 (by decide) dX5_begin_10 ?_
  refine n_put F ck_5 lf_RX5_37 (by decide) rfl fp_13_2 (by decide) rfl rfl dX5_begin_13 ?_
  refine n_aload_n F dX5_begin_16 rfl 0 rfl ?_
  refine n_iconst F (0 : Int32) dX5_begin_17 (by decide) ?_
  refine n_put F ck_5 lf_RX5_40 (by decide) rfl fp_13_3 (by decide) rfl rfl dX5_begin_18 ?_
  refine n_aload_n F dX5_begin_21 rfl 0 rfl ?_
  refine n_get F ck_5 lf_RX5_21 (by decide) fg_13_0 (by decide) dX5_begin_22 ?_
  refine n_getN F ck_1 lf_RX5_44 (by decide) fg_3_5 (by decide) dX5_begin_25 ?_
  refine n_iconst F (0 : Int32) dX5_begin_28 (by decide) ?_
  refine n_aload_n F dX5_begin_29 rfl 0 rfl ?_
  refine n_get F ck_5 lf_RX5_9 (by decide) fg_13_6 (by decide) dX5_begin_30 ?_
  refine n_iconst F (0 : Int32) dX5_begin_33 (by decide) ?_
  refine n_iconst F (3 : Int32) dX5_begin_34 (by decide) ?_
  refine n_copyI F ar_5 ar_14 (by decide) (by decide) 0 0 3 (by decide) (by decide) (by decide) (by decide) (by decide) (by decide) (by decide) (by decide) la_RX5_45 (Nat.le_of_ble_eq_true rfl) (Nat.le_of_ble_eq_true rfl) dX5_begin_35 ?_
  refine n_aload_n F dX5_begin_38 rfl 0 rfl ?_
  refine n_get F ck_5 lf_RX5_21 (by decide) fg_13_0 (by decide) dX5_begin_39 ?_
  refine n_getN F ck_1 lf_RX5_51 (by decide) fg_3_6 (by decide) dX5_begin_42 ?_
  refine n_iconst F (0 : Int32) dX5_begin_45 (by decide) ?_
  refine n_aload_n F dX5_begin_46 rfl 0 rfl ?_
  refine n_get F ck_5 lf_RX5_15 (by decide) fg_13_7 (by decide) dX5_begin_47 ?_
  refine n_iconst F (0 : Int32) dX5_begin_50 (by decide) ?_
  refine n_iconst F (2 : Int32) dX5_begin_51 (by decide) ?_
  refine n_copyI F ar_6 ar_15 (by decide) (by decide) 0 0 2 (by decide) (by decide) (by decide) (by decide) (by decide) (by decide) (by decide) (by decide) la_RX5_45 (Nat.le_of_ble_eq_true rfl) (Nat.le_of_ble_eq_true rfl) dX5_begin_52 ?_
  refine n_aload_n F dX5_begin_55 rfl 0 rfl ?_
  refine n_bind (fun q1 hq1 => ?_)
  refine n_callVv F cb_X5_forgetToday lm_RX5_52 ob_13 (by decide) ⟨_, _, rfl⟩ (ct_Sc_forgetToday (fx_ok F) (fx_sd F) (fx_ix F rfl) (cI (cI (sI (sI (sI w 13 1 (0 : Int32)) 13 2 ((sI w 13 1 (0 : Int32)).1 3 2)) 13 3 (0 : Int32)) 5 0 14 0 3) 6 0 15 0 2) hq1) rfl rfl (Nat.le_of_ble_eq_true rfl) ⟨Nat.le_of_ble_eq_true rfl, Nat.le_of_ble_eq_true rfl⟩ dX5_begin_56 ?_
  refine n_aload_n F dX5_begin_59 rfl 0 rfl ?_
  refine n_aload_n F dX5_begin_60 rfl 0 rfl ?_
  refine n_bind (fun q2 hq2 => ?_)
  refine n_callVi F cb_X5_isWithSeeker lm_RX5_55 ob_13 (by decide) ⟨_, _, rfl⟩ (ct_Sc_isWithSeeker (fx_ok F) (fx_sd F) (fx_ix F rfl) q1 hq2) rfl rfl (Nat.le_of_ble_eq_true rfl) ⟨Nat.le_of_ble_eq_true rfl, Nat.le_of_ble_eq_true rfl⟩ dX5_begin_61 ?_
  refine n_chk (fun e3 => ?_)
  refine n_put F ck_5 lf_RX5_59 (by decide) rfl fp_13_4 (by decide) (bz_n e3) (bz_f e3) dX5_begin_64 ?_
  refine n_aload_n F dX5_begin_67 rfl 0 rfl ?_
  refine n_iconst F (1 : Int32) dX5_begin_68 (by decide) ?_
  refine n_aload_n F dX5_begin_69 rfl 0 rfl ?_
  refine n_get F ck_5 lf_RX5_37 (by decide) fg_13_2 (by decide) dX5_begin_70 ?_
  refine n_ishl F dX5_begin_73 ?_
  refine n_put F ck_5 lf_RX5_62 (by decide) rfl fp_13_9 (by decide) rfl rfl dX5_begin_74 ?_
  refine n_aload_n F dX5_begin_77 rfl 0 rfl ?_
  refine n_iconst F (0 : Int32) dX5_begin_78 (by decide) ?_
  refine n_put F ck_5 lf_RX5_65 (by decide) rfl fp_13_10 (by decide) rfl rfl dX5_begin_79 ?_
  refine n_aload_n F dX5_begin_82 rfl 0 rfl ?_
  refine n_aload_n F dX5_begin_83 rfl 0 rfl ?_
  refine n_get F ck_5 lf_RX5_62 (by decide) fg_13_9 (by decide) dX5_begin_84 ?_
  refine n_put F ck_5 lf_RX5_68 (by decide) rfl fp_13_11 (by decide) rfl rfl dX5_begin_87 ?_
  exact n_vret F rfl rfl dX5_begin_90
theorem dX5_copy_0 : decode cX5_copy 0 = .ok (.aload_n 0, 1) := by decide +kernel
theorem dX5_copy_1 : decode cX5_copy 1 = .ok (.aload_n 1, 1) := by decide +kernel
theorem dX5_copy_2 : decode cX5_copy 2 = .ok (.getfield 28, 3) := by decide +kernel
theorem dX5_copy_5 : decode cX5_copy 5 = .ok (.putfield 28, 3) := by decide +kernel
theorem dX5_copy_8 : decode cX5_copy 8 = .ok (.aload_n 0, 1) := by decide +kernel
theorem dX5_copy_9 : decode cX5_copy 9 = .ok (.aload_n 1, 1) := by decide +kernel
theorem dX5_copy_10 : decode cX5_copy 10 = .ok (.getfield 37, 3) := by decide +kernel
theorem dX5_copy_13 : decode cX5_copy 13 = .ok (.putfield 37, 3) := by decide +kernel
theorem dX5_copy_16 : decode cX5_copy 16 = .ok (.aload_n 0, 1) := by decide +kernel
theorem dX5_copy_17 : decode cX5_copy 17 = .ok (.aload_n 1, 1) := by decide +kernel
theorem dX5_copy_18 : decode cX5_copy 18 = .ok (.getfield 40, 3) := by decide +kernel
theorem dX5_copy_21 : decode cX5_copy 21 = .ok (.putfield 40, 3) := by decide +kernel
theorem dX5_copy_24 : decode cX5_copy 24 = .ok (.aload_n 0, 1) := by decide +kernel
theorem dX5_copy_25 : decode cX5_copy 25 = .ok (.aload_n 1, 1) := by decide +kernel
theorem dX5_copy_26 : decode cX5_copy 26 = .ok (.getfield 59, 3) := by decide +kernel
theorem dX5_copy_29 : decode cX5_copy 29 = .ok (.putfield 59, 3) := by decide +kernel
theorem dX5_copy_32 : decode cX5_copy 32 = .ok (.aload_n 0, 1) := by decide +kernel
theorem dX5_copy_33 : decode cX5_copy 33 = .ok (.aload_n 1, 1) := by decide +kernel
theorem dX5_copy_34 : decode cX5_copy 34 = .ok (.getfield 71, 3) := by decide +kernel
theorem dX5_copy_37 : decode cX5_copy 37 = .ok (.putfield 71, 3) := by decide +kernel
theorem dX5_copy_40 : decode cX5_copy 40 = .ok (.aload_n 1, 1) := by decide +kernel
theorem dX5_copy_41 : decode cX5_copy 41 = .ok (.getfield 9, 3) := by decide +kernel
theorem dX5_copy_44 : decode cX5_copy 44 = .ok (.iconst 0, 1) := by decide +kernel
theorem dX5_copy_45 : decode cX5_copy 45 = .ok (.aload_n 0, 1) := by decide +kernel
theorem dX5_copy_46 : decode cX5_copy 46 = .ok (.getfield 9, 3) := by decide +kernel
theorem dX5_copy_49 : decode cX5_copy 49 = .ok (.iconst 0, 1) := by decide +kernel
theorem dX5_copy_50 : decode cX5_copy 50 = .ok (.iconst 3, 1) := by decide +kernel
theorem dX5_copy_51 : decode cX5_copy 51 = .ok (.invokestatic 45, 3) := by decide +kernel
theorem dX5_copy_54 : decode cX5_copy 54 = .ok (.aload_n 1, 1) := by decide +kernel
theorem dX5_copy_55 : decode cX5_copy 55 = .ok (.getfield 15, 3) := by decide +kernel
theorem dX5_copy_58 : decode cX5_copy 58 = .ok (.iconst 0, 1) := by decide +kernel
theorem dX5_copy_59 : decode cX5_copy 59 = .ok (.aload_n 0, 1) := by decide +kernel
theorem dX5_copy_60 : decode cX5_copy 60 = .ok (.getfield 15, 3) := by decide +kernel
theorem dX5_copy_63 : decode cX5_copy 63 = .ok (.iconst 0, 1) := by decide +kernel
theorem dX5_copy_64 : decode cX5_copy 64 = .ok (.iconst 2, 1) := by decide +kernel
theorem dX5_copy_65 : decode cX5_copy 65 = .ok (.invokestatic 45, 3) := by decide +kernel
theorem dX5_copy_68 : decode cX5_copy 68 = .ok (.aload_n 1, 1) := by decide +kernel
theorem dX5_copy_69 : decode cX5_copy 69 = .ok (.getfield 18, 3) := by decide +kernel
theorem dX5_copy_72 : decode cX5_copy 72 = .ok (.iconst 0, 1) := by decide +kernel
theorem dX5_copy_73 : decode cX5_copy 73 = .ok (.aload_n 0, 1) := by decide +kernel
theorem dX5_copy_74 : decode cX5_copy 74 = .ok (.getfield 18, 3) := by decide +kernel
theorem dX5_copy_77 : decode cX5_copy 77 = .ok (.iconst 0, 1) := by decide +kernel
theorem dX5_copy_78 : decode cX5_copy 78 = .ok (.iconst 2, 1) := by decide +kernel
theorem dX5_copy_79 : decode cX5_copy 79 = .ok (.invokestatic 45, 3) := by decide +kernel
theorem dX5_copy_82 : decode cX5_copy 82 = .ok (.aload_n 0, 1) := by decide +kernel
theorem dX5_copy_83 : decode cX5_copy 83 = .ok (.aload_n 1, 1) := by decide +kernel
theorem dX5_copy_84 : decode cX5_copy 84 = .ok (.getfield 62, 3) := by decide +kernel
theorem dX5_copy_87 : decode cX5_copy 87 = .ok (.putfield 62, 3) := by decide +kernel
theorem dX5_copy_90 : decode cX5_copy 90 = .ok (.aload_n 0, 1) := by decide +kernel
theorem dX5_copy_91 : decode cX5_copy 91 = .ok (.aload_n 1, 1) := by decide +kernel
theorem dX5_copy_92 : decode cX5_copy 92 = .ok (.getfield 65, 3) := by decide +kernel
theorem dX5_copy_95 : decode cX5_copy 95 = .ok (.putfield 65, 3) := by decide +kernel
theorem dX5_copy_98 : decode cX5_copy 98 = .ok (.aload_n 0, 1) := by decide +kernel
theorem dX5_copy_99 : decode cX5_copy 99 = .ok (.aload_n 1, 1) := by decide +kernel
theorem dX5_copy_100 : decode cX5_copy 100 = .ok (.getfield 68, 3) := by decide +kernel
theorem dX5_copy_103 : decode cX5_copy 103 = .ok (.putfield 68, 3) := by decide +kernel
theorem dX5_copy_106 : decode cX5_copy 106 = .ok (.return_, 1) := by decide +kernel
def Sc_copy_17_13 (w : Wd) : Option Wd := (if ((sI (sI w 17 1 (w.1 13 1)) 17 2 ((sI w 17 1 (w.1 13 1)).1 13 2)).1 13 3) &&& (1 : Int32) = ((sI (sI w 17 1 (w.1 13 1)) 17 2 ((sI w 17 1 (w.1 13 1)).1 13 2)).1 13 3) then (if ((sI (sI (sI w 17 1 (w.1 13 1)) 17 2 ((sI w 17 1 (w.1 13 1)).1 13 2)) 17 3 ((sI (sI w 17 1 (w.1 13 1)) 17 2 ((sI w 17 1 (w.1 13 1)).1 13 2)).1 13 3)).1 13 4) &&& (1 : Int32) = ((sI (sI (sI w 17 1 (w.1 13 1)) 17 2 ((sI w 17 1 (w.1 13 1)).1 13 2)) 17 3 ((sI (sI w 17 1 (w.1 13 1)) 17 2 ((sI w 17 1 (w.1 13 1)).1 13 2)).1 13 3)).1 13 4) then some (sI (sI (sI (cI (cI (cI (sI (sI (sI (sI (sI w 17 1 (w.1 13 1)) 17 2 ((sI w 17 1 (w.1 13 1)).1 13 2)) 17 3 ((sI (sI w 17 1 (w.1 13 1)) 17 2 ((sI w 17 1 (w.1 13 1)).1 13 2)).1 13 3)) 17 4 ((sI (sI (sI w 17 1 (w.1 13 1)) 17 2 ((sI w 17 1 (w.1 13 1)).1 13 2)) 17 3 ((sI (sI w 17 1 (w.1 13 1)) 17 2 ((sI w 17 1 (w.1 13 1)).1 13 2)).1 13 3)).1 13 4)) 17 5 ((sI (sI (sI (sI w 17 1 (w.1 13 1)) 17 2 ((sI w 17 1 (w.1 13 1)).1 13 2)) 17 3 ((sI (sI w 17 1 (w.1 13 1)) 17 2 ((sI w 17 1 (w.1 13 1)).1 13 2)).1 13 3)) 17 4 ((sI (sI (sI w 17 1 (w.1 13 1)) 17 2 ((sI w 17 1 (w.1 13 1)).1 13 2)) 17 3 ((sI (sI w 17 1 (w.1 13 1)) 17 2 ((sI w 17 1 (w.1 13 1)).1 13 2)).1 13 3)).1 13 4)).1 13 5)) 14 0 18 0 3) 15 0 19 0 2) 16 0 20 0 2) 17 9 ((cI (cI (cI (sI (sI (sI (sI (sI w 17 1 (w.1 13 1)) 17 2 ((sI w 17 1 (w.1 13 1)).1 13 2)) 17 3 ((sI (sI w 17 1 (w.1 13 1)) 17 2 ((sI w 17 1 (w.1 13 1)).1 13 2)).1 13 3)) 17 4 ((sI (sI (sI w 17 1 (w.1 13 1)) 17 2 ((sI w 17 1 (w.1 13 1)).1 13 2)) 17 3 ((sI (sI w 17 1 (w.1 13 1)) 17 2 ((sI w 17 1 (w.1 13 1)).1 13 2)).1 13 3)).1 13 4)) 17 5 ((sI (sI (sI (sI w 17 1 (w.1 13 1)) 17 2 ((sI w 17 1 (w.1 13 1)).1 13 2)) 17 3 ((sI (sI w 17 1 (w.1 13 1)) 17 2 ((sI w 17 1 (w.1 13 1)).1 13 2)).1 13 3)) 17 4 ((sI (sI (sI w 17 1 (w.1 13 1)) 17 2 ((sI w 17 1 (w.1 13 1)).1 13 2)) 17 3 ((sI (sI w 17 1 (w.1 13 1)) 17 2 ((sI w 17 1 (w.1 13 1)).1 13 2)).1 13 3)).1 13 4)).1 13 5)) 14 0 18 0 3) 15 0 19 0 2) 16 0 20 0 2).1 13 9)) 17 10 ((sI (cI (cI (cI (sI (sI (sI (sI (sI w 17 1 (w.1 13 1)) 17 2 ((sI w 17 1 (w.1 13 1)).1 13 2)) 17 3 ((sI (sI w 17 1 (w.1 13 1)) 17 2 ((sI w 17 1 (w.1 13 1)).1 13 2)).1 13 3)) 17 4 ((sI (sI (sI w 17 1 (w.1 13 1)) 17 2 ((sI w 17 1 (w.1 13 1)).1 13 2)) 17 3 ((sI (sI w 17 1 (w.1 13 1)) 17 2 ((sI w 17 1 (w.1 13 1)).1 13 2)).1 13 3)).1 13 4)) 17 5 ((sI (sI (sI (sI w 17 1 (w.1 13 1)) 17 2 ((sI w 17 1 (w.1 13 1)).1 13 2)) 17 3 ((sI (sI w 17 1 (w.1 13 1)) 17 2 ((sI w 17 1 (w.1 13 1)).1 13 2)).1 13 3)) 17 4 ((sI (sI (sI w 17 1 (w.1 13 1)) 17 2 ((sI w 17 1 (w.1 13 1)).1 13 2)) 17 3 ((sI (sI w 17 1 (w.1 13 1)) 17 2 ((sI w 17 1 (w.1 13 1)).1 13 2)).1 13 3)).1 13 4)).1 13 5)) 14 0 18 0 3) 15 0 19 0 2) 16 0 20 0 2) 17 9 ((cI (cI (cI (sI (sI (sI (sI (sI w 17 1 (w.1 13 1)) 17 2 ((sI w 17 1 (w.1 13 1)).1 13 2)) 17 3 ((sI (sI w 17 1 (w.1 13 1)) 17 2 ((sI w 17 1 (w.1 13 1)).1 13 2)).1 13 3)) 17 4 ((sI (sI (sI w 17 1 (w.1 13 1)) 17 2 ((sI w 17 1 (w.1 13 1)).1 13 2)) 17 3 ((sI (sI w 17 1 (w.1 13 1)) 17 2 ((sI w 17 1 (w.1 13 1)).1 13 2)).1 13 3)).1 13 4)) 17 5 ((sI (sI (sI (sI w 17 1 (w.1 13 1)) 17 2 ((sI w 17 1 (w.1 13 1)).1 13 2)) 17 3 ((sI (sI w 17 1 (w.1 13 1)) 17 2 ((sI w 17 1 (w.1 13 1)).1 13 2)).1 13 3)) 17 4 ((sI (sI (sI w 17 1 (w.1 13 1)) 17 2 ((sI w 17 1 (w.1 13 1)).1 13 2)) 17 3 ((sI (sI w 17 1 (w.1 13 1)) 17 2 ((sI w 17 1 (w.1 13 1)).1 13 2)).1 13 3)).1 13 4)).1 13 5)) 14 0 18 0 3) 15 0 19 0 2) 16 0 20 0 2).1 13 9)).1 13 10)) 17 11 ((sI (sI (cI (cI (cI (sI (sI (sI (sI (sI w 17 1 (w.1 13 1)) 17 2 ((sI w 17 1 (w.1 13 1)).1 13 2)) 17 3 ((sI (sI w 17 1 (w.1 13 1)) 17 2 ((sI w 17 1 (w.1 13 1)).1 13 2)).1 13 3)) 17 4 ((sI (sI (sI w 17 1 (w.1 13 1)) 17 2 ((sI w 17 1 (w.1 13 1)).1 13 2)) 17 3 ((sI (sI w 17 1 (w.1 13 1)) 17 2 ((sI w 17 1 (w.1 13 1)).1 13 2)).1 13 3)).1 13 4)) 17 5 ((sI (sI (sI (sI w 17 1 (w.1 13 1)) 17 2 ((sI w 17 1 (w.1 13 1)).1 13 2)) 17 3 ((sI (sI w 17 1 (w.1 13 1)) 17 2 ((sI w 17 1 (w.1 13 1)).1 13 2)).1 13 3)) 17 4 ((sI (sI (sI w 17 1 (w.1 13 1)) 17 2 ((sI w 17 1 (w.1 13 1)).1 13 2)) 17 3 ((sI (sI w 17 1 (w.1 13 1)) 17 2 ((sI w 17 1 (w.1 13 1)).1 13 2)).1 13 3)).1 13 4)).1 13 5)) 14 0 18 0 3) 15 0 19 0 2) 16 0 20 0 2) 17 9 ((cI (cI (cI (sI (sI (sI (sI (sI w 17 1 (w.1 13 1)) 17 2 ((sI w 17 1 (w.1 13 1)).1 13 2)) 17 3 ((sI (sI w 17 1 (w.1 13 1)) 17 2 ((sI w 17 1 (w.1 13 1)).1 13 2)).1 13 3)) 17 4 ((sI (sI (sI w 17 1 (w.1 13 1)) 17 2 ((sI w 17 1 (w.1 13 1)).1 13 2)) 17 3 ((sI (sI w 17 1 (w.1 13 1)) 17 2 ((sI w 17 1 (w.1 13 1)).1 13 2)).1 13 3)).1 13 4)) 17 5 ((sI (sI (sI (sI w 17 1 (w.1 13 1)) 17 2 ((sI w 17 1 (w.1 13 1)).1 13 2)) 17 3 ((sI (sI w 17 1 (w.1 13 1)) 17 2 ((sI w 17 1 (w.1 13 1)).1 13 2)).1 13 3)) 17 4 ((sI (sI (sI w 17 1 (w.1 13 1)) 17 2 ((sI w 17 1 (w.1 13 1)).1 13 2)) 17 3 ((sI (sI w 17 1 (w.1 13 1)) 17 2 ((sI w 17 1 (w.1 13 1)).1 13 2)).1 13 3)).1 13 4)).1 13 5)) 14 0 18 0 3) 15 0 19 0 2) 16 0 20 0 2).1 13 9)) 17 10 ((sI (cI (cI (cI (sI (sI (sI (sI (sI w 17 1 (w.1 13 1)) 17 2 ((sI w 17 1 (w.1 13 1)).1 13 2)) 17 3 ((sI (sI w 17 1 (w.1 13 1)) 17 2 ((sI w 17 1 (w.1 13 1)).1 13 2)).1 13 3)) 17 4 ((sI (sI (sI w 17 1 (w.1 13 1)) 17 2 ((sI w 17 1 (w.1 13 1)).1 13 2)) 17 3 ((sI (sI w 17 1 (w.1 13 1)) 17 2 ((sI w 17 1 (w.1 13 1)).1 13 2)).1 13 3)).1 13 4)) 17 5 ((sI (sI (sI (sI w 17 1 (w.1 13 1)) 17 2 ((sI w 17 1 (w.1 13 1)).1 13 2)) 17 3 ((sI (sI w 17 1 (w.1 13 1)) 17 2 ((sI w 17 1 (w.1 13 1)).1 13 2)).1 13 3)) 17 4 ((sI (sI (sI w 17 1 (w.1 13 1)) 17 2 ((sI w 17 1 (w.1 13 1)).1 13 2)) 17 3 ((sI (sI w 17 1 (w.1 13 1)) 17 2 ((sI w 17 1 (w.1 13 1)).1 13 2)).1 13 3)).1 13 4)).1 13 5)) 14 0 18 0 3) 15 0 19 0 2) 16 0 20 0 2) 17 9 ((cI (cI (cI (sI (sI (sI (sI (sI w 17 1 (w.1 13 1)) 17 2 ((sI w 17 1 (w.1 13 1)).1 13 2)) 17 3 ((sI (sI w 17 1 (w.1 13 1)) 17 2 ((sI w 17 1 (w.1 13 1)).1 13 2)).1 13 3)) 17 4 ((sI (sI (sI w 17 1 (w.1 13 1)) 17 2 ((sI w 17 1 (w.1 13 1)).1 13 2)) 17 3 ((sI (sI w 17 1 (w.1 13 1)) 17 2 ((sI w 17 1 (w.1 13 1)).1 13 2)).1 13 3)).1 13 4)) 17 5 ((sI (sI (sI (sI w 17 1 (w.1 13 1)) 17 2 ((sI w 17 1 (w.1 13 1)).1 13 2)) 17 3 ((sI (sI w 17 1 (w.1 13 1)) 17 2 ((sI w 17 1 (w.1 13 1)).1 13 2)).1 13 3)) 17 4 ((sI (sI (sI w 17 1 (w.1 13 1)) 17 2 ((sI w 17 1 (w.1 13 1)).1 13 2)) 17 3 ((sI (sI w 17 1 (w.1 13 1)) 17 2 ((sI w 17 1 (w.1 13 1)).1 13 2)).1 13 3)).1 13 4)).1 13 5)) 14 0 18 0 3) 15 0 19 0 2) 16 0 20 0 2).1 13 9)).1 13 10)).1 13 11)) else none) else none)
set_option maxRecDepth 100000 in
set_option maxHeartbeats 4000000 in
theorem ct_Sc_copy_17_13 {l : Launch} {g : GG} {σ : Sd} (hg : OKg g σ) (hb : σ.2.1 = true) (hx : ∀ c ∈ ([13, 14, 15, 16, 17, 18, 19, 20] : List Nat), c ∈ σ.1) (w : Wd) {q : Wd} (hq : Sc_copy_17_13 w = some q) : CT l g σ yX5_copy cX5_copy 2 none 1 18 [.ref (gA g 17), .ref (gA g 13)] w none q := by
  refine ct_of (rt := rtV) (res := Sc_copy_17_13 w) (q := q) (own := RX5) (b := true) hg hb hx (by decide) rfl (Nat.le_of_ble_eq_true rfl) hq (fun K e1 e2 e3 F => ?_)
  subst e1 e2 e3
  rw [Sc_copy_17_13]
  show N K _ _ w 0 [(0, .ref (gA (cg K) 17)), (1, .ref (gA (cg K) 13))] []
  refine n_aload_n F dX5_copy_0 rfl 0 rfl ?_
  refine n_aload_n F dX5_copy_1 rfl 1 rfl ?_
  refine n_get F ck_5 lf_RX5_28 (by decide) fg_13_1 (by decide) dX5_copy_2 ?_
  refine n_put F ck_5 lf_RX5_28 (by decide) rfl fp_17_1 (by decide) rfl rfl dX5_copy_5 ?_
  refine n_aload_n F dX5_copy_8 rfl 0 rfl ?_
  refine n_aload_n F dX5_copy_9 rfl 1 rfl ?_
  refine n_get F ck_5 lf_RX5_37 (by decide) fg_13_2 (by decide) dX5_copy_10 ?_
  refine n_put F ck_5 lf_RX5_37 (by decide) rfl fp_17_2 (by decide) rfl rfl dX5_copy_13 ?_
  refine n_aload_n F dX5_copy_16 rfl 0 rfl ?_
  refine n_aload_n F dX5_copy_17 rfl 1 rfl ?_
  refine n_get F ck_5 lf_RX5_40 (by decide) fg_13_3 (by decide) dX5_copy_18 ?_
  refine n_chk (fun e1 => ?_)
  refine n_put F ck_5 lf_RX5_40 (by decide) rfl fp_17_3 (by decide) (bz_n e1) (bz_f e1) dX5_copy_21 ?_
  refine n_aload_n F dX5_copy_24 rfl 0 rfl ?_
  refine n_aload_n F dX5_copy_25 rfl 1 rfl ?_
  refine n_get F ck_5 lf_RX5_59 (by decide) fg_13_4 (by decide) dX5_copy_26 ?_
  refine n_chk (fun e2 => ?_)
  refine n_put F ck_5 lf_RX5_59 (by decide) rfl fp_17_4 (by decide) (bz_n e2) (bz_f e2) dX5_copy_29 ?_
  refine n_aload_n F dX5_copy_32 rfl 0 rfl ?_
  refine n_aload_n F dX5_copy_33 rfl 1 rfl ?_
  refine n_get F ck_5 lf_RX5_71 (by decide) fg_13_5 (by decide) dX5_copy_34 ?_
  refine n_put F ck_5 lf_RX5_71 (by decide) rfl fp_17_5 (by decide) rfl rfl dX5_copy_37 ?_
  refine n_aload_n F dX5_copy_40 rfl 1 rfl ?_
  refine n_get F ck_5 lf_RX5_9 (by decide) fg_13_6 (by decide) dX5_copy_41 ?_
  refine n_iconst F (0 : Int32) dX5_copy_44 (by decide) ?_
  refine n_aload_n F dX5_copy_45 rfl 0 rfl ?_
  refine n_get F ck_5 lf_RX5_9 (by decide) fg_17_6 (by decide) dX5_copy_46 ?_
  refine n_iconst F (0 : Int32) dX5_copy_49 (by decide) ?_
  refine n_iconst F (3 : Int32) dX5_copy_50 (by decide) ?_
  refine n_copyI F ar_14 ar_18 (by decide) (by decide) 0 0 3 (by decide) (by decide) (by decide) (by decide) (by decide) (by decide) (by decide) (by decide) la_RX5_45 (Nat.le_of_ble_eq_true rfl) (Nat.le_of_ble_eq_true rfl) dX5_copy_51 ?_
  refine n_aload_n F dX5_copy_54 rfl 1 rfl ?_
  refine n_get F ck_5 lf_RX5_15 (by decide) fg_13_7 (by decide) dX5_copy_55 ?_
  refine n_iconst F (0 : Int32) dX5_copy_58 (by decide) ?_
  refine n_aload_n F dX5_copy_59 rfl 0 rfl ?_
  refine n_get F ck_5 lf_RX5_15 (by decide) fg_17_7 (by decide) dX5_copy_60 ?_
  refine n_iconst F (0 : Int32) dX5_copy_63 (by decide) ?_
  refine n_iconst F (2 : Int32) dX5_copy_64 (by decide) ?_
  refine n_copyI F ar_15 ar_19 (by decide) (by decide) 0 0 2 (by decide) (by decide) (by decide) (by decide) (by decide) (by decide) (by decide) (by decide) la_RX5_45 (Nat.le_of_ble_eq_true rfl) (Nat.le_of_ble_eq_true rfl) dX5_copy_65 ?_
  refine n_aload_n F dX5_copy_68 rfl 1 rfl ?_
  refine n_get F ck_5 lf_RX5_18 (by decide) fg_13_8 (by decide) dX5_copy_69 ?_
  refine n_iconst F (0 : Int32) dX5_copy_72 (by decide) ?_
  refine n_aload_n F dX5_copy_73 rfl 0 rfl ?_
  refine n_get F ck_5 lf_RX5_18 (by decide) fg_17_8 (by decide) dX5_copy_74 ?_
  refine n_iconst F (0 : Int32) dX5_copy_77 (by decide) ?_
  refine n_iconst F (2 : Int32) dX5_copy_78 (by decide) ?_
  refine n_copyI F ar_16 ar_20 (by decide) (by decide) 0 0 2 (by decide) (by decide) (by decide) (by decide) (by decide) (by decide) (by decide) (by decide) la_RX5_45 (Nat.le_of_ble_eq_true rfl) (Nat.le_of_ble_eq_true rfl) dX5_copy_79 ?_
  refine n_aload_n F dX5_copy_82 rfl 0 rfl ?_
  refine n_aload_n F dX5_copy_83 rfl 1 rfl ?_
  refine n_get F ck_5 lf_RX5_62 (by decide) fg_13_9 (by decide) dX5_copy_84 ?_
  refine n_put F ck_5 lf_RX5_62 (by decide) rfl fp_17_9 (by decide) rfl rfl dX5_copy_87 ?_
  refine n_aload_n F dX5_copy_90 rfl 0 rfl ?_
  refine n_aload_n F dX5_copy_91 rfl 1 rfl ?_
  refine n_get F ck_5 lf_RX5_65 (by decide) fg_13_10 (by decide) dX5_copy_92 ?_
  refine n_put F ck_5 lf_RX5_65 (by decide) rfl fp_17_10 (by decide) rfl rfl dX5_copy_95 ?_
  refine n_aload_n F dX5_copy_98 rfl 0 rfl ?_
  refine n_aload_n F dX5_copy_99 rfl 1 rfl ?_
  refine n_get F ck_5 lf_RX5_68 (by decide) fg_13_11 (by decide) dX5_copy_100 ?_
  refine n_put F ck_5 lf_RX5_68 (by decide) rfl fp_17_11 (by decide) rfl rfl dX5_copy_103 ?_
  exact n_vret F rfl rfl dX5_copy_106
