theorem dX8_send_0 : decode cX8_send 0 = .ok (.iload_n 1, 1) := by decide +kernel
theorem dX8_send_1 : decode cX8_send 1 = .ok (.invokestatic 168, 3) := by decide +kernel
theorem dX8_send_4 : decode cX8_send 4 = .ok (.ifCond .eq 16, 3) := by decide +kernel
theorem dX8_send_7 : decode cX8_send 7 = .ok (.iload_n 2, 1) := by decide +kernel
theorem dX8_send_8 : decode cX8_send 8 = .ok (.iconst (-1), 1) := by decide +kernel
theorem dX8_send_9 : decode cX8_send 9 = .ok (.if_icmp .eq 14, 3) := by decide +kernel
theorem dX8_send_12 : decode cX8_send 12 = .ok (.aload_n 0, 1) := by decide +kernel
theorem dX8_send_13 : decode cX8_send 13 = .ok (.iload_n 2, 1) := by decide +kernel
theorem dX8_send_14 : decode cX8_send 14 = .ok (.invokevirtual 147, 3) := by decide +kernel
theorem dX8_send_17 : decode cX8_send 17 = .ok (.ifCond .ne 6, 3) := by decide +kernel
theorem dX8_send_20 : decode cX8_send 20 = .ok (.bipush (-2), 2) := by decide +kernel
theorem dX8_send_22 : decode cX8_send 22 = .ok (.ireturn, 1) := by decide +kernel
theorem dX8_send_23 : decode cX8_send 23 = .ok (.aload_n 0, 1) := by decide +kernel
theorem dX8_send_24 : decode cX8_send 24 = .ok (.getfield 7, 3) := by decide +kernel
theorem dX8_send_27 : decode cX8_send 27 = .ok (.bipush 8, 2) := by decide +kernel
theorem dX8_send_29 : decode cX8_send 29 = .ok (.iload_n 1, 1) := by decide +kernel
theorem dX8_send_30 : decode cX8_send 30 = .ok (.iadd, 1) := by decide +kernel
theorem dX8_send_31 : decode cX8_send 31 = .ok (.iaload, 1) := by decide +kernel
theorem dX8_send_32 : decode cX8_send 32 = .ok (.istore_n 3, 1) := by decide +kernel
theorem dX8_send_33 : decode cX8_send 33 = .ok (.aload_n 0, 1) := by decide +kernel
theorem dX8_send_34 : decode cX8_send 34 = .ok (.getfield 7, 3) := by decide +kernel
theorem dX8_send_37 : decode cX8_send 37 = .ok (.iconst 3, 1) := by decide +kernel
theorem dX8_send_38 : decode cX8_send 38 = .ok (.iaload, 1) := by decide +kernel
theorem dX8_send_39 : decode cX8_send 39 = .ok (.iconst 1, 1) := by decide +kernel
theorem dX8_send_40 : decode cX8_send 40 = .ok (.if_icmp .eq 43, 3) := by decide +kernel
theorem dX8_send_43 : decode cX8_send 43 = .ok (.iload_n 3, 1) := by decide +kernel
theorem dX8_send_44 : decode cX8_send 44 = .ok (.iconst (-1), 1) := by decide +kernel
theorem dX8_send_45 : decode cX8_send 45 = .ok (.if_icmp .eq 38, 3) := by decide +kernel
theorem dX8_send_48 : decode cX8_send 48 = .ok (.iload_n 2, 1) := by decide +kernel
theorem dX8_send_49 : decode cX8_send 49 = .ok (.iconst (-1), 1) := by decide +kernel
theorem dX8_send_50 : decode cX8_send 50 = .ok (.if_icmp .eq 36, 3) := by decide +kernel
theorem dX8_send_53 : decode cX8_send 53 = .ok (.aload_n 0, 1) := by decide +kernel
theorem dX8_send_54 : decode cX8_send 54 = .ok (.iload_n 2, 1) := by decide +kernel
theorem dX8_send_55 : decode cX8_send 55 = .ok (.iload_n 3, 1) := by decide +kernel
theorem dX8_send_56 : decode cX8_send 56 = .ok (.aload_n 0, 1) := by decide +kernel
theorem dX8_send_57 : decode cX8_send 57 = .ok (.getfield 7, 3) := by decide +kernel
theorem dX8_send_60 : decode cX8_send 60 = .ok (.iconst 0, 1) := by decide +kernel
theorem dX8_send_61 : decode cX8_send 61 = .ok (.iaload, 1) := by decide +kernel
theorem dX8_send_62 : decode cX8_send 62 = .ok (.invokevirtual 152, 3) := by decide +kernel
theorem dX8_send_65 : decode cX8_send 65 = .ok (.ifCond .eq 18, 3) := by decide +kernel
theorem dX8_send_68 : decode cX8_send 68 = .ok (.aload_n 0, 1) := by decide +kernel
theorem dX8_send_69 : decode cX8_send 69 = .ok (.getfield 27, 3) := by decide +kernel
theorem dX8_send_72 : decode cX8_send 72 = .ok (.bipush 6, 2) := by decide +kernel
theorem dX8_send_74 : decode cX8_send 74 = .ok (.iload_n 2, 1) := by decide +kernel
theorem dX8_send_75 : decode cX8_send 75 = .ok (.imul, 1) := by decide +kernel
theorem dX8_send_76 : decode cX8_send 76 = .ok (.iconst 4, 1) := by decide +kernel
theorem dX8_send_77 : decode cX8_send 77 = .ok (.iadd, 1) := by decide +kernel
theorem dX8_send_78 : decode cX8_send 78 = .ok (.iaload, 1) := by decide +kernel
theorem dX8_send_79 : decode cX8_send 79 = .ok (.iconst 2, 1) := by decide +kernel
theorem dX8_send_80 : decode cX8_send 80 = .ok (.if_icmp .ne 6, 3) := by decide +kernel
theorem dX8_send_83 : decode cX8_send 83 = .ok (.bipush (-4), 2) := by decide +kernel
theorem dX8_send_85 : decode cX8_send 85 = .ok (.ireturn, 1) := by decide +kernel
theorem dX8_send_86 : decode cX8_send 86 = .ok (.aload_n 0, 1) := by decide +kernel
theorem dX8_send_87 : decode cX8_send 87 = .ok (.getfield 7, 3) := by decide +kernel
theorem dX8_send_90 : decode cX8_send 90 = .ok (.bipush 10, 2) := by decide +kernel
theorem dX8_send_92 : decode cX8_send 92 = .ok (.iload_n 1, 1) := by decide +kernel
theorem dX8_send_93 : decode cX8_send 93 = .ok (.iadd, 1) := by decide +kernel
theorem dX8_send_94 : decode cX8_send 94 = .ok (.iload_n 2, 1) := by decide +kernel
theorem dX8_send_95 : decode cX8_send 95 = .ok (.iastore, 1) := by decide +kernel
theorem dX8_send_96 : decode cX8_send 96 = .ok (.iload_n 2, 1) := by decide +kernel
theorem dX8_send_97 : decode cX8_send 97 = .ok (.iconst (-1), 1) := by decide +kernel
theorem dX8_send_98 : decode cX8_send 98 = .ok (.if_icmp .ne 7, 3) := by decide +kernel
theorem dX8_send_101 : decode cX8_send 101 = .ok (.iload_n 3, 1) := by decide +kernel
theorem dX8_send_102 : decode cX8_send 102 = .ok (.goto 14, 3) := by decide +kernel
theorem dX8_send_105 : decode cX8_send 105 = .ok (.aload_n 0, 1) := by decide +kernel
theorem dX8_send_106 : decode cX8_send 106 = .ok (.getfield 27, 3) := by decide +kernel
theorem dX8_send_109 : decode cX8_send 109 = .ok (.bipush 6, 2) := by decide +kernel
theorem dX8_send_111 : decode cX8_send 111 = .ok (.iload_n 2, 1) := by decide +kernel
theorem dX8_send_112 : decode cX8_send 112 = .ok (.imul, 1) := by decide +kernel
theorem dX8_send_113 : decode cX8_send 113 = .ok (.iconst 1, 1) := by decide +kernel
theorem dX8_send_114 : decode cX8_send 114 = .ok (.iadd, 1) := by decide +kernel
theorem dX8_send_115 : decode cX8_send 115 = .ok (.iaload, 1) := by decide +kernel
theorem dX8_send_116 : decode cX8_send 116 = .ok (.ireturn, 1) := by decide +kernel
def Mo_send_B86 (w : Wd) (v1 : Int32) (v2 : Int32) (v3 : Int32) : Option (Int32 × Wd) := (if ib ((10 : Int32) + v1) 45 = true then (if v2 = (-1 : Int32) then some (v3, (sI w 38 (Int32.toNatClampNeg ((10 : Int32) + v1)) v2)) else (if ib (((6 : Int32) * v2) + (1 : Int32)) 72 = true then some (((sI w 38 (Int32.toNatClampNeg ((10 : Int32) + v1)) v2).1 42 (Int32.toNatClampNeg (((6 : Int32) * v2) + (1 : Int32)))), (sI w 38 (Int32.toNatClampNeg ((10 : Int32) + v1)) v2)) else none)) else none)
set_option maxRecDepth 100000 in
set_option maxHeartbeats 4000000 in
theorem Mo_send_B86_ok {K : Ctx} (F : Fx K cX8_send 4 RX8 (some .int) 2 46 false [37, 38, 42]) (w : Wd) (v1 : Int32) (v2 : Int32) (v3 : Int32) : N K rtI (Mo_send_B86 w v1 v2 v3) w 86 [(0, .ref (gA (cg K) 37)), (1, .int v1), (2, .int v2), (3, .int v3)] [] := by
  rw [Mo_send_B86]
  refine n_aload_n F dX8_send_86 rfl 0 rfl ?_
  refine n_get F ck_8 lf_RX8_7 (by decide) fg_37_0 (by decide) dX8_send_87 ?_
  refine n_bipush F (10 : Int32) dX8_send_90 (by decide) ?_
  refine n_iload_n F dX8_send_92 rfl 1 rfl ?_
  refine n_iadd F dX8_send_93 ?_
  refine n_iload_n F dX8_send_94 rfl 2 rfl ?_
  refine n_chk (fun e7 => ?_)
  refine n_iast F ar_38 (by decide) (ib_in e7) rfl dX8_send_95 ?_
  refine n_iload_n F dX8_send_96 rfl 2 rfl ?_
  refine n_iconst F (-1 : Int32) dX8_send_97 (by decide) ?_
  refine n_icmp_ne F 105 dX8_send_98 (by decide) (fun e8 => ?_) (fun e8 => ?_)
  · rw [if_neg e8]
    refine n_aload_n F dX8_send_105 rfl 0 rfl ?_
    refine n_get F ck_8 lf_RX8_27 (by decide) fg_37_7 (by decide) dX8_send_106 ?_
    refine n_bipush F (6 : Int32) dX8_send_109 (by decide) ?_
    refine n_iload_n F dX8_send_111 rfl 2 rfl ?_
    refine n_imul F dX8_send_112 ?_
    refine n_iconst F (1 : Int32) dX8_send_113 (by decide) ?_
    refine n_iadd F dX8_send_114 ?_
    refine n_chk (fun e9 => ?_)
    refine n_iald F ar_42 (by decide) (ib_in e9) rfl dX8_send_115 ?_
    exact n_iret F rfl rfl dX8_send_116
  rw [if_pos e8]
  refine n_iload_n F dX8_send_101 rfl 3 rfl ?_
  refine n_goto F 116 dX8_send_102 (by decide) ?_
  exact n_iret F rfl rfl dX8_send_116
def Mo_send_B23 (w : Wd) (v1 : Int32) (v2 : Int32) : Option (Int32 × Wd) := (if ib ((8 : Int32) + v1) 45 = true then (if (w.1 38 3) = (1 : Int32) then some ((-4 : Int32), w) else (if (w.1 38 (Int32.toNatClampNeg ((8 : Int32) + v1))) = (-1 : Int32) then some ((-4 : Int32), w) else (if v2 = (-1 : Int32) then (Mo_send_B86 w v1 v2 (w.1 38 (Int32.toNatClampNeg ((8 : Int32) + v1)))) else (Option.bind (Mo_leaves w v2 (w.1 38 (Int32.toNatClampNeg ((8 : Int32) + v1))) (w.1 38 0)) (fun q10 => (if q10 = (0 : Int32) then some ((-4 : Int32), w) else (if ib (((6 : Int32) * v2) + (4 : Int32)) 72 = true then (if (w.1 42 (Int32.toNatClampNeg (((6 : Int32) * v2) + (4 : Int32)))) = (2 : Int32) then some ((-4 : Int32), w) else (Mo_send_B86 w v1 v2 (w.1 38 (Int32.toNatClampNeg ((8 : Int32) + v1))))) else none))))))) else none)
set_option maxRecDepth 100000 in
set_option maxHeartbeats 4000000 in
theorem Mo_send_B23_ok {K : Ctx} (F : Fx K cX8_send 4 RX8 (some .int) 2 46 false [37, 38, 42]) (w : Wd) (v1 : Int32) (v2 : Int32) : N K rtI (Mo_send_B23 w v1 v2) w 23 [(0, .ref (gA (cg K) 37)), (1, .int v1), (2, .int v2)] [] := by
  rw [Mo_send_B23]
  refine n_aload_n F dX8_send_23 rfl 0 rfl ?_
  refine n_get F ck_8 lf_RX8_7 (by decide) fg_37_0 (by decide) dX8_send_24 ?_
  refine n_bipush F (8 : Int32) dX8_send_27 (by decide) ?_
  refine n_iload_n F dX8_send_29 rfl 1 rfl ?_
  refine n_iadd F dX8_send_30 ?_
  refine n_chk (fun e3 => ?_)
  refine n_iald F ar_38 (by decide) (ib_in e3) rfl dX8_send_31 ?_
  refine n_istore_n F (lv' := [(3, .int (w.1 38 (Int32.toNatClampNeg ((8 : Int32) + v1)))), (0, .ref (gA (cg K) 37)), (1, .int v1), (2, .int v2)]) dX8_send_32 rfl (by decide) rfl ?_
  refine n_aload_n F dX8_send_33 rfl 1 rfl ?_
  refine n_get F ck_8 lf_RX8_7 (by decide) fg_37_0 (by decide) dX8_send_34 ?_
  refine n_iconst F (3 : Int32) dX8_send_37 (by decide) ?_
  refine n_iald F ar_38 (by decide) (ib_c (n := 45) (by decide)) (j := 3) (by decide) dX8_send_38 ?_
  refine n_iconst F (1 : Int32) dX8_send_39 (by decide) ?_
  refine n_icmp_eq F 83 dX8_send_40 (by decide) (fun e4 => ?_) (fun e4 => ?_)
  · rw [if_pos e4]
    refine n_bipush F (-4 : Int32) dX8_send_83 (by decide) ?_
    exact n_iret F rfl rfl dX8_send_85
  rw [if_neg e4]
  refine n_iload_n F dX8_send_43 rfl 0 rfl ?_
  refine n_iconst F (-1 : Int32) dX8_send_44 (by decide) ?_
  refine n_icmp_eq F 83 dX8_send_45 (by decide) (fun e5 => ?_) (fun e5 => ?_)
  · rw [if_pos e5]
    refine n_bipush F (-4 : Int32) dX8_send_83 (by decide) ?_
    exact n_iret F rfl rfl dX8_send_85
  rw [if_neg e5]
  refine n_iload_n F dX8_send_48 rfl 3 rfl ?_
  refine n_iconst F (-1 : Int32) dX8_send_49 (by decide) ?_
  refine n_icmp_eq F 86 dX8_send_50 (by decide) (fun e6 => ?_) (fun e6 => ?_)
  · rw [if_pos e6]
    exact n_sub [1, 2, 3, 0] rfl (Mo_send_B86_ok F _ _ _ _)
  rw [if_neg e6]
  refine n_aload_n F dX8_send_53 rfl 1 rfl ?_
  refine n_iload_n F dX8_send_54 rfl 3 rfl ?_
  refine n_iload_n F dX8_send_55 rfl 0 rfl ?_
  refine n_aload_n F dX8_send_56 rfl 1 rfl ?_
  refine n_get F ck_8 lf_RX8_7 (by decide) fg_37_0 (by decide) dX8_send_57 ?_
  refine n_iconst F (0 : Int32) dX8_send_60 (by decide) ?_
  refine n_iald F ar_38 (by decide) (ib_c (n := 45) (by decide)) (j := 0) (by decide) dX8_send_61 ?_
  refine n_bind (fun q10 hq10 => ?_)
  refine n_callVi F cb_X8_leaves lm_RX8_152 ob_37 (by decide) ⟨_, _, rfl⟩ (ct_Mo_leaves (fx_ok F) (fx_sd F) (fx_ix F rfl) w v2 (w.1 38 (Int32.toNatClampNeg ((8 : Int32) + v1))) (w.1 38 0) hq10) rfl rfl (Nat.le_of_ble_eq_true rfl) ⟨Nat.le_of_ble_eq_true rfl, Nat.le_of_ble_eq_true rfl⟩ dX8_send_62 ?_
  refine n_if_eq F 83 dX8_send_65 (by decide) (fun e11 => ?_) (fun e11 => ?_)
  · rw [if_pos e11]
    refine n_bipush F (-4 : Int32) dX8_send_83 (by decide) ?_
    exact n_iret F rfl rfl dX8_send_85
  rw [if_neg e11]
  refine n_aload_n F dX8_send_68 rfl 1 rfl ?_
  refine n_get F ck_8 lf_RX8_27 (by decide) fg_37_7 (by decide) dX8_send_69 ?_
  refine n_bipush F (6 : Int32) dX8_send_72 (by decide) ?_
  refine n_iload_n F dX8_send_74 rfl 3 rfl ?_
  refine n_imul F dX8_send_75 ?_
  refine n_iconst F (4 : Int32) dX8_send_76 (by decide) ?_
  refine n_iadd F dX8_send_77 ?_
  refine n_chk (fun e12 => ?_)
  refine n_iald F ar_42 (by decide) (ib_in e12) rfl dX8_send_78 ?_
  refine n_iconst F (2 : Int32) dX8_send_79 (by decide) ?_
  refine n_icmp_ne F 86 dX8_send_80 (by decide) (fun e13 => ?_) (fun e13 => ?_)
  · rw [if_neg e13]
    exact n_sub [1, 2, 3, 0] rfl (Mo_send_B86_ok F _ _ _ _)
  rw [if_pos e13]
  refine n_bipush F (-4 : Int32) dX8_send_83 (by decide) ?_
  exact n_iret F rfl rfl dX8_send_85
def Mo_send (w : Wd) (a1 : Int32) (a2 : Int32) : Option (Int32 × Wd) := (if (Mo_isSeeker w a1) = (0 : Int32) then some ((-2 : Int32), w) else (if a2 = (-1 : Int32) then (Mo_send_B23 w a1 a2) else (if (Mo_isTrain w a2) = (0 : Int32) then some ((-2 : Int32), w) else (Mo_send_B23 w a1 a2))))
set_option maxRecDepth 100000 in
set_option maxHeartbeats 4000000 in
theorem ct_Mo_send {l : Launch} {g : GG} {σ : Sd} (hg : OKg g σ) (hb : σ.2.1 = false) (hx : ∀ c ∈ ([37, 38, 42] : List Nat), c ∈ σ.1) (w : Wd) (a1 : Int32) (a2 : Int32) {q : Int32 × Wd} (hq : Mo_send w a1 a2 = some q) : CT l g σ yX8_send cX8_send 4 (some .int) 2 46 [.ref (gA g 37), .int a1, .int a2] w (some (.int q.1)) q.2 := by
  refine ct_of (rt := rtI) (res := Mo_send w a1 a2) (q := q) (own := RX8) (b := false) hg hb hx (by decide) rfl (Nat.le_of_ble_eq_true rfl) hq (fun K e1 e2 e3 F => ?_)
  subst e1 e2 e3
  rw [Mo_send]
  show N K _ _ w 0 [(0, .ref (gA (cg K) 37)), (1, .int a1), (2, .int a2)] []
  refine n_iload_n F dX8_send_0 rfl 1 rfl ?_
  refine n_callSi F cb_X8_isSeeker lm_RX8_168 (ct_Mo_isSeeker (fx_ok F) (fx_sd F) (fx_ix F rfl) w a1) rfl rfl (Nat.le_of_ble_eq_true rfl) ⟨Nat.le_of_ble_eq_true rfl, Nat.le_of_ble_eq_true rfl⟩ dX8_send_1 ?_
  refine n_if_eq F 20 dX8_send_4 (by decide) (fun e1 => ?_) (fun e1 => ?_)
  · rw [if_pos e1]
    refine n_bipush F (-2 : Int32) dX8_send_20 (by decide) ?_
    exact n_iret F rfl rfl dX8_send_22
  rw [if_neg e1]
  refine n_iload_n F dX8_send_7 rfl 2 rfl ?_
  refine n_iconst F (-1 : Int32) dX8_send_8 (by decide) ?_
  refine n_icmp_eq F 23 dX8_send_9 (by decide) (fun e2 => ?_) (fun e2 => ?_)
  · rw [if_pos e2]
    exact n_sub [0, 1, 2] rfl (Mo_send_B23_ok F _ _ _)
  rw [if_neg e2]
  refine n_aload_n F dX8_send_12 rfl 0 rfl ?_
  refine n_iload_n F dX8_send_13 rfl 2 rfl ?_
  refine n_callVi F cb_X8_isTrain lm_RX8_147 ob_37 (by decide) ⟨_, _, rfl⟩ (ct_Mo_isTrain (fx_ok F) (fx_sd F) (fx_ix F rfl) w a2) rfl rfl (Nat.le_of_ble_eq_true rfl) ⟨Nat.le_of_ble_eq_true rfl, Nat.le_of_ble_eq_true rfl⟩ dX8_send_14 ?_
  refine n_if_ne F 23 dX8_send_17 (by decide) (fun e14 => ?_) (fun e14 => ?_)
  · rw [if_neg e14]
    exact n_sub [0, 1, 2] rfl (Mo_send_B23_ok F _ _ _)
  rw [if_pos e14]
  refine n_bipush F (-2 : Int32) dX8_send_20 (by decide) ?_
  exact n_iret F rfl rfl dX8_send_22
theorem dX8_layBy_0 : decode cX8_layBy 0 = .ok (.aload_n 0, 1) := by decide +kernel
theorem dX8_layBy_1 : decode cX8_layBy 1 = .ok (.iconst 0, 1) := by decide +kernel
theorem dX8_layBy_2 : decode cX8_layBy 2 = .ok (.putfield 171, 3) := by decide +kernel
theorem dX8_layBy_5 : decode cX8_layBy 5 = .ok (.aload_n 0, 1) := by decide +kernel
theorem dX8_layBy_6 : decode cX8_layBy 6 = .ok (.iconst 0, 1) := by decide +kernel
theorem dX8_layBy_7 : decode cX8_layBy 7 = .ok (.putfield 174, 3) := by decide +kernel
theorem dX8_layBy_10 : decode cX8_layBy 10 = .ok (.iconst 0, 1) := by decide +kernel
theorem dX8_layBy_11 : decode cX8_layBy 11 = .ok (.istore_n 2, 1) := by decide +kernel
theorem dX8_layBy_12 : decode cX8_layBy 12 = .ok (.iload_n 2, 1) := by decide +kernel
theorem dX8_layBy_13 : decode cX8_layBy 13 = .ok (.aload_n 0, 1) := by decide +kernel
theorem dX8_layBy_14 : decode cX8_layBy 14 = .ok (.getfield 131, 3) := by decide +kernel
theorem dX8_layBy_17 : decode cX8_layBy 17 = .ok (.if_icmp .ge 157, 3) := by decide +kernel
theorem dX8_layBy_20 : decode cX8_layBy 20 = .ok (.aload_n 0, 1) := by decide +kernel
theorem dX8_layBy_21 : decode cX8_layBy 21 = .ok (.getfield 27, 3) := by decide +kernel
theorem dX8_layBy_24 : decode cX8_layBy 24 = .ok (.bipush 6, 2) := by decide +kernel
theorem dX8_layBy_26 : decode cX8_layBy 26 = .ok (.iload_n 2, 1) := by decide +kernel
theorem dX8_layBy_27 : decode cX8_layBy 27 = .ok (.imul, 1) := by decide +kernel
theorem dX8_layBy_28 : decode cX8_layBy 28 = .ok (.iconst 0, 1) := by decide +kernel
theorem dX8_layBy_29 : decode cX8_layBy 29 = .ok (.iadd, 1) := by decide +kernel
theorem dX8_layBy_30 : decode cX8_layBy 30 = .ok (.iaload, 1) := by decide +kernel
theorem dX8_layBy_31 : decode cX8_layBy 31 = .ok (.istore_n 3, 1) := by decide +kernel
theorem dX8_layBy_32 : decode cX8_layBy 32 = .ok (.iconst 1, 1) := by decide +kernel
theorem dX8_layBy_33 : decode cX8_layBy 33 = .ok (.aload_n 0, 1) := by decide +kernel
theorem dX8_layBy_34 : decode cX8_layBy 34 = .ok (.getfield 27, 3) := by decide +kernel
theorem dX8_layBy_37 : decode cX8_layBy 37 = .ok (.bipush 6, 2) := by decide +kernel
theorem dX8_layBy_39 : decode cX8_layBy 39 = .ok (.iload_n 2, 1) := by decide +kernel
theorem dX8_layBy_40 : decode cX8_layBy 40 = .ok (.imul, 1) := by decide +kernel
theorem dX8_layBy_41 : decode cX8_layBy 41 = .ok (.iconst 1, 1) := by decide +kernel
theorem dX8_layBy_42 : decode cX8_layBy 42 = .ok (.iadd, 1) := by decide +kernel
theorem dX8_layBy_43 : decode cX8_layBy 43 = .ok (.iaload, 1) := by decide +kernel
theorem dX8_layBy_44 : decode cX8_layBy 44 = .ok (.ishl, 1) := by decide +kernel
theorem dX8_layBy_45 : decode cX8_layBy 45 = .ok (.istore 4, 2) := by decide +kernel
theorem dX8_layBy_47 : decode cX8_layBy 47 = .ok (.aload_n 0, 1) := by decide +kernel
theorem dX8_layBy_48 : decode cX8_layBy 48 = .ok (.getfield 27, 3) := by decide +kernel
theorem dX8_layBy_51 : decode cX8_layBy 51 = .ok (.bipush 6, 2) := by decide +kernel
theorem dX8_layBy_53 : decode cX8_layBy 53 = .ok (.iload_n 2, 1) := by decide +kernel
theorem dX8_layBy_54 : decode cX8_layBy 54 = .ok (.imul, 1) := by decide +kernel
theorem dX8_layBy_55 : decode cX8_layBy 55 = .ok (.iconst 5, 1) := by decide +kernel
theorem dX8_layBy_56 : decode cX8_layBy 56 = .ok (.iadd, 1) := by decide +kernel
theorem dX8_layBy_57 : decode cX8_layBy 57 = .ok (.iaload, 1) := by decide +kernel
theorem dX8_layBy_58 : decode cX8_layBy 58 = .ok (.iload_n 1, 1) := by decide +kernel
theorem dX8_layBy_59 : decode cX8_layBy 59 = .ok (.if_icmp .ne 36, 3) := by decide +kernel
theorem dX8_layBy_62 : decode cX8_layBy 62 = .ok (.aload_n 0, 1) := by decide +kernel
theorem dX8_layBy_63 : decode cX8_layBy 63 = .ok (.getfield 7, 3) := by decide +kernel
theorem dX8_layBy_66 : decode cX8_layBy 66 = .ok (.bipush 12, 2) := by decide +kernel
theorem dX8_layBy_68 : decode cX8_layBy 68 = .ok (.iaload, 1) := by decide +kernel
theorem dX8_layBy_69 : decode cX8_layBy 69 = .ok (.iload_n 3, 1) := by decide +kernel
theorem dX8_layBy_70 : decode cX8_layBy 70 = .ok (.invokestatic 164, 3) := by decide +kernel
theorem dX8_layBy_73 : decode cX8_layBy 73 = .ok (.ifCond .eq 22, 3) := by decide +kernel
theorem dX8_layBy_76 : decode cX8_layBy 76 = .ok (.aload_n 0, 1) := by decide +kernel
theorem dX8_layBy_77 : decode cX8_layBy 77 = .ok (.iload_n 2, 1) := by decide +kernel
theorem dX8_layBy_78 : decode cX8_layBy 78 = .ok (.iload_n 3, 1) := by decide +kernel
theorem dX8_layBy_79 : decode cX8_layBy 79 = .ok (.aload_n 0, 1) := by decide +kernel
theorem dX8_layBy_80 : decode cX8_layBy 80 = .ok (.getfield 7, 3) := by decide +kernel
theorem dX8_layBy_83 : decode cX8_layBy 83 = .ok (.iconst 0, 1) := by decide +kernel
theorem dX8_layBy_84 : decode cX8_layBy 84 = .ok (.iaload, 1) := by decide +kernel
theorem dX8_layBy_85 : decode cX8_layBy 85 = .ok (.invokevirtual 152, 3) := by decide +kernel
theorem dX8_layBy_88 : decode cX8_layBy 88 = .ok (.ifCond .eq 7, 3) := by decide +kernel
theorem dX8_layBy_91 : decode cX8_layBy 91 = .ok (.iconst 1, 1) := by decide +kernel
theorem dX8_layBy_92 : decode cX8_layBy 92 = .ok (.goto 4, 3) := by decide +kernel
theorem dX8_layBy_95 : decode cX8_layBy 95 = .ok (.iconst 0, 1) := by decide +kernel
theorem dX8_layBy_96 : decode cX8_layBy 96 = .ok (.istore 5, 2) := by decide +kernel
theorem dX8_layBy_98 : decode cX8_layBy 98 = .ok (.aload_n 0, 1) := by decide +kernel
theorem dX8_layBy_99 : decode cX8_layBy 99 = .ok (.dup, 1) := by decide +kernel
theorem dX8_layBy_100 : decode cX8_layBy 100 = .ok (.getfield 171, 3) := by decide +kernel
theorem dX8_layBy_103 : decode cX8_layBy 103 = .ok (.iload 5, 2) := by decide +kernel
theorem dX8_layBy_105 : decode cX8_layBy 105 = .ok (.ifCond .eq 23, 3) := by decide +kernel
theorem dX8_layBy_108 : decode cX8_layBy 108 = .ok (.aload_n 0, 1) := by decide +kernel
theorem dX8_layBy_109 : decode cX8_layBy 109 = .ok (.getfield 27, 3) := by decide +kernel
theorem dX8_layBy_112 : decode cX8_layBy 112 = .ok (.bipush 6, 2) := by decide +kernel
theorem dX8_layBy_114 : decode cX8_layBy 114 = .ok (.iload_n 2, 1) := by decide +kernel
theorem dX8_layBy_115 : decode cX8_layBy 115 = .ok (.imul, 1) := by decide +kernel
theorem dX8_layBy_116 : decode cX8_layBy 116 = .ok (.iconst 4, 1) := by decide +kernel
theorem dX8_layBy_117 : decode cX8_layBy 117 = .ok (.iadd, 1) := by decide +kernel
theorem dX8_layBy_118 : decode cX8_layBy 118 = .ok (.iaload, 1) := by decide +kernel
theorem dX8_layBy_119 : decode cX8_layBy 119 = .ok (.iconst 1, 1) := by decide +kernel
theorem dX8_layBy_120 : decode cX8_layBy 120 = .ok (.if_icmp .ne 8, 3) := by decide +kernel
theorem dX8_layBy_123 : decode cX8_layBy 123 = .ok (.iload 4, 2) := by decide +kernel
theorem dX8_layBy_125 : decode cX8_layBy 125 = .ok (.goto 4, 3) := by decide +kernel
theorem dX8_layBy_128 : decode cX8_layBy 128 = .ok (.iconst 0, 1) := by decide +kernel
theorem dX8_layBy_129 : decode cX8_layBy 129 = .ok (.ior, 1) := by decide +kernel
theorem dX8_layBy_130 : decode cX8_layBy 130 = .ok (.putfield 171, 3) := by decide +kernel
theorem dX8_layBy_133 : decode cX8_layBy 133 = .ok (.aload_n 0, 1) := by decide +kernel
theorem dX8_layBy_134 : decode cX8_layBy 134 = .ok (.dup, 1) := by decide +kernel
theorem dX8_layBy_135 : decode cX8_layBy 135 = .ok (.getfield 174, 3) := by decide +kernel
theorem dX8_layBy_138 : decode cX8_layBy 138 = .ok (.iload 5, 2) := by decide +kernel
theorem dX8_layBy_140 : decode cX8_layBy 140 = .ok (.ifCond .eq 23, 3) := by decide +kernel
theorem dX8_layBy_143 : decode cX8_layBy 143 = .ok (.aload_n 0, 1) := by decide +kernel
theorem dX8_layBy_144 : decode cX8_layBy 144 = .ok (.getfield 27, 3) := by decide +kernel
theorem dX8_layBy_147 : decode cX8_layBy 147 = .ok (.bipush 6, 2) := by decide +kernel
theorem dX8_layBy_149 : decode cX8_layBy 149 = .ok (.iload_n 2, 1) := by decide +kernel
theorem dX8_layBy_150 : decode cX8_layBy 150 = .ok (.imul, 1) := by decide +kernel
theorem dX8_layBy_151 : decode cX8_layBy 151 = .ok (.iconst 4, 1) := by decide +kernel
theorem dX8_layBy_152 : decode cX8_layBy 152 = .ok (.iadd, 1) := by decide +kernel
theorem dX8_layBy_153 : decode cX8_layBy 153 = .ok (.iaload, 1) := by decide +kernel
theorem dX8_layBy_154 : decode cX8_layBy 154 = .ok (.iconst 2, 1) := by decide +kernel
theorem dX8_layBy_155 : decode cX8_layBy 155 = .ok (.if_icmp .ne 8, 3) := by decide +kernel
theorem dX8_layBy_158 : decode cX8_layBy 158 = .ok (.iload 4, 2) := by decide +kernel
theorem dX8_layBy_160 : decode cX8_layBy 160 = .ok (.goto 4, 3) := by decide +kernel
theorem dX8_layBy_163 : decode cX8_layBy 163 = .ok (.iconst 0, 1) := by decide +kernel
theorem dX8_layBy_164 : decode cX8_layBy 164 = .ok (.ior, 1) := by decide +kernel
theorem dX8_layBy_165 : decode cX8_layBy 165 = .ok (.putfield 174, 3) := by decide +kernel
theorem dX8_layBy_168 : decode cX8_layBy 168 = .ok (.iinc 2 1, 3) := by decide +kernel
theorem dX8_layBy_171 : decode cX8_layBy 171 = .ok (.goto (-159), 3) := by decide +kernel
theorem dX8_layBy_174 : decode cX8_layBy 174 = .ok (.return_, 1) := by decide +kernel
def Mo_layBy_B129 (k12 : Wd → Int32 → Int32 → Option Wd) (w : Wd) (v1 : Int32) (v2 : Int32) (v4 : Int32) (v5 : Int32) (s0 : Int32) (s1 : Int32) : Option Wd := (if v5 = (0 : Int32) then (k12 (sI (sI w 37 18 (s1 ||| s0)) 37 19 (((sI w 37 18 (s1 ||| s0)).1 37 19) ||| (0 : Int32))) v1 (v2 + (1 : Int32))) else (if ib (((6 : Int32) * v2) + (4 : Int32)) 72 = true then (k12 (if ((sI w 37 18 (s1 ||| s0)).1 42 (Int32.toNatClampNeg (((6 : Int32) * v2) + (4 : Int32)))) = (2 : Int32) then (sI (sI w 37 18 (s1 ||| s0)) 37 19 (((sI w 37 18 (s1 ||| s0)).1 37 19) ||| v4)) else (sI (sI w 37 18 (s1 ||| s0)) 37 19 (((sI w 37 18 (s1 ||| s0)).1 37 19) ||| (0 : Int32)))) v1 (v2 + (1 : Int32))) else none))
set_option maxRecDepth 100000 in
set_option maxHeartbeats 4000000 in
theorem Mo_layBy_B129_ok {K : Ctx} (F : Fx K cX8_layBy 6 RX8 none 1 23 false [37, 38, 42]) {k12 : Wd → Int32 → Int32 → Option Wd} (h12 : ∀ (w : Wd) (v1 : Int32) (v2 : Int32), N K rtV (k12 w v1 v2) w 12 [(0, .ref (gA (cg K) 37)), (1, .int v1), (2, .int v2)] []) (w : Wd) (v1 : Int32) (v2 : Int32) (v4 : Int32) (v5 : Int32) (s0 : Int32) (s1 : Int32) : N K rtV (Mo_layBy_B129 k12 w v1 v2 v4 v5 s0 s1) w 129 [(0, .ref (gA (cg K) 37)), (1, .int v1), (2, .int v2), (4, .int v4), (5, .int v5)] [.int s0, .int s1, .ref (gA (cg K) 37)] := by
  rw [Mo_layBy_B129]
  refine n_ior F dX8_layBy_129 ?_
  refine n_put F ck_8 lf_RX8_171 (by decide) rfl fp_37_18 (by decide) rfl rfl dX8_layBy_130 ?_
  refine n_aload_n F dX8_layBy_133 rfl 0 rfl ?_
  refine n_dup F dX8_layBy_134 rfl ?_
  refine n_get F ck_8 lf_RX8_174 (by decide) fg_37_19 (by decide) dX8_layBy_135 ?_
  refine n_iload F dX8_layBy_138 4 rfl ?_
  refine n_if_eq F 163 dX8_layBy_140 (by decide) (fun e7 => ?_) (fun e7 => ?_)
  · rw [if_pos e7]
    refine n_iconst F (0 : Int32) dX8_layBy_163 (by decide) ?_
    refine n_ior F dX8_layBy_164 ?_
    refine n_put F ck_8 lf_RX8_174 (by decide) rfl fp_37_19 (by decide) rfl rfl dX8_layBy_165 ?_
    refine n_iinc F (v2 + (1 : Int32)) (lv' := [(2, .int (v2 + (1 : Int32))), (0, .ref (gA (cg K) 37)), (1, .int v1), (4, .int v4), (5, .int v5)]) dX8_layBy_168 2 rfl rfl (by decide) rfl ?_
    refine n_goto F 12 dX8_layBy_171 (by decide) ?_
    exact n_sub [1, 2, 0] rfl (h12 _ _ _)
  rw [if_neg e7]
  refine n_aload_n F dX8_layBy_143 rfl 0 rfl ?_
  refine n_get F ck_8 lf_RX8_27 (by decide) fg_37_7 (by decide) dX8_layBy_144 ?_
  refine n_bipush F (6 : Int32) dX8_layBy_147 (by decide) ?_
  refine n_iload_n F dX8_layBy_149 rfl 2 rfl ?_
  refine n_imul F dX8_layBy_150 ?_
  refine n_iconst F (4 : Int32) dX8_layBy_151 (by decide) ?_
  refine n_iadd F dX8_layBy_152 ?_
  refine n_chk (fun e8 => ?_)
  refine n_iald F ar_42 (by decide) (ib_in e8) rfl dX8_layBy_153 ?_
  refine n_iconst F (2 : Int32) dX8_layBy_154 (by decide) ?_
  refine n_icmp_ne F 163 dX8_layBy_155 (by decide) (fun e9 => ?_) (fun e9 => ?_)
  · rw [if_neg e9]
    refine n_iconst F (0 : Int32) dX8_layBy_163 (by decide) ?_
    refine n_ior F dX8_layBy_164 ?_
    refine n_put F ck_8 lf_RX8_174 (by decide) rfl fp_37_19 (by decide) rfl rfl dX8_layBy_165 ?_
    refine n_iinc F (v2 + (1 : Int32)) (lv' := [(2, .int (v2 + (1 : Int32))), (0, .ref (gA (cg K) 37)), (1, .int v1), (4, .int v4), (5, .int v5)]) dX8_layBy_168 2 rfl rfl (by decide) rfl ?_
    refine n_goto F 12 dX8_layBy_171 (by decide) ?_
    exact n_sub [1, 2, 0] rfl (h12 _ _ _)
  rw [if_pos e9]
  refine n_iload F dX8_layBy_158 3 rfl ?_
  refine n_goto F 164 dX8_layBy_160 (by decide) ?_
  refine n_ior F dX8_layBy_164 ?_
  refine n_put F ck_8 lf_RX8_174 (by decide) rfl fp_37_19 (by decide) rfl rfl dX8_layBy_165 ?_
  refine n_iinc F (v2 + (1 : Int32)) (lv' := [(2, .int (v2 + (1 : Int32))), (0, .ref (gA (cg K) 37)), (1, .int v1), (4, .int v4), (5, .int v5)]) dX8_layBy_168 2 rfl rfl (by decide) rfl ?_
  refine n_goto F 12 dX8_layBy_171 (by decide) ?_
  exact n_sub [1, 2, 0] rfl (h12 _ _ _)
def Mo_layBy_B96 (k12 : Wd → Int32 → Int32 → Option Wd) (w : Wd) (v1 : Int32) (v2 : Int32) (v4 : Int32) (s0 : Int32) : Option Wd := (if s0 = (0 : Int32) then (Mo_layBy_B129 k12 w v1 v2 v4 s0 (0 : Int32) (w.1 37 18)) else (if ib (((6 : Int32) * v2) + (4 : Int32)) 72 = true then (Mo_layBy_B129 k12 w v1 v2 v4 s0 (if (w.1 42 (Int32.toNatClampNeg (((6 : Int32) * v2) + (4 : Int32)))) = (1 : Int32) then v4 else (0 : Int32)) (w.1 37 18)) else none))
set_option maxRecDepth 100000 in
set_option maxHeartbeats 4000000 in
theorem Mo_layBy_B96_ok {K : Ctx} (F : Fx K cX8_layBy 6 RX8 none 1 23 false [37, 38, 42]) {k12 : Wd → Int32 → Int32 → Option Wd} (h12 : ∀ (w : Wd) (v1 : Int32) (v2 : Int32), N K rtV (k12 w v1 v2) w 12 [(0, .ref (gA (cg K) 37)), (1, .int v1), (2, .int v2)] []) (w : Wd) (v1 : Int32) (v2 : Int32) (v4 : Int32) (s0 : Int32) : N K rtV (Mo_layBy_B96 k12 w v1 v2 v4 s0) w 96 [(0, .ref (gA (cg K) 37)), (1, .int v1), (2, .int v2), (4, .int v4)] [.int s0] := by
  rw [Mo_layBy_B96]
  refine n_istore F (lv' := [(5, .int s0), (0, .ref (gA (cg K) 37)), (1, .int v1), (2, .int v2), (4, .int v4)]) dX8_layBy_96 (by decide) rfl ?_
  refine n_aload_n F dX8_layBy_98 rfl 1 rfl ?_
  refine n_dup F dX8_layBy_99 rfl ?_
  refine n_get F ck_8 lf_RX8_171 (by decide) fg_37_18 (by decide) dX8_layBy_100 ?_
  refine n_iload F dX8_layBy_103 0 rfl ?_
  refine n_if_eq F 128 dX8_layBy_105 (by decide) (fun e6 => ?_) (fun e6 => ?_)
  · rw [if_pos e6]
    refine n_iconst F (0 : Int32) dX8_layBy_128 (by decide) ?_
    exact n_sub [1, 2, 3, 4, 0] rfl (Mo_layBy_B129_ok F h12 _ _ _ _ _ _ _)
  rw [if_neg e6]
  refine n_aload_n F dX8_layBy_108 rfl 1 rfl ?_
  refine n_get F ck_8 lf_RX8_27 (by decide) fg_37_7 (by decide) dX8_layBy_109 ?_
  refine n_bipush F (6 : Int32) dX8_layBy_112 (by decide) ?_
  refine n_iload_n F dX8_layBy_114 rfl 3 rfl ?_
  refine n_imul F dX8_layBy_115 ?_
  refine n_iconst F (4 : Int32) dX8_layBy_116 (by decide) ?_
  refine n_iadd F dX8_layBy_117 ?_
  refine n_chk (fun e10 => ?_)
  refine n_iald F ar_42 (by decide) (ib_in e10) rfl dX8_layBy_118 ?_
  refine n_iconst F (1 : Int32) dX8_layBy_119 (by decide) ?_
  refine n_icmp_ne F 128 dX8_layBy_120 (by decide) (fun e11 => ?_) (fun e11 => ?_)
  · rw [if_neg e11]
    refine n_iconst F (0 : Int32) dX8_layBy_128 (by decide) ?_
    exact n_sub [1, 2, 3, 4, 0] rfl (Mo_layBy_B129_ok F h12 _ _ _ _ _ _ _)
  rw [if_pos e11]
  refine n_iload F dX8_layBy_123 4 rfl ?_
  refine n_goto F 129 dX8_layBy_125 (by decide) ?_
  exact n_sub [1, 2, 3, 4, 0] rfl (Mo_layBy_B129_ok F h12 _ _ _ _ _ _ _)
def Mo_layBy_L12 (k174 : Wd → Option Wd) : Nat → Wd → Int32 → Int32 → Option Wd
  | 0, _, _, _ => none
  | n + 1, w, v1, v2 => (if (w.1 37 8) ≤ v2 then (k174 w) else (if ib (((6 : Int32) * v2) + (0 : Int32)) 72 = true then (if ib (((6 : Int32) * v2) + (1 : Int32)) 72 = true then (if ib (((6 : Int32) * v2) + (5 : Int32)) 72 = true then (if (w.1 42 (Int32.toNatClampNeg (((6 : Int32) * v2) + (5 : Int32)))) = v1 then (if (Mo_has w (w.1 38 12) (w.1 42 (Int32.toNatClampNeg (((6 : Int32) * v2) + (0 : Int32))))) = (0 : Int32) then (Mo_layBy_B96 (Mo_layBy_L12 k174 n) w v1 v2 ((1 : Int32) <<< ((w.1 42 (Int32.toNatClampNeg (((6 : Int32) * v2) + (1 : Int32)))) &&& (31 : Int32))) (0 : Int32)) else (Option.bind (Mo_leaves w v2 (w.1 42 (Int32.toNatClampNeg (((6 : Int32) * v2) + (0 : Int32)))) (w.1 38 0)) (fun q13 => (Mo_layBy_B96 (Mo_layBy_L12 k174 n) w v1 v2 ((1 : Int32) <<< ((w.1 42 (Int32.toNatClampNeg (((6 : Int32) * v2) + (1 : Int32)))) &&& (31 : Int32))) (if q13 = (0 : Int32) then (0 : Int32) else (1 : Int32)))))) else (Mo_layBy_B96 (Mo_layBy_L12 k174 n) w v1 v2 ((1 : Int32) <<< ((w.1 42 (Int32.toNatClampNeg (((6 : Int32) * v2) + (1 : Int32)))) &&& (31 : Int32))) (0 : Int32))) else none) else none) else none))
set_option maxRecDepth 100000 in
set_option maxHeartbeats 4000000 in
theorem Mo_layBy_L12_ok {K : Ctx} (F : Fx K cX8_layBy 6 RX8 none 1 23 false [37, 38, 42]) {k174 : Wd → Option Wd} (h174 : ∀ (w : Wd), N K rtV (k174 w) w 174 [] []) : ∀ (n : Nat) (w : Wd) (v1 : Int32) (v2 : Int32), N K rtV (Mo_layBy_L12 k174 n w v1 v2) w 12 [(0, .ref (gA (cg K) 37)), (1, .int v1), (2, .int v2)] [] := by
  intro n
  induction n with
  | zero => intro _ _ _; exact n_none
  | succ n ih =>
    intro w v1 v2
    rw [Mo_layBy_L12]
    refine n_iload_n F dX8_layBy_12 rfl 2 rfl ?_
    refine n_aload_n F dX8_layBy_13 rfl 0 rfl ?_
    refine n_get F ck_8 lf_RX8_131 (by decide) fg_37_8 (by decide) dX8_layBy_14 ?_
    refine n_icmp_ge F 174 dX8_layBy_17 (by decide) (fun e1 => ?_) (fun e1 => ?_)
    · rw [if_pos e1]
      exact n_sub [] rfl (h174 _)
    rw [if_neg e1]
    refine n_aload_n F dX8_layBy_20 rfl 0 rfl ?_
    refine n_get F ck_8 lf_RX8_27 (by decide) fg_37_7 (by decide) dX8_layBy_21 ?_
    refine n_bipush F (6 : Int32) dX8_layBy_24 (by decide) ?_
    refine n_iload_n F dX8_layBy_26 rfl 2 rfl ?_
    refine n_imul F dX8_layBy_27 ?_
    refine n_iconst F (0 : Int32) dX8_layBy_28 (by decide) ?_
    refine n_iadd F dX8_layBy_29 ?_
    refine n_chk (fun e2 => ?_)
    refine n_iald F ar_42 (by decide) (ib_in e2) rfl dX8_layBy_30 ?_
    refine n_istore_n F (lv' := [(3, .int (w.1 42 (Int32.toNatClampNeg (((6 : Int32) * v2) + (0 : Int32))))), (0, .ref (gA (cg K) 37)), (1, .int v1), (2, .int v2)]) dX8_layBy_31 rfl (by decide) rfl ?_
    refine n_iconst F (1 : Int32) dX8_layBy_32 (by decide) ?_
    refine n_aload_n F dX8_layBy_33 rfl 1 rfl ?_
    refine n_get F ck_8 lf_RX8_27 (by decide) fg_37_7 (by decide) dX8_layBy_34 ?_
    refine n_bipush F (6 : Int32) dX8_layBy_37 (by decide) ?_
    refine n_iload_n F dX8_layBy_39 rfl 3 rfl ?_
    refine n_imul F dX8_layBy_40 ?_
    refine n_iconst F (1 : Int32) dX8_layBy_41 (by decide) ?_
    refine n_iadd F dX8_layBy_42 ?_
    refine n_chk (fun e3 => ?_)
    refine n_iald F ar_42 (by decide) (ib_in e3) rfl dX8_layBy_43 ?_
    refine n_ishl F dX8_layBy_44 ?_
    refine n_istore F (lv' := [(4, .int ((1 : Int32) <<< ((w.1 42 (Int32.toNatClampNeg (((6 : Int32) * v2) + (1 : Int32)))) &&& (31 : Int32)))), (3, .int (w.1 42 (Int32.toNatClampNeg (((6 : Int32) * v2) + (0 : Int32))))), (0, .ref (gA (cg K) 37)), (1, .int v1), (2, .int v2)]) dX8_layBy_45 (by decide) rfl ?_
    refine n_aload_n F dX8_layBy_47 rfl 2 rfl ?_
    refine n_get F ck_8 lf_RX8_27 (by decide) fg_37_7 (by decide) dX8_layBy_48 ?_
    refine n_bipush F (6 : Int32) dX8_layBy_51 (by decide) ?_
    refine n_iload_n F dX8_layBy_53 rfl 4 rfl ?_
    refine n_imul F dX8_layBy_54 ?_
    refine n_iconst F (5 : Int32) dX8_layBy_55 (by decide) ?_
    refine n_iadd F dX8_layBy_56 ?_
    refine n_chk (fun e4 => ?_)
    refine n_iald F ar_42 (by decide) (ib_in e4) rfl dX8_layBy_57 ?_
    refine n_iload_n F dX8_layBy_58 rfl 3 rfl ?_
    refine n_icmp_ne F 95 dX8_layBy_59 (by decide) (fun e5 => ?_) (fun e5 => ?_)
    · rw [if_neg e5]
      refine n_iconst F (0 : Int32) dX8_layBy_95 (by decide) ?_
      exact n_sub [2, 3, 4, 0] rfl (Mo_layBy_B96_ok F ih _ _ _ _ _)
    rw [if_pos e5]
    refine n_aload_n F dX8_layBy_62 rfl 2 rfl ?_
    refine n_get F ck_8 lf_RX8_7 (by decide) fg_37_0 (by decide) dX8_layBy_63 ?_
    refine n_bipush F (12 : Int32) dX8_layBy_66 (by decide) ?_
    refine n_iald F ar_38 (by decide) (ib_c (n := 45) (by decide)) (j := 12) (by decide) dX8_layBy_68 ?_
    refine n_iload_n F dX8_layBy_69 rfl 1 rfl ?_
    refine n_callSi F cb_X8_has lm_RX8_164 (ct_Mo_has (fx_ok F) (fx_sd F) (fx_ix F rfl) w (w.1 38 12) (w.1 42 (Int32.toNatClampNeg (((6 : Int32) * v2) + (0 : Int32))))) rfl rfl (Nat.le_of_ble_eq_true rfl) ⟨Nat.le_of_ble_eq_true rfl, Nat.le_of_ble_eq_true rfl⟩ dX8_layBy_70 ?_
    refine n_if_eq F 95 dX8_layBy_73 (by decide) (fun e12 => ?_) (fun e12 => ?_)
    · rw [if_pos e12]
      refine n_iconst F (0 : Int32) dX8_layBy_95 (by decide) ?_
      exact n_sub [2, 3, 4, 0] rfl (Mo_layBy_B96_ok F ih _ _ _ _ _)
    rw [if_neg e12]
    refine n_aload_n F dX8_layBy_76 rfl 2 rfl ?_
    refine n_iload_n F dX8_layBy_77 rfl 4 rfl ?_
    refine n_iload_n F dX8_layBy_78 rfl 1 rfl ?_
    refine n_aload_n F dX8_layBy_79 rfl 2 rfl ?_
    refine n_get F ck_8 lf_RX8_7 (by decide) fg_37_0 (by decide) dX8_layBy_80 ?_
    refine n_iconst F (0 : Int32) dX8_layBy_83 (by decide) ?_
    refine n_iald F ar_38 (by decide) (ib_c (n := 45) (by decide)) (j := 0) (by decide) dX8_layBy_84 ?_
    refine n_bind (fun q13 hq13 => ?_)
    refine n_callVi F cb_X8_leaves lm_RX8_152 ob_37 (by decide) ⟨_, _, rfl⟩ (ct_Mo_leaves (fx_ok F) (fx_sd F) (fx_ix F rfl) w v2 (w.1 42 (Int32.toNatClampNeg (((6 : Int32) * v2) + (0 : Int32)))) (w.1 38 0) hq13) rfl rfl (Nat.le_of_ble_eq_true rfl) ⟨Nat.le_of_ble_eq_true rfl, Nat.le_of_ble_eq_true rfl⟩ dX8_layBy_85 ?_
    refine n_if_eq F 95 dX8_layBy_88 (by decide) (fun e14 => ?_) (fun e14 => ?_)
    · rw [if_pos e14]
      refine n_iconst F (0 : Int32) dX8_layBy_95 (by decide) ?_
      exact n_sub [2, 3, 4, 0] rfl (Mo_layBy_B96_ok F ih _ _ _ _ _)
    rw [if_neg e14]
    refine n_iconst F (1 : Int32) dX8_layBy_91 (by decide) ?_
    refine n_goto F 96 dX8_layBy_92 (by decide) ?_
    exact n_sub [2, 3, 4, 0] rfl (Mo_layBy_B96_ok F ih _ _ _ _ _)
def Mo_layBy_B174 (w : Wd) : Option Wd := some w
set_option maxRecDepth 100000 in
set_option maxHeartbeats 4000000 in
theorem Mo_layBy_B174_ok {K : Ctx} (F : Fx K cX8_layBy 6 RX8 none 1 23 false [37, 38, 42]) (w : Wd) : N K rtV (Mo_layBy_B174 w) w 174 [] [] := by
  rw [Mo_layBy_B174]
  exact n_vret F rfl rfl dX8_layBy_174
def Mo_layBy (w : Wd) (a1 : Int32) : Option Wd := (Mo_layBy_L12 Mo_layBy_B174 FU (sI (sI w 37 18 (0 : Int32)) 37 19 (0 : Int32)) a1 (0 : Int32))
set_option maxRecDepth 100000 in
set_option maxHeartbeats 4000000 in
theorem ct_Mo_layBy {l : Launch} {g : GG} {σ : Sd} (hg : OKg g σ) (hb : σ.2.1 = false) (hx : ∀ c ∈ ([37, 38, 42] : List Nat), c ∈ σ.1) (w : Wd) (a1 : Int32) {q : Wd} (hq : Mo_layBy w a1 = some q) : CT l g σ yX8_layBy cX8_layBy 6 none 1 23 [.ref (gA g 37), .int a1] w none q := by
  refine ct_of (rt := rtV) (res := Mo_layBy w a1) (q := q) (own := RX8) (b := false) hg hb hx (by decide) rfl (Nat.le_of_ble_eq_true rfl) hq (fun K e1 e2 e3 F => ?_)
  subst e1 e2 e3
  rw [Mo_layBy]
  show N K _ _ w 0 [(0, .ref (gA (cg K) 37)), (1, .int a1)] []
  refine n_aload_n F dX8_layBy_0 rfl 0 rfl ?_
  refine n_iconst F (0 : Int32) dX8_layBy_1 (by decide) ?_
  refine n_put F ck_8 lf_RX8_171 (by decide) rfl fp_37_18 (by decide) rfl rfl dX8_layBy_2 ?_
  refine n_aload_n F dX8_layBy_5 rfl 0 rfl ?_
  refine n_iconst F (0 : Int32) dX8_layBy_6 (by decide) ?_
  refine n_put F ck_8 lf_RX8_174 (by decide) rfl fp_37_19 (by decide) rfl rfl dX8_layBy_7 ?_
  refine n_iconst F (0 : Int32) dX8_layBy_10 (by decide) ?_
  refine n_istore_n F (lv' := [(2, .int (0 : Int32)), (0, .ref (gA (cg K) 37)), (1, .int a1)]) dX8_layBy_11 rfl (by decide) rfl ?_
  exact n_sub [1, 2, 0] rfl (Mo_layBy_L12_ok F (Mo_layBy_B174_ok F) FU _ _ _)
theorem dX8_layByNone_0 : decode cX8_layByNone 0 = .ok (.aload_n 0, 1) := by decide +kernel
theorem dX8_layByNone_1 : decode cX8_layByNone 1 = .ok (.aload_n 0, 1) := by decide +kernel
theorem dX8_layByNone_2 : decode cX8_layByNone 2 = .ok (.getfield 7, 3) := by decide +kernel
theorem dX8_layByNone_5 : decode cX8_layByNone 5 = .ok (.bipush 13, 2) := by decide +kernel
theorem dX8_layByNone_7 : decode cX8_layByNone 7 = .ok (.iaload, 1) := by decide +kernel
theorem dX8_layByNone_8 : decode cX8_layByNone 8 = .ok (.putfield 171, 3) := by decide +kernel
theorem dX8_layByNone_11 : decode cX8_layByNone 11 = .ok (.aload_n 0, 1) := by decide +kernel
theorem dX8_layByNone_12 : decode cX8_layByNone 12 = .ok (.iconst 0, 1) := by decide +kernel
theorem dX8_layByNone_13 : decode cX8_layByNone 13 = .ok (.putfield 174, 3) := by decide +kernel
theorem dX8_layByNone_16 : decode cX8_layByNone 16 = .ok (.iconst 0, 1) := by decide +kernel
theorem dX8_layByNone_17 : decode cX8_layByNone 17 = .ok (.istore_n 1, 1) := by decide +kernel
theorem dX8_layByNone_18 : decode cX8_layByNone 18 = .ok (.iload_n 1, 1) := by decide +kernel
theorem dX8_layByNone_19 : decode cX8_layByNone 19 = .ok (.aload_n 0, 1) := by decide +kernel
theorem dX8_layByNone_20 : decode cX8_layByNone 20 = .ok (.getfield 23, 3) := by decide +kernel
theorem dX8_layByNone_23 : decode cX8_layByNone 23 = .ok (.if_icmp .ge 47, 3) := by decide +kernel
theorem dX8_layByNone_26 : decode cX8_layByNone 26 = .ok (.aload_n 0, 1) := by decide +kernel
theorem dX8_layByNone_27 : decode cX8_layByNone 27 = .ok (.dup, 1) := by decide +kernel
theorem dX8_layByNone_28 : decode cX8_layByNone 28 = .ok (.getfield 171, 3) := by decide +kernel
theorem dX8_layByNone_31 : decode cX8_layByNone 31 = .ok (.aload_n 0, 1) := by decide +kernel
theorem dX8_layByNone_32 : decode cX8_layByNone 32 = .ok (.getfield 7, 3) := by decide +kernel
theorem dX8_layByNone_35 : decode cX8_layByNone 35 = .ok (.bipush 12, 2) := by decide +kernel
theorem dX8_layByNone_37 : decode cX8_layByNone 37 = .ok (.iaload, 1) := by decide +kernel
theorem dX8_layByNone_38 : decode cX8_layByNone 38 = .ok (.iload_n 1, 1) := by decide +kernel
theorem dX8_layByNone_39 : decode cX8_layByNone 39 = .ok (.invokestatic 164, 3) := by decide +kernel
theorem dX8_layByNone_42 : decode cX8_layByNone 42 = .ok (.ifCond .eq 17, 3) := by decide +kernel
theorem dX8_layByNone_45 : decode cX8_layByNone 45 = .ok (.aload_n 0, 1) := by decide +kernel
theorem dX8_layByNone_46 : decode cX8_layByNone 46 = .ok (.iload_n 1, 1) := by decide +kernel
theorem dX8_layByNone_47 : decode cX8_layByNone 47 = .ok (.invokevirtual 158, 3) := by decide +kernel
theorem dX8_layByNone_50 : decode cX8_layByNone 50 = .ok (.ifCond .ne 9, 3) := by decide +kernel
theorem dX8_layByNone_53 : decode cX8_layByNone 53 = .ok (.iconst 1, 1) := by decide +kernel
theorem dX8_layByNone_54 : decode cX8_layByNone 54 = .ok (.iload_n 1, 1) := by decide +kernel
theorem dX8_layByNone_55 : decode cX8_layByNone 55 = .ok (.ishl, 1) := by decide +kernel
theorem dX8_layByNone_56 : decode cX8_layByNone 56 = .ok (.goto 4, 3) := by decide +kernel
theorem dX8_layByNone_59 : decode cX8_layByNone 59 = .ok (.iconst 0, 1) := by decide +kernel
theorem dX8_layByNone_60 : decode cX8_layByNone 60 = .ok (.ior, 1) := by decide +kernel
theorem dX8_layByNone_61 : decode cX8_layByNone 61 = .ok (.putfield 171, 3) := by decide +kernel
theorem dX8_layByNone_64 : decode cX8_layByNone 64 = .ok (.iinc 1 1, 3) := by decide +kernel
theorem dX8_layByNone_67 : decode cX8_layByNone 67 = .ok (.goto (-49), 3) := by decide +kernel
theorem dX8_layByNone_70 : decode cX8_layByNone 70 = .ok (.return_, 1) := by decide +kernel
def Mo_layByNone_L18 (k70 : Wd → Option Wd) : Nat → Wd → Int32 → Option Wd
  | 0, _, _ => none
  | n + 1, w, v1 => (if (w.1 37 6) ≤ v1 then (k70 w) else (if (Mo_has w (w.1 38 12) v1) = (0 : Int32) then (Mo_layByNone_L18 k70 n (sI w 37 18 ((w.1 37 18) ||| (0 : Int32))) (v1 + (1 : Int32))) else (Option.bind (Mo_ridable w v1) (fun q3 => (Mo_layByNone_L18 k70 n (if q3 = (0 : Int32) then (sI w 37 18 ((w.1 37 18) ||| ((1 : Int32) <<< (v1 &&& (31 : Int32))))) else (sI w 37 18 ((w.1 37 18) ||| (0 : Int32)))) (v1 + (1 : Int32)))))))
set_option maxRecDepth 100000 in
set_option maxHeartbeats 4000000 in
theorem Mo_layByNone_L18_ok {K : Ctx} (F : Fx K cX8_layByNone 2 RX8 none 2 46 false [37, 38, 42]) {k70 : Wd → Option Wd} (h70 : ∀ (w : Wd), N K rtV (k70 w) w 70 [] []) : ∀ (n : Nat) (w : Wd) (v1 : Int32), N K rtV (Mo_layByNone_L18 k70 n w v1) w 18 [(0, .ref (gA (cg K) 37)), (1, .int v1)] [] := by
  intro n
  induction n with
  | zero => intro _ _; exact n_none
  | succ n ih =>
    intro w v1
    rw [Mo_layByNone_L18]
    refine n_iload_n F dX8_layByNone_18 rfl 1 rfl ?_
    refine n_aload_n F dX8_layByNone_19 rfl 0 rfl ?_
    refine n_get F ck_8 lf_RX8_23 (by decide) fg_37_6 (by decide) dX8_layByNone_20 ?_
    refine n_icmp_ge F 70 dX8_layByNone_23 (by decide) (fun e1 => ?_) (fun e1 => ?_)
    · rw [if_pos e1]
      exact n_sub [] rfl (h70 _)
    rw [if_neg e1]
    refine n_aload_n F dX8_layByNone_26 rfl 0 rfl ?_
    refine n_dup F dX8_layByNone_27 rfl ?_
    refine n_get F ck_8 lf_RX8_171 (by decide) fg_37_18 (by decide) dX8_layByNone_28 ?_
    refine n_aload_n F dX8_layByNone_31 rfl 0 rfl ?_
    refine n_get F ck_8 lf_RX8_7 (by decide) fg_37_0 (by decide) dX8_layByNone_32 ?_
    refine n_bipush F (12 : Int32) dX8_layByNone_35 (by decide) ?_
    refine n_iald F ar_38 (by decide) (ib_c (n := 45) (by decide)) (j := 12) (by decide) dX8_layByNone_37 ?_
    refine n_iload_n F dX8_layByNone_38 rfl 1 rfl ?_
    refine n_callSi F cb_X8_has lm_RX8_164 (ct_Mo_has (fx_ok F) (fx_sd F) (fx_ix F rfl) w (w.1 38 12) v1) rfl rfl (Nat.le_of_ble_eq_true rfl) ⟨Nat.le_of_ble_eq_true rfl, Nat.le_of_ble_eq_true rfl⟩ dX8_layByNone_39 ?_
    refine n_if_eq F 59 dX8_layByNone_42 (by decide) (fun e2 => ?_) (fun e2 => ?_)
    · rw [if_pos e2]
      refine n_iconst F (0 : Int32) dX8_layByNone_59 (by decide) ?_
      refine n_ior F dX8_layByNone_60 ?_
      refine n_put F ck_8 lf_RX8_171 (by decide) rfl fp_37_18 (by decide) rfl rfl dX8_layByNone_61 ?_
      refine n_iinc F (v1 + (1 : Int32)) (lv' := [(1, .int (v1 + (1 : Int32))), (0, .ref (gA (cg K) 37))]) dX8_layByNone_64 1 rfl rfl (by decide) rfl ?_
      refine n_goto F 18 dX8_layByNone_67 (by decide) ?_
      exact n_sub [1, 0] rfl (ih _ _)
    rw [if_neg e2]
    refine n_aload_n F dX8_layByNone_45 rfl 0 rfl ?_
    refine n_iload_n F dX8_layByNone_46 rfl 1 rfl ?_
    refine n_bind (fun q3 hq3 => ?_)
    refine n_callVi F cb_X8_ridable lm_RX8_158 ob_37 (by decide) ⟨_, _, rfl⟩ (ct_Mo_ridable (fx_ok F) (fx_sd F) (fx_ix F rfl) w v1 hq3) rfl rfl (Nat.le_of_ble_eq_true rfl) ⟨Nat.le_of_ble_eq_true rfl, Nat.le_of_ble_eq_true rfl⟩ dX8_layByNone_47 ?_
    refine n_if_ne F 59 dX8_layByNone_50 (by decide) (fun e4 => ?_) (fun e4 => ?_)
    · rw [if_neg e4]
      refine n_iconst F (0 : Int32) dX8_layByNone_59 (by decide) ?_
      refine n_ior F dX8_layByNone_60 ?_
      refine n_put F ck_8 lf_RX8_171 (by decide) rfl fp_37_18 (by decide) rfl rfl dX8_layByNone_61 ?_
      refine n_iinc F (v1 + (1 : Int32)) (lv' := [(1, .int (v1 + (1 : Int32))), (0, .ref (gA (cg K) 37))]) dX8_layByNone_64 1 rfl rfl (by decide) rfl ?_
      refine n_goto F 18 dX8_layByNone_67 (by decide) ?_
      exact n_sub [1, 0] rfl (ih _ _)
    rw [if_pos e4]
    refine n_iconst F (1 : Int32) dX8_layByNone_53 (by decide) ?_
    refine n_iload_n F dX8_layByNone_54 rfl 1 rfl ?_
    refine n_ishl F dX8_layByNone_55 ?_
    refine n_goto F 60 dX8_layByNone_56 (by decide) ?_
    refine n_ior F dX8_layByNone_60 ?_
    refine n_put F ck_8 lf_RX8_171 (by decide) rfl fp_37_18 (by decide) rfl rfl dX8_layByNone_61 ?_
    refine n_iinc F (v1 + (1 : Int32)) (lv' := [(1, .int (v1 + (1 : Int32))), (0, .ref (gA (cg K) 37))]) dX8_layByNone_64 1 rfl rfl (by decide) rfl ?_
    refine n_goto F 18 dX8_layByNone_67 (by decide) ?_
    exact n_sub [1, 0] rfl (ih _ _)
def Mo_layByNone_B70 (w : Wd) : Option Wd := some w
set_option maxRecDepth 100000 in
set_option maxHeartbeats 4000000 in
theorem Mo_layByNone_B70_ok {K : Ctx} (F : Fx K cX8_layByNone 2 RX8 none 2 46 false [37, 38, 42]) (w : Wd) : N K rtV (Mo_layByNone_B70 w) w 70 [] [] := by
  rw [Mo_layByNone_B70]
  exact n_vret F rfl rfl dX8_layByNone_70
def Mo_layByNone (w : Wd) : Option Wd := (Mo_layByNone_L18 Mo_layByNone_B70 FU (sI (sI w 37 18 (w.1 38 13)) 37 19 (0 : Int32)) (0 : Int32))
set_option maxRecDepth 100000 in
set_option maxHeartbeats 4000000 in
theorem ct_Mo_layByNone {l : Launch} {g : GG} {σ : Sd} (hg : OKg g σ) (hb : σ.2.1 = false) (hx : ∀ c ∈ ([37, 38, 42] : List Nat), c ∈ σ.1) (w : Wd) {q : Wd} (hq : Mo_layByNone w = some q) : CT l g σ yX8_layByNone cX8_layByNone 2 none 2 46 [.ref (gA g 37)] w none q := by
  refine ct_of (rt := rtV) (res := Mo_layByNone w) (q := q) (own := RX8) (b := false) hg hb hx (by decide) rfl (Nat.le_of_ble_eq_true rfl) hq (fun K e1 e2 e3 F => ?_)
  subst e1 e2 e3
  rw [Mo_layByNone]
  show N K _ _ w 0 [(0, .ref (gA (cg K) 37))] []
  refine n_aload_n F dX8_layByNone_0 rfl 0 rfl ?_
  refine n_aload_n F dX8_layByNone_1 rfl 0 rfl ?_
  refine n_get F ck_8 lf_RX8_7 (by decide) fg_37_0 (by decide) dX8_layByNone_2 ?_
  refine n_bipush F (13 : Int32) dX8_layByNone_5 (by decide) ?_
  refine n_iald F ar_38 (by decide) (ib_c (n := 45) (by decide)) (j := 13) (by decide) dX8_layByNone_7 ?_
  refine n_put F ck_8 lf_RX8_171 (by decide) rfl fp_37_18 (by decide) rfl rfl dX8_layByNone_8 ?_
  refine n_aload_n F dX8_layByNone_11 rfl 0 rfl ?_
  refine n_iconst F (0 : Int32) dX8_layByNone_12 (by decide) ?_
  refine n_put F ck_8 lf_RX8_174 (by decide) rfl fp_37_19 (by decide) rfl rfl dX8_layByNone_13 ?_
  refine n_iconst F (0 : Int32) dX8_layByNone_16 (by decide) ?_
  refine n_istore_n F (lv' := [(1, .int (0 : Int32)), (0, .ref (gA (cg K) 37))]) dX8_layByNone_17 rfl (by decide) rfl ?_
  exact n_sub [1, 0] rfl (Mo_layByNone_L18_ok F (Mo_layByNone_B70_ok F) FU _ _)
theorem dX8_nextOf_0 : decode cX8_nextOf 0 = .ok (.aload_n 0, 1) := by decide +kernel
theorem dX8_nextOf_1 : decode cX8_nextOf 1 = .ok (.invokevirtual 177, 3) := by decide +kernel
theorem dX8_nextOf_4 : decode cX8_nextOf 4 = .ok (.aload_n 0, 1) := by decide +kernel
theorem dX8_nextOf_5 : decode cX8_nextOf 5 = .ok (.getfield 171, 3) := by decide +kernel
theorem dX8_nextOf_8 : decode cX8_nextOf 8 = .ok (.istore_n 1, 1) := by decide +kernel
theorem dX8_nextOf_9 : decode cX8_nextOf 9 = .ok (.iconst 0, 1) := by decide +kernel
theorem dX8_nextOf_10 : decode cX8_nextOf 10 = .ok (.istore_n 2, 1) := by decide +kernel
theorem dX8_nextOf_11 : decode cX8_nextOf 11 = .ok (.iload_n 2, 1) := by decide +kernel
theorem dX8_nextOf_12 : decode cX8_nextOf 12 = .ok (.iconst 3, 1) := by decide +kernel
theorem dX8_nextOf_13 : decode cX8_nextOf 13 = .ok (.if_icmp .ge 32, 3) := by decide +kernel
theorem dX8_nextOf_16 : decode cX8_nextOf 16 = .ok (.aload_n 0, 1) := by decide +kernel
theorem dX8_nextOf_17 : decode cX8_nextOf 17 = .ok (.getfield 7, 3) := by decide +kernel
theorem dX8_nextOf_20 : decode cX8_nextOf 20 = .ok (.iconst 4, 1) := by decide +kernel
theorem dX8_nextOf_21 : decode cX8_nextOf 21 = .ok (.iload_n 2, 1) := by decide +kernel
theorem dX8_nextOf_22 : decode cX8_nextOf 22 = .ok (.iadd, 1) := by decide +kernel
theorem dX8_nextOf_23 : decode cX8_nextOf 23 = .ok (.iaload, 1) := by decide +kernel
theorem dX8_nextOf_24 : decode cX8_nextOf 24 = .ok (.ifCond .le 15, 3) := by decide +kernel
theorem dX8_nextOf_27 : decode cX8_nextOf 27 = .ok (.aload_n 0, 1) := by decide +kernel
theorem dX8_nextOf_28 : decode cX8_nextOf 28 = .ok (.iload_n 2, 1) := by decide +kernel
theorem dX8_nextOf_29 : decode cX8_nextOf 29 = .ok (.invokevirtual 180, 3) := by decide +kernel
theorem dX8_nextOf_32 : decode cX8_nextOf 32 = .ok (.iload_n 1, 1) := by decide +kernel
theorem dX8_nextOf_33 : decode cX8_nextOf 33 = .ok (.aload_n 0, 1) := by decide +kernel
theorem dX8_nextOf_34 : decode cX8_nextOf 34 = .ok (.getfield 171, 3) := by decide +kernel
theorem dX8_nextOf_37 : decode cX8_nextOf 37 = .ok (.ior, 1) := by decide +kernel
theorem dX8_nextOf_38 : decode cX8_nextOf 38 = .ok (.istore_n 1, 1) := by decide +kernel
theorem dX8_nextOf_39 : decode cX8_nextOf 39 = .ok (.iinc 2 1, 3) := by decide +kernel
theorem dX8_nextOf_42 : decode cX8_nextOf 42 = .ok (.goto (-31), 3) := by decide +kernel
theorem dX8_nextOf_45 : decode cX8_nextOf 45 = .ok (.iload_n 1, 1) := by decide +kernel
theorem dX8_nextOf_46 : decode cX8_nextOf 46 = .ok (.ireturn, 1) := by decide +kernel
def Mo_nextOf_L11 (k45 : Wd → Int32 → Option (Int32 × Wd)) : Nat → Wd → Int32 → Int32 → Option (Int32 × Wd)
  | 0, _, _, _ => none
  | n + 1, w, v1, v2 => (if (3 : Int32) ≤ v2 then (k45 w v1) else (if ib ((4 : Int32) + v2) 45 = true then (if (w.1 38 (Int32.toNatClampNeg ((4 : Int32) + v2))) ≤ (0 : Int32) then (Mo_nextOf_L11 k45 n w v1 (v2 + (1 : Int32))) else (Option.bind (Mo_layBy w v2) (fun q5 => (Mo_nextOf_L11 k45 n q5 (v1 ||| (q5.1 37 18)) (v2 + (1 : Int32)))))) else none))
set_option maxRecDepth 100000 in
set_option maxHeartbeats 4000000 in
theorem Mo_nextOf_L11_ok {K : Ctx} (F : Fx K cX8_nextOf 3 RX8 (some .int) 3 67 false [37, 38, 42]) {k45 : Wd → Int32 → Option (Int32 × Wd)} (h45 : ∀ (w : Wd) (v1 : Int32), N K rtI (k45 w v1) w 45 [(1, .int v1)] []) : ∀ (n : Nat) (w : Wd) (v1 : Int32) (v2 : Int32), N K rtI (Mo_nextOf_L11 k45 n w v1 v2) w 11 [(0, .ref (gA (cg K) 37)), (1, .int v1), (2, .int v2)] [] := by
  intro n
  induction n with
  | zero => intro _ _ _; exact n_none
  | succ n ih =>
    intro w v1 v2
    rw [Mo_nextOf_L11]
    refine n_iload_n F dX8_nextOf_11 rfl 2 rfl ?_
    refine n_iconst F (3 : Int32) dX8_nextOf_12 (by decide) ?_
    refine n_icmp_ge F 45 dX8_nextOf_13 (by decide) (fun e2 => ?_) (fun e2 => ?_)
    · rw [if_pos e2]
      exact n_sub [1] rfl (h45 _ _)
    rw [if_neg e2]
    refine n_aload_n F dX8_nextOf_16 rfl 0 rfl ?_
    refine n_get F ck_8 lf_RX8_7 (by decide) fg_37_0 (by decide) dX8_nextOf_17 ?_
    refine n_iconst F (4 : Int32) dX8_nextOf_20 (by decide) ?_
    refine n_iload_n F dX8_nextOf_21 rfl 2 rfl ?_
    refine n_iadd F dX8_nextOf_22 ?_
    refine n_chk (fun e3 => ?_)
    refine n_iald F ar_38 (by decide) (ib_in e3) rfl dX8_nextOf_23 ?_
    refine n_if_le F 39 dX8_nextOf_24 (by decide) (fun e4 => ?_) (fun e4 => ?_)
    · rw [if_pos e4]
      refine n_iinc F (v2 + (1 : Int32)) (lv' := [(2, .int (v2 + (1 : Int32))), (0, .ref (gA (cg K) 37)), (1, .int v1)]) dX8_nextOf_39 2 rfl rfl (by decide) rfl ?_
      refine n_goto F 11 dX8_nextOf_42 (by decide) ?_
      exact n_sub [1, 2, 0] rfl (ih _ _ _)
    rw [if_neg e4]
    refine n_aload_n F dX8_nextOf_27 rfl 0 rfl ?_
    refine n_iload_n F dX8_nextOf_28 rfl 2 rfl ?_
    refine n_bind (fun q5 hq5 => ?_)
    refine n_callVv F cb_X8_layBy lm_RX8_180 ob_37 (by decide) ⟨_, _, rfl⟩ (ct_Mo_layBy (fx_ok F) (fx_sd F) (fx_ix F rfl) w v2 hq5) rfl rfl (Nat.le_of_ble_eq_true rfl) ⟨Nat.le_of_ble_eq_true rfl, Nat.le_of_ble_eq_true rfl⟩ dX8_nextOf_29 ?_
    refine n_iload_n F dX8_nextOf_32 rfl 1 rfl ?_
    refine n_aload_n F dX8_nextOf_33 rfl 0 rfl ?_
    refine n_get F ck_8 lf_RX8_171 (by decide) fg_37_18 (by decide) dX8_nextOf_34 ?_
    refine n_ior F dX8_nextOf_37 ?_
    refine n_istore_n F (lv' := [(1, .int (v1 ||| (q5.1 37 18))), (0, .ref (gA (cg K) 37)), (2, .int v2)]) dX8_nextOf_38 rfl (by decide) rfl ?_
    refine n_iinc F (v2 + (1 : Int32)) (lv' := [(2, .int (v2 + (1 : Int32))), (1, .int (v1 ||| (q5.1 37 18))), (0, .ref (gA (cg K) 37))]) dX8_nextOf_39 2 rfl rfl (by decide) rfl ?_
    refine n_goto F 11 dX8_nextOf_42 (by decide) ?_
    exact n_sub [2, 1, 0] rfl (ih _ _ _)
def Mo_nextOf_B45 (w : Wd) (v1 : Int32) : Option (Int32 × Wd) := some (v1, w)
set_option maxRecDepth 100000 in
set_option maxHeartbeats 4000000 in
theorem Mo_nextOf_B45_ok {K : Ctx} (F : Fx K cX8_nextOf 3 RX8 (some .int) 3 67 false [37, 38, 42]) (w : Wd) (v1 : Int32) : N K rtI (Mo_nextOf_B45 w v1) w 45 [(1, .int v1)] [] := by
  rw [Mo_nextOf_B45]
  refine n_iload_n F dX8_nextOf_45 rfl 0 rfl ?_
  exact n_iret F rfl rfl dX8_nextOf_46
def Mo_nextOf (w : Wd) : Option (Int32 × Wd) := (Option.bind (Mo_layByNone w) (fun q1 => (Mo_nextOf_L11 Mo_nextOf_B45 FU q1 (q1.1 37 18) (0 : Int32))))
set_option maxRecDepth 100000 in
set_option maxHeartbeats 4000000 in
theorem ct_Mo_nextOf {l : Launch} {g : GG} {σ : Sd} (hg : OKg g σ) (hb : σ.2.1 = false) (hx : ∀ c ∈ ([37, 38, 42] : List Nat), c ∈ σ.1) (w : Wd) {q : Int32 × Wd} (hq : Mo_nextOf w = some q) : CT l g σ yX8_nextOf cX8_nextOf 3 (some .int) 3 67 [.ref (gA g 37)] w (some (.int q.1)) q.2 := by
  refine ct_of (rt := rtI) (res := Mo_nextOf w) (q := q) (own := RX8) (b := false) hg hb hx (by decide) rfl (Nat.le_of_ble_eq_true rfl) hq (fun K e1 e2 e3 F => ?_)
  subst e1 e2 e3
  rw [Mo_nextOf]
  show N K _ _ w 0 [(0, .ref (gA (cg K) 37))] []
  refine n_aload_n F dX8_nextOf_0 rfl 0 rfl ?_
  refine n_bind (fun q1 hq1 => ?_)
  refine n_callVv F cb_X8_layByNone lm_RX8_177 ob_37 (by decide) ⟨_, _, rfl⟩ (ct_Mo_layByNone (fx_ok F) (fx_sd F) (fx_ix F rfl) w hq1) rfl rfl (Nat.le_of_ble_eq_true rfl) ⟨Nat.le_of_ble_eq_true rfl, Nat.le_of_ble_eq_true rfl⟩ dX8_nextOf_1 ?_
  refine n_aload_n F dX8_nextOf_4 rfl 0 rfl ?_
  refine n_get F ck_8 lf_RX8_171 (by decide) fg_37_18 (by decide) dX8_nextOf_5 ?_
  refine n_istore_n F (lv' := [(1, .int (q1.1 37 18)), (0, .ref (gA (cg K) 37))]) dX8_nextOf_8 rfl (by decide) rfl ?_
  refine n_iconst F (0 : Int32) dX8_nextOf_9 (by decide) ?_
  refine n_istore_n F (lv' := [(2, .int (0 : Int32)), (1, .int (q1.1 37 18)), (0, .ref (gA (cg K) 37))]) dX8_nextOf_10 rfl (by decide) rfl ?_
  exact n_sub [2, 1, 0] rfl (Mo_nextOf_L11_ok F (Mo_nextOf_B45_ok F) FU _ _ _)
theorem dX8_noon_0 : decode cX8_noon 0 = .ok (.aload_n 0, 1) := by decide +kernel
theorem dX8_noon_1 : decode cX8_noon 1 = .ok (.getfield 7, 3) := by decide +kernel
theorem dX8_noon_4 : decode cX8_noon 4 = .ok (.iconst 3, 1) := by decide +kernel
theorem dX8_noon_5 : decode cX8_noon 5 = .ok (.iaload, 1) := by decide +kernel
theorem dX8_noon_6 : decode cX8_noon 6 = .ok (.iconst 1, 1) := by decide +kernel
theorem dX8_noon_7 : decode cX8_noon 7 = .ok (.if_icmp .eq 21, 3) := by decide +kernel
theorem dX8_noon_10 : decode cX8_noon 10 = .ok (.aload_n 0, 1) := by decide +kernel
theorem dX8_noon_11 : decode cX8_noon 11 = .ok (.invokevirtual 161, 3) := by decide +kernel
theorem dX8_noon_14 : decode cX8_noon 14 = .ok (.ifCond .eq 17, 3) := by decide +kernel
theorem dX8_noon_17 : decode cX8_noon 17 = .ok (.aload_n 0, 1) := by decide +kernel
theorem dX8_noon_18 : decode cX8_noon 18 = .ok (.getfield 7, 3) := by decide +kernel
theorem dX8_noon_21 : decode cX8_noon 21 = .ok (.bipush 7, 2) := by decide +kernel
theorem dX8_noon_23 : decode cX8_noon 23 = .ok (.iaload, 1) := by decide +kernel
theorem dX8_noon_24 : decode cX8_noon 24 = .ok (.iconst (-1), 1) := by decide +kernel
theorem dX8_noon_25 : decode cX8_noon 25 = .ok (.if_icmp .ne 6, 3) := by decide +kernel
theorem dX8_noon_28 : decode cX8_noon 28 = .ok (.bipush (-4), 2) := by decide +kernel
theorem dX8_noon_30 : decode cX8_noon 30 = .ok (.ireturn, 1) := by decide +kernel
theorem dX8_noon_31 : decode cX8_noon 31 = .ok (.aload_n 0, 1) := by decide +kernel
theorem dX8_noon_32 : decode cX8_noon 32 = .ok (.getfield 7, 3) := by decide +kernel
theorem dX8_noon_35 : decode cX8_noon 35 = .ok (.bipush 14, 2) := by decide +kernel
theorem dX8_noon_37 : decode cX8_noon 37 = .ok (.aload_n 0, 1) := by decide +kernel
theorem dX8_noon_38 : decode cX8_noon 38 = .ok (.invokevirtual 183, 3) := by decide +kernel
theorem dX8_noon_41 : decode cX8_noon 41 = .ok (.iastore, 1) := by decide +kernel
theorem dX8_noon_42 : decode cX8_noon 42 = .ok (.aload_n 0, 1) := by decide +kernel
theorem dX8_noon_43 : decode cX8_noon 43 = .ok (.getfield 7, 3) := by decide +kernel
theorem dX8_noon_46 : decode cX8_noon 46 = .ok (.bipush 7, 2) := by decide +kernel
theorem dX8_noon_48 : decode cX8_noon 48 = .ok (.iaload, 1) := by decide +kernel
theorem dX8_noon_49 : decode cX8_noon 49 = .ok (.istore_n 1, 1) := by decide +kernel
theorem dX8_noon_50 : decode cX8_noon 50 = .ok (.iload_n 1, 1) := by decide +kernel
theorem dX8_noon_51 : decode cX8_noon 51 = .ok (.iconst (-1), 1) := by decide +kernel
theorem dX8_noon_52 : decode cX8_noon 52 = .ok (.if_icmp .ne 17, 3) := by decide +kernel
theorem dX8_noon_55 : decode cX8_noon 55 = .ok (.aload_n 0, 1) := by decide +kernel
theorem dX8_noon_56 : decode cX8_noon 56 = .ok (.invokevirtual 177, 3) := by decide +kernel
theorem dX8_noon_59 : decode cX8_noon 59 = .ok (.aload_n 0, 1) := by decide +kernel
theorem dX8_noon_60 : decode cX8_noon 60 = .ok (.getfield 7, 3) := by decide +kernel
theorem dX8_noon_63 : decode cX8_noon 63 = .ok (.iconst 2, 1) := by decide +kernel
theorem dX8_noon_64 : decode cX8_noon 64 = .ok (.iconst 0, 1) := by decide +kernel
theorem dX8_noon_65 : decode cX8_noon 65 = .ok (.iastore, 1) := by decide +kernel
theorem dX8_noon_66 : decode cX8_noon 66 = .ok (.goto 76, 3) := by decide +kernel
theorem dX8_noon_69 : decode cX8_noon 69 = .ok (.aload_n 0, 1) := by decide +kernel
theorem dX8_noon_70 : decode cX8_noon 70 = .ok (.aload_n 0, 1) := by decide +kernel
theorem dX8_noon_71 : decode cX8_noon 71 = .ok (.getfield 27, 3) := by decide +kernel
theorem dX8_noon_74 : decode cX8_noon 74 = .ok (.bipush 6, 2) := by decide +kernel
theorem dX8_noon_76 : decode cX8_noon 76 = .ok (.iload_n 1, 1) := by decide +kernel
theorem dX8_noon_77 : decode cX8_noon 77 = .ok (.imul, 1) := by decide +kernel
theorem dX8_noon_78 : decode cX8_noon 78 = .ok (.iconst 5, 1) := by decide +kernel
theorem dX8_noon_79 : decode cX8_noon 79 = .ok (.iadd, 1) := by decide +kernel
theorem dX8_noon_80 : decode cX8_noon 80 = .ok (.iaload, 1) := by decide +kernel
theorem dX8_noon_81 : decode cX8_noon 81 = .ok (.invokevirtual 180, 3) := by decide +kernel
theorem dX8_noon_84 : decode cX8_noon 84 = .ok (.aload_n 0, 1) := by decide +kernel
theorem dX8_noon_85 : decode cX8_noon 85 = .ok (.getfield 7, 3) := by decide +kernel
theorem dX8_noon_88 : decode cX8_noon 88 = .ok (.iconst 1, 1) := by decide +kernel
theorem dX8_noon_89 : decode cX8_noon 89 = .ok (.aload_n 0, 1) := by decide +kernel
theorem dX8_noon_90 : decode cX8_noon 90 = .ok (.getfield 27, 3) := by decide +kernel
theorem dX8_noon_93 : decode cX8_noon 93 = .ok (.bipush 6, 2) := by decide +kernel
theorem dX8_noon_95 : decode cX8_noon 95 = .ok (.iload_n 1, 1) := by decide +kernel
theorem dX8_noon_96 : decode cX8_noon 96 = .ok (.imul, 1) := by decide +kernel
theorem dX8_noon_97 : decode cX8_noon 97 = .ok (.iconst 1, 1) := by decide +kernel
theorem dX8_noon_98 : decode cX8_noon 98 = .ok (.iadd, 1) := by decide +kernel
theorem dX8_noon_99 : decode cX8_noon 99 = .ok (.iaload, 1) := by decide +kernel
theorem dX8_noon_100 : decode cX8_noon 100 = .ok (.iastore, 1) := by decide +kernel
theorem dX8_noon_101 : decode cX8_noon 101 = .ok (.aload_n 0, 1) := by decide +kernel
theorem dX8_noon_102 : decode cX8_noon 102 = .ok (.getfield 7, 3) := by decide +kernel
theorem dX8_noon_105 : decode cX8_noon 105 = .ok (.iconst 2, 1) := by decide +kernel
theorem dX8_noon_106 : decode cX8_noon 106 = .ok (.aload_n 0, 1) := by decide +kernel
theorem dX8_noon_107 : decode cX8_noon 107 = .ok (.getfield 27, 3) := by decide +kernel
theorem dX8_noon_110 : decode cX8_noon 110 = .ok (.bipush 6, 2) := by decide +kernel
theorem dX8_noon_112 : decode cX8_noon 112 = .ok (.iload_n 1, 1) := by decide +kernel
theorem dX8_noon_113 : decode cX8_noon 113 = .ok (.imul, 1) := by decide +kernel
theorem dX8_noon_114 : decode cX8_noon 114 = .ok (.iconst 4, 1) := by decide +kernel
theorem dX8_noon_115 : decode cX8_noon 115 = .ok (.iadd, 1) := by decide +kernel
theorem dX8_noon_116 : decode cX8_noon 116 = .ok (.iaload, 1) := by decide +kernel
theorem dX8_noon_117 : decode cX8_noon 117 = .ok (.iconst 1, 1) := by decide +kernel
theorem dX8_noon_118 : decode cX8_noon 118 = .ok (.isub, 1) := by decide +kernel
theorem dX8_noon_119 : decode cX8_noon 119 = .ok (.iastore, 1) := by decide +kernel
theorem dX8_noon_120 : decode cX8_noon 120 = .ok (.aload_n 0, 1) := by decide +kernel
theorem dX8_noon_121 : decode cX8_noon 121 = .ok (.getfield 7, 3) := by decide +kernel
theorem dX8_noon_124 : decode cX8_noon 124 = .ok (.iconst 4, 1) := by decide +kernel
theorem dX8_noon_125 : decode cX8_noon 125 = .ok (.aload_n 0, 1) := by decide +kernel
theorem dX8_noon_126 : decode cX8_noon 126 = .ok (.getfield 27, 3) := by decide +kernel
theorem dX8_noon_129 : decode cX8_noon 129 = .ok (.bipush 6, 2) := by decide +kernel
theorem dX8_noon_131 : decode cX8_noon 131 = .ok (.iload_n 1, 1) := by decide +kernel
theorem dX8_noon_132 : decode cX8_noon 132 = .ok (.imul, 1) := by decide +kernel
theorem dX8_noon_133 : decode cX8_noon 133 = .ok (.iconst 5, 1) := by decide +kernel
theorem dX8_noon_134 : decode cX8_noon 134 = .ok (.iadd, 1) := by decide +kernel
theorem dX8_noon_135 : decode cX8_noon 135 = .ok (.iaload, 1) := by decide +kernel
theorem dX8_noon_136 : decode cX8_noon 136 = .ok (.iadd, 1) := by decide +kernel
theorem dX8_noon_137 : decode cX8_noon 137 = .ok (.dup2, 1) := by decide +kernel
theorem dX8_noon_138 : decode cX8_noon 138 = .ok (.iaload, 1) := by decide +kernel
theorem dX8_noon_139 : decode cX8_noon 139 = .ok (.iconst 1, 1) := by decide +kernel
theorem dX8_noon_140 : decode cX8_noon 140 = .ok (.isub, 1) := by decide +kernel
theorem dX8_noon_141 : decode cX8_noon 141 = .ok (.iastore, 1) := by decide +kernel
theorem dX8_noon_142 : decode cX8_noon 142 = .ok (.aload_n 0, 1) := by decide +kernel
theorem dX8_noon_143 : decode cX8_noon 143 = .ok (.getfield 7, 3) := by decide +kernel
theorem dX8_noon_146 : decode cX8_noon 146 = .ok (.bipush 7, 2) := by decide +kernel
theorem dX8_noon_148 : decode cX8_noon 148 = .ok (.iconst (-1), 1) := by decide +kernel
theorem dX8_noon_149 : decode cX8_noon 149 = .ok (.iastore, 1) := by decide +kernel
theorem dX8_noon_150 : decode cX8_noon 150 = .ok (.aload_n 0, 1) := by decide +kernel
theorem dX8_noon_151 : decode cX8_noon 151 = .ok (.getfield 7, 3) := by decide +kernel
theorem dX8_noon_154 : decode cX8_noon 154 = .ok (.bipush 12, 2) := by decide +kernel
theorem dX8_noon_156 : decode cX8_noon 156 = .ok (.aload_n 0, 1) := by decide +kernel
theorem dX8_noon_157 : decode cX8_noon 157 = .ok (.getfield 171, 3) := by decide +kernel
theorem dX8_noon_160 : decode cX8_noon 160 = .ok (.iastore, 1) := by decide +kernel
theorem dX8_noon_161 : decode cX8_noon 161 = .ok (.aload_n 0, 1) := by decide +kernel
theorem dX8_noon_162 : decode cX8_noon 162 = .ok (.getfield 7, 3) := by decide +kernel
theorem dX8_noon_165 : decode cX8_noon 165 = .ok (.bipush 13, 2) := by decide +kernel
theorem dX8_noon_167 : decode cX8_noon 167 = .ok (.aload_n 0, 1) := by decide +kernel
theorem dX8_noon_168 : decode cX8_noon 168 = .ok (.getfield 174, 3) := by decide +kernel
theorem dX8_noon_171 : decode cX8_noon 171 = .ok (.iastore, 1) := by decide +kernel
theorem dX8_noon_172 : decode cX8_noon 172 = .ok (.iconst 0, 1) := by decide +kernel
theorem dX8_noon_173 : decode cX8_noon 173 = .ok (.istore_n 2, 1) := by decide +kernel
theorem dX8_noon_174 : decode cX8_noon 174 = .ok (.iload_n 2, 1) := by decide +kernel
theorem dX8_noon_175 : decode cX8_noon 175 = .ok (.iconst 2, 1) := by decide +kernel
theorem dX8_noon_176 : decode cX8_noon 176 = .ok (.if_icmp .ge 149, 3) := by decide +kernel
theorem dX8_noon_179 : decode cX8_noon 179 = .ok (.aload_n 0, 1) := by decide +kernel
theorem dX8_noon_180 : decode cX8_noon 180 = .ok (.getfield 7, 3) := by decide +kernel
theorem dX8_noon_183 : decode cX8_noon 183 = .ok (.bipush 10, 2) := by decide +kernel
theorem dX8_noon_185 : decode cX8_noon 185 = .ok (.iload_n 2, 1) := by decide +kernel
theorem dX8_noon_186 : decode cX8_noon 186 = .ok (.iadd, 1) := by decide +kernel
theorem dX8_noon_187 : decode cX8_noon 187 = .ok (.iaload, 1) := by decide +kernel
theorem dX8_noon_188 : decode cX8_noon 188 = .ok (.istore_n 3, 1) := by decide +kernel
theorem dX8_noon_189 : decode cX8_noon 189 = .ok (.aload_n 0, 1) := by decide +kernel
theorem dX8_noon_190 : decode cX8_noon 190 = .ok (.getfield 7, 3) := by decide +kernel
theorem dX8_noon_193 : decode cX8_noon 193 = .ok (.bipush 8, 2) := by decide +kernel
theorem dX8_noon_195 : decode cX8_noon 195 = .ok (.iload_n 2, 1) := by decide +kernel
theorem dX8_noon_196 : decode cX8_noon 196 = .ok (.iadd, 1) := by decide +kernel
theorem dX8_noon_197 : decode cX8_noon 197 = .ok (.iload_n 3, 1) := by decide +kernel
theorem dX8_noon_198 : decode cX8_noon 198 = .ok (.iconst (-1), 1) := by decide +kernel
theorem dX8_noon_199 : decode cX8_noon 199 = .ok (.if_icmp .ne 15, 3) := by decide +kernel
theorem dX8_noon_202 : decode cX8_noon 202 = .ok (.aload_n 0, 1) := by decide +kernel
theorem dX8_noon_203 : decode cX8_noon 203 = .ok (.getfield 7, 3) := by decide +kernel
theorem dX8_noon_206 : decode cX8_noon 206 = .ok (.bipush 8, 2) := by decide +kernel
theorem dX8_noon_208 : decode cX8_noon 208 = .ok (.iload_n 2, 1) := by decide +kernel
theorem dX8_noon_209 : decode cX8_noon 209 = .ok (.iadd, 1) := by decide +kernel
theorem dX8_noon_210 : decode cX8_noon 210 = .ok (.iaload, 1) := by decide +kernel
theorem dX8_noon_211 : decode cX8_noon 211 = .ok (.goto 14, 3) := by decide +kernel
theorem dX8_noon_214 : decode cX8_noon 214 = .ok (.aload_n 0, 1) := by decide +kernel
theorem dX8_noon_215 : decode cX8_noon 215 = .ok (.getfield 27, 3) := by decide +kernel
theorem dX8_noon_218 : decode cX8_noon 218 = .ok (.bipush 6, 2) := by decide +kernel
theorem dX8_noon_220 : decode cX8_noon 220 = .ok (.iload_n 3, 1) := by decide +kernel
theorem dX8_noon_221 : decode cX8_noon 221 = .ok (.imul, 1) := by decide +kernel
theorem dX8_noon_222 : decode cX8_noon 222 = .ok (.iconst 1, 1) := by decide +kernel
theorem dX8_noon_223 : decode cX8_noon 223 = .ok (.iadd, 1) := by decide +kernel
theorem dX8_noon_224 : decode cX8_noon 224 = .ok (.iaload, 1) := by decide +kernel
theorem dX8_noon_225 : decode cX8_noon 225 = .ok (.iastore, 1) := by decide +kernel
theorem dX8_noon_226 : decode cX8_noon 226 = .ok (.aload_n 0, 1) := by decide +kernel
theorem dX8_noon_227 : decode cX8_noon 227 = .ok (.getfield 7, 3) := by decide +kernel
theorem dX8_noon_230 : decode cX8_noon 230 = .ok (.bipush 10, 2) := by decide +kernel
theorem dX8_noon_232 : decode cX8_noon 232 = .ok (.iload_n 2, 1) := by decide +kernel
theorem dX8_noon_233 : decode cX8_noon 233 = .ok (.iadd, 1) := by decide +kernel
theorem dX8_noon_234 : decode cX8_noon 234 = .ok (.iconst (-1), 1) := by decide +kernel
theorem dX8_noon_235 : decode cX8_noon 235 = .ok (.iastore, 1) := by decide +kernel
theorem dX8_noon_236 : decode cX8_noon 236 = .ok (.aload_n 0, 1) := by decide +kernel
theorem dX8_noon_237 : decode cX8_noon 237 = .ok (.getfield 7, 3) := by decide +kernel
theorem dX8_noon_240 : decode cX8_noon 240 = .ok (.iconst 3, 1) := by decide +kernel
theorem dX8_noon_241 : decode cX8_noon 241 = .ok (.aload_n 0, 1) := by decide +kernel
theorem dX8_noon_242 : decode cX8_noon 242 = .ok (.getfield 7, 3) := by decide +kernel
theorem dX8_noon_245 : decode cX8_noon 245 = .ok (.iconst 2, 1) := by decide +kernel
theorem dX8_noon_246 : decode cX8_noon 246 = .ok (.iaload, 1) := by decide +kernel
theorem dX8_noon_247 : decode cX8_noon 247 = .ok (.ifCond .ne 25, 3) := by decide +kernel
theorem dX8_noon_250 : decode cX8_noon 250 = .ok (.aload_n 0, 1) := by decide +kernel
theorem dX8_noon_251 : decode cX8_noon 251 = .ok (.getfield 7, 3) := by decide +kernel
theorem dX8_noon_254 : decode cX8_noon 254 = .ok (.bipush 8, 2) := by decide +kernel
theorem dX8_noon_256 : decode cX8_noon 256 = .ok (.iload_n 2, 1) := by decide +kernel
theorem dX8_noon_257 : decode cX8_noon 257 = .ok (.iadd, 1) := by decide +kernel
theorem dX8_noon_258 : decode cX8_noon 258 = .ok (.iaload, 1) := by decide +kernel
theorem dX8_noon_259 : decode cX8_noon 259 = .ok (.aload_n 0, 1) := by decide +kernel
theorem dX8_noon_260 : decode cX8_noon 260 = .ok (.getfield 7, 3) := by decide +kernel
theorem dX8_noon_263 : decode cX8_noon 263 = .ok (.iconst 1, 1) := by decide +kernel
theorem dX8_noon_264 : decode cX8_noon 264 = .ok (.iaload, 1) := by decide +kernel
theorem dX8_noon_265 : decode cX8_noon 265 = .ok (.if_icmp .ne 7, 3) := by decide +kernel
theorem dX8_noon_268 : decode cX8_noon 268 = .ok (.iconst 1, 1) := by decide +kernel
theorem dX8_noon_269 : decode cX8_noon 269 = .ok (.goto 9, 3) := by decide +kernel
theorem dX8_noon_272 : decode cX8_noon 272 = .ok (.aload_n 0, 1) := by decide +kernel
theorem dX8_noon_273 : decode cX8_noon 273 = .ok (.getfield 7, 3) := by decide +kernel
theorem dX8_noon_276 : decode cX8_noon 276 = .ok (.iconst 3, 1) := by decide +kernel
theorem dX8_noon_277 : decode cX8_noon 277 = .ok (.iaload, 1) := by decide +kernel
theorem dX8_noon_278 : decode cX8_noon 278 = .ok (.iastore, 1) := by decide +kernel
theorem dX8_noon_279 : decode cX8_noon 279 = .ok (.aload_n 0, 1) := by decide +kernel
theorem dX8_noon_280 : decode cX8_noon 280 = .ok (.getfield 7, 3) := by decide +kernel
theorem dX8_noon_283 : decode cX8_noon 283 = .ok (.bipush 12, 2) := by decide +kernel
theorem dX8_noon_285 : decode cX8_noon 285 = .ok (.dup2, 1) := by decide +kernel
theorem dX8_noon_286 : decode cX8_noon 286 = .ok (.iaload, 1) := by decide +kernel
theorem dX8_noon_287 : decode cX8_noon 287 = .ok (.aload_n 0, 1) := by decide +kernel
theorem dX8_noon_288 : decode cX8_noon 288 = .ok (.getfield 7, 3) := by decide +kernel
theorem dX8_noon_291 : decode cX8_noon 291 = .ok (.bipush 8, 2) := by decide +kernel
theorem dX8_noon_293 : decode cX8_noon 293 = .ok (.iload_n 2, 1) := by decide +kernel
theorem dX8_noon_294 : decode cX8_noon 294 = .ok (.iadd, 1) := by decide +kernel
theorem dX8_noon_295 : decode cX8_noon 295 = .ok (.iaload, 1) := by decide +kernel
theorem dX8_noon_296 : decode cX8_noon 296 = .ok (.iconst (-1), 1) := by decide +kernel
theorem dX8_noon_297 : decode cX8_noon 297 = .ok (.if_icmp .ne 7, 3) := by decide +kernel
theorem dX8_noon_300 : decode cX8_noon 300 = .ok (.iconst (-1), 1) := by decide +kernel
theorem dX8_noon_301 : decode cX8_noon 301 = .ok (.goto 16, 3) := by decide +kernel
theorem dX8_noon_304 : decode cX8_noon 304 = .ok (.iconst 1, 1) := by decide +kernel
theorem dX8_noon_305 : decode cX8_noon 305 = .ok (.aload_n 0, 1) := by decide +kernel
theorem dX8_noon_306 : decode cX8_noon 306 = .ok (.getfield 7, 3) := by decide +kernel
theorem dX8_noon_309 : decode cX8_noon 309 = .ok (.bipush 8, 2) := by decide +kernel
theorem dX8_noon_311 : decode cX8_noon 311 = .ok (.iload_n 2, 1) := by decide +kernel
theorem dX8_noon_312 : decode cX8_noon 312 = .ok (.iadd, 1) := by decide +kernel
theorem dX8_noon_313 : decode cX8_noon 313 = .ok (.iaload, 1) := by decide +kernel
theorem dX8_noon_314 : decode cX8_noon 314 = .ok (.ishl, 1) := by decide +kernel
theorem dX8_noon_315 : decode cX8_noon 315 = .ok (.iconst (-1), 1) := by decide +kernel
theorem dX8_noon_316 : decode cX8_noon 316 = .ok (.ixor, 1) := by decide +kernel
theorem dX8_noon_317 : decode cX8_noon 317 = .ok (.iand, 1) := by decide +kernel
theorem dX8_noon_318 : decode cX8_noon 318 = .ok (.iastore, 1) := by decide +kernel
theorem dX8_noon_319 : decode cX8_noon 319 = .ok (.iinc 2 1, 3) := by decide +kernel
theorem dX8_noon_322 : decode cX8_noon 322 = .ok (.goto (-148), 3) := by decide +kernel
theorem dX8_noon_325 : decode cX8_noon 325 = .ok (.aload_n 0, 1) := by decide +kernel
theorem dX8_noon_326 : decode cX8_noon 326 = .ok (.getfield 7, 3) := by decide +kernel
theorem dX8_noon_329 : decode cX8_noon 329 = .ok (.iconst 0, 1) := by decide +kernel
theorem dX8_noon_330 : decode cX8_noon 330 = .ok (.dup2, 1) := by decide +kernel
theorem dX8_noon_331 : decode cX8_noon 331 = .ok (.iaload, 1) := by decide +kernel
theorem dX8_noon_332 : decode cX8_noon 332 = .ok (.iconst 1, 1) := by decide +kernel
theorem dX8_noon_333 : decode cX8_noon 333 = .ok (.iadd, 1) := by decide +kernel
theorem dX8_noon_334 : decode cX8_noon 334 = .ok (.iastore, 1) := by decide +kernel
theorem dX8_noon_335 : decode cX8_noon 335 = .ok (.aload_n 0, 1) := by decide +kernel
theorem dX8_noon_336 : decode cX8_noon 336 = .ok (.getfield 7, 3) := by decide +kernel
theorem dX8_noon_339 : decode cX8_noon 339 = .ok (.iconst 3, 1) := by decide +kernel
theorem dX8_noon_340 : decode cX8_noon 340 = .ok (.iaload, 1) := by decide +kernel
theorem dX8_noon_341 : decode cX8_noon 341 = .ok (.iconst 1, 1) := by decide +kernel
theorem dX8_noon_342 : decode cX8_noon 342 = .ok (.if_icmp .eq 17, 3) := by decide +kernel
theorem dX8_noon_345 : decode cX8_noon 345 = .ok (.aload_n 0, 1) := by decide +kernel
theorem dX8_noon_346 : decode cX8_noon 346 = .ok (.getfield 7, 3) := by decide +kernel
theorem dX8_noon_349 : decode cX8_noon 349 = .ok (.iconst 0, 1) := by decide +kernel
theorem dX8_noon_350 : decode cX8_noon 350 = .ok (.iaload, 1) := by decide +kernel
theorem dX8_noon_351 : decode cX8_noon 351 = .ok (.aload_n 0, 1) := by decide +kernel
theorem dX8_noon_352 : decode cX8_noon 352 = .ok (.getfield 33, 3) := by decide +kernel
theorem dX8_noon_355 : decode cX8_noon 355 = .ok (.irem, 1) := by decide +kernel
theorem dX8_noon_356 : decode cX8_noon 356 = .ok (.ifCond .ne 61, 3) := by decide +kernel
theorem dX8_noon_359 : decode cX8_noon 359 = .ok (.aload_n 0, 1) := by decide +kernel
theorem dX8_noon_360 : decode cX8_noon 360 = .ok (.getfield 7, 3) := by decide +kernel
theorem dX8_noon_363 : decode cX8_noon 363 = .ok (.bipush 12, 2) := by decide +kernel
theorem dX8_noon_365 : decode cX8_noon 365 = .ok (.aload_n 0, 1) := by decide +kernel
theorem dX8_noon_366 : decode cX8_noon 366 = .ok (.getfield 7, 3) := by decide +kernel
theorem dX8_noon_369 : decode cX8_noon 369 = .ok (.iconst 2, 1) := by decide +kernel
theorem dX8_noon_370 : decode cX8_noon 370 = .ok (.iaload, 1) := by decide +kernel
theorem dX8_noon_371 : decode cX8_noon 371 = .ok (.iconst 1, 1) := by decide +kernel
theorem dX8_noon_372 : decode cX8_noon 372 = .ok (.if_icmp .ne 7, 3) := by decide +kernel
theorem dX8_noon_375 : decode cX8_noon 375 = .ok (.iconst 0, 1) := by decide +kernel
theorem dX8_noon_376 : decode cX8_noon 376 = .ok (.goto 11, 3) := by decide +kernel
theorem dX8_noon_379 : decode cX8_noon 379 = .ok (.iconst 1, 1) := by decide +kernel
theorem dX8_noon_380 : decode cX8_noon 380 = .ok (.aload_n 0, 1) := by decide +kernel
theorem dX8_noon_381 : decode cX8_noon 381 = .ok (.getfield 7, 3) := by decide +kernel
theorem dX8_noon_384 : decode cX8_noon 384 = .ok (.iconst 1, 1) := by decide +kernel
theorem dX8_noon_385 : decode cX8_noon 385 = .ok (.iaload, 1) := by decide +kernel
theorem dX8_noon_386 : decode cX8_noon 386 = .ok (.ishl, 1) := by decide +kernel
theorem dX8_noon_387 : decode cX8_noon 387 = .ok (.iastore, 1) := by decide +kernel
theorem dX8_noon_388 : decode cX8_noon 388 = .ok (.aload_n 0, 1) := by decide +kernel
theorem dX8_noon_389 : decode cX8_noon 389 = .ok (.getfield 7, 3) := by decide +kernel
theorem dX8_noon_392 : decode cX8_noon 392 = .ok (.bipush 13, 2) := by decide +kernel
theorem dX8_noon_394 : decode cX8_noon 394 = .ok (.aload_n 0, 1) := by decide +kernel
theorem dX8_noon_395 : decode cX8_noon 395 = .ok (.getfield 7, 3) := by decide +kernel
theorem dX8_noon_398 : decode cX8_noon 398 = .ok (.iconst 2, 1) := by decide +kernel
theorem dX8_noon_399 : decode cX8_noon 399 = .ok (.iaload, 1) := by decide +kernel
theorem dX8_noon_400 : decode cX8_noon 400 = .ok (.iconst 1, 1) := by decide +kernel
theorem dX8_noon_401 : decode cX8_noon 401 = .ok (.if_icmp .ne 14, 3) := by decide +kernel
theorem dX8_noon_404 : decode cX8_noon 404 = .ok (.iconst 1, 1) := by decide +kernel
theorem dX8_noon_405 : decode cX8_noon 405 = .ok (.aload_n 0, 1) := by decide +kernel
theorem dX8_noon_406 : decode cX8_noon 406 = .ok (.getfield 7, 3) := by decide +kernel
theorem dX8_noon_409 : decode cX8_noon 409 = .ok (.iconst 1, 1) := by decide +kernel
theorem dX8_noon_410 : decode cX8_noon 410 = .ok (.iaload, 1) := by decide +kernel
theorem dX8_noon_411 : decode cX8_noon 411 = .ok (.ishl, 1) := by decide +kernel
theorem dX8_noon_412 : decode cX8_noon 412 = .ok (.goto 4, 3) := by decide +kernel
theorem dX8_noon_415 : decode cX8_noon 415 = .ok (.iconst 0, 1) := by decide +kernel
theorem dX8_noon_416 : decode cX8_noon 416 = .ok (.iastore, 1) := by decide +kernel
theorem dX8_noon_417 : decode cX8_noon 417 = .ok (.aload_n 0, 1) := by decide +kernel
theorem dX8_noon_418 : decode cX8_noon 418 = .ok (.getfield 7, 3) := by decide +kernel
theorem dX8_noon_421 : decode cX8_noon 421 = .ok (.iconst 3, 1) := by decide +kernel
theorem dX8_noon_422 : decode cX8_noon 422 = .ok (.iaload, 1) := by decide +kernel
theorem dX8_noon_423 : decode cX8_noon 423 = .ok (.ireturn, 1) := by decide +kernel
def Mo_noon_B278 (k174 : Wd → Int32 → Option (Int32 × Wd)) (w : Wd) (v2 : Int32) (s0 : Int32) (s1 : Int32) : Option (Int32 × Wd) := (if ib s1 45 = true then (if ib ((8 : Int32) + v2) 45 = true then (if ((sI w 38 (Int32.toNatClampNeg s1) s0).1 38 (Int32.toNatClampNeg ((8 : Int32) + v2))) = (-1 : Int32) then (k174 (sI (sI w 38 (Int32.toNatClampNeg s1) s0) 38 12 (((sI w 38 (Int32.toNatClampNeg s1) s0).1 38 12) &&& (-1 : Int32))) (v2 + (1 : Int32))) else (if ib ((8 : Int32) + v2) 45 = true then (k174 (sI (sI w 38 (Int32.toNatClampNeg s1) s0) 38 12 (((sI w 38 (Int32.toNatClampNeg s1) s0).1 38 12) &&& (((1 : Int32) <<< (((sI w 38 (Int32.toNatClampNeg s1) s0).1 38 (Int32.toNatClampNeg ((8 : Int32) + v2))) &&& (31 : Int32))) ^^^ (-1 : Int32)))) (v2 + (1 : Int32))) else none)) else none) else none)
set_option maxRecDepth 100000 in
set_option maxHeartbeats 4000000 in
theorem Mo_noon_B278_ok {K : Ctx} (F : Fx K cX8_noon 4 RX8 (some .int) 4 89 false [37, 38, 42]) {k174 : Wd → Int32 → Option (Int32 × Wd)} (h174 : ∀ (w : Wd) (v2 : Int32), N K rtI (k174 w v2) w 174 [(0, .ref (gA (cg K) 37)), (2, .int v2)] []) (w : Wd) (v2 : Int32) (s0 : Int32) (s1 : Int32) : N K rtI (Mo_noon_B278 k174 w v2 s0 s1) w 278 [(0, .ref (gA (cg K) 37)), (2, .int v2)] [.int s0, .int s1, .ref (gA (cg K) 38)] := by
  rw [Mo_noon_B278]
  refine n_chk (fun e20 => ?_)
  refine n_iast F ar_38 (by decide) (ib_in e20) rfl dX8_noon_278 ?_
  refine n_aload_n F dX8_noon_279 rfl 0 rfl ?_
  refine n_get F ck_8 lf_RX8_7 (by decide) fg_37_0 (by decide) dX8_noon_280 ?_
  refine n_bipush F (12 : Int32) dX8_noon_283 (by decide) ?_
  refine n_dup2 F dX8_noon_285 rfl rfl ?_
  refine n_iald F ar_38 (by decide) (ib_c (n := 45) (by decide)) (j := 12) (by decide) dX8_noon_286 ?_
  refine n_aload_n F dX8_noon_287 rfl 0 rfl ?_
  refine n_get F ck_8 lf_RX8_7 (by decide) fg_37_0 (by decide) dX8_noon_288 ?_
  refine n_bipush F (8 : Int32) dX8_noon_291 (by decide) ?_
  refine n_iload_n F dX8_noon_293 rfl 1 rfl ?_
  refine n_iadd F dX8_noon_294 ?_
  refine n_chk (fun e21 => ?_)
  refine n_iald F ar_38 (by decide) (ib_in e21) rfl dX8_noon_295 ?_
  refine n_iconst F (-1 : Int32) dX8_noon_296 (by decide) ?_
  refine n_icmp_ne F 304 dX8_noon_297 (by decide) (fun e22 => ?_) (fun e22 => ?_)
  · rw [if_neg e22]
    refine n_iconst F (1 : Int32) dX8_noon_304 (by decide) ?_
    refine n_aload_n F dX8_noon_305 rfl 0 rfl ?_
    refine n_get F ck_8 lf_RX8_7 (by decide) fg_37_0 (by decide) dX8_noon_306 ?_
    refine n_bipush F (8 : Int32) dX8_noon_309 (by decide) ?_
    refine n_iload_n F dX8_noon_311 rfl 1 rfl ?_
    refine n_iadd F dX8_noon_312 ?_
    refine n_chk (fun e23 => ?_)
    refine n_iald F ar_38 (by decide) (ib_in e23) rfl dX8_noon_313 ?_
    refine n_ishl F dX8_noon_314 ?_
    refine n_iconst F (-1 : Int32) dX8_noon_315 (by decide) ?_
    refine n_ixor F dX8_noon_316 ?_
    refine n_iand F dX8_noon_317 ?_
    refine n_iast F ar_38 (by decide) (ib_c (n := 45) (by decide)) (j := 12) (by decide) dX8_noon_318 ?_
    refine n_iinc F (v2 + (1 : Int32)) (lv' := [(2, .int (v2 + (1 : Int32))), (0, .ref (gA (cg K) 37))]) dX8_noon_319 1 rfl rfl (by decide) rfl ?_
    refine n_goto F 174 dX8_noon_322 (by decide) ?_
    exact n_sub [1, 0] rfl (h174 _ _)
  rw [if_pos e22]
  refine n_iconst F (-1 : Int32) dX8_noon_300 (by decide) ?_
  refine n_goto F 317 dX8_noon_301 (by decide) ?_
  refine n_iand F dX8_noon_317 ?_
  refine n_iast F ar_38 (by decide) (ib_c (n := 45) (by decide)) (j := 12) (by decide) dX8_noon_318 ?_
  refine n_iinc F (v2 + (1 : Int32)) (lv' := [(2, .int (v2 + (1 : Int32))), (0, .ref (gA (cg K) 37))]) dX8_noon_319 1 rfl rfl (by decide) rfl ?_
  refine n_goto F 174 dX8_noon_322 (by decide) ?_
  exact n_sub [1, 0] rfl (h174 _ _)
def Mo_noon_B225 (k174 : Wd → Int32 → Option (Int32 × Wd)) (w : Wd) (v2 : Int32) (s0 : Int32) (s1 : Int32) : Option (Int32 × Wd) := (if ib s1 45 = true then (if ib ((10 : Int32) + v2) 45 = true then (if ((sI (sI w 38 (Int32.toNatClampNeg s1) s0) 38 (Int32.toNatClampNeg ((10 : Int32) + v2)) (-1 : Int32)).1 38 2) = (0 : Int32) then (if ib ((8 : Int32) + v2) 45 = true then (Mo_noon_B278 k174 (sI (sI w 38 (Int32.toNatClampNeg s1) s0) 38 (Int32.toNatClampNeg ((10 : Int32) + v2)) (-1 : Int32)) v2 (if ((sI (sI w 38 (Int32.toNatClampNeg s1) s0) 38 (Int32.toNatClampNeg ((10 : Int32) + v2)) (-1 : Int32)).1 38 (Int32.toNatClampNeg ((8 : Int32) + v2))) = ((sI (sI w 38 (Int32.toNatClampNeg s1) s0) 38 (Int32.toNatClampNeg ((10 : Int32) + v2)) (-1 : Int32)).1 38 1) then (1 : Int32) else ((sI (sI w 38 (Int32.toNatClampNeg s1) s0) 38 (Int32.toNatClampNeg ((10 : Int32) + v2)) (-1 : Int32)).1 38 3)) (3 : Int32)) else none) else (Mo_noon_B278 k174 (sI (sI w 38 (Int32.toNatClampNeg s1) s0) 38 (Int32.toNatClampNeg ((10 : Int32) + v2)) (-1 : Int32)) v2 ((sI (sI w 38 (Int32.toNatClampNeg s1) s0) 38 (Int32.toNatClampNeg ((10 : Int32) + v2)) (-1 : Int32)).1 38 3) (3 : Int32))) else none) else none)
set_option maxRecDepth 100000 in
set_option maxHeartbeats 4000000 in
theorem Mo_noon_B225_ok {K : Ctx} (F : Fx K cX8_noon 4 RX8 (some .int) 4 89 false [37, 38, 42]) {k174 : Wd → Int32 → Option (Int32 × Wd)} (h174 : ∀ (w : Wd) (v2 : Int32), N K rtI (k174 w v2) w 174 [(0, .ref (gA (cg K) 37)), (2, .int v2)] []) (w : Wd) (v2 : Int32) (s0 : Int32) (s1 : Int32) : N K rtI (Mo_noon_B225 k174 w v2 s0 s1) w 225 [(0, .ref (gA (cg K) 37)), (2, .int v2)] [.int s0, .int s1, .ref (gA (cg K) 38)] := by
  rw [Mo_noon_B225]
  refine n_chk (fun e17 => ?_)
  refine n_iast F ar_38 (by decide) (ib_in e17) rfl dX8_noon_225 ?_
  refine n_aload_n F dX8_noon_226 rfl 0 rfl ?_
  refine n_get F ck_8 lf_RX8_7 (by decide) fg_37_0 (by decide) dX8_noon_227 ?_
  refine n_bipush F (10 : Int32) dX8_noon_230 (by decide) ?_
  refine n_iload_n F dX8_noon_232 rfl 1 rfl ?_
  refine n_iadd F dX8_noon_233 ?_
  refine n_iconst F (-1 : Int32) dX8_noon_234 (by decide) ?_
  refine n_chk (fun e18 => ?_)
  refine n_iast F ar_38 (by decide) (ib_in e18) rfl dX8_noon_235 ?_
  refine n_aload_n F dX8_noon_236 rfl 0 rfl ?_
  refine n_get F ck_8 lf_RX8_7 (by decide) fg_37_0 (by decide) dX8_noon_237 ?_
  refine n_iconst F (3 : Int32) dX8_noon_240 (by decide) ?_
  refine n_aload_n F dX8_noon_241 rfl 0 rfl ?_
  refine n_get F ck_8 lf_RX8_7 (by decide) fg_37_0 (by decide) dX8_noon_242 ?_
  refine n_iconst F (2 : Int32) dX8_noon_245 (by decide) ?_
  refine n_iald F ar_38 (by decide) (ib_c (n := 45) (by decide)) (j := 2) (by decide) dX8_noon_246 ?_
  refine n_if_ne F 272 dX8_noon_247 (by decide) (fun e19 => ?_) (fun e19 => ?_)
  · rw [if_neg e19]
    refine n_aload_n F dX8_noon_272 rfl 0 rfl ?_
    refine n_get F ck_8 lf_RX8_7 (by decide) fg_37_0 (by decide) dX8_noon_273 ?_
    refine n_iconst F (3 : Int32) dX8_noon_276 (by decide) ?_
    refine n_iald F ar_38 (by decide) (ib_c (n := 45) (by decide)) (j := 3) (by decide) dX8_noon_277 ?_
    exact n_sub [0, 1] rfl (Mo_noon_B278_ok F h174 _ _ _ _)
  rw [if_pos e19]
  refine n_aload_n F dX8_noon_250 rfl 0 rfl ?_
  refine n_get F ck_8 lf_RX8_7 (by decide) fg_37_0 (by decide) dX8_noon_251 ?_
  refine n_bipush F (8 : Int32) dX8_noon_254 (by decide) ?_
  refine n_iload_n F dX8_noon_256 rfl 1 rfl ?_
  refine n_iadd F dX8_noon_257 ?_
  refine n_chk (fun e24 => ?_)
  refine n_iald F ar_38 (by decide) (ib_in e24) rfl dX8_noon_258 ?_
  refine n_aload_n F dX8_noon_259 rfl 0 rfl ?_
  refine n_get F ck_8 lf_RX8_7 (by decide) fg_37_0 (by decide) dX8_noon_260 ?_
  refine n_iconst F (1 : Int32) dX8_noon_263 (by decide) ?_
  refine n_iald F ar_38 (by decide) (ib_c (n := 45) (by decide)) (j := 1) (by decide) dX8_noon_264 ?_
  refine n_icmp_ne F 272 dX8_noon_265 (by decide) (fun e25 => ?_) (fun e25 => ?_)
  · rw [if_neg e25]
    refine n_aload_n F dX8_noon_272 rfl 0 rfl ?_
    refine n_get F ck_8 lf_RX8_7 (by decide) fg_37_0 (by decide) dX8_noon_273 ?_
    refine n_iconst F (3 : Int32) dX8_noon_276 (by decide) ?_
    refine n_iald F ar_38 (by decide) (ib_c (n := 45) (by decide)) (j := 3) (by decide) dX8_noon_277 ?_
    exact n_sub [0, 1] rfl (Mo_noon_B278_ok F h174 _ _ _ _)
  rw [if_pos e25]
  refine n_iconst F (1 : Int32) dX8_noon_268 (by decide) ?_
  refine n_goto F 278 dX8_noon_269 (by decide) ?_
  exact n_sub [0, 1] rfl (Mo_noon_B278_ok F h174 _ _ _ _)
def Mo_noon_L174 (k325 : Wd → Option (Int32 × Wd)) : Nat → Wd → Int32 → Option (Int32 × Wd)
  | 0, _, _ => none
  | n + 1, w, v2 => (if (2 : Int32) ≤ v2 then (k325 w) else (if ib ((10 : Int32) + v2) 45 = true then (if (w.1 38 (Int32.toNatClampNeg ((10 : Int32) + v2))) = (-1 : Int32) then (if ib ((8 : Int32) + v2) 45 = true then (Mo_noon_B225 (Mo_noon_L174 k325 n) w v2 (w.1 38 (Int32.toNatClampNeg ((8 : Int32) + v2))) ((8 : Int32) + v2)) else none) else (if ib (((6 : Int32) * (w.1 38 (Int32.toNatClampNeg ((10 : Int32) + v2)))) + (1 : Int32)) 72 = true then (Mo_noon_B225 (Mo_noon_L174 k325 n) w v2 (w.1 42 (Int32.toNatClampNeg (((6 : Int32) * (w.1 38 (Int32.toNatClampNeg ((10 : Int32) + v2)))) + (1 : Int32)))) ((8 : Int32) + v2)) else none)) else none))
set_option maxRecDepth 100000 in
set_option maxHeartbeats 4000000 in
theorem Mo_noon_L174_ok {K : Ctx} (F : Fx K cX8_noon 4 RX8 (some .int) 4 89 false [37, 38, 42]) {k325 : Wd → Option (Int32 × Wd)} (h325 : ∀ (w : Wd), N K rtI (k325 w) w 325 [(0, .ref (gA (cg K) 37))] []) : ∀ (n : Nat) (w : Wd) (v2 : Int32), N K rtI (Mo_noon_L174 k325 n w v2) w 174 [(0, .ref (gA (cg K) 37)), (2, .int v2)] [] := by
  intro n
  induction n with
  | zero => intro _ _; exact n_none
  | succ n ih =>
    intro w v2
    rw [Mo_noon_L174]
    refine n_iload_n F dX8_noon_174 rfl 1 rfl ?_
    refine n_iconst F (2 : Int32) dX8_noon_175 (by decide) ?_
    refine n_icmp_ge F 325 dX8_noon_176 (by decide) (fun e13 => ?_) (fun e13 => ?_)
    · rw [if_pos e13]
      exact n_sub [0] rfl (h325 _)
    rw [if_neg e13]
    refine n_aload_n F dX8_noon_179 rfl 0 rfl ?_
    refine n_get F ck_8 lf_RX8_7 (by decide) fg_37_0 (by decide) dX8_noon_180 ?_
    refine n_bipush F (10 : Int32) dX8_noon_183 (by decide) ?_
    refine n_iload_n F dX8_noon_185 rfl 1 rfl ?_
    refine n_iadd F dX8_noon_186 ?_
    refine n_chk (fun e14 => ?_)
    refine n_iald F ar_38 (by decide) (ib_in e14) rfl dX8_noon_187 ?_
    refine n_istore_n F (lv' := [(3, .int (w.1 38 (Int32.toNatClampNeg ((10 : Int32) + v2)))), (0, .ref (gA (cg K) 37)), (2, .int v2)]) dX8_noon_188 rfl (by decide) rfl ?_
    refine n_aload_n F dX8_noon_189 rfl 1 rfl ?_
    refine n_get F ck_8 lf_RX8_7 (by decide) fg_37_0 (by decide) dX8_noon_190 ?_
    refine n_bipush F (8 : Int32) dX8_noon_193 (by decide) ?_
    refine n_iload_n F dX8_noon_195 rfl 2 rfl ?_
    refine n_iadd F dX8_noon_196 ?_
    refine n_iload_n F dX8_noon_197 rfl 0 rfl ?_
    refine n_iconst F (-1 : Int32) dX8_noon_198 (by decide) ?_
    refine n_icmp_ne F 214 dX8_noon_199 (by decide) (fun e15 => ?_) (fun e15 => ?_)
    · rw [if_neg e15]
      refine n_aload_n F dX8_noon_214 rfl 1 rfl ?_
      refine n_get F ck_8 lf_RX8_27 (by decide) fg_37_7 (by decide) dX8_noon_215 ?_
      refine n_bipush F (6 : Int32) dX8_noon_218 (by decide) ?_
      refine n_iload_n F dX8_noon_220 rfl 0 rfl ?_
      refine n_imul F dX8_noon_221 ?_
      refine n_iconst F (1 : Int32) dX8_noon_222 (by decide) ?_
      refine n_iadd F dX8_noon_223 ?_
      refine n_chk (fun e16 => ?_)
      refine n_iald F ar_42 (by decide) (ib_in e16) rfl dX8_noon_224 ?_
      exact n_sub [1, 2] rfl (Mo_noon_B225_ok F ih _ _ _ _)
    rw [if_pos e15]
    refine n_aload_n F dX8_noon_202 rfl 1 rfl ?_
    refine n_get F ck_8 lf_RX8_7 (by decide) fg_37_0 (by decide) dX8_noon_203 ?_
    refine n_bipush F (8 : Int32) dX8_noon_206 (by decide) ?_
    refine n_iload_n F dX8_noon_208 rfl 2 rfl ?_
    refine n_iadd F dX8_noon_209 ?_
    refine n_chk (fun e26 => ?_)
    refine n_iald F ar_38 (by decide) (ib_in e26) rfl dX8_noon_210 ?_
    refine n_goto F 225 dX8_noon_211 (by decide) ?_
    exact n_sub [1, 2] rfl (Mo_noon_B225_ok F ih _ _ _ _)
def Mo_noon_B387 (w : Wd) (s0 : Int32) (s1 : Int32) : Option (Int32 × Wd) := (if ib s1 45 = true then (if ((sI w 38 (Int32.toNatClampNeg s1) s0).1 38 2) = (1 : Int32) then some (((sI (sI w 38 (Int32.toNatClampNeg s1) s0) 38 13 ((1 : Int32) <<< (((sI w 38 (Int32.toNatClampNeg s1) s0).1 38 1) &&& (31 : Int32)))).1 38 3), (sI (sI w 38 (Int32.toNatClampNeg s1) s0) 38 13 ((1 : Int32) <<< (((sI w 38 (Int32.toNatClampNeg s1) s0).1 38 1) &&& (31 : Int32))))) else some (((sI (sI w 38 (Int32.toNatClampNeg s1) s0) 38 13 (0 : Int32)).1 38 3), (sI (sI w 38 (Int32.toNatClampNeg s1) s0) 38 13 (0 : Int32)))) else none)
set_option maxRecDepth 100000 in
set_option maxHeartbeats 4000000 in
theorem Mo_noon_B387_ok {K : Ctx} (F : Fx K cX8_noon 4 RX8 (some .int) 4 89 false [37, 38, 42]) (w : Wd) (s0 : Int32) (s1 : Int32) : N K rtI (Mo_noon_B387 w s0 s1) w 387 [(0, .ref (gA (cg K) 37))] [.int s0, .int s1, .ref (gA (cg K) 38)] := by
  rw [Mo_noon_B387]
  refine n_chk (fun e29 => ?_)
  refine n_iast F ar_38 (by decide) (ib_in e29) rfl dX8_noon_387 ?_
  refine n_aload_n F dX8_noon_388 rfl 0 rfl ?_
  refine n_get F ck_8 lf_RX8_7 (by decide) fg_37_0 (by decide) dX8_noon_389 ?_
  refine n_bipush F (13 : Int32) dX8_noon_392 (by decide) ?_
  refine n_aload_n F dX8_noon_394 rfl 0 rfl ?_
  refine n_get F ck_8 lf_RX8_7 (by decide) fg_37_0 (by decide) dX8_noon_395 ?_
  refine n_iconst F (2 : Int32) dX8_noon_398 (by decide) ?_
  refine n_iald F ar_38 (by decide) (ib_c (n := 45) (by decide)) (j := 2) (by decide) dX8_noon_399 ?_
  refine n_iconst F (1 : Int32) dX8_noon_400 (by decide) ?_
  refine n_icmp_ne F 415 dX8_noon_401 (by decide) (fun e30 => ?_) (fun e30 => ?_)
  · rw [if_neg e30]
    refine n_iconst F (0 : Int32) dX8_noon_415 (by decide) ?_
    refine n_iast F ar_38 (by decide) (ib_c (n := 45) (by decide)) (j := 13) (by decide) dX8_noon_416 ?_
    refine n_aload_n F dX8_noon_417 rfl 0 rfl ?_
    refine n_get F ck_8 lf_RX8_7 (by decide) fg_37_0 (by decide) dX8_noon_418 ?_
    refine n_iconst F (3 : Int32) dX8_noon_421 (by decide) ?_
    refine n_iald F ar_38 (by decide) (ib_c (n := 45) (by decide)) (j := 3) (by decide) dX8_noon_422 ?_
    exact n_iret F rfl rfl dX8_noon_423
  rw [if_pos e30]
  refine n_iconst F (1 : Int32) dX8_noon_404 (by decide) ?_
  refine n_aload_n F dX8_noon_405 rfl 0 rfl ?_
  refine n_get F ck_8 lf_RX8_7 (by decide) fg_37_0 (by decide) dX8_noon_406 ?_
  refine n_iconst F (1 : Int32) dX8_noon_409 (by decide) ?_
  refine n_iald F ar_38 (by decide) (ib_c (n := 45) (by decide)) (j := 1) (by decide) dX8_noon_410 ?_
  refine n_ishl F dX8_noon_411 ?_
  refine n_goto F 416 dX8_noon_412 (by decide) ?_
  refine n_iast F ar_38 (by decide) (ib_c (n := 45) (by decide)) (j := 13) (by decide) dX8_noon_416 ?_
  refine n_aload_n F dX8_noon_417 rfl 0 rfl ?_
  refine n_get F ck_8 lf_RX8_7 (by decide) fg_37_0 (by decide) dX8_noon_418 ?_
  refine n_iconst F (3 : Int32) dX8_noon_421 (by decide) ?_
  refine n_iald F ar_38 (by decide) (ib_c (n := 45) (by decide)) (j := 3) (by decide) dX8_noon_422 ?_
  exact n_iret F rfl rfl dX8_noon_423
def Mo_noon_B359 (w : Wd) : Option (Int32 × Wd) := (Mo_noon_B387 w (if (w.1 38 2) = (1 : Int32) then (0 : Int32) else ((1 : Int32) <<< ((w.1 38 1) &&& (31 : Int32)))) (12 : Int32))
set_option maxRecDepth 100000 in
set_option maxHeartbeats 4000000 in
theorem Mo_noon_B359_ok {K : Ctx} (F : Fx K cX8_noon 4 RX8 (some .int) 4 89 false [37, 38, 42]) (w : Wd) : N K rtI (Mo_noon_B359 w) w 359 [(0, .ref (gA (cg K) 37))] [] := by
  rw [Mo_noon_B359]
  refine n_aload_n F dX8_noon_359 rfl 0 rfl ?_
  refine n_get F ck_8 lf_RX8_7 (by decide) fg_37_0 (by decide) dX8_noon_360 ?_
  refine n_bipush F (12 : Int32) dX8_noon_363 (by decide) ?_
  refine n_aload_n F dX8_noon_365 rfl 0 rfl ?_
  refine n_get F ck_8 lf_RX8_7 (by decide) fg_37_0 (by decide) dX8_noon_366 ?_
  refine n_iconst F (2 : Int32) dX8_noon_369 (by decide) ?_
  refine n_iald F ar_38 (by decide) (ib_c (n := 45) (by decide)) (j := 2) (by decide) dX8_noon_370 ?_
  refine n_iconst F (1 : Int32) dX8_noon_371 (by decide) ?_
  refine n_icmp_ne F 379 dX8_noon_372 (by decide) (fun e28 => ?_) (fun e28 => ?_)
  · rw [if_neg e28]
    refine n_iconst F (1 : Int32) dX8_noon_379 (by decide) ?_
    refine n_aload_n F dX8_noon_380 rfl 0 rfl ?_
    refine n_get F ck_8 lf_RX8_7 (by decide) fg_37_0 (by decide) dX8_noon_381 ?_
    refine n_iconst F (1 : Int32) dX8_noon_384 (by decide) ?_
    refine n_iald F ar_38 (by decide) (ib_c (n := 45) (by decide)) (j := 1) (by decide) dX8_noon_385 ?_
    refine n_ishl F dX8_noon_386 ?_
    exact n_sub [0] rfl (Mo_noon_B387_ok F _ _ _)
  rw [if_pos e28]
  refine n_iconst F (0 : Int32) dX8_noon_375 (by decide) ?_
  refine n_goto F 387 dX8_noon_376 (by decide) ?_
  exact n_sub [0] rfl (Mo_noon_B387_ok F _ _ _)
def Mo_noon_B325 (w : Wd) : Option (Int32 × Wd) := (if ((sI w 38 0 ((w.1 38 0) + (1 : Int32))).1 38 3) = (1 : Int32) then (Mo_noon_B359 (sI w 38 0 ((w.1 38 0) + (1 : Int32)))) else (if ¬ ((sI w 38 0 ((w.1 38 0) + (1 : Int32))).1 37 11) = (0 : Int32) then (if (((sI w 38 0 ((w.1 38 0) + (1 : Int32))).1 38 0) - ((sI w 38 0 ((w.1 38 0) + (1 : Int32))).1 38 0) / ((sI w 38 0 ((w.1 38 0) + (1 : Int32))).1 37 11) * ((sI w 38 0 ((w.1 38 0) + (1 : Int32))).1 37 11)) = (0 : Int32) then (Mo_noon_B359 (sI w 38 0 ((w.1 38 0) + (1 : Int32)))) else some (((sI w 38 0 ((w.1 38 0) + (1 : Int32))).1 38 3), (sI w 38 0 ((w.1 38 0) + (1 : Int32))))) else none))
set_option maxRecDepth 100000 in
set_option maxHeartbeats 4000000 in
theorem Mo_noon_B325_ok {K : Ctx} (F : Fx K cX8_noon 4 RX8 (some .int) 4 89 false [37, 38, 42]) (w : Wd) : N K rtI (Mo_noon_B325 w) w 325 [(0, .ref (gA (cg K) 37))] [] := by
  rw [Mo_noon_B325]
  refine n_aload_n F dX8_noon_325 rfl 0 rfl ?_
  refine n_get F ck_8 lf_RX8_7 (by decide) fg_37_0 (by decide) dX8_noon_326 ?_
  refine n_iconst F (0 : Int32) dX8_noon_329 (by decide) ?_
  refine n_dup2 F dX8_noon_330 rfl rfl ?_
  refine n_iald F ar_38 (by decide) (ib_c (n := 45) (by decide)) (j := 0) (by decide) dX8_noon_331 ?_
  refine n_iconst F (1 : Int32) dX8_noon_332 (by decide) ?_
  refine n_iadd F dX8_noon_333 ?_
  refine n_iast F ar_38 (by decide) (ib_c (n := 45) (by decide)) (j := 0) (by decide) dX8_noon_334 ?_
  refine n_aload_n F dX8_noon_335 rfl 0 rfl ?_
  refine n_get F ck_8 lf_RX8_7 (by decide) fg_37_0 (by decide) dX8_noon_336 ?_
  refine n_iconst F (3 : Int32) dX8_noon_339 (by decide) ?_
  refine n_iald F ar_38 (by decide) (ib_c (n := 45) (by decide)) (j := 3) (by decide) dX8_noon_340 ?_
  refine n_iconst F (1 : Int32) dX8_noon_341 (by decide) ?_
  refine n_icmp_eq F 359 dX8_noon_342 (by decide) (fun e27 => ?_) (fun e27 => ?_)
  · rw [if_pos e27]
    exact n_sub [0] rfl (Mo_noon_B359_ok F _)
  rw [if_neg e27]
  refine n_aload_n F dX8_noon_345 rfl 0 rfl ?_
  refine n_get F ck_8 lf_RX8_7 (by decide) fg_37_0 (by decide) dX8_noon_346 ?_
  refine n_iconst F (0 : Int32) dX8_noon_349 (by decide) ?_
  refine n_iald F ar_38 (by decide) (ib_c (n := 45) (by decide)) (j := 0) (by decide) dX8_noon_350 ?_
  refine n_aload_n F dX8_noon_351 rfl 0 rfl ?_
  refine n_get F ck_8 lf_RX8_33 (by decide) fg_37_11 (by decide) dX8_noon_352 ?_
  refine n_chk (fun e31 => ?_)
  refine n_irem F dX8_noon_355 e31 ?_
  refine n_if_ne F 417 dX8_noon_356 (by decide) (fun e32 => ?_) (fun e32 => ?_)
  · rw [if_neg e32]
    refine n_aload_n F dX8_noon_417 rfl 0 rfl ?_
    refine n_get F ck_8 lf_RX8_7 (by decide) fg_37_0 (by decide) dX8_noon_418 ?_
    refine n_iconst F (3 : Int32) dX8_noon_421 (by decide) ?_
    refine n_iald F ar_38 (by decide) (ib_c (n := 45) (by decide)) (j := 3) (by decide) dX8_noon_422 ?_
    exact n_iret F rfl rfl dX8_noon_423
  rw [if_pos e32]
  exact n_sub [0] rfl (Mo_noon_B359_ok F _)
def Mo_noon_B142 (w : Wd) : Option (Int32 × Wd) := (Mo_noon_L174 Mo_noon_B325 FU (sI (sI (sI w 38 7 (-1 : Int32)) 38 12 ((sI w 38 7 (-1 : Int32)).1 37 18)) 38 13 ((sI (sI w 38 7 (-1 : Int32)) 38 12 ((sI w 38 7 (-1 : Int32)).1 37 18)).1 37 19)) (0 : Int32))
set_option maxRecDepth 100000 in
set_option maxHeartbeats 4000000 in
theorem Mo_noon_B142_ok {K : Ctx} (F : Fx K cX8_noon 4 RX8 (some .int) 4 89 false [37, 38, 42]) (w : Wd) : N K rtI (Mo_noon_B142 w) w 142 [(0, .ref (gA (cg K) 37))] [] := by
  rw [Mo_noon_B142]
  refine n_aload_n F dX8_noon_142 rfl 0 rfl ?_
  refine n_get F ck_8 lf_RX8_7 (by decide) fg_37_0 (by decide) dX8_noon_143 ?_
  refine n_bipush F (7 : Int32) dX8_noon_146 (by decide) ?_
  refine n_iconst F (-1 : Int32) dX8_noon_148 (by decide) ?_
  refine n_iast F ar_38 (by decide) (ib_c (n := 45) (by decide)) (j := 7) (by decide) dX8_noon_149 ?_
  refine n_aload_n F dX8_noon_150 rfl 0 rfl ?_
  refine n_get F ck_8 lf_RX8_7 (by decide) fg_37_0 (by decide) dX8_noon_151 ?_
  refine n_bipush F (12 : Int32) dX8_noon_154 (by decide) ?_
  refine n_aload_n F dX8_noon_156 rfl 0 rfl ?_
  refine n_get F ck_8 lf_RX8_171 (by decide) fg_37_18 (by decide) dX8_noon_157 ?_
  refine n_iast F ar_38 (by decide) (ib_c (n := 45) (by decide)) (j := 12) (by decide) dX8_noon_160 ?_
  refine n_aload_n F dX8_noon_161 rfl 0 rfl ?_
  refine n_get F ck_8 lf_RX8_7 (by decide) fg_37_0 (by decide) dX8_noon_162 ?_
  refine n_bipush F (13 : Int32) dX8_noon_165 (by decide) ?_
  refine n_aload_n F dX8_noon_167 rfl 0 rfl ?_
  refine n_get F ck_8 lf_RX8_174 (by decide) fg_37_19 (by decide) dX8_noon_168 ?_
  refine n_iast F ar_38 (by decide) (ib_c (n := 45) (by decide)) (j := 13) (by decide) dX8_noon_171 ?_
  refine n_iconst F (0 : Int32) dX8_noon_172 (by decide) ?_
  refine n_istore_n F (lv' := [(2, .int (0 : Int32)), (0, .ref (gA (cg K) 37))]) dX8_noon_173 rfl (by decide) rfl ?_
  exact n_sub [1, 0] rfl (Mo_noon_L174_ok F (Mo_noon_B325_ok F) FU _ _)
def Mo_noon_B31 (w : Wd) : Option (Int32 × Wd) := (Option.bind (Mo_nextOf w) (fun q4 => (if ((sI (q4.2) 38 14 (q4.1)).1 38 7) = (-1 : Int32) then (Option.bind (Mo_layByNone (sI (q4.2) 38 14 (q4.1))) (fun q33 => (Mo_noon_B142 (sI q33 38 2 (0 : Int32))))) else (if ib (((6 : Int32) * ((sI (q4.2) 38 14 (q4.1)).1 38 7)) + (5 : Int32)) 72 = true then (Option.bind (Mo_layBy (sI (q4.2) 38 14 (q4.1)) ((sI (q4.2) 38 14 (q4.1)).1 42 (Int32.toNatClampNeg (((6 : Int32) * ((sI (q4.2) 38 14 (q4.1)).1 38 7)) + (5 : Int32))))) (fun q7 => (if ib (((6 : Int32) * ((sI (q4.2) 38 14 (q4.1)).1 38 7)) + (1 : Int32)) 72 = true then (if ib (((6 : Int32) * ((sI (q4.2) 38 14 (q4.1)).1 38 7)) + (4 : Int32)) 72 = true then (if ib (((6 : Int32) * ((sI (q4.2) 38 14 (q4.1)).1 38 7)) + (5 : Int32)) 72 = true then (if ib ((4 : Int32) + ((sI (sI q7 38 1 (q7.1 42 (Int32.toNatClampNeg (((6 : Int32) * ((sI (q4.2) 38 14 (q4.1)).1 38 7)) + (1 : Int32))))) 38 2 (((sI q7 38 1 (q7.1 42 (Int32.toNatClampNeg (((6 : Int32) * ((sI (q4.2) 38 14 (q4.1)).1 38 7)) + (1 : Int32))))).1 42 (Int32.toNatClampNeg (((6 : Int32) * ((sI (q4.2) 38 14 (q4.1)).1 38 7)) + (4 : Int32)))) - (1 : Int32))).1 42 (Int32.toNatClampNeg (((6 : Int32) * ((sI (q4.2) 38 14 (q4.1)).1 38 7)) + (5 : Int32))))) 45 = true then (if ib ((4 : Int32) + ((sI (sI q7 38 1 (q7.1 42 (Int32.toNatClampNeg (((6 : Int32) * ((sI (q4.2) 38 14 (q4.1)).1 38 7)) + (1 : Int32))))) 38 2 (((sI q7 38 1 (q7.1 42 (Int32.toNatClampNeg (((6 : Int32) * ((sI (q4.2) 38 14 (q4.1)).1 38 7)) + (1 : Int32))))).1 42 (Int32.toNatClampNeg (((6 : Int32) * ((sI (q4.2) 38 14 (q4.1)).1 38 7)) + (4 : Int32)))) - (1 : Int32))).1 42 (Int32.toNatClampNeg (((6 : Int32) * ((sI (q4.2) 38 14 (q4.1)).1 38 7)) + (5 : Int32))))) 45 = true then (Mo_noon_B142 (sI (sI (sI q7 38 1 (q7.1 42 (Int32.toNatClampNeg (((6 : Int32) * ((sI (q4.2) 38 14 (q4.1)).1 38 7)) + (1 : Int32))))) 38 2 (((sI q7 38 1 (q7.1 42 (Int32.toNatClampNeg (((6 : Int32) * ((sI (q4.2) 38 14 (q4.1)).1 38 7)) + (1 : Int32))))).1 42 (Int32.toNatClampNeg (((6 : Int32) * ((sI (q4.2) 38 14 (q4.1)).1 38 7)) + (4 : Int32)))) - (1 : Int32))) 38 (Int32.toNatClampNeg ((4 : Int32) + ((sI (sI q7 38 1 (q7.1 42 (Int32.toNatClampNeg (((6 : Int32) * ((sI (q4.2) 38 14 (q4.1)).1 38 7)) + (1 : Int32))))) 38 2 (((sI q7 38 1 (q7.1 42 (Int32.toNatClampNeg (((6 : Int32) * ((sI (q4.2) 38 14 (q4.1)).1 38 7)) + (1 : Int32))))).1 42 (Int32.toNatClampNeg (((6 : Int32) * ((sI (q4.2) 38 14 (q4.1)).1 38 7)) + (4 : Int32)))) - (1 : Int32))).1 42 (Int32.toNatClampNeg (((6 : Int32) * ((sI (q4.2) 38 14 (q4.1)).1 38 7)) + (5 : Int32)))))) (((sI (sI q7 38 1 (q7.1 42 (Int32.toNatClampNeg (((6 : Int32) * ((sI (q4.2) 38 14 (q4.1)).1 38 7)) + (1 : Int32))))) 38 2 (((sI q7 38 1 (q7.1 42 (Int32.toNatClampNeg (((6 : Int32) * ((sI (q4.2) 38 14 (q4.1)).1 38 7)) + (1 : Int32))))).1 42 (Int32.toNatClampNeg (((6 : Int32) * ((sI (q4.2) 38 14 (q4.1)).1 38 7)) + (4 : Int32)))) - (1 : Int32))).1 38 (Int32.toNatClampNeg ((4 : Int32) + ((sI (sI q7 38 1 (q7.1 42 (Int32.toNatClampNeg (((6 : Int32) * ((sI (q4.2) 38 14 (q4.1)).1 38 7)) + (1 : Int32))))) 38 2 (((sI q7 38 1 (q7.1 42 (Int32.toNatClampNeg (((6 : Int32) * ((sI (q4.2) 38 14 (q4.1)).1 38 7)) + (1 : Int32))))).1 42 (Int32.toNatClampNeg (((6 : Int32) * ((sI (q4.2) 38 14 (q4.1)).1 38 7)) + (4 : Int32)))) - (1 : Int32))).1 42 (Int32.toNatClampNeg (((6 : Int32) * ((sI (q4.2) 38 14 (q4.1)).1 38 7)) + (5 : Int32))))))) - (1 : Int32)))) else none) else none) else none) else none) else none))) else none))))
set_option maxRecDepth 100000 in
set_option maxHeartbeats 4000000 in
theorem Mo_noon_B31_ok {K : Ctx} (F : Fx K cX8_noon 4 RX8 (some .int) 4 89 false [37, 38, 42]) (w : Wd) : N K rtI (Mo_noon_B31 w) w 31 [(0, .ref (gA (cg K) 37))] [] := by
  rw [Mo_noon_B31]
  refine n_aload_n F dX8_noon_31 rfl 0 rfl ?_
  refine n_get F ck_8 lf_RX8_7 (by decide) fg_37_0 (by decide) dX8_noon_32 ?_
  refine n_bipush F (14 : Int32) dX8_noon_35 (by decide) ?_
  refine n_aload_n F dX8_noon_37 rfl 0 rfl ?_
  refine n_bind (fun q4 hq4 => ?_)
  refine n_callVi F cb_X8_nextOf lm_RX8_183 ob_37 (by decide) ⟨_, _, rfl⟩ (ct_Mo_nextOf (fx_ok F) (fx_sd F) (fx_ix F rfl) w hq4) rfl rfl (Nat.le_of_ble_eq_true rfl) ⟨Nat.le_of_ble_eq_true rfl, Nat.le_of_ble_eq_true rfl⟩ dX8_noon_38 ?_
  refine n_iast F ar_38 (by decide) (ib_c (n := 45) (by decide)) (j := 14) (by decide) dX8_noon_41 ?_
  refine n_aload_n F dX8_noon_42 rfl 0 rfl ?_
  refine n_get F ck_8 lf_RX8_7 (by decide) fg_37_0 (by decide) dX8_noon_43 ?_
  refine n_bipush F (7 : Int32) dX8_noon_46 (by decide) ?_
  refine n_iald F ar_38 (by decide) (ib_c (n := 45) (by decide)) (j := 7) (by decide) dX8_noon_48 ?_
  refine n_istore_n F (lv' := [(1, .int ((sI (q4.2) 38 14 (q4.1)).1 38 7)), (0, .ref (gA (cg K) 37))]) dX8_noon_49 rfl (by decide) rfl ?_
  refine n_iload_n F dX8_noon_50 rfl 0 rfl ?_
  refine n_iconst F (-1 : Int32) dX8_noon_51 (by decide) ?_
  refine n_icmp_ne F 69 dX8_noon_52 (by decide) (fun e5 => ?_) (fun e5 => ?_)
  · rw [if_neg e5]
    refine n_aload_n F dX8_noon_69 rfl 1 rfl ?_
    refine n_aload_n F dX8_noon_70 rfl 1 rfl ?_
    refine n_get F ck_8 lf_RX8_27 (by decide) fg_37_7 (by decide) dX8_noon_71 ?_
    refine n_bipush F (6 : Int32) dX8_noon_74 (by decide) ?_
    refine n_iload_n F dX8_noon_76 rfl 0 rfl ?_
    refine n_imul F dX8_noon_77 ?_
    refine n_iconst F (5 : Int32) dX8_noon_78 (by decide) ?_
    refine n_iadd F dX8_noon_79 ?_
    refine n_chk (fun e6 => ?_)
    refine n_iald F ar_42 (by decide) (ib_in e6) rfl dX8_noon_80 ?_
    refine n_bind (fun q7 hq7 => ?_)
    refine n_callVv F cb_X8_layBy lm_RX8_180 ob_37 (by decide) ⟨_, _, rfl⟩ (ct_Mo_layBy (fx_ok F) (fx_sd F) (fx_ix F rfl) (sI (q4.2) 38 14 (q4.1)) ((sI (q4.2) 38 14 (q4.1)).1 42 (Int32.toNatClampNeg (((6 : Int32) * ((sI (q4.2) 38 14 (q4.1)).1 38 7)) + (5 : Int32)))) hq7) rfl rfl (Nat.le_of_ble_eq_true rfl) ⟨Nat.le_of_ble_eq_true rfl, Nat.le_of_ble_eq_true rfl⟩ dX8_noon_81 ?_
    refine n_aload_n F dX8_noon_84 rfl 1 rfl ?_
    refine n_get F ck_8 lf_RX8_7 (by decide) fg_37_0 (by decide) dX8_noon_85 ?_
    refine n_iconst F (1 : Int32) dX8_noon_88 (by decide) ?_
    refine n_aload_n F dX8_noon_89 rfl 1 rfl ?_
    refine n_get F ck_8 lf_RX8_27 (by decide) fg_37_7 (by decide) dX8_noon_90 ?_
    refine n_bipush F (6 : Int32) dX8_noon_93 (by decide) ?_
    refine n_iload_n F dX8_noon_95 rfl 0 rfl ?_
    refine n_imul F dX8_noon_96 ?_
    refine n_iconst F (1 : Int32) dX8_noon_97 (by decide) ?_
    refine n_iadd F dX8_noon_98 ?_
    refine n_chk (fun e8 => ?_)
    refine n_iald F ar_42 (by decide) (ib_in e8) rfl dX8_noon_99 ?_
    refine n_iast F ar_38 (by decide) (ib_c (n := 45) (by decide)) (j := 1) (by decide) dX8_noon_100 ?_
    refine n_aload_n F dX8_noon_101 rfl 1 rfl ?_
    refine n_get F ck_8 lf_RX8_7 (by decide) fg_37_0 (by decide) dX8_noon_102 ?_
    refine n_iconst F (2 : Int32) dX8_noon_105 (by decide) ?_
    refine n_aload_n F dX8_noon_106 rfl 1 rfl ?_
    refine n_get F ck_8 lf_RX8_27 (by decide) fg_37_7 (by decide) dX8_noon_107 ?_
    refine n_bipush F (6 : Int32) dX8_noon_110 (by decide) ?_
    refine n_iload_n F dX8_noon_112 rfl 0 rfl ?_
    refine n_imul F dX8_noon_113 ?_
    refine n_iconst F (4 : Int32) dX8_noon_114 (by decide) ?_
    refine n_iadd F dX8_noon_115 ?_
    refine n_chk (fun e9 => ?_)
    refine n_iald F ar_42 (by decide) (ib_in e9) rfl dX8_noon_116 ?_
    refine n_iconst F (1 : Int32) dX8_noon_117 (by decide) ?_
    refine n_isub F dX8_noon_118 ?_
    refine n_iast F ar_38 (by decide) (ib_c (n := 45) (by decide)) (j := 2) (by decide) dX8_noon_119 ?_
    refine n_aload_n F dX8_noon_120 rfl 1 rfl ?_
    refine n_get F ck_8 lf_RX8_7 (by decide) fg_37_0 (by decide) dX8_noon_121 ?_
    refine n_iconst F (4 : Int32) dX8_noon_124 (by decide) ?_
    refine n_aload_n F dX8_noon_125 rfl 1 rfl ?_
    refine n_get F ck_8 lf_RX8_27 (by decide) fg_37_7 (by decide) dX8_noon_126 ?_
    refine n_bipush F (6 : Int32) dX8_noon_129 (by decide) ?_
    refine n_iload_n F dX8_noon_131 rfl 0 rfl ?_
    refine n_imul F dX8_noon_132 ?_
    refine n_iconst F (5 : Int32) dX8_noon_133 (by decide) ?_
    refine n_iadd F dX8_noon_134 ?_
    refine n_chk (fun e10 => ?_)
    refine n_iald F ar_42 (by decide) (ib_in e10) rfl dX8_noon_135 ?_
    refine n_iadd F dX8_noon_136 ?_
    refine n_dup2 F dX8_noon_137 rfl rfl ?_
    refine n_chk (fun e11 => ?_)
    refine n_iald F ar_38 (by decide) (ib_in e11) rfl dX8_noon_138 ?_
    refine n_iconst F (1 : Int32) dX8_noon_139 (by decide) ?_
    refine n_isub F dX8_noon_140 ?_
    refine n_chk (fun e12 => ?_)
    refine n_iast F ar_38 (by decide) (ib_in e12) rfl dX8_noon_141 ?_
    exact n_sub [1] rfl (Mo_noon_B142_ok F _)
  rw [if_pos e5]
  refine n_aload_n F dX8_noon_55 rfl 1 rfl ?_
  refine n_bind (fun q33 hq33 => ?_)
  refine n_callVv F cb_X8_layByNone lm_RX8_177 ob_37 (by decide) ⟨_, _, rfl⟩ (ct_Mo_layByNone (fx_ok F) (fx_sd F) (fx_ix F rfl) (sI (q4.2) 38 14 (q4.1)) hq33) rfl rfl (Nat.le_of_ble_eq_true rfl) ⟨Nat.le_of_ble_eq_true rfl, Nat.le_of_ble_eq_true rfl⟩ dX8_noon_56 ?_
  refine n_aload_n F dX8_noon_59 rfl 1 rfl ?_
  refine n_get F ck_8 lf_RX8_7 (by decide) fg_37_0 (by decide) dX8_noon_60 ?_
  refine n_iconst F (2 : Int32) dX8_noon_63 (by decide) ?_
  refine n_iconst F (0 : Int32) dX8_noon_64 (by decide) ?_
  refine n_iast F ar_38 (by decide) (ib_c (n := 45) (by decide)) (j := 2) (by decide) dX8_noon_65 ?_
  refine n_goto F 142 dX8_noon_66 (by decide) ?_
  exact n_sub [1] rfl (Mo_noon_B142_ok F _)
def Mo_noon (w : Wd) : Option (Int32 × Wd) := (if (w.1 38 3) = (1 : Int32) then some ((-4 : Int32), w) else (Option.bind (Mo_hisTrains w) (fun q2 => (if q2 = (0 : Int32) then (Mo_noon_B31 w) else (if (w.1 38 7) = (-1 : Int32) then some ((-4 : Int32), w) else (Mo_noon_B31 w))))))
set_option maxRecDepth 100000 in
set_option maxHeartbeats 4000000 in
theorem ct_Mo_noon {l : Launch} {g : GG} {σ : Sd} (hg : OKg g σ) (hb : σ.2.1 = false) (hx : ∀ c ∈ ([37, 38, 42] : List Nat), c ∈ σ.1) (w : Wd) {q : Int32 × Wd} (hq : Mo_noon w = some q) : CT l g σ yX8_noon cX8_noon 4 (some .int) 4 89 [.ref (gA g 37)] w (some (.int q.1)) q.2 := by
  refine ct_of (rt := rtI) (res := Mo_noon w) (q := q) (own := RX8) (b := false) hg hb hx (by decide) rfl (Nat.le_of_ble_eq_true rfl) hq (fun K e1 e2 e3 F => ?_)
  subst e1 e2 e3
  rw [Mo_noon]
  show N K _ _ w 0 [(0, .ref (gA (cg K) 37))] []
  refine n_aload_n F dX8_noon_0 rfl 0 rfl ?_
  refine n_get F ck_8 lf_RX8_7 (by decide) fg_37_0 (by decide) dX8_noon_1 ?_
  refine n_iconst F (3 : Int32) dX8_noon_4 (by decide) ?_
  refine n_iald F ar_38 (by decide) (ib_c (n := 45) (by decide)) (j := 3) (by decide) dX8_noon_5 ?_
  refine n_iconst F (1 : Int32) dX8_noon_6 (by decide) ?_
  refine n_icmp_eq F 28 dX8_noon_7 (by decide) (fun e1 => ?_) (fun e1 => ?_)
  · rw [if_pos e1]
    refine n_bipush F (-4 : Int32) dX8_noon_28 (by decide) ?_
    exact n_iret F rfl rfl dX8_noon_30
  rw [if_neg e1]
  refine n_aload_n F dX8_noon_10 rfl 0 rfl ?_
  refine n_bind (fun q2 hq2 => ?_)
  refine n_callVi F cb_X8_hisTrains lm_RX8_161 ob_37 (by decide) ⟨_, _, rfl⟩ (ct_Mo_hisTrains (fx_ok F) (fx_sd F) (fx_ix F rfl) w hq2) rfl rfl (Nat.le_of_ble_eq_true rfl) ⟨Nat.le_of_ble_eq_true rfl, Nat.le_of_ble_eq_true rfl⟩ dX8_noon_11 ?_
  refine n_if_eq F 31 dX8_noon_14 (by decide) (fun e3 => ?_) (fun e3 => ?_)
  · rw [if_pos e3]
    exact n_sub [0] rfl (Mo_noon_B31_ok F _)
  rw [if_neg e3]
  refine n_aload_n F dX8_noon_17 rfl 0 rfl ?_
  refine n_get F ck_8 lf_RX8_7 (by decide) fg_37_0 (by decide) dX8_noon_18 ?_
  refine n_bipush F (7 : Int32) dX8_noon_21 (by decide) ?_
  refine n_iald F ar_38 (by decide) (ib_c (n := 45) (by decide)) (j := 7) (by decide) dX8_noon_23 ?_
  refine n_iconst F (-1 : Int32) dX8_noon_24 (by decide) ?_
  refine n_icmp_ne F 31 dX8_noon_25 (by decide) (fun e34 => ?_) (fun e34 => ?_)
  · rw [if_neg e34]
    exact n_sub [0] rfl (Mo_noon_B31_ok F _)
  rw [if_pos e34]
  refine n_bipush F (-4 : Int32) dX8_noon_28 (by decide) ?_
  exact n_iret F rfl rfl dX8_noon_30
