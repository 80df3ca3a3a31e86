theorem dX8_fault_0 : decode cX8_fault 0 = .ok (.aload_n 0, 1) := by decide +kernel
theorem dX8_fault_1 : decode cX8_fault 1 = .ok (.iconst 0, 1) := by decide +kernel
theorem dX8_fault_2 : decode cX8_fault 2 = .ok (.putfield 72, 3) := by decide +kernel
theorem dX8_fault_5 : decode cX8_fault 5 = .ok (.aload_n 0, 1) := by decide +kernel
theorem dX8_fault_6 : decode cX8_fault 6 = .ok (.iconst 0, 1) := by decide +kernel
theorem dX8_fault_7 : decode cX8_fault 7 = .ok (.putfield 103, 3) := by decide +kernel
theorem dX8_fault_10 : decode cX8_fault 10 = .ok (.aload_n 0, 1) := by decide +kernel
theorem dX8_fault_11 : decode cX8_fault 11 = .ok (.aload_n 0, 1) := by decide +kernel
theorem dX8_fault_12 : decode cX8_fault 12 = .ok (.getfield 23, 3) := by decide +kernel
theorem dX8_fault_15 : decode cX8_fault 15 = .ok (.putfield 109, 3) := by decide +kernel
theorem dX8_fault_18 : decode cX8_fault 18 = .ok (.aload_n 0, 1) := by decide +kernel
theorem dX8_fault_19 : decode cX8_fault 19 = .ok (.aload_n 0, 1) := by decide +kernel
theorem dX8_fault_20 : decode cX8_fault 20 = .ok (.getfield 131, 3) := by decide +kernel
theorem dX8_fault_23 : decode cX8_fault 23 = .ok (.putfield 124, 3) := by decide +kernel
theorem dX8_fault_26 : decode cX8_fault 26 = .ok (.aload_n 0, 1) := by decide +kernel
theorem dX8_fault_27 : decode cX8_fault 27 = .ok (.invokevirtual 106, 3) := by decide +kernel
theorem dX8_fault_30 : decode cX8_fault 30 = .ok (.aload_n 0, 1) := by decide +kernel
theorem dX8_fault_31 : decode cX8_fault 31 = .ok (.invokevirtual 134, 3) := by decide +kernel
theorem dX8_fault_34 : decode cX8_fault 34 = .ok (.ifCond .ne 8, 3) := by decide +kernel
theorem dX8_fault_37 : decode cX8_fault 37 = .ok (.aload_n 0, 1) := by decide +kernel
theorem dX8_fault_38 : decode cX8_fault 38 = .ok (.getfield 75, 3) := by decide +kernel
theorem dX8_fault_41 : decode cX8_fault 41 = .ok (.ireturn, 1) := by decide +kernel
theorem dX8_fault_42 : decode cX8_fault 42 = .ok (.aload_n 0, 1) := by decide +kernel
theorem dX8_fault_43 : decode cX8_fault 43 = .ok (.getfield 75, 3) := by decide +kernel
theorem dX8_fault_46 : decode cX8_fault 46 = .ok (.aload_n 0, 1) := by decide +kernel
theorem dX8_fault_47 : decode cX8_fault 47 = .ok (.getfield 67, 3) := by decide +kernel
theorem dX8_fault_50 : decode cX8_fault 50 = .ok (.if_icmp .ge 70, 3) := by decide +kernel
theorem dX8_fault_53 : decode cX8_fault 53 = .ok (.aload_n 0, 1) := by decide +kernel
theorem dX8_fault_54 : decode cX8_fault 54 = .ok (.getfield 82, 3) := by decide +kernel
theorem dX8_fault_57 : decode cX8_fault 57 = .ok (.aload_n 0, 1) := by decide +kernel
theorem dX8_fault_58 : decode cX8_fault 58 = .ok (.getfield 75, 3) := by decide +kernel
theorem dX8_fault_61 : decode cX8_fault 61 = .ok (.isub, 1) := by decide +kernel
theorem dX8_fault_62 : decode cX8_fault 62 = .ok (.iconst 1, 1) := by decide +kernel
theorem dX8_fault_63 : decode cX8_fault 63 = .ok (.if_icmp .ne 30, 3) := by decide +kernel
theorem dX8_fault_66 : decode cX8_fault 66 = .ok (.aload_n 0, 1) := by decide +kernel
theorem dX8_fault_67 : decode cX8_fault 67 = .ok (.getfield 17, 3) := by decide +kernel
theorem dX8_fault_70 : decode cX8_fault 70 = .ok (.aload_n 0, 1) := by decide +kernel
theorem dX8_fault_71 : decode cX8_fault 71 = .ok (.getfield 75, 3) := by decide +kernel
theorem dX8_fault_74 : decode cX8_fault 74 = .ok (.iaload, 1) := by decide +kernel
theorem dX8_fault_75 : decode cX8_fault 75 = .ok (.bipush 59, 2) := by decide +kernel
theorem dX8_fault_77 : decode cX8_fault 77 = .ok (.if_icmp .ne 16, 3) := by decide +kernel
theorem dX8_fault_80 : decode cX8_fault 80 = .ok (.aload_n 0, 1) := by decide +kernel
theorem dX8_fault_81 : decode cX8_fault 81 = .ok (.getfield 103, 3) := by decide +kernel
theorem dX8_fault_84 : decode cX8_fault 84 = .ok (.bipush 10, 2) := by decide +kernel
theorem dX8_fault_86 : decode cX8_fault 86 = .ok (.if_icmp .ge 7, 3) := by decide +kernel
theorem dX8_fault_89 : decode cX8_fault 89 = .ok (.iconst 1, 1) := by decide +kernel
theorem dX8_fault_90 : decode cX8_fault 90 = .ok (.goto 4, 3) := by decide +kernel
theorem dX8_fault_93 : decode cX8_fault 93 = .ok (.iconst 0, 1) := by decide +kernel
theorem dX8_fault_94 : decode cX8_fault 94 = .ok (.istore_n 1, 1) := by decide +kernel
theorem dX8_fault_95 : decode cX8_fault 95 = .ok (.iload_n 1, 1) := by decide +kernel
theorem dX8_fault_96 : decode cX8_fault 96 = .ok (.ifCond .eq 12, 3) := by decide +kernel
theorem dX8_fault_99 : decode cX8_fault 99 = .ok (.aload_n 0, 1) := by decide +kernel
theorem dX8_fault_100 : decode cX8_fault 100 = .ok (.invokevirtual 106, 3) := by decide +kernel
theorem dX8_fault_103 : decode cX8_fault 103 = .ok (.aload_n 0, 1) := by decide +kernel
theorem dX8_fault_104 : decode cX8_fault 104 = .ok (.invokevirtual 134, 3) := by decide +kernel
theorem dX8_fault_107 : decode cX8_fault 107 = .ok (.istore_n 1, 1) := by decide +kernel
theorem dX8_fault_108 : decode cX8_fault 108 = .ok (.iload_n 1, 1) := by decide +kernel
theorem dX8_fault_109 : decode cX8_fault 109 = .ok (.ifCond .ne 8, 3) := by decide +kernel
theorem dX8_fault_112 : decode cX8_fault 112 = .ok (.aload_n 0, 1) := by decide +kernel
theorem dX8_fault_113 : decode cX8_fault 113 = .ok (.getfield 75, 3) := by decide +kernel
theorem dX8_fault_116 : decode cX8_fault 116 = .ok (.ireturn, 1) := by decide +kernel
theorem dX8_fault_117 : decode cX8_fault 117 = .ok (.goto (-75), 3) := by decide +kernel
theorem dX8_fault_120 : decode cX8_fault 120 = .ok (.iconst (-1), 1) := by decide +kernel
theorem dX8_fault_121 : decode cX8_fault 121 = .ok (.ireturn, 1) := by decide +kernel
def Mo_fault_B108 (k42 : Wd → Option (Int32 × Wd)) (k112 : Wd → Option (Int32 × Wd)) (w : Wd) (v1 : Int32) : Option (Int32 × Wd) := (if v1 = (0 : Int32) then (k112 w) else (k42 w))
set_option maxRecDepth 100000 in
set_option maxHeartbeats 4000000 in
theorem Mo_fault_B108_ok {K : Ctx} (F : Fx K cX8_fault 2 RX8 (some .int) 6 130 false [37, 40, 41]) {k42 : Wd → Option (Int32 × Wd)} (h42 : ∀ (w : Wd), N K rtI (k42 w) w 42 [(0, .ref (gA (cg K) 37))] []) {k112 : Wd → Option (Int32 × Wd)} (h112 : ∀ (w : Wd), N K rtI (k112 w) w 112 [(0, .ref (gA (cg K) 37))] []) (w : Wd) (v1 : Int32) : N K rtI (Mo_fault_B108 k42 k112 w v1) w 108 [(0, .ref (gA (cg K) 37)), (1, .int v1)] [] := by
  rw [Mo_fault_B108]
  refine n_iload_n F dX8_fault_108 rfl 1 rfl ?_
  refine n_if_ne F 117 dX8_fault_109 (by decide) (fun e7 => ?_) (fun e7 => ?_)
  · rw [if_neg e7]
    refine n_goto F 42 dX8_fault_117 (by decide) ?_
    exact n_sub [0] rfl (h42 _)
  rw [if_pos e7]
  exact n_sub [0] rfl (h112 _)
def Mo_fault_B94 (k42 : Wd → Option (Int32 × Wd)) (k112 : Wd → Option (Int32 × Wd)) (w : Wd) (s0 : Int32) : Option (Int32 × Wd) := (if s0 = (0 : Int32) then (Mo_fault_B108 k42 k112 w s0) else (Option.bind (Mo_token w) (fun q8 => (Option.bind (Mo_readsLine q8) (fun q9 => (Mo_fault_B108 k42 k112 (q9.2) (q9.1)))))))
set_option maxRecDepth 100000 in
set_option maxHeartbeats 4000000 in
theorem Mo_fault_B94_ok {K : Ctx} (F : Fx K cX8_fault 2 RX8 (some .int) 6 130 false [37, 40, 41]) {k42 : Wd → Option (Int32 × Wd)} (h42 : ∀ (w : Wd), N K rtI (k42 w) w 42 [(0, .ref (gA (cg K) 37))] []) {k112 : Wd → Option (Int32 × Wd)} (h112 : ∀ (w : Wd), N K rtI (k112 w) w 112 [(0, .ref (gA (cg K) 37))] []) (w : Wd) (s0 : Int32) : N K rtI (Mo_fault_B94 k42 k112 w s0) w 94 [(0, .ref (gA (cg K) 37))] [.int s0] := by
  rw [Mo_fault_B94]
  refine n_istore_n F (lv' := [(1, .int s0), (0, .ref (gA (cg K) 37))]) dX8_fault_94 rfl (by decide) rfl ?_
  refine n_iload_n F dX8_fault_95 rfl 0 rfl ?_
  refine n_if_eq F 108 dX8_fault_96 (by decide) (fun e6 => ?_) (fun e6 => ?_)
  · rw [if_pos e6]
    exact n_sub [1, 0] rfl (Mo_fault_B108_ok F h42 h112 _ _)
  rw [if_neg e6]
  refine n_aload_n F dX8_fault_99 rfl 1 rfl ?_
  refine n_bind (fun q8 hq8 => ?_)
  refine n_callVv F cb_X8_token lm_RX8_106 ob_37 (by decide) ⟨_, _, rfl⟩ (ct_Mo_token (fx_ok F) (fx_sd F) (fx_ix F rfl) w hq8) rfl rfl (Nat.le_of_ble_eq_true rfl) ⟨Nat.le_of_ble_eq_true rfl, Nat.le_of_ble_eq_true rfl⟩ dX8_fault_100 ?_
  refine n_aload_n F dX8_fault_103 rfl 1 rfl ?_
  refine n_bind (fun q9 hq9 => ?_)
  refine n_callVi F cb_X8_readsLine lm_RX8_134 ob_37 (by decide) ⟨_, _, rfl⟩ (ct_Mo_readsLine (fx_ok F) (fx_sd F) (fx_ix F rfl) q8 hq9) rfl rfl (Nat.le_of_ble_eq_true rfl) ⟨Nat.le_of_ble_eq_true rfl, Nat.le_of_ble_eq_true rfl⟩ dX8_fault_104 ?_
  refine n_istore_n F (lv' := [(1, .int (q9.1)), (0, .ref (gA (cg K) 37))]) dX8_fault_107 rfl (by decide) rfl ?_
  exact n_sub [1, 0] rfl (Mo_fault_B108_ok F h42 h112 _ _)
def Mo_fault_L42 (k112 : Wd → Option (Int32 × Wd)) (k120 : Wd → Option (Int32 × Wd)) : Nat → Wd → Option (Int32 × Wd)
  | 0, _ => none
  | n + 1, w => (if (w.1 37 3) ≤ (w.1 37 14) then (k120 w) else (if ((w.1 37 15) - (w.1 37 14)) = (1 : Int32) then (if ib (w.1 37 14) 200 = true then (Mo_fault_B94 (Mo_fault_L42 k112 k120 n) k112 w (if (w.1 40 (Int32.toNatClampNeg (w.1 37 14))) = (59 : Int32) then (if (10 : Int32) ≤ (w.1 37 5) then (0 : Int32) else (1 : Int32)) else (0 : Int32))) else none) else (Mo_fault_B94 (Mo_fault_L42 k112 k120 n) k112 w (0 : Int32))))
set_option maxRecDepth 100000 in
set_option maxHeartbeats 4000000 in
theorem Mo_fault_L42_ok {K : Ctx} (F : Fx K cX8_fault 2 RX8 (some .int) 6 130 false [37, 40, 41]) {k112 : Wd → Option (Int32 × Wd)} (h112 : ∀ (w : Wd), N K rtI (k112 w) w 112 [(0, .ref (gA (cg K) 37))] []) {k120 : Wd → Option (Int32 × Wd)} (h120 : ∀ (w : Wd), N K rtI (k120 w) w 120 [] []) : ∀ (n : Nat) (w : Wd), N K rtI (Mo_fault_L42 k112 k120 n w) w 42 [(0, .ref (gA (cg K) 37))] [] := by
  intro n
  induction n with
  | zero => intro _; exact n_none
  | succ n ih =>
    intro w
    rw [Mo_fault_L42]
    refine n_aload_n F dX8_fault_42 rfl 0 rfl ?_
    refine n_get F ck_8 lf_RX8_75 (by decide) fg_37_14 (by decide) dX8_fault_43 ?_
    refine n_aload_n F dX8_fault_46 rfl 0 rfl ?_
    refine n_get F ck_8 lf_RX8_67 (by decide) fg_37_3 (by decide) dX8_fault_47 ?_
    refine n_icmp_ge F 120 dX8_fault_50 (by decide) (fun e4 => ?_) (fun e4 => ?_)
    · rw [if_pos e4]
      exact n_sub [] rfl (h120 _)
    rw [if_neg e4]
    refine n_aload_n F dX8_fault_53 rfl 0 rfl ?_
    refine n_get F ck_8 lf_RX8_82 (by decide) fg_37_15 (by decide) dX8_fault_54 ?_
    refine n_aload_n F dX8_fault_57 rfl 0 rfl ?_
    refine n_get F ck_8 lf_RX8_75 (by decide) fg_37_14 (by decide) dX8_fault_58 ?_
    refine n_isub F dX8_fault_61 ?_
    refine n_iconst F (1 : Int32) dX8_fault_62 (by decide) ?_
    refine n_icmp_ne F 93 dX8_fault_63 (by decide) (fun e5 => ?_) (fun e5 => ?_)
    · rw [if_neg e5]
      refine n_iconst F (0 : Int32) dX8_fault_93 (by decide) ?_
      exact n_sub [0] rfl (Mo_fault_B94_ok F ih h112 _ _)
    rw [if_pos e5]
    refine n_aload_n F dX8_fault_66 rfl 0 rfl ?_
    refine n_get F ck_8 lf_RX8_17 (by decide) fg_37_2 (by decide) dX8_fault_67 ?_
    refine n_aload_n F dX8_fault_70 rfl 0 rfl ?_
    refine n_get F ck_8 lf_RX8_75 (by decide) fg_37_14 (by decide) dX8_fault_71 ?_
    refine n_chk (fun e10 => ?_)
    refine n_iald F ar_40 (by decide) (ib_in e10) rfl dX8_fault_74 ?_
    refine n_bipush F (59 : Int32) dX8_fault_75 (by decide) ?_
    refine n_icmp_ne F 93 dX8_fault_77 (by decide) (fun e11 => ?_) (fun e11 => ?_)
    · rw [if_neg e11]
      refine n_iconst F (0 : Int32) dX8_fault_93 (by decide) ?_
      exact n_sub [0] rfl (Mo_fault_B94_ok F ih h112 _ _)
    rw [if_pos e11]
    refine n_aload_n F dX8_fault_80 rfl 0 rfl ?_
    refine n_get F ck_8 lf_RX8_103 (by decide) fg_37_5 (by decide) dX8_fault_81 ?_
    refine n_bipush F (10 : Int32) dX8_fault_84 (by decide) ?_
    refine n_icmp_ge F 93 dX8_fault_86 (by decide) (fun e12 => ?_) (fun e12 => ?_)
    · rw [if_pos e12]
      refine n_iconst F (0 : Int32) dX8_fault_93 (by decide) ?_
      exact n_sub [0] rfl (Mo_fault_B94_ok F ih h112 _ _)
    rw [if_neg e12]
    refine n_iconst F (1 : Int32) dX8_fault_89 (by decide) ?_
    refine n_goto F 94 dX8_fault_90 (by decide) ?_
    exact n_sub [0] rfl (Mo_fault_B94_ok F ih h112 _ _)
def Mo_fault_B112 (w : Wd) : Option (Int32 × Wd) := some ((w.1 37 14), w)
set_option maxRecDepth 100000 in
set_option maxHeartbeats 4000000 in
theorem Mo_fault_B112_ok {K : Ctx} (F : Fx K cX8_fault 2 RX8 (some .int) 6 130 false [37, 40, 41]) (w : Wd) : N K rtI (Mo_fault_B112 w) w 112 [(0, .ref (gA (cg K) 37))] [] := by
  rw [Mo_fault_B112]
  refine n_aload_n F dX8_fault_112 rfl 0 rfl ?_
  refine n_get F ck_8 lf_RX8_75 (by decide) fg_37_14 (by decide) dX8_fault_113 ?_
  exact n_iret F rfl rfl dX8_fault_116
def Mo_fault_B120 (w : Wd) : Option (Int32 × Wd) := some ((-1 : Int32), w)
set_option maxRecDepth 100000 in
set_option maxHeartbeats 4000000 in
theorem Mo_fault_B120_ok {K : Ctx} (F : Fx K cX8_fault 2 RX8 (some .int) 6 130 false [37, 40, 41]) (w : Wd) : N K rtI (Mo_fault_B120 w) w 120 [] [] := by
  rw [Mo_fault_B120]
  refine n_iconst F (-1 : Int32) dX8_fault_120 (by decide) ?_
  exact n_iret F rfl rfl dX8_fault_121
def Mo_fault (w : Wd) : Option (Int32 × Wd) := (Option.bind (Mo_token (sI (sI (sI (sI w 37 13 (0 : Int32)) 37 5 (0 : Int32)) 37 16 ((sI (sI w 37 13 (0 : Int32)) 37 5 (0 : Int32)).1 37 6)) 37 17 ((sI (sI (sI w 37 13 (0 : Int32)) 37 5 (0 : Int32)) 37 16 ((sI (sI w 37 13 (0 : Int32)) 37 5 (0 : Int32)).1 37 6)).1 37 8))) (fun q1 => (Option.bind (Mo_readsLine q1) (fun q2 => (if (q2.1) = (0 : Int32) then some (((q2.2).1 37 14), (q2.2)) else (Mo_fault_L42 Mo_fault_B112 Mo_fault_B120 FU (q2.2)))))))
set_option maxRecDepth 100000 in
set_option maxHeartbeats 4000000 in
theorem ct_Mo_fault {l : Launch} {g : GG} {σ : Sd} (hg : OKg g σ) (hb : σ.2.1 = false) (hx : ∀ c ∈ ([37, 40, 41] : List Nat), c ∈ σ.1) (w : Wd) {q : Int32 × Wd} (hq : Mo_fault w = some q) : CT l g σ yX8_fault cX8_fault 2 (some .int) 6 130 [.ref (gA g 37)] w (some (.int q.1)) q.2 := by
  refine ct_of (rt := rtI) (res := Mo_fault w) (q := q) (own := RX8) (b := false) hg hb hx (by decide) rfl (Nat.le_of_ble_eq_true rfl) hq (fun K e1 e2 e3 F => ?_)
  subst e1 e2 e3
  rw [Mo_fault]
  show N K _ _ w 0 [(0, .ref (gA (cg K) 37))] []
  refine n_aload_n F dX8_fault_0 rfl 0 rfl ?_
  refine n_iconst F (0 : Int32) dX8_fault_1 (by decide) ?_
  refine n_put F ck_8 lf_RX8_72 (by decide) rfl fp_37_13 (by decide) rfl rfl dX8_fault_2 ?_
  refine n_aload_n F dX8_fault_5 rfl 0 rfl ?_
  refine n_iconst F (0 : Int32) dX8_fault_6 (by decide) ?_
  refine n_put F ck_8 lf_RX8_103 (by decide) rfl fp_37_5 (by decide) rfl rfl dX8_fault_7 ?_
  refine n_aload_n F dX8_fault_10 rfl 0 rfl ?_
  refine n_aload_n F dX8_fault_11 rfl 0 rfl ?_
  refine n_get F ck_8 lf_RX8_23 (by decide) fg_37_6 (by decide) dX8_fault_12 ?_
  refine n_put F ck_8 lf_RX8_109 (by decide) rfl fp_37_16 (by decide) rfl rfl dX8_fault_15 ?_
  refine n_aload_n F dX8_fault_18 rfl 0 rfl ?_
  refine n_aload_n F dX8_fault_19 rfl 0 rfl ?_
  refine n_get F ck_8 lf_RX8_131 (by decide) fg_37_8 (by decide) dX8_fault_20 ?_
  refine n_put F ck_8 lf_RX8_124 (by decide) rfl fp_37_17 (by decide) rfl rfl dX8_fault_23 ?_
  refine n_aload_n F dX8_fault_26 rfl 0 rfl ?_
  refine n_bind (fun q1 hq1 => ?_)
  refine n_callVv F cb_X8_token lm_RX8_106 ob_37 (by decide) ⟨_, _, rfl⟩ (ct_Mo_token (fx_ok F) (fx_sd F) (fx_ix F rfl) (sI (sI (sI (sI w 37 13 (0 : Int32)) 37 5 (0 : Int32)) 37 16 ((sI (sI w 37 13 (0 : Int32)) 37 5 (0 : Int32)).1 37 6)) 37 17 ((sI (sI (sI w 37 13 (0 : Int32)) 37 5 (0 : Int32)) 37 16 ((sI (sI w 37 13 (0 : Int32)) 37 5 (0 : Int32)).1 37 6)).1 37 8)) hq1) rfl rfl (Nat.le_of_ble_eq_true rfl) ⟨Nat.le_of_ble_eq_true rfl, Nat.le_of_ble_eq_true rfl⟩ dX8_fault_27 ?_
  refine n_aload_n F dX8_fault_30 rfl 0 rfl ?_
  refine n_bind (fun q2 hq2 => ?_)
  refine n_callVi F cb_X8_readsLine lm_RX8_134 ob_37 (by decide) ⟨_, _, rfl⟩ (ct_Mo_readsLine (fx_ok F) (fx_sd F) (fx_ix F rfl) q1 hq2) rfl rfl (Nat.le_of_ble_eq_true rfl) ⟨Nat.le_of_ble_eq_true rfl, Nat.le_of_ble_eq_true rfl⟩ dX8_fault_31 ?_
  refine n_if_ne F 42 dX8_fault_34 (by decide) (fun e3 => ?_) (fun e3 => ?_)
  · rw [if_neg e3]
    exact n_sub [0] rfl (Mo_fault_L42_ok F (Mo_fault_B112_ok F) (Mo_fault_B120_ok F) FU _)
  rw [if_pos e3]
  refine n_aload_n F dX8_fault_37 rfl 0 rfl ?_
  refine n_get F ck_8 lf_RX8_75 (by decide) fg_37_14 (by decide) dX8_fault_38 ?_
  exact n_iret F rfl rfl dX8_fault_41
theorem dX8_tell_0 : decode cX8_tell 0 = .ok (.aload_n 0, 1) := by decide +kernel
theorem dX8_tell_1 : decode cX8_tell 1 = .ok (.getfield 20, 3) := by decide +kernel
theorem dX8_tell_4 : decode cX8_tell 4 = .ok (.iload_n 1, 1) := by decide +kernel
theorem dX8_tell_5 : decode cX8_tell 5 = .ok (.iconst 1, 1) := by decide +kernel
theorem dX8_tell_6 : decode cX8_tell 6 = .ok (.iadd, 1) := by decide +kernel
theorem dX8_tell_7 : decode cX8_tell 7 = .ok (.iaload, 1) := by decide +kernel
theorem dX8_tell_8 : decode cX8_tell 8 = .ok (.istore_n 2, 1) := by decide +kernel
theorem dX8_tell_9 : decode cX8_tell 9 = .ok (.aload_n 0, 1) := by decide +kernel
theorem dX8_tell_10 : decode cX8_tell 10 = .ok (.getfield 20, 3) := by decide +kernel
theorem dX8_tell_13 : decode cX8_tell 13 = .ok (.iload_n 1, 1) := by decide +kernel
theorem dX8_tell_14 : decode cX8_tell 14 = .ok (.iaload, 1) := by decide +kernel
theorem dX8_tell_15 : decode cX8_tell 15 = .ok (.tableswitch 154 0 4 #[33, 63, 112, 118, 148], 33) := by decide +kernel
theorem dX8_tell_48 : decode cX8_tell 48 = .ok (.aload_n 0, 1) := by decide +kernel
theorem dX8_tell_49 : decode cX8_tell 49 = .ok (.iload_n 2, 1) := by decide +kernel
theorem dX8_tell_50 : decode cX8_tell 50 = .ok (.putfield 23, 3) := by decide +kernel
theorem dX8_tell_53 : decode cX8_tell 53 = .ok (.aload_n 0, 1) := by decide +kernel
theorem dX8_tell_54 : decode cX8_tell 54 = .ok (.iconst 0, 1) := by decide +kernel
theorem dX8_tell_55 : decode cX8_tell 55 = .ok (.putfield 131, 3) := by decide +kernel
theorem dX8_tell_58 : decode cX8_tell 58 = .ok (.aload_n 0, 1) := by decide +kernel
theorem dX8_tell_59 : decode cX8_tell 59 = .ok (.iconst 0, 1) := by decide +kernel
theorem dX8_tell_60 : decode cX8_tell 60 = .ok (.putfield 58, 3) := by decide +kernel
theorem dX8_tell_63 : decode cX8_tell 63 = .ok (.aload_n 0, 1) := by decide +kernel
theorem dX8_tell_64 : decode cX8_tell 64 = .ok (.getfield 36, 3) := by decide +kernel
theorem dX8_tell_67 : decode cX8_tell 67 = .ok (.iconst 0, 1) := by decide +kernel
theorem dX8_tell_68 : decode cX8_tell 68 = .ok (.iconst (-1), 1) := by decide +kernel
theorem dX8_tell_69 : decode cX8_tell 69 = .ok (.iastore, 1) := by decide +kernel
theorem dX8_tell_70 : decode cX8_tell 70 = .ok (.aload_n 0, 1) := by decide +kernel
theorem dX8_tell_71 : decode cX8_tell 71 = .ok (.getfield 36, 3) := by decide +kernel
theorem dX8_tell_74 : decode cX8_tell 74 = .ok (.iconst 1, 1) := by decide +kernel
theorem dX8_tell_75 : decode cX8_tell 75 = .ok (.iconst (-1), 1) := by decide +kernel
theorem dX8_tell_76 : decode cX8_tell 76 = .ok (.iastore, 1) := by decide +kernel
theorem dX8_tell_77 : decode cX8_tell 77 = .ok (.return_, 1) := by decide +kernel
theorem dX8_tell_78 : decode cX8_tell 78 = .ok (.iconst 0, 1) := by decide +kernel
theorem dX8_tell_79 : decode cX8_tell 79 = .ok (.istore_n 3, 1) := by decide +kernel
theorem dX8_tell_80 : decode cX8_tell 80 = .ok (.iload_n 3, 1) := by decide +kernel
theorem dX8_tell_81 : decode cX8_tell 81 = .ok (.bipush 6, 2) := by decide +kernel
theorem dX8_tell_83 : decode cX8_tell 83 = .ok (.if_icmp .ge 33, 3) := by decide +kernel
theorem dX8_tell_86 : decode cX8_tell 86 = .ok (.aload_n 0, 1) := by decide +kernel
theorem dX8_tell_87 : decode cX8_tell 87 = .ok (.getfield 27, 3) := by decide +kernel
theorem dX8_tell_90 : decode cX8_tell 90 = .ok (.bipush 6, 2) := by decide +kernel
theorem dX8_tell_92 : decode cX8_tell 92 = .ok (.aload_n 0, 1) := by decide +kernel
theorem dX8_tell_93 : decode cX8_tell 93 = .ok (.getfield 131, 3) := by decide +kernel
theorem dX8_tell_96 : decode cX8_tell 96 = .ok (.imul, 1) := by decide +kernel
theorem dX8_tell_97 : decode cX8_tell 97 = .ok (.iload_n 3, 1) := by decide +kernel
theorem dX8_tell_98 : decode cX8_tell 98 = .ok (.iadd, 1) := by decide +kernel
theorem dX8_tell_99 : decode cX8_tell 99 = .ok (.aload_n 0, 1) := by decide +kernel
theorem dX8_tell_100 : decode cX8_tell 100 = .ok (.getfield 20, 3) := by decide +kernel
theorem dX8_tell_103 : decode cX8_tell 103 = .ok (.iload_n 1, 1) := by decide +kernel
theorem dX8_tell_104 : decode cX8_tell 104 = .ok (.iconst 1, 1) := by decide +kernel
theorem dX8_tell_105 : decode cX8_tell 105 = .ok (.iadd, 1) := by decide +kernel
theorem dX8_tell_106 : decode cX8_tell 106 = .ok (.iload_n 3, 1) := by decide +kernel
theorem dX8_tell_107 : decode cX8_tell 107 = .ok (.iadd, 1) := by decide +kernel
theorem dX8_tell_108 : decode cX8_tell 108 = .ok (.iaload, 1) := by decide +kernel
theorem dX8_tell_109 : decode cX8_tell 109 = .ok (.iastore, 1) := by decide +kernel
theorem dX8_tell_110 : decode cX8_tell 110 = .ok (.iinc 3 1, 3) := by decide +kernel
theorem dX8_tell_113 : decode cX8_tell 113 = .ok (.goto (-33), 3) := by decide +kernel
theorem dX8_tell_116 : decode cX8_tell 116 = .ok (.aload_n 0, 1) := by decide +kernel
theorem dX8_tell_117 : decode cX8_tell 117 = .ok (.dup, 1) := by decide +kernel
theorem dX8_tell_118 : decode cX8_tell 118 = .ok (.getfield 131, 3) := by decide +kernel
theorem dX8_tell_121 : decode cX8_tell 121 = .ok (.iconst 1, 1) := by decide +kernel
theorem dX8_tell_122 : decode cX8_tell 122 = .ok (.iadd, 1) := by decide +kernel
theorem dX8_tell_123 : decode cX8_tell 123 = .ok (.putfield 131, 3) := by decide +kernel
theorem dX8_tell_126 : decode cX8_tell 126 = .ok (.return_, 1) := by decide +kernel
theorem dX8_tell_127 : decode cX8_tell 127 = .ok (.aload_n 0, 1) := by decide +kernel
theorem dX8_tell_128 : decode cX8_tell 128 = .ok (.iload_n 2, 1) := by decide +kernel
theorem dX8_tell_129 : decode cX8_tell 129 = .ok (.putfield 58, 3) := by decide +kernel
theorem dX8_tell_132 : decode cX8_tell 132 = .ok (.return_, 1) := by decide +kernel
theorem dX8_tell_133 : decode cX8_tell 133 = .ok (.iconst 0, 1) := by decide +kernel
theorem dX8_tell_134 : decode cX8_tell 134 = .ok (.istore_n 3, 1) := by decide +kernel
theorem dX8_tell_135 : decode cX8_tell 135 = .ok (.iload_n 3, 1) := by decide +kernel
theorem dX8_tell_136 : decode cX8_tell 136 = .ok (.iconst 3, 1) := by decide +kernel
theorem dX8_tell_137 : decode cX8_tell 137 = .ok (.if_icmp .ge 25, 3) := by decide +kernel
theorem dX8_tell_140 : decode cX8_tell 140 = .ok (.aload_n 0, 1) := by decide +kernel
theorem dX8_tell_141 : decode cX8_tell 141 = .ok (.getfield 30, 3) := by decide +kernel
theorem dX8_tell_144 : decode cX8_tell 144 = .ok (.iload_n 3, 1) := by decide +kernel
theorem dX8_tell_145 : decode cX8_tell 145 = .ok (.aload_n 0, 1) := by decide +kernel
theorem dX8_tell_146 : decode cX8_tell 146 = .ok (.getfield 20, 3) := by decide +kernel
theorem dX8_tell_149 : decode cX8_tell 149 = .ok (.iload_n 1, 1) := by decide +kernel
theorem dX8_tell_150 : decode cX8_tell 150 = .ok (.iconst 1, 1) := by decide +kernel
theorem dX8_tell_151 : decode cX8_tell 151 = .ok (.iadd, 1) := by decide +kernel
theorem dX8_tell_152 : decode cX8_tell 152 = .ok (.iload_n 3, 1) := by decide +kernel
theorem dX8_tell_153 : decode cX8_tell 153 = .ok (.iadd, 1) := by decide +kernel
theorem dX8_tell_154 : decode cX8_tell 154 = .ok (.iaload, 1) := by decide +kernel
theorem dX8_tell_155 : decode cX8_tell 155 = .ok (.iastore, 1) := by decide +kernel
theorem dX8_tell_156 : decode cX8_tell 156 = .ok (.iinc 3 1, 3) := by decide +kernel
theorem dX8_tell_159 : decode cX8_tell 159 = .ok (.goto (-24), 3) := by decide +kernel
theorem dX8_tell_162 : decode cX8_tell 162 = .ok (.return_, 1) := by decide +kernel
theorem dX8_tell_163 : decode cX8_tell 163 = .ok (.aload_n 0, 1) := by decide +kernel
theorem dX8_tell_164 : decode cX8_tell 164 = .ok (.iload_n 2, 1) := by decide +kernel
theorem dX8_tell_165 : decode cX8_tell 165 = .ok (.putfield 33, 3) := by decide +kernel
theorem dX8_tell_168 : decode cX8_tell 168 = .ok (.return_, 1) := by decide +kernel
theorem dX8_tell_169 : decode cX8_tell 169 = .ok (.aload_n 0, 1) := by decide +kernel
theorem dX8_tell_170 : decode cX8_tell 170 = .ok (.getfield 36, 3) := by decide +kernel
theorem dX8_tell_173 : decode cX8_tell 173 = .ok (.iload_n 2, 1) := by decide +kernel
theorem dX8_tell_174 : decode cX8_tell 174 = .ok (.aload_n 0, 1) := by decide +kernel
theorem dX8_tell_175 : decode cX8_tell 175 = .ok (.getfield 20, 3) := by decide +kernel
theorem dX8_tell_178 : decode cX8_tell 178 = .ok (.iload_n 1, 1) := by decide +kernel
theorem dX8_tell_179 : decode cX8_tell 179 = .ok (.iconst 2, 1) := by decide +kernel
theorem dX8_tell_180 : decode cX8_tell 180 = .ok (.iadd, 1) := by decide +kernel
theorem dX8_tell_181 : decode cX8_tell 181 = .ok (.iaload, 1) := by decide +kernel
theorem dX8_tell_182 : decode cX8_tell 182 = .ok (.iastore, 1) := by decide +kernel
theorem dX8_tell_183 : decode cX8_tell 183 = .ok (.return_, 1) := by decide +kernel
def Mo_tell_L80 (k116 : Wd → Option Wd) : Nat → Wd → Int32 → Int32 → Option Wd
  | 0, _, _, _ => none
  | n + 1, w, v1, v3 => (if (6 : Int32) ≤ v3 then (k116 w) else (if ib ((v1 + (1 : Int32)) + v3) 70 = true then (if ib (((6 : Int32) * (w.1 37 8)) + v3) 72 = true then (Mo_tell_L80 k116 n (sI w 42 (Int32.toNatClampNeg (((6 : Int32) * (w.1 37 8)) + v3)) (w.1 41 (Int32.toNatClampNeg ((v1 + (1 : Int32)) + v3)))) v1 (v3 + (1 : Int32))) else none) else none))
set_option maxRecDepth 100000 in
set_option maxHeartbeats 4000000 in
theorem Mo_tell_L80_ok {K : Ctx} (F : Fx K cX8_tell 4 RX8 none 0 0 false [37, 41, 42, 43, 44]) {k116 : Wd → Option Wd} (h116 : ∀ (w : Wd), N K rtV (k116 w) w 116 [(0, .ref (gA (cg K) 37))] []) : ∀ (n : Nat) (w : Wd) (v1 : Int32) (v3 : Int32), N K rtV (Mo_tell_L80 k116 n w v1 v3) w 80 [(0, .ref (gA (cg K) 37)), (1, .int v1), (3, .int v3)] [] := by
  intro n
  induction n with
  | zero => intro _ _ _; exact n_none
  | succ n ih =>
    intro w v1 v3
    rw [Mo_tell_L80]
    refine n_iload_n F dX8_tell_80 rfl 2 rfl ?_
    refine n_bipush F (6 : Int32) dX8_tell_81 (by decide) ?_
    refine n_icmp_ge F 116 dX8_tell_83 (by decide) (fun e5 => ?_) (fun e5 => ?_)
    · rw [if_pos e5]
      exact n_sub [0] rfl (h116 _)
    rw [if_neg e5]
    refine n_aload_n F dX8_tell_86 rfl 0 rfl ?_
    refine n_get F ck_8 lf_RX8_27 (by decide) fg_37_7 (by decide) dX8_tell_87 ?_
    refine n_bipush F (6 : Int32) dX8_tell_90 (by decide) ?_
    refine n_aload_n F dX8_tell_92 rfl 0 rfl ?_
    refine n_get F ck_8 lf_RX8_131 (by decide) fg_37_8 (by decide) dX8_tell_93 ?_
    refine n_imul F dX8_tell_96 ?_
    refine n_iload_n F dX8_tell_97 rfl 2 rfl ?_
    refine n_iadd F dX8_tell_98 ?_
    refine n_aload_n F dX8_tell_99 rfl 0 rfl ?_
    refine n_get F ck_8 lf_RX8_20 (by decide) fg_37_4 (by decide) dX8_tell_100 ?_
    refine n_iload_n F dX8_tell_103 rfl 1 rfl ?_
    refine n_iconst F (1 : Int32) dX8_tell_104 (by decide) ?_
    refine n_iadd F dX8_tell_105 ?_
    refine n_iload_n F dX8_tell_106 rfl 2 rfl ?_
    refine n_iadd F dX8_tell_107 ?_
    refine n_chk (fun e6 => ?_)
    refine n_iald F ar_41 (by decide) (ib_in e6) rfl dX8_tell_108 ?_
    refine n_chk (fun e7 => ?_)
    refine n_iast F ar_42 (by decide) (ib_in e7) rfl dX8_tell_109 ?_
    refine n_iinc F (v3 + (1 : Int32)) (lv' := [(3, .int (v3 + (1 : Int32))), (0, .ref (gA (cg K) 37)), (1, .int v1)]) dX8_tell_110 2 rfl rfl (by decide) rfl ?_
    refine n_goto F 80 dX8_tell_113 (by decide) ?_
    exact n_sub [1, 2, 0] rfl (ih _ _ _)
def Mo_tell_B116 (w : Wd) : Option Wd := some (sI w 37 8 ((w.1 37 8) + (1 : Int32)))
set_option maxRecDepth 100000 in
set_option maxHeartbeats 4000000 in
theorem Mo_tell_B116_ok {K : Ctx} (F : Fx K cX8_tell 4 RX8 none 0 0 false [37, 41, 42, 43, 44]) (w : Wd) : N K rtV (Mo_tell_B116 w) w 116 [(0, .ref (gA (cg K) 37))] [] := by
  rw [Mo_tell_B116]
  refine n_aload_n F dX8_tell_116 rfl 0 rfl ?_
  refine n_dup F dX8_tell_117 rfl ?_
  refine n_get F ck_8 lf_RX8_131 (by decide) fg_37_8 (by decide) dX8_tell_118 ?_
  refine n_iconst F (1 : Int32) dX8_tell_121 (by decide) ?_
  refine n_iadd F dX8_tell_122 ?_
  refine n_put F ck_8 lf_RX8_131 (by decide) rfl fp_37_8 (by decide) rfl rfl dX8_tell_123 ?_
  exact n_vret F rfl rfl dX8_tell_126
def Mo_tell_L135 (k162 : Wd → Option Wd) : Nat → Wd → Int32 → Int32 → Option Wd
  | 0, _, _, _ => none
  | n + 1, w, v1, v3 => (if (3 : Int32) ≤ v3 then (k162 w) else (if ib ((v1 + (1 : Int32)) + v3) 70 = true then (if ib v3 3 = true then (Mo_tell_L135 k162 n (sI w 43 (Int32.toNatClampNeg v3) (w.1 41 (Int32.toNatClampNeg ((v1 + (1 : Int32)) + v3)))) v1 (v3 + (1 : Int32))) else none) else none))
set_option maxRecDepth 100000 in
set_option maxHeartbeats 4000000 in
theorem Mo_tell_L135_ok {K : Ctx} (F : Fx K cX8_tell 4 RX8 none 0 0 false [37, 41, 42, 43, 44]) {k162 : Wd → Option Wd} (h162 : ∀ (w : Wd), N K rtV (k162 w) w 162 [] []) : ∀ (n : Nat) (w : Wd) (v1 : Int32) (v3 : Int32), N K rtV (Mo_tell_L135 k162 n w v1 v3) w 135 [(0, .ref (gA (cg K) 37)), (1, .int v1), (3, .int v3)] [] := by
  intro n
  induction n with
  | zero => intro _ _ _; exact n_none
  | succ n ih =>
    intro w v1 v3
    rw [Mo_tell_L135]
    refine n_iload_n F dX8_tell_135 rfl 2 rfl ?_
    refine n_iconst F (3 : Int32) dX8_tell_136 (by decide) ?_
    refine n_icmp_ge F 162 dX8_tell_137 (by decide) (fun e10 => ?_) (fun e10 => ?_)
    · rw [if_pos e10]
      exact n_sub [] rfl (h162 _)
    rw [if_neg e10]
    refine n_aload_n F dX8_tell_140 rfl 0 rfl ?_
    refine n_get F ck_8 lf_RX8_30 (by decide) fg_37_10 (by decide) dX8_tell_141 ?_
    refine n_iload_n F dX8_tell_144 rfl 2 rfl ?_
    refine n_aload_n F dX8_tell_145 rfl 0 rfl ?_
    refine n_get F ck_8 lf_RX8_20 (by decide) fg_37_4 (by decide) dX8_tell_146 ?_
    refine n_iload_n F dX8_tell_149 rfl 1 rfl ?_
    refine n_iconst F (1 : Int32) dX8_tell_150 (by decide) ?_
    refine n_iadd F dX8_tell_151 ?_
    refine n_iload_n F dX8_tell_152 rfl 2 rfl ?_
    refine n_iadd F dX8_tell_153 ?_
    refine n_chk (fun e11 => ?_)
    refine n_iald F ar_41 (by decide) (ib_in e11) rfl dX8_tell_154 ?_
    refine n_chk (fun e12 => ?_)
    refine n_iast F ar_43 (by decide) (ib_in e12) rfl dX8_tell_155 ?_
    refine n_iinc F (v3 + (1 : Int32)) (lv' := [(3, .int (v3 + (1 : Int32))), (0, .ref (gA (cg K) 37)), (1, .int v1)]) dX8_tell_156 2 rfl rfl (by decide) rfl ?_
    refine n_goto F 135 dX8_tell_159 (by decide) ?_
    exact n_sub [1, 2, 0] rfl (ih _ _ _)
def Mo_tell_B162 (w : Wd) : Option Wd := some w
set_option maxRecDepth 100000 in
set_option maxHeartbeats 4000000 in
theorem Mo_tell_B162_ok {K : Ctx} (F : Fx K cX8_tell 4 RX8 none 0 0 false [37, 41, 42, 43, 44]) (w : Wd) : N K rtV (Mo_tell_B162 w) w 162 [] [] := by
  rw [Mo_tell_B162]
  exact n_vret F rfl rfl dX8_tell_162
def Mo_tell (w : Wd) (a1 : Int32) : Option Wd := (if ib (a1 + (1 : Int32)) 70 = true then (if ib a1 70 = true then (if (w.1 41 (Int32.toNatClampNeg a1)) = (0 : Int32) then some (sI (sI (sI (sI (sI w 37 6 (w.1 41 (Int32.toNatClampNeg (a1 + (1 : Int32))))) 37 8 (0 : Int32)) 37 9 (0 : Int32)) 44 0 (-1 : Int32)) 44 1 (-1 : Int32)) else (if (w.1 41 (Int32.toNatClampNeg a1)) = (1 : Int32) then (Mo_tell_L80 Mo_tell_B116 FU w a1 (0 : Int32)) else (if (w.1 41 (Int32.toNatClampNeg a1)) = (2 : Int32) then some (sI w 37 9 (w.1 41 (Int32.toNatClampNeg (a1 + (1 : Int32))))) else (if (w.1 41 (Int32.toNatClampNeg a1)) = (3 : Int32) then (Mo_tell_L135 Mo_tell_B162 FU w a1 (0 : Int32)) else (if (w.1 41 (Int32.toNatClampNeg a1)) = (4 : Int32) then some (sI w 37 11 (w.1 41 (Int32.toNatClampNeg (a1 + (1 : Int32))))) else (if ib (a1 + (2 : Int32)) 70 = true then (if ib (w.1 41 (Int32.toNatClampNeg (a1 + (1 : Int32)))) 2 = true then some (sI w 44 (Int32.toNatClampNeg (w.1 41 (Int32.toNatClampNeg (a1 + (1 : Int32))))) (w.1 41 (Int32.toNatClampNeg (a1 + (2 : Int32))))) else none) else none)))))) else none) else none)
set_option maxRecDepth 100000 in
set_option maxHeartbeats 4000000 in
theorem ct_Mo_tell {l : Launch} {g : GG} {σ : Sd} (hg : OKg g σ) (hb : σ.2.1 = false) (hx : ∀ c ∈ ([37, 41, 42, 43, 44] : List Nat), c ∈ σ.1) (w : Wd) (a1 : Int32) {q : Wd} (hq : Mo_tell w a1 = some q) : CT l g σ yX8_tell cX8_tell 4 none 0 0 [.ref (gA g 37), .int a1] w none q := by
  refine ct_of (rt := rtV) (res := Mo_tell w a1) (q := q) (own := RX8) (b := false) hg hb hx (by decide) rfl (Nat.le_of_ble_eq_true rfl) hq (fun K e1 e2 e3 F => ?_)
  subst e1 e2 e3
  rw [Mo_tell]
  show N K _ _ w 0 [(0, .ref (gA (cg K) 37)), (1, .int a1)] []
  refine n_aload_n F dX8_tell_0 rfl 0 rfl ?_
  refine n_get F ck_8 lf_RX8_20 (by decide) fg_37_4 (by decide) dX8_tell_1 ?_
  refine n_iload_n F dX8_tell_4 rfl 1 rfl ?_
  refine n_iconst F (1 : Int32) dX8_tell_5 (by decide) ?_
  refine n_iadd F dX8_tell_6 ?_
  refine n_chk (fun e1 => ?_)
  refine n_iald F ar_41 (by decide) (ib_in e1) rfl dX8_tell_7 ?_
  refine n_istore_n F (lv' := [(2, .int (w.1 41 (Int32.toNatClampNeg (a1 + (1 : Int32))))), (0, .ref (gA (cg K) 37)), (1, .int a1)]) dX8_tell_8 rfl (by decide) rfl ?_
  refine n_aload_n F dX8_tell_9 rfl 1 rfl ?_
  refine n_get F ck_8 lf_RX8_20 (by decide) fg_37_4 (by decide) dX8_tell_10 ?_
  refine n_iload_n F dX8_tell_13 rfl 2 rfl ?_
  refine n_chk (fun e2 => ?_)
  refine n_iald F ar_41 (by decide) (ib_in e2) rfl dX8_tell_14 ?_
  by_cases e3 : (w.1 41 (Int32.toNatClampNeg a1)) = (0 : Int32)
  · rw [if_pos e3]
    refine n_tabIn F (0 : Int32) 48 dX8_tell_15 e3 (by decide) (by decide) rfl (by decide) ?_
    refine n_aload_n F dX8_tell_48 rfl 1 rfl ?_
    refine n_iload_n F dX8_tell_49 rfl 0 rfl ?_
    refine n_put F ck_8 lf_RX8_23 (by decide) rfl fp_37_6 (by decide) rfl rfl dX8_tell_50 ?_
    refine n_aload_n F dX8_tell_53 rfl 1 rfl ?_
    refine n_iconst F (0 : Int32) dX8_tell_54 (by decide) ?_
    refine n_put F ck_8 lf_RX8_131 (by decide) rfl fp_37_8 (by decide) rfl rfl dX8_tell_55 ?_
    refine n_aload_n F dX8_tell_58 rfl 1 rfl ?_
    refine n_iconst F (0 : Int32) dX8_tell_59 (by decide) ?_
    refine n_put F ck_8 lf_RX8_58 (by decide) rfl fp_37_9 (by decide) rfl rfl dX8_tell_60 ?_
    refine n_aload_n F dX8_tell_63 rfl 1 rfl ?_
    refine n_get F ck_8 lf_RX8_36 (by decide) fg_37_12 (by decide) dX8_tell_64 ?_
    refine n_iconst F (0 : Int32) dX8_tell_67 (by decide) ?_
    refine n_iconst F (-1 : Int32) dX8_tell_68 (by decide) ?_
    refine n_iast F ar_44 (by decide) (ib_c (n := 2) (by decide)) (j := 0) (by decide) dX8_tell_69 ?_
    refine n_aload_n F dX8_tell_70 rfl 1 rfl ?_
    refine n_get F ck_8 lf_RX8_36 (by decide) fg_37_12 (by decide) dX8_tell_71 ?_
    refine n_iconst F (1 : Int32) dX8_tell_74 (by decide) ?_
    refine n_iconst F (-1 : Int32) dX8_tell_75 (by decide) ?_
    refine n_iast F ar_44 (by decide) (ib_c (n := 2) (by decide)) (j := 1) (by decide) dX8_tell_76 ?_
    exact n_vret F rfl rfl dX8_tell_77
  rw [if_neg e3]
  by_cases e4 : (w.1 41 (Int32.toNatClampNeg a1)) = (1 : Int32)
  · rw [if_pos e4]
    refine n_tabIn F (1 : Int32) 78 dX8_tell_15 e4 (by decide) (by decide) rfl (by decide) ?_
    refine n_iconst F (0 : Int32) dX8_tell_78 (by decide) ?_
    refine n_istore_n F (lv' := [(3, .int (0 : Int32)), (2, .int (w.1 41 (Int32.toNatClampNeg (a1 + (1 : Int32))))), (0, .ref (gA (cg K) 37)), (1, .int a1)]) dX8_tell_79 rfl (by decide) rfl ?_
    exact n_sub [2, 3, 0] rfl (Mo_tell_L80_ok F (Mo_tell_B116_ok F) FU _ _ _)
  rw [if_neg e4]
  by_cases e8 : (w.1 41 (Int32.toNatClampNeg a1)) = (2 : Int32)
  · rw [if_pos e8]
    refine n_tabIn F (2 : Int32) 127 dX8_tell_15 e8 (by decide) (by decide) rfl (by decide) ?_
    refine n_aload_n F dX8_tell_127 rfl 1 rfl ?_
    refine n_iload_n F dX8_tell_128 rfl 0 rfl ?_
    refine n_put F ck_8 lf_RX8_58 (by decide) rfl fp_37_9 (by decide) rfl rfl dX8_tell_129 ?_
    exact n_vret F rfl rfl dX8_tell_132
  rw [if_neg e8]
  by_cases e9 : (w.1 41 (Int32.toNatClampNeg a1)) = (3 : Int32)
  · rw [if_pos e9]
    refine n_tabIn F (3 : Int32) 133 dX8_tell_15 e9 (by decide) (by decide) rfl (by decide) ?_
    refine n_iconst F (0 : Int32) dX8_tell_133 (by decide) ?_
    refine n_istore_n F (lv' := [(3, .int (0 : Int32)), (2, .int (w.1 41 (Int32.toNatClampNeg (a1 + (1 : Int32))))), (0, .ref (gA (cg K) 37)), (1, .int a1)]) dX8_tell_134 rfl (by decide) rfl ?_
    exact n_sub [2, 3, 0] rfl (Mo_tell_L135_ok F (Mo_tell_B162_ok F) FU _ _ _)
  rw [if_neg e9]
  by_cases e13 : (w.1 41 (Int32.toNatClampNeg a1)) = (4 : Int32)
  · rw [if_pos e13]
    refine n_tabIn F (4 : Int32) 163 dX8_tell_15 e13 (by decide) (by decide) rfl (by decide) ?_
    refine n_aload_n F dX8_tell_163 rfl 1 rfl ?_
    refine n_iload_n F dX8_tell_164 rfl 0 rfl ?_
    refine n_put F ck_8 lf_RX8_33 (by decide) rfl fp_37_11 (by decide) rfl rfl dX8_tell_165 ?_
    exact n_vret F rfl rfl dX8_tell_168
  rw [if_neg e13]
  have hsw := (⟨lv_neT e3 (a := 0) rfl, lv_neT e4 (a := 1) rfl, lv_neT e8 (a := 2) rfl, lv_neT e9 (a := 3) rfl, lv_neT e13 (a := 4) rfl⟩ : ¬ ((w.1 41 (Int32.toNatClampNeg a1))).toInt = 0 ∧ ¬ ((w.1 41 (Int32.toNatClampNeg a1))).toInt = 1 ∧ ¬ ((w.1 41 (Int32.toNatClampNeg a1))).toInt = 2 ∧ ¬ ((w.1 41 (Int32.toNatClampNeg a1))).toInt = 3 ∧ ¬ ((w.1 41 (Int32.toNatClampNeg a1))).toInt = 4)
  refine n_tabOut F 169 dX8_tell_15 (by omega) (by decide) ?_
  refine n_aload_n F dX8_tell_169 rfl 1 rfl ?_
  refine n_get F ck_8 lf_RX8_36 (by decide) fg_37_12 (by decide) dX8_tell_170 ?_
  refine n_iload_n F dX8_tell_173 rfl 0 rfl ?_
  refine n_aload_n F dX8_tell_174 rfl 1 rfl ?_
  refine n_get F ck_8 lf_RX8_20 (by decide) fg_37_4 (by decide) dX8_tell_175 ?_
  refine n_iload_n F dX8_tell_178 rfl 2 rfl ?_
  refine n_iconst F (2 : Int32) dX8_tell_179 (by decide) ?_
  refine n_iadd F dX8_tell_180 ?_
  refine n_chk (fun e14 => ?_)
  refine n_iald F ar_41 (by decide) (ib_in e14) rfl dX8_tell_181 ?_
  refine n_chk (fun e15 => ?_)
  refine n_iast F ar_44 (by decide) (ib_in e15) rfl dX8_tell_182 ?_
  exact n_vret F rfl rfl dX8_tell_183
theorem dX8_land_0 : decode cX8_land 0 = .ok (.aload_n 0, 1) := by decide +kernel
theorem dX8_land_1 : decode cX8_land 1 = .ok (.invokevirtual 137, 3) := by decide +kernel
theorem dX8_land_4 : decode cX8_land 4 = .ok (.iconst (-1), 1) := by decide +kernel
theorem dX8_land_5 : decode cX8_land 5 = .ok (.if_icmp .eq 6, 3) := by decide +kernel
theorem dX8_land_8 : decode cX8_land 8 = .ok (.bipush (-4), 2) := by decide +kernel
theorem dX8_land_10 : decode cX8_land 10 = .ok (.ireturn, 1) := by decide +kernel
theorem dX8_land_11 : decode cX8_land 11 = .ok (.iconst 0, 1) := by decide +kernel
theorem dX8_land_12 : decode cX8_land 12 = .ok (.istore_n 1, 1) := by decide +kernel
theorem dX8_land_13 : decode cX8_land 13 = .ok (.iload_n 1, 1) := by decide +kernel
theorem dX8_land_14 : decode cX8_land 14 = .ok (.aload_n 0, 1) := by decide +kernel
theorem dX8_land_15 : decode cX8_land 15 = .ok (.getfield 103, 3) := by decide +kernel
theorem dX8_land_18 : decode cX8_land 18 = .ok (.if_icmp .ge 17, 3) := by decide +kernel
theorem dX8_land_21 : decode cX8_land 21 = .ok (.aload_n 0, 1) := by decide +kernel
theorem dX8_land_22 : decode cX8_land 22 = .ok (.bipush 7, 2) := by decide +kernel
theorem dX8_land_24 : decode cX8_land 24 = .ok (.iload_n 1, 1) := by decide +kernel
theorem dX8_land_25 : decode cX8_land 25 = .ok (.imul, 1) := by decide +kernel
theorem dX8_land_26 : decode cX8_land 26 = .ok (.invokevirtual 140, 3) := by decide +kernel
theorem dX8_land_29 : decode cX8_land 29 = .ok (.iinc 1 1, 3) := by decide +kernel
theorem dX8_land_32 : decode cX8_land 32 = .ok (.goto (-19), 3) := by decide +kernel
theorem dX8_land_35 : decode cX8_land 35 = .ok (.aload_n 0, 1) := by decide +kernel
theorem dX8_land_36 : decode cX8_land 36 = .ok (.invokevirtual 55, 3) := by decide +kernel
theorem dX8_land_39 : decode cX8_land 39 = .ok (.aload_n 0, 1) := by decide +kernel
theorem dX8_land_40 : decode cX8_land 40 = .ok (.iconst 0, 1) := by decide +kernel
theorem dX8_land_41 : decode cX8_land 41 = .ok (.putfield 144, 3) := by decide +kernel
theorem dX8_land_44 : decode cX8_land 44 = .ok (.aload_n 0, 1) := by decide +kernel
theorem dX8_land_45 : decode cX8_land 45 = .ok (.getfield 13, 3) := by decide +kernel
theorem dX8_land_48 : decode cX8_land 48 = .ok (.iconst 0, 1) := by decide +kernel
theorem dX8_land_49 : decode cX8_land 49 = .ok (.iconst 0, 1) := by decide +kernel
theorem dX8_land_50 : decode cX8_land 50 = .ok (.bastore, 1) := by decide +kernel
theorem dX8_land_51 : decode cX8_land 51 = .ok (.aload_n 0, 1) := by decide +kernel
theorem dX8_land_52 : decode cX8_land 52 = .ok (.getfield 13, 3) := by decide +kernel
theorem dX8_land_55 : decode cX8_land 55 = .ok (.iconst 1, 1) := by decide +kernel
theorem dX8_land_56 : decode cX8_land 56 = .ok (.iconst 0, 1) := by decide +kernel
theorem dX8_land_57 : decode cX8_land 57 = .ok (.bastore, 1) := by decide +kernel
theorem dX8_land_58 : decode cX8_land 58 = .ok (.aload_n 0, 1) := by decide +kernel
theorem dX8_land_59 : decode cX8_land 59 = .ok (.iconst 0, 1) := by decide +kernel
theorem dX8_land_60 : decode cX8_land 60 = .ok (.putfield 67, 3) := by decide +kernel
theorem dX8_land_63 : decode cX8_land 63 = .ok (.aload_n 0, 1) := by decide +kernel
theorem dX8_land_64 : decode cX8_land 64 = .ok (.getfield 103, 3) := by decide +kernel
theorem dX8_land_67 : decode cX8_land 67 = .ok (.ireturn, 1) := by decide +kernel
def Mo_land_L13 (k35 : Wd → Option (Int32 × Wd)) : Nat → Wd → Int32 → Option (Int32 × Wd)
  | 0, _, _ => none
  | n + 1, w, v1 => (if (w.1 37 5) ≤ v1 then (k35 w) else (Option.bind (Mo_tell w ((7 : Int32) * v1)) (fun q4 => (Mo_land_L13 k35 n q4 (v1 + (1 : Int32))))))
set_option maxRecDepth 100000 in
set_option maxHeartbeats 4000000 in
theorem Mo_land_L13_ok {K : Ctx} (F : Fx K cX8_land 2 RX8 (some .int) 7 151 false [37, 38, 39, 40, 41, 42, 43, 44]) {k35 : Wd → Option (Int32 × Wd)} (h35 : ∀ (w : Wd), N K rtI (k35 w) w 35 [(0, .ref (gA (cg K) 37))] []) : ∀ (n : Nat) (w : Wd) (v1 : Int32), N K rtI (Mo_land_L13 k35 n w v1) w 13 [(0, .ref (gA (cg K) 37)), (1, .int v1)] [] := by
  intro n
  induction n with
  | zero => intro _ _; exact n_none
  | succ n ih =>
    intro w v1
    rw [Mo_land_L13]
    refine n_iload_n F dX8_land_13 rfl 1 rfl ?_
    refine n_aload_n F dX8_land_14 rfl 0 rfl ?_
    refine n_get F ck_8 lf_RX8_103 (by decide) fg_37_5 (by decide) dX8_land_15 ?_
    refine n_icmp_ge F 35 dX8_land_18 (by decide) (fun e3 => ?_) (fun e3 => ?_)
    · rw [if_pos e3]
      exact n_sub [0] rfl (h35 _)
    rw [if_neg e3]
    refine n_aload_n F dX8_land_21 rfl 0 rfl ?_
    refine n_bipush F (7 : Int32) dX8_land_22 (by decide) ?_
    refine n_iload_n F dX8_land_24 rfl 1 rfl ?_
    refine n_imul F dX8_land_25 ?_
    refine n_bind (fun q4 hq4 => ?_)
    refine n_callVv F cb_X8_tell lm_RX8_140 ob_37 (by decide) ⟨_, _, rfl⟩ (ct_Mo_tell (fx_ok F) (fx_sd F) (fx_ix F rfl) w ((7 : Int32) * v1) hq4) rfl rfl (Nat.le_of_ble_eq_true rfl) ⟨Nat.le_of_ble_eq_true rfl, Nat.le_of_ble_eq_true rfl⟩ dX8_land_26 ?_
    refine n_iinc F (v1 + (1 : Int32)) (lv' := [(1, .int (v1 + (1 : Int32))), (0, .ref (gA (cg K) 37))]) dX8_land_29 1 rfl rfl (by decide) rfl ?_
    refine n_goto F 13 dX8_land_32 (by decide) ?_
    exact n_sub [1, 0] rfl (ih _ _)
def Mo_land_B35 (w : Wd) : Option (Int32 × Wd) := (Option.bind (Mo_begin w) (fun q5 => some (((sI (sI (sI (sI q5 37 22 (0 : Int32)) 39 0 (vp_nar .boolean (0 : Int32))) 39 1 (vp_nar .boolean (0 : Int32))) 37 3 (0 : Int32)).1 37 5), (sI (sI (sI (sI q5 37 22 (0 : Int32)) 39 0 (vp_nar .boolean (0 : Int32))) 39 1 (vp_nar .boolean (0 : Int32))) 37 3 (0 : Int32)))))
set_option maxRecDepth 100000 in
set_option maxHeartbeats 4000000 in
theorem Mo_land_B35_ok {K : Ctx} (F : Fx K cX8_land 2 RX8 (some .int) 7 151 false [37, 38, 39, 40, 41, 42, 43, 44]) (w : Wd) : N K rtI (Mo_land_B35 w) w 35 [(0, .ref (gA (cg K) 37))] [] := by
  rw [Mo_land_B35]
  refine n_aload_n F dX8_land_35 rfl 0 rfl ?_
  refine n_bind (fun q5 hq5 => ?_)
  refine n_callVv F cb_X8_begin lm_RX8_55 ob_37 (by decide) ⟨_, _, rfl⟩ (ct_Mo_begin (fx_ok F) (fx_sd F) (fx_ix F rfl) w hq5) rfl rfl (Nat.le_of_ble_eq_true rfl) ⟨Nat.le_of_ble_eq_true rfl, Nat.le_of_ble_eq_true rfl⟩ dX8_land_36 ?_
  refine n_aload_n F dX8_land_39 rfl 0 rfl ?_
  refine n_iconst F (0 : Int32) dX8_land_40 (by decide) ?_
  refine n_put F ck_8 lf_RX8_144 (by decide) rfl fp_37_22 (by decide) rfl rfl dX8_land_41 ?_
  refine n_aload_n F dX8_land_44 rfl 0 rfl ?_
  refine n_get F ck_8 lf_RX8_13 (by decide) fg_37_1 (by decide) dX8_land_45 ?_
  refine n_iconst F (0 : Int32) dX8_land_48 (by decide) ?_
  refine n_iconst F (0 : Int32) dX8_land_49 (by decide) ?_
  refine n_zast F ar_39 (by decide) (ib_c (n := 2) (by decide)) (j := 0) (by decide) dX8_land_50 ?_
  refine n_aload_n F dX8_land_51 rfl 0 rfl ?_
  refine n_get F ck_8 lf_RX8_13 (by decide) fg_37_1 (by decide) dX8_land_52 ?_
  refine n_iconst F (1 : Int32) dX8_land_55 (by decide) ?_
  refine n_iconst F (0 : Int32) dX8_land_56 (by decide) ?_
  refine n_zast F ar_39 (by decide) (ib_c (n := 2) (by decide)) (j := 1) (by decide) dX8_land_57 ?_
  refine n_aload_n F dX8_land_58 rfl 0 rfl ?_
  refine n_iconst F (0 : Int32) dX8_land_59 (by decide) ?_
  refine n_put F ck_8 lf_RX8_67 (by decide) rfl fp_37_3 (by decide) rfl rfl dX8_land_60 ?_
  refine n_aload_n F dX8_land_63 rfl 0 rfl ?_
  refine n_get F ck_8 lf_RX8_103 (by decide) fg_37_5 (by decide) dX8_land_64 ?_
  exact n_iret F rfl rfl dX8_land_67
def Mo_land (w : Wd) : Option (Int32 × Wd) := (Option.bind (Mo_fault w) (fun q1 => (if (q1.1) = (-1 : Int32) then (Mo_land_L13 Mo_land_B35 FU (q1.2) (0 : Int32)) else some ((-4 : Int32), (q1.2)))))
set_option maxRecDepth 100000 in
set_option maxHeartbeats 4000000 in
theorem ct_Mo_land {l : Launch} {g : GG} {σ : Sd} (hg : OKg g σ) (hb : σ.2.1 = false) (hx : ∀ c ∈ ([37, 38, 39, 40, 41, 42, 43, 44] : List Nat), c ∈ σ.1) (w : Wd) {q : Int32 × Wd} (hq : Mo_land w = some q) : CT l g σ yX8_land cX8_land 2 (some .int) 7 151 [.ref (gA g 37)] w (some (.int q.1)) q.2 := by
  refine ct_of (rt := rtI) (res := Mo_land w) (q := q) (own := RX8) (b := false) hg hb hx (by decide) rfl (Nat.le_of_ble_eq_true rfl) hq (fun K e1 e2 e3 F => ?_)
  subst e1 e2 e3
  rw [Mo_land]
  show N K _ _ w 0 [(0, .ref (gA (cg K) 37))] []
  refine n_aload_n F dX8_land_0 rfl 0 rfl ?_
  refine n_bind (fun q1 hq1 => ?_)
  refine n_callVi F cb_X8_fault lm_RX8_137 ob_37 (by decide) ⟨_, _, rfl⟩ (ct_Mo_fault (fx_ok F) (fx_sd F) (fx_ix F rfl) w hq1) rfl rfl (Nat.le_of_ble_eq_true rfl) ⟨Nat.le_of_ble_eq_true rfl, Nat.le_of_ble_eq_true rfl⟩ dX8_land_1 ?_
  refine n_iconst F (-1 : Int32) dX8_land_4 (by decide) ?_
  refine n_icmp_eq F 11 dX8_land_5 (by decide) (fun e2 => ?_) (fun e2 => ?_)
  · rw [if_pos e2]
    refine n_iconst F (0 : Int32) dX8_land_11 (by decide) ?_
    refine n_istore_n F (lv' := [(1, .int (0 : Int32)), (0, .ref (gA (cg K) 37))]) dX8_land_12 rfl (by decide) rfl ?_
    exact n_sub [1, 0] rfl (Mo_land_L13_ok F (Mo_land_B35_ok F) FU _ _)
  rw [if_neg e2]
  refine n_bipush F (-4 : Int32) dX8_land_8 (by decide) ?_
  exact n_iret F rfl rfl dX8_land_10
theorem dX8_isTrain_0 : decode cX8_isTrain 0 = .ok (.iload_n 1, 1) := by decide +kernel
theorem dX8_isTrain_1 : decode cX8_isTrain 1 = .ok (.i2l, 1) := by decide +kernel
theorem dX8_isTrain_2 : decode cX8_isTrain 2 = .ok (.lconst 0, 1) := by decide +kernel
theorem dX8_isTrain_3 : decode cX8_isTrain 3 = .ok (.aload_n 0, 1) := by decide +kernel
theorem dX8_isTrain_4 : decode cX8_isTrain 4 = .ok (.getfield 131, 3) := by decide +kernel
theorem dX8_isTrain_7 : decode cX8_isTrain 7 = .ok (.iconst 1, 1) := by decide +kernel
theorem dX8_isTrain_8 : decode cX8_isTrain 8 = .ok (.isub, 1) := by decide +kernel
theorem dX8_isTrain_9 : decode cX8_isTrain 9 = .ok (.i2l, 1) := by decide +kernel
theorem dX8_isTrain_10 : decode cX8_isTrain 10 = .ok (.invokestatic 63, 3) := by decide +kernel
theorem dX8_isTrain_13 : decode cX8_isTrain 13 = .ok (.ireturn, 1) := by decide +kernel
def Mo_isTrain (w : Wd) (a1 : Int32) : Int32 := (Mo_in w (Int32.toInt64 a1) (0 : Int64) (Int32.toInt64 ((w.1 37 8) - (1 : Int32))))
set_option maxRecDepth 100000 in
set_option maxHeartbeats 4000000 in
theorem ct_Mo_isTrain {l : Launch} {g : GG} {σ : Sd} (hg : OKg g σ) (hb : σ.2.1 = false) (hx : ∀ c ∈ ([37] : List Nat), c ∈ σ.1) (w : Wd) (a1 : Int32) : CT l g σ yX8_isTrain cX8_isTrain 2 (some .boolean) 1 25 [.ref (gA g 37), .int a1] w (some (.int (Mo_isTrain w a1))) w := by
  refine ct_of (rt := (rtP w)) (res := some (Mo_isTrain w a1)) (q := (Mo_isTrain w a1)) (own := RX8) (b := false) hg hb hx (by decide) rfl (Nat.le_of_ble_eq_true rfl) rfl (fun K e1 e2 e3 F => ?_)
  subst e1 e2 e3
  rw [Mo_isTrain]
  show N K _ _ w 0 [(0, .ref (gA (cg K) 37)), (1, .int a1)] []
  refine n_iload_n F dX8_isTrain_0 rfl 1 rfl ?_
  refine n_i2l F dX8_isTrain_1 ?_
  refine n_lconst F (0 : Int64) dX8_isTrain_2 (by decide) ?_
  refine n_aload_n F dX8_isTrain_3 rfl 0 rfl ?_
  refine n_get F ck_8 lf_RX8_131 (by decide) fg_37_8 (by decide) dX8_isTrain_4 ?_
  refine n_iconst F (1 : Int32) dX8_isTrain_7 (by decide) ?_
  refine n_isub F dX8_isTrain_8 ?_
  refine n_i2l F dX8_isTrain_9 ?_
  refine n_callSi F cb_X8_in lm_RX8_63 (ct_Mo_in (fx_ok F) (fx_sd F) (fx_ix F rfl) w (Int32.toInt64 a1) (0 : Int64) (Int32.toInt64 ((w.1 37 8) - (1 : Int32)))) rfl rfl (Nat.le_of_ble_eq_true rfl) ⟨Nat.le_of_ble_eq_true rfl, Nat.le_of_ble_eq_true rfl⟩ dX8_isTrain_10 ?_
  exact n_zret F .boolean rfl (bz_n (bz_Mo_in w (Int32.toInt64 a1) (0 : Int64) (Int32.toInt64 ((w.1 37 8) - (1 : Int32))))) rfl dX8_isTrain_13
theorem bz_Mo_isTrain (w : Wd) (a1 : Int32) : (Mo_isTrain w a1) &&& (1 : Int32) = (Mo_isTrain w a1) := by
  unfold Mo_isTrain
  first | exact bz_auto | (repeat' split) <;> first | rfl | assumption | exact (bz_Mo_in w (Int32.toInt64 a1) (0 : Int64) (Int32.toInt64 ((w.1 37 8) - (1 : Int32))))
theorem dX8_isSeeker_0 : decode cX8_isSeeker 0 = .ok (.iload_n 0, 1) := by decide +kernel
theorem dX8_isSeeker_1 : decode cX8_isSeeker 1 = .ok (.i2l, 1) := by decide +kernel
theorem dX8_isSeeker_2 : decode cX8_isSeeker 2 = .ok (.lconst 0, 1) := by decide +kernel
theorem dX8_isSeeker_3 : decode cX8_isSeeker 3 = .ok (.lconst 1, 1) := by decide +kernel
theorem dX8_isSeeker_4 : decode cX8_isSeeker 4 = .ok (.invokestatic 63, 3) := by decide +kernel
theorem dX8_isSeeker_7 : decode cX8_isSeeker 7 = .ok (.ireturn, 1) := by decide +kernel
def Mo_isSeeker (w : Wd) (a1 : Int32) : Int32 := (Mo_in w (Int32.toInt64 a1) (0 : Int64) (1 : Int64))
set_option maxRecDepth 100000 in
set_option maxHeartbeats 4000000 in
theorem ct_Mo_isSeeker {l : Launch} {g : GG} {σ : Sd} (hg : OKg g σ) (hb : σ.2.1 = false) (hx : ∀ c ∈ ([] : List Nat), c ∈ σ.1) (w : Wd) (a1 : Int32) : CT l g σ yX8_isSeeker cX8_isSeeker 1 (some .boolean) 1 25 [.int a1] w (some (.int (Mo_isSeeker w a1))) w := by
  refine ct_of (rt := (rtP w)) (res := some (Mo_isSeeker w a1)) (q := (Mo_isSeeker w a1)) (own := RX8) (b := false) hg hb hx (by decide) rfl (Nat.le_of_ble_eq_true rfl) rfl (fun K e1 e2 e3 F => ?_)
  subst e1 e2 e3
  rw [Mo_isSeeker]
  show N K _ _ w 0 [(0, .int a1)] []
  refine n_iload_n F dX8_isSeeker_0 rfl 0 rfl ?_
  refine n_i2l F dX8_isSeeker_1 ?_
  refine n_lconst F (0 : Int64) dX8_isSeeker_2 (by decide) ?_
  refine n_lconst F (1 : Int64) dX8_isSeeker_3 (by decide) ?_
  refine n_callSi F cb_X8_in lm_RX8_63 (ct_Mo_in (fx_ok F) (fx_sd F) (fx_ix F rfl) w (Int32.toInt64 a1) (0 : Int64) (1 : Int64)) rfl rfl (Nat.le_of_ble_eq_true rfl) ⟨Nat.le_of_ble_eq_true rfl, Nat.le_of_ble_eq_true rfl⟩ dX8_isSeeker_4 ?_
  exact n_zret F .boolean rfl (bz_n (bz_Mo_in w (Int32.toInt64 a1) (0 : Int64) (1 : Int64))) rfl dX8_isSeeker_7
theorem bz_Mo_isSeeker (w : Wd) (a1 : Int32) : (Mo_isSeeker w a1) &&& (1 : Int32) = (Mo_isSeeker w a1) := by
  unfold Mo_isSeeker
  first | exact bz_auto | (repeat' split) <;> first | rfl | assumption | exact (bz_Mo_in w (Int32.toInt64 a1) (0 : Int64) (1 : Int64))
theorem dX8_train_0 : decode cX8_train 0 = .ok (.aload_n 0, 1) := by decide +kernel
theorem dX8_train_1 : decode cX8_train 1 = .ok (.iload_n 1, 1) := by decide +kernel
theorem dX8_train_2 : decode cX8_train 2 = .ok (.invokevirtual 147, 3) := by decide +kernel
theorem dX8_train_5 : decode cX8_train 5 = .ok (.ifCond .ne 6, 3) := by decide +kernel
theorem dX8_train_8 : decode cX8_train 8 = .ok (.bipush (-2), 2) := by decide +kernel
theorem dX8_train_10 : decode cX8_train 10 = .ok (.ireturn, 1) := by decide +kernel
theorem dX8_train_11 : decode cX8_train 11 = .ok (.iload_n 2, 1) := by decide +kernel
theorem dX8_train_12 : decode cX8_train 12 = .ok (.i2l, 1) := by decide +kernel
theorem dX8_train_13 : decode cX8_train 13 = .ok (.lconst 0, 1) := by decide +kernel
theorem dX8_train_14 : decode cX8_train 14 = .ok (.ldc2_w 150, 3) := by decide +kernel
theorem dX8_train_17 : decode cX8_train 17 = .ok (.invokestatic 63, 3) := by decide +kernel
theorem dX8_train_20 : decode cX8_train 20 = .ok (.ifCond .eq 17, 3) := by decide +kernel
theorem dX8_train_23 : decode cX8_train 23 = .ok (.aload_n 0, 1) := by decide +kernel
theorem dX8_train_24 : decode cX8_train 24 = .ok (.getfield 27, 3) := by decide +kernel
theorem dX8_train_27 : decode cX8_train 27 = .ok (.bipush 6, 2) := by decide +kernel
theorem dX8_train_29 : decode cX8_train 29 = .ok (.iload_n 1, 1) := by decide +kernel
theorem dX8_train_30 : decode cX8_train 30 = .ok (.imul, 1) := by decide +kernel
theorem dX8_train_31 : decode cX8_train 31 = .ok (.iload_n 2, 1) := by decide +kernel
theorem dX8_train_32 : decode cX8_train 32 = .ok (.iadd, 1) := by decide +kernel
theorem dX8_train_33 : decode cX8_train 33 = .ok (.iaload, 1) := by decide +kernel
theorem dX8_train_34 : decode cX8_train 34 = .ok (.goto 5, 3) := by decide +kernel
theorem dX8_train_37 : decode cX8_train 37 = .ok (.bipush (-3), 2) := by decide +kernel
theorem dX8_train_39 : decode cX8_train 39 = .ok (.ireturn, 1) := by decide +kernel
def Mo_train (w : Wd) (a1 : Int32) (a2 : Int32) : Option Int32 := (if (Mo_isTrain w a1) = (0 : Int32) then some (-2 : Int32) else (if (Mo_in w (Int32.toInt64 a2) (0 : Int64) (5 : Int64)) = (0 : Int32) then some (-3 : Int32) else (if ib (((6 : Int32) * a1) + a2) 72 = true then some (w.1 42 (Int32.toNatClampNeg (((6 : Int32) * a1) + a2))) else none)))
set_option maxRecDepth 100000 in
set_option maxHeartbeats 4000000 in
theorem ct_Mo_train {l : Launch} {g : GG} {σ : Sd} (hg : OKg g σ) (hb : σ.2.1 = false) (hx : ∀ c ∈ ([37, 42] : List Nat), c ∈ σ.1) (w : Wd) (a1 : Int32) (a2 : Int32) {q : Int32} (hq : Mo_train w a1 a2 = some q) : CT l g σ yX8_train cX8_train 3 (some .int) 2 46 [.ref (gA g 37), .int a1, .int a2] w (some (.int q)) w := by
  refine ct_of (rt := (rtP w)) (res := Mo_train w a1 a2) (q := q) (own := RX8) (b := false) hg hb hx (by decide) rfl (Nat.le_of_ble_eq_true rfl) hq (fun K e1 e2 e3 F => ?_)
  subst e1 e2 e3
  rw [Mo_train]
  show N K _ _ w 0 [(0, .ref (gA (cg K) 37)), (1, .int a1), (2, .int a2)] []
  refine n_aload_n F dX8_train_0 rfl 0 rfl ?_
  refine n_iload_n F dX8_train_1 rfl 1 rfl ?_
  refine n_callVi F cb_X8_isTrain lm_RX8_147 ob_37 (by decide) ⟨_, _, rfl⟩ (ct_Mo_isTrain (fx_ok F) (fx_sd F) (fx_ix F rfl) w a1) rfl rfl (Nat.le_of_ble_eq_true rfl) ⟨Nat.le_of_ble_eq_true rfl, Nat.le_of_ble_eq_true rfl⟩ dX8_train_2 ?_
  refine n_if_ne F 11 dX8_train_5 (by decide) (fun e1 => ?_) (fun e1 => ?_)
  · rw [if_neg e1]
    refine n_iload_n F dX8_train_11 rfl 2 rfl ?_
    refine n_i2l F dX8_train_12 ?_
    refine n_lconst F (0 : Int64) dX8_train_13 (by decide) ?_
    refine n_ldc2 F (5 : Int64) dX8_train_14 kc_RX8_150 ?_
    refine n_callSi F cb_X8_in lm_RX8_63 (ct_Mo_in (fx_ok F) (fx_sd F) (fx_ix F rfl) w (Int32.toInt64 a2) (0 : Int64) (5 : Int64)) rfl rfl (Nat.le_of_ble_eq_true rfl) ⟨Nat.le_of_ble_eq_true rfl, Nat.le_of_ble_eq_true rfl⟩ dX8_train_17 ?_
    refine n_if_eq F 37 dX8_train_20 (by decide) (fun e2 => ?_) (fun e2 => ?_)
    · rw [if_pos e2]
      refine n_bipush F (-3 : Int32) dX8_train_37 (by decide) ?_
      exact n_iret F rfl rfl dX8_train_39
    rw [if_neg e2]
    refine n_aload_n F dX8_train_23 rfl 0 rfl ?_
    refine n_get F ck_8 lf_RX8_27 (by decide) fg_37_7 (by decide) dX8_train_24 ?_
    refine n_bipush F (6 : Int32) dX8_train_27 (by decide) ?_
    refine n_iload_n F dX8_train_29 rfl 1 rfl ?_
    refine n_imul F dX8_train_30 ?_
    refine n_iload_n F dX8_train_31 rfl 2 rfl ?_
    refine n_iadd F dX8_train_32 ?_
    refine n_chk (fun e3 => ?_)
    refine n_iald F ar_42 (by decide) (ib_in e3) rfl dX8_train_33 ?_
    refine n_goto F 39 dX8_train_34 (by decide) ?_
    exact n_iret F rfl rfl dX8_train_39
  rw [if_pos e1]
  refine n_bipush F (-2 : Int32) dX8_train_8 (by decide) ?_
  exact n_iret F rfl rfl dX8_train_10
theorem dX8_leaves_0 : decode cX8_leaves 0 = .ok (.aload_n 0, 1) := by decide +kernel
theorem dX8_leaves_1 : decode cX8_leaves 1 = .ok (.getfield 27, 3) := by decide +kernel
theorem dX8_leaves_4 : decode cX8_leaves 4 = .ok (.bipush 6, 2) := by decide +kernel
theorem dX8_leaves_6 : decode cX8_leaves 6 = .ok (.iload_n 1, 1) := by decide +kernel
theorem dX8_leaves_7 : decode cX8_leaves 7 = .ok (.imul, 1) := by decide +kernel
theorem dX8_leaves_8 : decode cX8_leaves 8 = .ok (.iconst 0, 1) := by decide +kernel
theorem dX8_leaves_9 : decode cX8_leaves 9 = .ok (.iadd, 1) := by decide +kernel
theorem dX8_leaves_10 : decode cX8_leaves 10 = .ok (.iaload, 1) := by decide +kernel
theorem dX8_leaves_11 : decode cX8_leaves 11 = .ok (.iload_n 2, 1) := by decide +kernel
theorem dX8_leaves_12 : decode cX8_leaves 12 = .ok (.if_icmp .ne 34, 3) := by decide +kernel
theorem dX8_leaves_15 : decode cX8_leaves 15 = .ok (.iload_n 3, 1) := by decide +kernel
theorem dX8_leaves_16 : decode cX8_leaves 16 = .ok (.aload_n 0, 1) := by decide +kernel
theorem dX8_leaves_17 : decode cX8_leaves 17 = .ok (.getfield 27, 3) := by decide +kernel
theorem dX8_leaves_20 : decode cX8_leaves 20 = .ok (.bipush 6, 2) := by decide +kernel
theorem dX8_leaves_22 : decode cX8_leaves 22 = .ok (.iload_n 1, 1) := by decide +kernel
theorem dX8_leaves_23 : decode cX8_leaves 23 = .ok (.imul, 1) := by decide +kernel
theorem dX8_leaves_24 : decode cX8_leaves 24 = .ok (.iconst 2, 1) := by decide +kernel
theorem dX8_leaves_25 : decode cX8_leaves 25 = .ok (.iadd, 1) := by decide +kernel
theorem dX8_leaves_26 : decode cX8_leaves 26 = .ok (.iaload, 1) := by decide +kernel
theorem dX8_leaves_27 : decode cX8_leaves 27 = .ok (.irem, 1) := by decide +kernel
theorem dX8_leaves_28 : decode cX8_leaves 28 = .ok (.aload_n 0, 1) := by decide +kernel
theorem dX8_leaves_29 : decode cX8_leaves 29 = .ok (.getfield 27, 3) := by decide +kernel
theorem dX8_leaves_32 : decode cX8_leaves 32 = .ok (.bipush 6, 2) := by decide +kernel
theorem dX8_leaves_34 : decode cX8_leaves 34 = .ok (.iload_n 1, 1) := by decide +kernel
theorem dX8_leaves_35 : decode cX8_leaves 35 = .ok (.imul, 1) := by decide +kernel
theorem dX8_leaves_36 : decode cX8_leaves 36 = .ok (.iconst 3, 1) := by decide +kernel
theorem dX8_leaves_37 : decode cX8_leaves 37 = .ok (.iadd, 1) := by decide +kernel
theorem dX8_leaves_38 : decode cX8_leaves 38 = .ok (.iaload, 1) := by decide +kernel
theorem dX8_leaves_39 : decode cX8_leaves 39 = .ok (.if_icmp .ne 7, 3) := by decide +kernel
theorem dX8_leaves_42 : decode cX8_leaves 42 = .ok (.iconst 1, 1) := by decide +kernel
theorem dX8_leaves_43 : decode cX8_leaves 43 = .ok (.goto 4, 3) := by decide +kernel
theorem dX8_leaves_46 : decode cX8_leaves 46 = .ok (.iconst 0, 1) := by decide +kernel
theorem dX8_leaves_47 : decode cX8_leaves 47 = .ok (.ireturn, 1) := by decide +kernel
def Mo_leaves (w : Wd) (a1 : Int32) (a2 : Int32) (a3 : Int32) : Option Int32 := (if ib (((6 : Int32) * a1) + (0 : Int32)) 72 = true then (if (w.1 42 (Int32.toNatClampNeg (((6 : Int32) * a1) + (0 : Int32)))) = a2 then (if ib (((6 : Int32) * a1) + (2 : Int32)) 72 = true then (if ¬ (w.1 42 (Int32.toNatClampNeg (((6 : Int32) * a1) + (2 : Int32)))) = (0 : Int32) then (if ib (((6 : Int32) * a1) + (3 : Int32)) 72 = true then (if (a3 - a3 / (w.1 42 (Int32.toNatClampNeg (((6 : Int32) * a1) + (2 : Int32)))) * (w.1 42 (Int32.toNatClampNeg (((6 : Int32) * a1) + (2 : Int32))))) = (w.1 42 (Int32.toNatClampNeg (((6 : Int32) * a1) + (3 : Int32)))) then some (1 : Int32) else some (0 : Int32)) else none) else none) else none) else some (0 : Int32)) else none)
set_option maxRecDepth 100000 in
set_option maxHeartbeats 4000000 in
theorem ct_Mo_leaves {l : Launch} {g : GG} {σ : Sd} (hg : OKg g σ) (hb : σ.2.1 = false) (hx : ∀ c ∈ ([37, 42] : List Nat), c ∈ σ.1) (w : Wd) (a1 : Int32) (a2 : Int32) (a3 : Int32) {q : Int32} (hq : Mo_leaves w a1 a2 a3 = some q) : CT l g σ yX8_leaves cX8_leaves 4 (some .boolean) 0 0 [.ref (gA g 37), .int a1, .int a2, .int a3] w (some (.int q)) w := by
  refine ct_of (rt := (rtP w)) (res := Mo_leaves w a1 a2 a3) (q := q) (own := RX8) (b := false) hg hb hx (by decide) rfl (Nat.le_of_ble_eq_true rfl) hq (fun K e1 e2 e3 F => ?_)
  subst e1 e2 e3
  rw [Mo_leaves]
  show N K _ _ w 0 [(0, .ref (gA (cg K) 37)), (1, .int a1), (2, .int a2), (3, .int a3)] []
  refine n_aload_n F dX8_leaves_0 rfl 0 rfl ?_
  refine n_get F ck_8 lf_RX8_27 (by decide) fg_37_7 (by decide) dX8_leaves_1 ?_
  refine n_bipush F (6 : Int32) dX8_leaves_4 (by decide) ?_
  refine n_iload_n F dX8_leaves_6 rfl 1 rfl ?_
  refine n_imul F dX8_leaves_7 ?_
  refine n_iconst F (0 : Int32) dX8_leaves_8 (by decide) ?_
  refine n_iadd F dX8_leaves_9 ?_
  refine n_chk (fun e1 => ?_)
  refine n_iald F ar_42 (by decide) (ib_in e1) rfl dX8_leaves_10 ?_
  refine n_iload_n F dX8_leaves_11 rfl 2 rfl ?_
  refine n_icmp_ne F 46 dX8_leaves_12 (by decide) (fun e2 => ?_) (fun e2 => ?_)
  · rw [if_neg e2]
    refine n_iconst F (0 : Int32) dX8_leaves_46 (by decide) ?_
    exact n_zret F .boolean rfl rfl rfl dX8_leaves_47
  rw [if_pos e2]
  refine n_iload_n F dX8_leaves_15 rfl 3 rfl ?_
  refine n_aload_n F dX8_leaves_16 rfl 0 rfl ?_
  refine n_get F ck_8 lf_RX8_27 (by decide) fg_37_7 (by decide) dX8_leaves_17 ?_
  refine n_bipush F (6 : Int32) dX8_leaves_20 (by decide) ?_
  refine n_iload_n F dX8_leaves_22 rfl 1 rfl ?_
  refine n_imul F dX8_leaves_23 ?_
  refine n_iconst F (2 : Int32) dX8_leaves_24 (by decide) ?_
  refine n_iadd F dX8_leaves_25 ?_
  refine n_chk (fun e3 => ?_)
  refine n_iald F ar_42 (by decide) (ib_in e3) rfl dX8_leaves_26 ?_
  refine n_chk (fun e4 => ?_)
  refine n_irem F dX8_leaves_27 e4 ?_
  refine n_aload_n F dX8_leaves_28 rfl 0 rfl ?_
  refine n_get F ck_8 lf_RX8_27 (by decide) fg_37_7 (by decide) dX8_leaves_29 ?_
  refine n_bipush F (6 : Int32) dX8_leaves_32 (by decide) ?_
  refine n_iload_n F dX8_leaves_34 rfl 1 rfl ?_
  refine n_imul F dX8_leaves_35 ?_
  refine n_iconst F (3 : Int32) dX8_leaves_36 (by decide) ?_
  refine n_iadd F dX8_leaves_37 ?_
  refine n_chk (fun e5 => ?_)
  refine n_iald F ar_42 (by decide) (ib_in e5) rfl dX8_leaves_38 ?_
  refine n_icmp_ne F 46 dX8_leaves_39 (by decide) (fun e6 => ?_) (fun e6 => ?_)
  · rw [if_neg e6]
    refine n_iconst F (0 : Int32) dX8_leaves_46 (by decide) ?_
    exact n_zret F .boolean rfl rfl rfl dX8_leaves_47
  rw [if_pos e6]
  refine n_iconst F (1 : Int32) dX8_leaves_42 (by decide) ?_
  refine n_goto F 47 dX8_leaves_43 (by decide) ?_
  exact n_zret F .boolean rfl rfl rfl dX8_leaves_47
theorem dX8_runs_0 : decode cX8_runs 0 = .ok (.iload_n 1, 1) := by decide +kernel
theorem dX8_runs_1 : decode cX8_runs 1 = .ok (.i2l, 1) := by decide +kernel
theorem dX8_runs_2 : decode cX8_runs 2 = .ok (.lconst 0, 1) := by decide +kernel
theorem dX8_runs_3 : decode cX8_runs 3 = .ok (.aload_n 0, 1) := by decide +kernel
theorem dX8_runs_4 : decode cX8_runs 4 = .ok (.getfield 23, 3) := by decide +kernel
theorem dX8_runs_7 : decode cX8_runs 7 = .ok (.iconst 1, 1) := by decide +kernel
theorem dX8_runs_8 : decode cX8_runs 8 = .ok (.isub, 1) := by decide +kernel
theorem dX8_runs_9 : decode cX8_runs 9 = .ok (.i2l, 1) := by decide +kernel
theorem dX8_runs_10 : decode cX8_runs 10 = .ok (.invokestatic 63, 3) := by decide +kernel
theorem dX8_runs_13 : decode cX8_runs 13 = .ok (.ifCond .ne 6, 3) := by decide +kernel
theorem dX8_runs_16 : decode cX8_runs 16 = .ok (.bipush (-2), 2) := by decide +kernel
theorem dX8_runs_18 : decode cX8_runs 18 = .ok (.ireturn, 1) := by decide +kernel
theorem dX8_runs_19 : decode cX8_runs 19 = .ok (.iload_n 2, 1) := by decide +kernel
theorem dX8_runs_20 : decode cX8_runs 20 = .ok (.ifCond .ge 6, 3) := by decide +kernel
theorem dX8_runs_23 : decode cX8_runs 23 = .ok (.bipush (-3), 2) := by decide +kernel
theorem dX8_runs_25 : decode cX8_runs 25 = .ok (.ireturn, 1) := by decide +kernel
theorem dX8_runs_26 : decode cX8_runs 26 = .ok (.iconst 0, 1) := by decide +kernel
theorem dX8_runs_27 : decode cX8_runs 27 = .ok (.istore_n 3, 1) := by decide +kernel
theorem dX8_runs_28 : decode cX8_runs 28 = .ok (.iconst 0, 1) := by decide +kernel
theorem dX8_runs_29 : decode cX8_runs 29 = .ok (.istore 4, 2) := by decide +kernel
theorem dX8_runs_31 : decode cX8_runs 31 = .ok (.iload 4, 2) := by decide +kernel
theorem dX8_runs_33 : decode cX8_runs 33 = .ok (.aload_n 0, 1) := by decide +kernel
theorem dX8_runs_34 : decode cX8_runs 34 = .ok (.getfield 131, 3) := by decide +kernel
theorem dX8_runs_37 : decode cX8_runs 37 = .ok (.if_icmp .ge 31, 3) := by decide +kernel
theorem dX8_runs_40 : decode cX8_runs 40 = .ok (.iload_n 3, 1) := by decide +kernel
theorem dX8_runs_41 : decode cX8_runs 41 = .ok (.aload_n 0, 1) := by decide +kernel
theorem dX8_runs_42 : decode cX8_runs 42 = .ok (.iload 4, 2) := by decide +kernel
theorem dX8_runs_44 : decode cX8_runs 44 = .ok (.iload_n 1, 1) := by decide +kernel
theorem dX8_runs_45 : decode cX8_runs 45 = .ok (.iload_n 2, 1) := by decide +kernel
theorem dX8_runs_46 : decode cX8_runs 46 = .ok (.invokevirtual 152, 3) := by decide +kernel
theorem dX8_runs_49 : decode cX8_runs 49 = .ok (.ifCond .eq 10, 3) := by decide +kernel
theorem dX8_runs_52 : decode cX8_runs 52 = .ok (.iconst 1, 1) := by decide +kernel
theorem dX8_runs_53 : decode cX8_runs 53 = .ok (.iload 4, 2) := by decide +kernel
theorem dX8_runs_55 : decode cX8_runs 55 = .ok (.ishl, 1) := by decide +kernel
theorem dX8_runs_56 : decode cX8_runs 56 = .ok (.goto 4, 3) := by decide +kernel
theorem dX8_runs_59 : decode cX8_runs 59 = .ok (.iconst 0, 1) := by decide +kernel
theorem dX8_runs_60 : decode cX8_runs 60 = .ok (.ior, 1) := by decide +kernel
theorem dX8_runs_61 : decode cX8_runs 61 = .ok (.istore_n 3, 1) := by decide +kernel
theorem dX8_runs_62 : decode cX8_runs 62 = .ok (.iinc 4 1, 3) := by decide +kernel
theorem dX8_runs_65 : decode cX8_runs 65 = .ok (.goto (-34), 3) := by decide +kernel
theorem dX8_runs_68 : decode cX8_runs 68 = .ok (.iload_n 3, 1) := by decide +kernel
theorem dX8_runs_69 : decode cX8_runs 69 = .ok (.ireturn, 1) := by decide +kernel
def Mo_runs_L31 (w : Wd) (k68 : Int32 → Option Int32) : Nat → Int32 → Int32 → Int32 → Int32 → Option Int32
  | 0, _, _, _, _ => none
  | n + 1, v1, v2, v3, v4 => (if (w.1 37 8) ≤ v4 then (k68 v3) else (Option.bind (Mo_leaves w v4 v1 v2) (fun q4 => (Mo_runs_L31 w k68 n v1 v2 (if q4 = (0 : Int32) then (v3 ||| (0 : Int32)) else (v3 ||| ((1 : Int32) <<< (v4 &&& (31 : Int32))))) (v4 + (1 : Int32))))))
set_option maxRecDepth 100000 in
set_option maxHeartbeats 4000000 in
theorem Mo_runs_L31_ok {K : Ctx} (F : Fx K cX8_runs 5 RX8 (some .int) 1 25 false [37, 42]) (w : Wd) {k68 : Int32 → Option Int32} (h68 : ∀ (v3 : Int32), N K (rtP w) (k68 v3) w 68 [(3, .int v3)] []) : ∀ (n : Nat) (v1 : Int32) (v2 : Int32) (v3 : Int32) (v4 : Int32), N K (rtP w) (Mo_runs_L31 w k68 n v1 v2 v3 v4) w 31 [(0, .ref (gA (cg K) 37)), (1, .int v1), (2, .int v2), (3, .int v3), (4, .int v4)] [] := by
  intro n
  induction n with
  | zero => intro _ _ _ _; exact n_none
  | succ n ih =>
    intro v1 v2 v3 v4
    rw [Mo_runs_L31]
    refine n_iload F dX8_runs_31 4 rfl ?_
    refine n_aload_n F dX8_runs_33 rfl 0 rfl ?_
    refine n_get F ck_8 lf_RX8_131 (by decide) fg_37_8 (by decide) dX8_runs_34 ?_
    refine n_icmp_ge F 68 dX8_runs_37 (by decide) (fun e3 => ?_) (fun e3 => ?_)
    · rw [if_pos e3]
      exact n_sub [3] rfl (h68 _)
    rw [if_neg e3]
    refine n_iload_n F dX8_runs_40 rfl 3 rfl ?_
    refine n_aload_n F dX8_runs_41 rfl 0 rfl ?_
    refine n_iload F dX8_runs_42 4 rfl ?_
    refine n_iload_n F dX8_runs_44 rfl 1 rfl ?_
    refine n_iload_n F dX8_runs_45 rfl 2 rfl ?_
    refine n_bind (fun q4 hq4 => ?_)
    refine n_callVi F cb_X8_leaves lm_RX8_152 ob_37 (by decide) ⟨_, _, rfl⟩ (ct_Mo_leaves (fx_ok F) (fx_sd F) (fx_ix F rfl) w v4 v1 v2 hq4) rfl rfl (Nat.le_of_ble_eq_true rfl) ⟨Nat.le_of_ble_eq_true rfl, Nat.le_of_ble_eq_true rfl⟩ dX8_runs_46 ?_
    refine n_if_eq F 59 dX8_runs_49 (by decide) (fun e5 => ?_) (fun e5 => ?_)
    · rw [if_pos e5]
      refine n_iconst F (0 : Int32) dX8_runs_59 (by decide) ?_
      refine n_ior F dX8_runs_60 ?_
      refine n_istore_n F (lv' := [(3, .int (v3 ||| (0 : Int32))), (0, .ref (gA (cg K) 37)), (1, .int v1), (2, .int v2), (4, .int v4)]) dX8_runs_61 rfl (by decide) rfl ?_
      refine n_iinc F (v4 + (1 : Int32)) (lv' := [(4, .int (v4 + (1 : Int32))), (3, .int (v3 ||| (0 : Int32))), (0, .ref (gA (cg K) 37)), (1, .int v1), (2, .int v2)]) dX8_runs_62 4 rfl rfl (by decide) rfl ?_
      refine n_goto F 31 dX8_runs_65 (by decide) ?_
      exact n_sub [2, 3, 4, 1, 0] rfl (ih _ _ _ _)
    rw [if_neg e5]
    refine n_iconst F (1 : Int32) dX8_runs_52 (by decide) ?_
    refine n_iload F dX8_runs_53 4 rfl ?_
    refine n_ishl F dX8_runs_55 ?_
    refine n_goto F 60 dX8_runs_56 (by decide) ?_
    refine n_ior F dX8_runs_60 ?_
    refine n_istore_n F (lv' := [(3, .int (v3 ||| ((1 : Int32) <<< (v4 &&& (31 : Int32))))), (0, .ref (gA (cg K) 37)), (1, .int v1), (2, .int v2), (4, .int v4)]) dX8_runs_61 rfl (by decide) rfl ?_
    refine n_iinc F (v4 + (1 : Int32)) (lv' := [(4, .int (v4 + (1 : Int32))), (3, .int (v3 ||| ((1 : Int32) <<< (v4 &&& (31 : Int32))))), (0, .ref (gA (cg K) 37)), (1, .int v1), (2, .int v2)]) dX8_runs_62 4 rfl rfl (by decide) rfl ?_
    refine n_goto F 31 dX8_runs_65 (by decide) ?_
    exact n_sub [2, 3, 4, 1, 0] rfl (ih _ _ _ _)
def Mo_runs_B68 (w : Wd) (v3 : Int32) : Option Int32 := some v3
set_option maxRecDepth 100000 in
set_option maxHeartbeats 4000000 in
theorem Mo_runs_B68_ok {K : Ctx} (F : Fx K cX8_runs 5 RX8 (some .int) 1 25 false [37, 42]) (w : Wd) (v3 : Int32) : N K (rtP w) (Mo_runs_B68 w v3) w 68 [(3, .int v3)] [] := by
  rw [Mo_runs_B68]
  refine n_iload_n F dX8_runs_68 rfl 0 rfl ?_
  exact n_iret F rfl rfl dX8_runs_69
def Mo_runs (w : Wd) (a1 : Int32) (a2 : Int32) : Option Int32 := (if (Mo_in w (Int32.toInt64 a1) (0 : Int64) (Int32.toInt64 ((w.1 37 6) - (1 : Int32)))) = (0 : Int32) then some (-2 : Int32) else (if (0 : Int32) ≤ a2 then (Mo_runs_L31 w (Mo_runs_B68 w) FU a1 a2 (0 : Int32) (0 : Int32)) else some (-3 : Int32)))
set_option maxRecDepth 100000 in
set_option maxHeartbeats 4000000 in
theorem ct_Mo_runs {l : Launch} {g : GG} {σ : Sd} (hg : OKg g σ) (hb : σ.2.1 = false) (hx : ∀ c ∈ ([37, 42] : List Nat), c ∈ σ.1) (w : Wd) (a1 : Int32) (a2 : Int32) {q : Int32} (hq : Mo_runs w a1 a2 = some q) : CT l g σ yX8_runs cX8_runs 5 (some .int) 1 25 [.ref (gA g 37), .int a1, .int a2] w (some (.int q)) w := by
  refine ct_of (rt := (rtP w)) (res := Mo_runs w a1 a2) (q := q) (own := RX8) (b := false) hg hb hx (by decide) rfl (Nat.le_of_ble_eq_true rfl) hq (fun K e1 e2 e3 F => ?_)
  subst e1 e2 e3
  rw [Mo_runs]
  show N K _ _ w 0 [(0, .ref (gA (cg K) 37)), (1, .int a1), (2, .int a2)] []
  refine n_iload_n F dX8_runs_0 rfl 1 rfl ?_
  refine n_i2l F dX8_runs_1 ?_
  refine n_lconst F (0 : Int64) dX8_runs_2 (by decide) ?_
  refine n_aload_n F dX8_runs_3 rfl 0 rfl ?_
  refine n_get F ck_8 lf_RX8_23 (by decide) fg_37_6 (by decide) dX8_runs_4 ?_
  refine n_iconst F (1 : Int32) dX8_runs_7 (by decide) ?_
  refine n_isub F dX8_runs_8 ?_
  refine n_i2l F dX8_runs_9 ?_
  refine n_callSi F cb_X8_in lm_RX8_63 (ct_Mo_in (fx_ok F) (fx_sd F) (fx_ix F rfl) w (Int32.toInt64 a1) (0 : Int64) (Int32.toInt64 ((w.1 37 6) - (1 : Int32)))) rfl rfl (Nat.le_of_ble_eq_true rfl) ⟨Nat.le_of_ble_eq_true rfl, Nat.le_of_ble_eq_true rfl⟩ dX8_runs_10 ?_
  refine n_if_ne F 19 dX8_runs_13 (by decide) (fun e1 => ?_) (fun e1 => ?_)
  · rw [if_neg e1]
    refine n_iload_n F dX8_runs_19 rfl 2 rfl ?_
    refine n_if_ge F 26 dX8_runs_20 (by decide) (fun e2 => ?_) (fun e2 => ?_)
    · rw [if_pos e2]
      refine n_iconst F (0 : Int32) dX8_runs_26 (by decide) ?_
      refine n_istore_n F (lv' := [(3, .int (0 : Int32)), (0, .ref (gA (cg K) 37)), (1, .int a1), (2, .int a2)]) dX8_runs_27 rfl (by decide) rfl ?_
      refine n_iconst F (0 : Int32) dX8_runs_28 (by decide) ?_
      refine n_istore F (lv' := [(4, .int (0 : Int32)), (3, .int (0 : Int32)), (0, .ref (gA (cg K) 37)), (1, .int a1), (2, .int a2)]) dX8_runs_29 (by decide) rfl ?_
      exact n_sub [2, 3, 4, 1, 0] rfl (Mo_runs_L31_ok F w (Mo_runs_B68_ok F w) FU _ _ _ _)
    rw [if_neg e2]
    refine n_bipush F (-3 : Int32) dX8_runs_23 (by decide) ?_
    exact n_iret F rfl rfl dX8_runs_25
  rw [if_pos e1]
  refine n_bipush F (-2 : Int32) dX8_runs_16 (by decide) ?_
  exact n_iret F rfl rfl dX8_runs_18
theorem dX8_as_0 : decode cX8_as 0 = .ok (.aload_n 0, 1) := by decide +kernel
theorem dX8_as_1 : decode cX8_as 1 = .ok (.iload_n 1, 1) := by decide +kernel
theorem dX8_as_2 : decode cX8_as 2 = .ok (.invokevirtual 147, 3) := by decide +kernel
theorem dX8_as_5 : decode cX8_as 5 = .ok (.ifCond .ne 6, 3) := by decide +kernel
theorem dX8_as_8 : decode cX8_as 8 = .ok (.bipush (-2), 2) := by decide +kernel
theorem dX8_as_10 : decode cX8_as 10 = .ok (.ireturn, 1) := by decide +kernel
theorem dX8_as_11 : decode cX8_as 11 = .ok (.iload_n 2, 1) := by decide +kernel
theorem dX8_as_12 : decode cX8_as 12 = .ok (.i2l, 1) := by decide +kernel
theorem dX8_as_13 : decode cX8_as 13 = .ok (.lconst 0, 1) := by decide +kernel
theorem dX8_as_14 : decode cX8_as 14 = .ok (.ldc2_w 156, 3) := by decide +kernel
theorem dX8_as_17 : decode cX8_as 17 = .ok (.invokestatic 63, 3) := by decide +kernel
theorem dX8_as_20 : decode cX8_as 20 = .ok (.ifCond .ne 6, 3) := by decide +kernel
theorem dX8_as_23 : decode cX8_as 23 = .ok (.bipush (-3), 2) := by decide +kernel
theorem dX8_as_25 : decode cX8_as 25 = .ok (.ireturn, 1) := by decide +kernel
theorem dX8_as_26 : decode cX8_as 26 = .ok (.aload_n 0, 1) := by decide +kernel
theorem dX8_as_27 : decode cX8_as 27 = .ok (.getfield 27, 3) := by decide +kernel
theorem dX8_as_30 : decode cX8_as 30 = .ok (.bipush 6, 2) := by decide +kernel
theorem dX8_as_32 : decode cX8_as 32 = .ok (.iload_n 1, 1) := by decide +kernel
theorem dX8_as_33 : decode cX8_as 33 = .ok (.imul, 1) := by decide +kernel
theorem dX8_as_34 : decode cX8_as 34 = .ok (.iconst 5, 1) := by decide +kernel
theorem dX8_as_35 : decode cX8_as 35 = .ok (.iadd, 1) := by decide +kernel
theorem dX8_as_36 : decode cX8_as 36 = .ok (.iaload, 1) := by decide +kernel
theorem dX8_as_37 : decode cX8_as 37 = .ok (.istore_n 3, 1) := by decide +kernel
theorem dX8_as_38 : decode cX8_as 38 = .ok (.iload_n 2, 1) := by decide +kernel
theorem dX8_as_39 : decode cX8_as 39 = .ok (.ifCond .eq 37, 3) := by decide +kernel
theorem dX8_as_42 : decode cX8_as 42 = .ok (.iload_n 2, 1) := by decide +kernel
theorem dX8_as_43 : decode cX8_as 43 = .ok (.iconst 3, 1) := by decide +kernel
theorem dX8_as_44 : decode cX8_as 44 = .ok (.if_icmp .ge 21, 3) := by decide +kernel
theorem dX8_as_47 : decode cX8_as 47 = .ok (.aload_n 0, 1) := by decide +kernel
theorem dX8_as_48 : decode cX8_as 48 = .ok (.getfield 27, 3) := by decide +kernel
theorem dX8_as_51 : decode cX8_as 51 = .ok (.bipush 6, 2) := by decide +kernel
theorem dX8_as_53 : decode cX8_as 53 = .ok (.iload_n 1, 1) := by decide +kernel
theorem dX8_as_54 : decode cX8_as 54 = .ok (.imul, 1) := by decide +kernel
theorem dX8_as_55 : decode cX8_as 55 = .ok (.iconst 4, 1) := by decide +kernel
theorem dX8_as_56 : decode cX8_as 56 = .ok (.iadd, 1) := by decide +kernel
theorem dX8_as_57 : decode cX8_as 57 = .ok (.iaload, 1) := by decide +kernel
theorem dX8_as_58 : decode cX8_as 58 = .ok (.iload_n 2, 1) := by decide +kernel
theorem dX8_as_59 : decode cX8_as 59 = .ok (.if_icmp .ne 21, 3) := by decide +kernel
theorem dX8_as_62 : decode cX8_as 62 = .ok (.goto 14, 3) := by decide +kernel
theorem dX8_as_65 : decode cX8_as 65 = .ok (.aload_n 0, 1) := by decide +kernel
theorem dX8_as_66 : decode cX8_as 66 = .ok (.getfield 7, 3) := by decide +kernel
theorem dX8_as_69 : decode cX8_as 69 = .ok (.iconst 4, 1) := by decide +kernel
theorem dX8_as_70 : decode cX8_as 70 = .ok (.iload_n 3, 1) := by decide +kernel
theorem dX8_as_71 : decode cX8_as 71 = .ok (.iadd, 1) := by decide +kernel
theorem dX8_as_72 : decode cX8_as 72 = .ok (.iaload, 1) := by decide +kernel
theorem dX8_as_73 : decode cX8_as 73 = .ok (.ifCond .ne 7, 3) := by decide +kernel
theorem dX8_as_76 : decode cX8_as 76 = .ok (.iconst 1, 1) := by decide +kernel
theorem dX8_as_77 : decode cX8_as 77 = .ok (.goto 4, 3) := by decide +kernel
theorem dX8_as_80 : decode cX8_as 80 = .ok (.iconst 0, 1) := by decide +kernel
theorem dX8_as_81 : decode cX8_as 81 = .ok (.istore 4, 2) := by decide +kernel
theorem dX8_as_83 : decode cX8_as 83 = .ok (.iload 4, 2) := by decide +kernel
theorem dX8_as_85 : decode cX8_as 85 = .ok (.ifCond .eq 7, 3) := by decide +kernel
theorem dX8_as_88 : decode cX8_as 88 = .ok (.iload_n 3, 1) := by decide +kernel
theorem dX8_as_89 : decode cX8_as 89 = .ok (.goto 5, 3) := by decide +kernel
theorem dX8_as_92 : decode cX8_as 92 = .ok (.bipush (-4), 2) := by decide +kernel
theorem dX8_as_94 : decode cX8_as 94 = .ok (.ireturn, 1) := by decide +kernel
def Mo_as_B81 (w : Wd) (v3 : Int32) (s0 : Int32) : Option Int32 := (if s0 = (0 : Int32) then some (-4 : Int32) else some v3)
set_option maxRecDepth 100000 in
set_option maxHeartbeats 4000000 in
theorem Mo_as_B81_ok {K : Ctx} (F : Fx K cX8_as 5 RX8 (some .int) 2 46 false [37, 38, 42]) (w : Wd) (v3 : Int32) (s0 : Int32) : N K (rtP w) (Mo_as_B81 w v3 s0) w 81 [(3, .int v3)] [.int s0] := by
  rw [Mo_as_B81]
  refine n_istore F (lv' := [(4, .int s0), (3, .int v3)]) dX8_as_81 (by decide) rfl ?_
  refine n_iload F dX8_as_83 0 rfl ?_
  refine n_if_eq F 92 dX8_as_85 (by decide) (fun e5 => ?_) (fun e5 => ?_)
  · rw [if_pos e5]
    refine n_bipush F (-4 : Int32) dX8_as_92 (by decide) ?_
    exact n_iret F rfl rfl dX8_as_94
  rw [if_neg e5]
  refine n_iload_n F dX8_as_88 rfl 1 rfl ?_
  refine n_goto F 94 dX8_as_89 (by decide) ?_
  exact n_iret F rfl rfl dX8_as_94
def Mo_as (w : Wd) (a1 : Int32) (a2 : Int32) : Option Int32 := (if (Mo_isTrain w a1) = (0 : Int32) then some (-2 : Int32) else (if (Mo_in w (Int32.toInt64 a2) (0 : Int64) (3 : Int64)) = (0 : Int32) then some (-3 : Int32) else (if ib (((6 : Int32) * a1) + (5 : Int32)) 72 = true then (if a2 = (0 : Int32) then (Mo_as_B81 w (w.1 42 (Int32.toNatClampNeg (((6 : Int32) * a1) + (5 : Int32)))) (1 : Int32)) else (if (3 : Int32) ≤ a2 then (if ib ((4 : Int32) + (w.1 42 (Int32.toNatClampNeg (((6 : Int32) * a1) + (5 : Int32))))) 45 = true then (Mo_as_B81 w (w.1 42 (Int32.toNatClampNeg (((6 : Int32) * a1) + (5 : Int32)))) (if (w.1 38 (Int32.toNatClampNeg ((4 : Int32) + (w.1 42 (Int32.toNatClampNeg (((6 : Int32) * a1) + (5 : Int32))))))) = (0 : Int32) then (1 : Int32) else (0 : Int32))) else none) else (if ib (((6 : Int32) * a1) + (4 : Int32)) 72 = true then (Mo_as_B81 w (w.1 42 (Int32.toNatClampNeg (((6 : Int32) * a1) + (5 : Int32)))) (if (w.1 42 (Int32.toNatClampNeg (((6 : Int32) * a1) + (4 : Int32)))) = a2 then (1 : Int32) else (0 : Int32))) else none))) else none)))
set_option maxRecDepth 100000 in
set_option maxHeartbeats 4000000 in
theorem ct_Mo_as {l : Launch} {g : GG} {σ : Sd} (hg : OKg g σ) (hb : σ.2.1 = false) (hx : ∀ c ∈ ([37, 38, 42] : List Nat), c ∈ σ.1) (w : Wd) (a1 : Int32) (a2 : Int32) {q : Int32} (hq : Mo_as w a1 a2 = some q) : CT l g σ yX8_as cX8_as 5 (some .int) 2 46 [.ref (gA g 37), .int a1, .int a2] w (some (.int q)) w := by
  refine ct_of (rt := (rtP w)) (res := Mo_as w a1 a2) (q := q) (own := RX8) (b := false) hg hb hx (by decide) rfl (Nat.le_of_ble_eq_true rfl) hq (fun K e1 e2 e3 F => ?_)
  subst e1 e2 e3
  rw [Mo_as]
  show N K _ _ w 0 [(0, .ref (gA (cg K) 37)), (1, .int a1), (2, .int a2)] []
  refine n_aload_n F dX8_as_0 rfl 0 rfl ?_
  refine n_iload_n F dX8_as_1 rfl 1 rfl ?_
  refine n_callVi F cb_X8_isTrain lm_RX8_147 ob_37 (by decide) ⟨_, _, rfl⟩ (ct_Mo_isTrain (fx_ok F) (fx_sd F) (fx_ix F rfl) w a1) rfl rfl (Nat.le_of_ble_eq_true rfl) ⟨Nat.le_of_ble_eq_true rfl, Nat.le_of_ble_eq_true rfl⟩ dX8_as_2 ?_
  refine n_if_ne F 11 dX8_as_5 (by decide) (fun e1 => ?_) (fun e1 => ?_)
  · rw [if_neg e1]
    refine n_iload_n F dX8_as_11 rfl 2 rfl ?_
    refine n_i2l F dX8_as_12 ?_
    refine n_lconst F (0 : Int64) dX8_as_13 (by decide) ?_
    refine n_ldc2 F (3 : Int64) dX8_as_14 kc_RX8_156 ?_
    refine n_callSi F cb_X8_in lm_RX8_63 (ct_Mo_in (fx_ok F) (fx_sd F) (fx_ix F rfl) w (Int32.toInt64 a2) (0 : Int64) (3 : Int64)) rfl rfl (Nat.le_of_ble_eq_true rfl) ⟨Nat.le_of_ble_eq_true rfl, Nat.le_of_ble_eq_true rfl⟩ dX8_as_17 ?_
    refine n_if_ne F 26 dX8_as_20 (by decide) (fun e2 => ?_) (fun e2 => ?_)
    · rw [if_neg e2]
      refine n_aload_n F dX8_as_26 rfl 0 rfl ?_
      refine n_get F ck_8 lf_RX8_27 (by decide) fg_37_7 (by decide) dX8_as_27 ?_
      refine n_bipush F (6 : Int32) dX8_as_30 (by decide) ?_
      refine n_iload_n F dX8_as_32 rfl 1 rfl ?_
      refine n_imul F dX8_as_33 ?_
      refine n_iconst F (5 : Int32) dX8_as_34 (by decide) ?_
      refine n_iadd F dX8_as_35 ?_
      refine n_chk (fun e3 => ?_)
      refine n_iald F ar_42 (by decide) (ib_in e3) rfl dX8_as_36 ?_
      refine n_istore_n F (lv' := [(3, .int (w.1 42 (Int32.toNatClampNeg (((6 : Int32) * a1) + (5 : Int32))))), (0, .ref (gA (cg K) 37)), (1, .int a1), (2, .int a2)]) dX8_as_37 rfl (by decide) rfl ?_
      refine n_iload_n F dX8_as_38 rfl 3 rfl ?_
      refine n_if_eq F 76 dX8_as_39 (by decide) (fun e4 => ?_) (fun e4 => ?_)
      · rw [if_pos e4]
        refine n_iconst F (1 : Int32) dX8_as_76 (by decide) ?_
        refine n_goto F 81 dX8_as_77 (by decide) ?_
        exact n_sub [0] rfl (Mo_as_B81_ok F w _ _)
      rw [if_neg e4]
      refine n_iload_n F dX8_as_42 rfl 3 rfl ?_
      refine n_iconst F (3 : Int32) dX8_as_43 (by decide) ?_
      refine n_icmp_ge F 65 dX8_as_44 (by decide) (fun e6 => ?_) (fun e6 => ?_)
      · rw [if_pos e6]
        refine n_aload_n F dX8_as_65 rfl 1 rfl ?_
        refine n_get F ck_8 lf_RX8_7 (by decide) fg_37_0 (by decide) dX8_as_66 ?_
        refine n_iconst F (4 : Int32) dX8_as_69 (by decide) ?_
        refine n_iload_n F dX8_as_70 rfl 0 rfl ?_
        refine n_iadd F dX8_as_71 ?_
        refine n_chk (fun e7 => ?_)
        refine n_iald F ar_38 (by decide) (ib_in e7) rfl dX8_as_72 ?_
        refine n_if_ne F 80 dX8_as_73 (by decide) (fun e8 => ?_) (fun e8 => ?_)
        · rw [if_neg e8]
          refine n_iconst F (0 : Int32) dX8_as_80 (by decide) ?_
          exact n_sub [0] rfl (Mo_as_B81_ok F w _ _)
        rw [if_pos e8]
        refine n_iconst F (1 : Int32) dX8_as_76 (by decide) ?_
        refine n_goto F 81 dX8_as_77 (by decide) ?_
        exact n_sub [0] rfl (Mo_as_B81_ok F w _ _)
      rw [if_neg e6]
      refine n_aload_n F dX8_as_47 rfl 1 rfl ?_
      refine n_get F ck_8 lf_RX8_27 (by decide) fg_37_7 (by decide) dX8_as_48 ?_
      refine n_bipush F (6 : Int32) dX8_as_51 (by decide) ?_
      refine n_iload_n F dX8_as_53 rfl 2 rfl ?_
      refine n_imul F dX8_as_54 ?_
      refine n_iconst F (4 : Int32) dX8_as_55 (by decide) ?_
      refine n_iadd F dX8_as_56 ?_
      refine n_chk (fun e9 => ?_)
      refine n_iald F ar_42 (by decide) (ib_in e9) rfl dX8_as_57 ?_
      refine n_iload_n F dX8_as_58 rfl 3 rfl ?_
      refine n_icmp_ne F 80 dX8_as_59 (by decide) (fun e10 => ?_) (fun e10 => ?_)
      · rw [if_neg e10]
        refine n_iconst F (0 : Int32) dX8_as_80 (by decide) ?_
        exact n_sub [0] rfl (Mo_as_B81_ok F w _ _)
      rw [if_pos e10]
      refine n_goto F 76 dX8_as_62 (by decide) ?_
      refine n_iconst F (1 : Int32) dX8_as_76 (by decide) ?_
      refine n_goto F 81 dX8_as_77 (by decide) ?_
      exact n_sub [0] rfl (Mo_as_B81_ok F w _ _)
    rw [if_pos e2]
    refine n_bipush F (-3 : Int32) dX8_as_23 (by decide) ?_
    exact n_iret F rfl rfl dX8_as_25
  rw [if_pos e1]
  refine n_bipush F (-2 : Int32) dX8_as_8 (by decide) ?_
  exact n_iret F rfl rfl dX8_as_10
theorem dX8_ridable_0 : decode cX8_ridable 0 = .ok (.iconst 0, 1) := by decide +kernel
theorem dX8_ridable_1 : decode cX8_ridable 1 = .ok (.istore_n 2, 1) := by decide +kernel
theorem dX8_ridable_2 : decode cX8_ridable 2 = .ok (.iconst 0, 1) := by decide +kernel
theorem dX8_ridable_3 : decode cX8_ridable 3 = .ok (.istore_n 3, 1) := by decide +kernel
theorem dX8_ridable_4 : decode cX8_ridable 4 = .ok (.iload_n 3, 1) := by decide +kernel
theorem dX8_ridable_5 : decode cX8_ridable 5 = .ok (.aload_n 0, 1) := by decide +kernel
theorem dX8_ridable_6 : decode cX8_ridable 6 = .ok (.getfield 131, 3) := by decide +kernel
theorem dX8_ridable_9 : decode cX8_ridable 9 = .ok (.if_icmp .ge 55, 3) := by decide +kernel
theorem dX8_ridable_12 : decode cX8_ridable 12 = .ok (.iload_n 2, 1) := by decide +kernel
theorem dX8_ridable_13 : decode cX8_ridable 13 = .ok (.aload_n 0, 1) := by decide +kernel
theorem dX8_ridable_14 : decode cX8_ridable 14 = .ok (.iload_n 3, 1) := by decide +kernel
theorem dX8_ridable_15 : decode cX8_ridable 15 = .ok (.iload_n 1, 1) := by decide +kernel
theorem dX8_ridable_16 : decode cX8_ridable 16 = .ok (.aload_n 0, 1) := by decide +kernel
theorem dX8_ridable_17 : decode cX8_ridable 17 = .ok (.getfield 7, 3) := by decide +kernel
theorem dX8_ridable_20 : decode cX8_ridable 20 = .ok (.iconst 0, 1) := by decide +kernel
theorem dX8_ridable_21 : decode cX8_ridable 21 = .ok (.iaload, 1) := by decide +kernel
theorem dX8_ridable_22 : decode cX8_ridable 22 = .ok (.invokevirtual 152, 3) := by decide +kernel
theorem dX8_ridable_25 : decode cX8_ridable 25 = .ok (.ifCond .eq 30, 3) := by decide +kernel
theorem dX8_ridable_28 : decode cX8_ridable 28 = .ok (.aload_n 0, 1) := by decide +kernel
theorem dX8_ridable_29 : decode cX8_ridable 29 = .ok (.getfield 7, 3) := by decide +kernel
theorem dX8_ridable_32 : decode cX8_ridable 32 = .ok (.iconst 4, 1) := by decide +kernel
theorem dX8_ridable_33 : decode cX8_ridable 33 = .ok (.aload_n 0, 1) := by decide +kernel
theorem dX8_ridable_34 : decode cX8_ridable 34 = .ok (.getfield 27, 3) := by decide +kernel
theorem dX8_ridable_37 : decode cX8_ridable 37 = .ok (.bipush 6, 2) := by decide +kernel
theorem dX8_ridable_39 : decode cX8_ridable 39 = .ok (.iload_n 3, 1) := by decide +kernel
theorem dX8_ridable_40 : decode cX8_ridable 40 = .ok (.imul, 1) := by decide +kernel
theorem dX8_ridable_41 : decode cX8_ridable 41 = .ok (.iconst 5, 1) := by decide +kernel
theorem dX8_ridable_42 : decode cX8_ridable 42 = .ok (.iadd, 1) := by decide +kernel
theorem dX8_ridable_43 : decode cX8_ridable 43 = .ok (.iaload, 1) := by decide +kernel
theorem dX8_ridable_44 : decode cX8_ridable 44 = .ok (.iadd, 1) := by decide +kernel
theorem dX8_ridable_45 : decode cX8_ridable 45 = .ok (.iaload, 1) := by decide +kernel
theorem dX8_ridable_46 : decode cX8_ridable 46 = .ok (.ifCond .le 9, 3) := by decide +kernel
theorem dX8_ridable_49 : decode cX8_ridable 49 = .ok (.iconst 1, 1) := by decide +kernel
theorem dX8_ridable_50 : decode cX8_ridable 50 = .ok (.iload_n 3, 1) := by decide +kernel
theorem dX8_ridable_51 : decode cX8_ridable 51 = .ok (.ishl, 1) := by decide +kernel
theorem dX8_ridable_52 : decode cX8_ridable 52 = .ok (.goto 4, 3) := by decide +kernel
theorem dX8_ridable_55 : decode cX8_ridable 55 = .ok (.iconst 0, 1) := by decide +kernel
theorem dX8_ridable_56 : decode cX8_ridable 56 = .ok (.ior, 1) := by decide +kernel
theorem dX8_ridable_57 : decode cX8_ridable 57 = .ok (.istore_n 2, 1) := by decide +kernel
theorem dX8_ridable_58 : decode cX8_ridable 58 = .ok (.iinc 3 1, 3) := by decide +kernel
theorem dX8_ridable_61 : decode cX8_ridable 61 = .ok (.goto (-57), 3) := by decide +kernel
theorem dX8_ridable_64 : decode cX8_ridable 64 = .ok (.iload_n 2, 1) := by decide +kernel
theorem dX8_ridable_65 : decode cX8_ridable 65 = .ok (.ireturn, 1) := by decide +kernel
def Mo_ridable_L4 (w : Wd) (k64 : Int32 → Option Int32) : Nat → Int32 → Int32 → Int32 → Option Int32
  | 0, _, _, _ => none
  | n + 1, v1, v2, v3 => (if (w.1 37 8) ≤ v3 then (k64 v2) else (Option.bind (Mo_leaves w v3 v1 (w.1 38 0)) (fun q2 => (if q2 = (0 : Int32) then (Mo_ridable_L4 w k64 n v1 (v2 ||| (0 : Int32)) (v3 + (1 : Int32))) else (if ib (((6 : Int32) * v3) + (5 : Int32)) 72 = true then (if ib ((4 : Int32) + (w.1 42 (Int32.toNatClampNeg (((6 : Int32) * v3) + (5 : Int32))))) 45 = true then (Mo_ridable_L4 w k64 n v1 (if (w.1 38 (Int32.toNatClampNeg ((4 : Int32) + (w.1 42 (Int32.toNatClampNeg (((6 : Int32) * v3) + (5 : Int32))))))) ≤ (0 : Int32) then (v2 ||| (0 : Int32)) else (v2 ||| ((1 : Int32) <<< (v3 &&& (31 : Int32))))) (v3 + (1 : Int32))) else none) else none)))))
set_option maxRecDepth 100000 in
set_option maxHeartbeats 4000000 in
theorem Mo_ridable_L4_ok {K : Ctx} (F : Fx K cX8_ridable 4 RX8 (some .int) 1 23 false [37, 38, 42]) (w : Wd) {k64 : Int32 → Option Int32} (h64 : ∀ (v2 : Int32), N K (rtP w) (k64 v2) w 64 [(2, .int v2)] []) : ∀ (n : Nat) (v1 : Int32) (v2 : Int32) (v3 : Int32), N K (rtP w) (Mo_ridable_L4 w k64 n v1 v2 v3) w 4 [(0, .ref (gA (cg K) 37)), (1, .int v1), (2, .int v2), (3, .int v3)] [] := by
  intro n
  induction n with
  | zero => intro _ _ _; exact n_none
  | succ n ih =>
    intro v1 v2 v3
    rw [Mo_ridable_L4]
    refine n_iload_n F dX8_ridable_4 rfl 3 rfl ?_
    refine n_aload_n F dX8_ridable_5 rfl 0 rfl ?_
    refine n_get F ck_8 lf_RX8_131 (by decide) fg_37_8 (by decide) dX8_ridable_6 ?_
    refine n_icmp_ge F 64 dX8_ridable_9 (by decide) (fun e1 => ?_) (fun e1 => ?_)
    · rw [if_pos e1]
      exact n_sub [2] rfl (h64 _)
    rw [if_neg e1]
    refine n_iload_n F dX8_ridable_12 rfl 2 rfl ?_
    refine n_aload_n F dX8_ridable_13 rfl 0 rfl ?_
    refine n_iload_n F dX8_ridable_14 rfl 3 rfl ?_
    refine n_iload_n F dX8_ridable_15 rfl 1 rfl ?_
    refine n_aload_n F dX8_ridable_16 rfl 0 rfl ?_
    refine n_get F ck_8 lf_RX8_7 (by decide) fg_37_0 (by decide) dX8_ridable_17 ?_
    refine n_iconst F (0 : Int32) dX8_ridable_20 (by decide) ?_
    refine n_iald F ar_38 (by decide) (ib_c (n := 45) (by decide)) (j := 0) (by decide) dX8_ridable_21 ?_
    refine n_bind (fun q2 hq2 => ?_)
    refine n_callVi F cb_X8_leaves lm_RX8_152 ob_37 (by decide) ⟨_, _, rfl⟩ (ct_Mo_leaves (fx_ok F) (fx_sd F) (fx_ix F rfl) w v3 v1 (w.1 38 0) hq2) rfl rfl (Nat.le_of_ble_eq_true rfl) ⟨Nat.le_of_ble_eq_true rfl, Nat.le_of_ble_eq_true rfl⟩ dX8_ridable_22 ?_
    refine n_if_eq F 55 dX8_ridable_25 (by decide) (fun e3 => ?_) (fun e3 => ?_)
    · rw [if_pos e3]
      refine n_iconst F (0 : Int32) dX8_ridable_55 (by decide) ?_
      refine n_ior F dX8_ridable_56 ?_
      refine n_istore_n F (lv' := [(2, .int (v2 ||| (0 : Int32))), (0, .ref (gA (cg K) 37)), (1, .int v1), (3, .int v3)]) dX8_ridable_57 rfl (by decide) rfl ?_
      refine n_iinc F (v3 + (1 : Int32)) (lv' := [(3, .int (v3 + (1 : Int32))), (2, .int (v2 ||| (0 : Int32))), (0, .ref (gA (cg K) 37)), (1, .int v1)]) dX8_ridable_58 3 rfl rfl (by decide) rfl ?_
      refine n_goto F 4 dX8_ridable_61 (by decide) ?_
      exact n_sub [2, 3, 1, 0] rfl (ih _ _ _)
    rw [if_neg e3]
    refine n_aload_n F dX8_ridable_28 rfl 0 rfl ?_
    refine n_get F ck_8 lf_RX8_7 (by decide) fg_37_0 (by decide) dX8_ridable_29 ?_
    refine n_iconst F (4 : Int32) dX8_ridable_32 (by decide) ?_
    refine n_aload_n F dX8_ridable_33 rfl 0 rfl ?_
    refine n_get F ck_8 lf_RX8_27 (by decide) fg_37_7 (by decide) dX8_ridable_34 ?_
    refine n_bipush F (6 : Int32) dX8_ridable_37 (by decide) ?_
    refine n_iload_n F dX8_ridable_39 rfl 3 rfl ?_
    refine n_imul F dX8_ridable_40 ?_
    refine n_iconst F (5 : Int32) dX8_ridable_41 (by decide) ?_
    refine n_iadd F dX8_ridable_42 ?_
    refine n_chk (fun e4 => ?_)
    refine n_iald F ar_42 (by decide) (ib_in e4) rfl dX8_ridable_43 ?_
    refine n_iadd F dX8_ridable_44 ?_
    refine n_chk (fun e5 => ?_)
    refine n_iald F ar_38 (by decide) (ib_in e5) rfl dX8_ridable_45 ?_
    refine n_if_le F 55 dX8_ridable_46 (by decide) (fun e6 => ?_) (fun e6 => ?_)
    · rw [if_pos e6]
      refine n_iconst F (0 : Int32) dX8_ridable_55 (by decide) ?_
      refine n_ior F dX8_ridable_56 ?_
      refine n_istore_n F (lv' := [(2, .int (v2 ||| (0 : Int32))), (0, .ref (gA (cg K) 37)), (1, .int v1), (3, .int v3)]) dX8_ridable_57 rfl (by decide) rfl ?_
      refine n_iinc F (v3 + (1 : Int32)) (lv' := [(3, .int (v3 + (1 : Int32))), (2, .int (v2 ||| (0 : Int32))), (0, .ref (gA (cg K) 37)), (1, .int v1)]) dX8_ridable_58 3 rfl rfl (by decide) rfl ?_
      refine n_goto F 4 dX8_ridable_61 (by decide) ?_
      exact n_sub [2, 3, 1, 0] rfl (ih _ _ _)
    rw [if_neg e6]
    refine n_iconst F (1 : Int32) dX8_ridable_49 (by decide) ?_
    refine n_iload_n F dX8_ridable_50 rfl 3 rfl ?_
    refine n_ishl F dX8_ridable_51 ?_
    refine n_goto F 56 dX8_ridable_52 (by decide) ?_
    refine n_ior F dX8_ridable_56 ?_
    refine n_istore_n F (lv' := [(2, .int (v2 ||| ((1 : Int32) <<< (v3 &&& (31 : Int32))))), (0, .ref (gA (cg K) 37)), (1, .int v1), (3, .int v3)]) dX8_ridable_57 rfl (by decide) rfl ?_
    refine n_iinc F (v3 + (1 : Int32)) (lv' := [(3, .int (v3 + (1 : Int32))), (2, .int (v2 ||| ((1 : Int32) <<< (v3 &&& (31 : Int32))))), (0, .ref (gA (cg K) 37)), (1, .int v1)]) dX8_ridable_58 3 rfl rfl (by decide) rfl ?_
    refine n_goto F 4 dX8_ridable_61 (by decide) ?_
    exact n_sub [2, 3, 1, 0] rfl (ih _ _ _)
def Mo_ridable_B64 (w : Wd) (v2 : Int32) : Option Int32 := some v2
set_option maxRecDepth 100000 in
set_option maxHeartbeats 4000000 in
theorem Mo_ridable_B64_ok {K : Ctx} (F : Fx K cX8_ridable 4 RX8 (some .int) 1 23 false [37, 38, 42]) (w : Wd) (v2 : Int32) : N K (rtP w) (Mo_ridable_B64 w v2) w 64 [(2, .int v2)] [] := by
  rw [Mo_ridable_B64]
  refine n_iload_n F dX8_ridable_64 rfl 0 rfl ?_
  exact n_iret F rfl rfl dX8_ridable_65
def Mo_ridable (w : Wd) (a1 : Int32) : Option Int32 := (Mo_ridable_L4 w (Mo_ridable_B64 w) FU a1 (0 : Int32) (0 : Int32))
set_option maxRecDepth 100000 in
set_option maxHeartbeats 4000000 in
theorem ct_Mo_ridable {l : Launch} {g : GG} {σ : Sd} (hg : OKg g σ) (hb : σ.2.1 = false) (hx : ∀ c ∈ ([37, 38, 42] : List Nat), c ∈ σ.1) (w : Wd) (a1 : Int32) {q : Int32} (hq : Mo_ridable w a1 = some q) : CT l g σ yX8_ridable cX8_ridable 4 (some .int) 1 23 [.ref (gA g 37), .int a1] w (some (.int q)) w := by
  refine ct_of (rt := (rtP w)) (res := Mo_ridable w a1) (q := q) (own := RX8) (b := false) hg hb hx (by decide) rfl (Nat.le_of_ble_eq_true rfl) hq (fun K e1 e2 e3 F => ?_)
  subst e1 e2 e3
  rw [Mo_ridable]
  show N K _ _ w 0 [(0, .ref (gA (cg K) 37)), (1, .int a1)] []
  refine n_iconst F (0 : Int32) dX8_ridable_0 (by decide) ?_
  refine n_istore_n F (lv' := [(2, .int (0 : Int32)), (0, .ref (gA (cg K) 37)), (1, .int a1)]) dX8_ridable_1 rfl (by decide) rfl ?_
  refine n_iconst F (0 : Int32) dX8_ridable_2 (by decide) ?_
  refine n_istore_n F (lv' := [(3, .int (0 : Int32)), (2, .int (0 : Int32)), (0, .ref (gA (cg K) 37)), (1, .int a1)]) dX8_ridable_3 rfl (by decide) rfl ?_
  exact n_sub [2, 3, 1, 0] rfl (Mo_ridable_L4_ok F w (Mo_ridable_B64_ok F w) FU _ _ _)
theorem dX8_hisTrains_0 : decode cX8_hisTrains 0 = .ok (.aload_n 0, 1) := by decide +kernel
theorem dX8_hisTrains_1 : decode cX8_hisTrains 1 = .ok (.getfield 7, 3) := by decide +kernel
theorem dX8_hisTrains_4 : decode cX8_hisTrains 4 = .ok (.iconst 2, 1) := by decide +kernel
theorem dX8_hisTrains_5 : decode cX8_hisTrains 5 = .ok (.iaload, 1) := by decide +kernel
theorem dX8_hisTrains_6 : decode cX8_hisTrains 6 = .ok (.iconst 1, 1) := by decide +kernel
theorem dX8_hisTrains_7 : decode cX8_hisTrains 7 = .ok (.if_icmp .eq 13, 3) := by decide +kernel
theorem dX8_hisTrains_10 : decode cX8_hisTrains 10 = .ok (.aload_n 0, 1) := by decide +kernel
theorem dX8_hisTrains_11 : decode cX8_hisTrains 11 = .ok (.getfield 7, 3) := by decide +kernel
theorem dX8_hisTrains_14 : decode cX8_hisTrains 14 = .ok (.iconst 3, 1) := by decide +kernel
theorem dX8_hisTrains_15 : decode cX8_hisTrains 15 = .ok (.iaload, 1) := by decide +kernel
theorem dX8_hisTrains_16 : decode cX8_hisTrains 16 = .ok (.iconst 1, 1) := by decide +kernel
theorem dX8_hisTrains_17 : decode cX8_hisTrains 17 = .ok (.if_icmp .ne 7, 3) := by decide +kernel
theorem dX8_hisTrains_20 : decode cX8_hisTrains 20 = .ok (.iconst 0, 1) := by decide +kernel
theorem dX8_hisTrains_21 : decode cX8_hisTrains 21 = .ok (.goto 13, 3) := by decide +kernel
theorem dX8_hisTrains_24 : decode cX8_hisTrains 24 = .ok (.aload_n 0, 1) := by decide +kernel
theorem dX8_hisTrains_25 : decode cX8_hisTrains 25 = .ok (.aload_n 0, 1) := by decide +kernel
theorem dX8_hisTrains_26 : decode cX8_hisTrains 26 = .ok (.getfield 7, 3) := by decide +kernel
theorem dX8_hisTrains_29 : decode cX8_hisTrains 29 = .ok (.iconst 1, 1) := by decide +kernel
theorem dX8_hisTrains_30 : decode cX8_hisTrains 30 = .ok (.iaload, 1) := by decide +kernel
theorem dX8_hisTrains_31 : decode cX8_hisTrains 31 = .ok (.invokevirtual 158, 3) := by decide +kernel
theorem dX8_hisTrains_34 : decode cX8_hisTrains 34 = .ok (.ireturn, 1) := by decide +kernel
def Mo_hisTrains (w : Wd) : Option Int32 := (if (w.1 38 2) = (1 : Int32) then some (0 : Int32) else (if (w.1 38 3) = (1 : Int32) then some (0 : Int32) else (Option.bind (Mo_ridable w (w.1 38 1)) (fun q3 => some q3))))
set_option maxRecDepth 100000 in
set_option maxHeartbeats 4000000 in
theorem ct_Mo_hisTrains {l : Launch} {g : GG} {σ : Sd} (hg : OKg g σ) (hb : σ.2.1 = false) (hx : ∀ c ∈ ([37, 38, 42] : List Nat), c ∈ σ.1) (w : Wd) {q : Int32} (hq : Mo_hisTrains w = some q) : CT l g σ yX8_hisTrains cX8_hisTrains 1 (some .int) 2 46 [.ref (gA g 37)] w (some (.int q)) w := by
  refine ct_of (rt := (rtP w)) (res := Mo_hisTrains w) (q := q) (own := RX8) (b := false) hg hb hx (by decide) rfl (Nat.le_of_ble_eq_true rfl) hq (fun K e1 e2 e3 F => ?_)
  subst e1 e2 e3
  rw [Mo_hisTrains]
  show N K _ _ w 0 [(0, .ref (gA (cg K) 37))] []
  refine n_aload_n F dX8_hisTrains_0 rfl 0 rfl ?_
  refine n_get F ck_8 lf_RX8_7 (by decide) fg_37_0 (by decide) dX8_hisTrains_1 ?_
  refine n_iconst F (2 : Int32) dX8_hisTrains_4 (by decide) ?_
  refine n_iald F ar_38 (by decide) (ib_c (n := 45) (by decide)) (j := 2) (by decide) dX8_hisTrains_5 ?_
  refine n_iconst F (1 : Int32) dX8_hisTrains_6 (by decide) ?_
  refine n_icmp_eq F 20 dX8_hisTrains_7 (by decide) (fun e1 => ?_) (fun e1 => ?_)
  · rw [if_pos e1]
    refine n_iconst F (0 : Int32) dX8_hisTrains_20 (by decide) ?_
    refine n_goto F 34 dX8_hisTrains_21 (by decide) ?_
    exact n_iret F rfl rfl dX8_hisTrains_34
  rw [if_neg e1]
  refine n_aload_n F dX8_hisTrains_10 rfl 0 rfl ?_
  refine n_get F ck_8 lf_RX8_7 (by decide) fg_37_0 (by decide) dX8_hisTrains_11 ?_
  refine n_iconst F (3 : Int32) dX8_hisTrains_14 (by decide) ?_
  refine n_iald F ar_38 (by decide) (ib_c (n := 45) (by decide)) (j := 3) (by decide) dX8_hisTrains_15 ?_
  refine n_iconst F (1 : Int32) dX8_hisTrains_16 (by decide) ?_
  refine n_icmp_ne F 24 dX8_hisTrains_17 (by decide) (fun e2 => ?_) (fun e2 => ?_)
  · rw [if_neg e2]
    refine n_aload_n F dX8_hisTrains_24 rfl 0 rfl ?_
    refine n_aload_n F dX8_hisTrains_25 rfl 0 rfl ?_
    refine n_get F ck_8 lf_RX8_7 (by decide) fg_37_0 (by decide) dX8_hisTrains_26 ?_
    refine n_iconst F (1 : Int32) dX8_hisTrains_29 (by decide) ?_
    refine n_iald F ar_38 (by decide) (ib_c (n := 45) (by decide)) (j := 1) (by decide) dX8_hisTrains_30 ?_
    refine n_bind (fun q3 hq3 => ?_)
    refine n_callVi F cb_X8_ridable lm_RX8_158 ob_37 (by decide) ⟨_, _, rfl⟩ (ct_Mo_ridable (fx_ok F) (fx_sd F) (fx_ix F rfl) w (w.1 38 1) hq3) rfl rfl (Nat.le_of_ble_eq_true rfl) ⟨Nat.le_of_ble_eq_true rfl, Nat.le_of_ble_eq_true rfl⟩ dX8_hisTrains_31 ?_
    exact n_iret F rfl rfl dX8_hisTrains_34
  rw [if_pos e2]
  refine n_iconst F (0 : Int32) dX8_hisTrains_20 (by decide) ?_
  refine n_goto F 34 dX8_hisTrains_21 (by decide) ?_
  exact n_iret F rfl rfl dX8_hisTrains_34
theorem dX8_ride_0 : decode cX8_ride 0 = .ok (.aload_n 0, 1) := by decide +kernel
theorem dX8_ride_1 : decode cX8_ride 1 = .ok (.iload_n 1, 1) := by decide +kernel
theorem dX8_ride_2 : decode cX8_ride 2 = .ok (.invokevirtual 147, 3) := by decide +kernel
theorem dX8_ride_5 : decode cX8_ride 5 = .ok (.ifCond .ne 6, 3) := by decide +kernel
theorem dX8_ride_8 : decode cX8_ride 8 = .ok (.bipush (-2), 2) := by decide +kernel
theorem dX8_ride_10 : decode cX8_ride 10 = .ok (.ireturn, 1) := by decide +kernel
theorem dX8_ride_11 : decode cX8_ride 11 = .ok (.aload_n 0, 1) := by decide +kernel
theorem dX8_ride_12 : decode cX8_ride 12 = .ok (.invokevirtual 161, 3) := by decide +kernel
theorem dX8_ride_15 : decode cX8_ride 15 = .ok (.iload_n 1, 1) := by decide +kernel
theorem dX8_ride_16 : decode cX8_ride 16 = .ok (.invokestatic 164, 3) := by decide +kernel
theorem dX8_ride_19 : decode cX8_ride 19 = .ok (.ifCond .ne 6, 3) := by decide +kernel
theorem dX8_ride_22 : decode cX8_ride 22 = .ok (.bipush (-4), 2) := by decide +kernel
theorem dX8_ride_24 : decode cX8_ride 24 = .ok (.ireturn, 1) := by decide +kernel
theorem dX8_ride_25 : decode cX8_ride 25 = .ok (.aload_n 0, 1) := by decide +kernel
theorem dX8_ride_26 : decode cX8_ride 26 = .ok (.getfield 7, 3) := by decide +kernel
theorem dX8_ride_29 : decode cX8_ride 29 = .ok (.bipush 7, 2) := by decide +kernel
theorem dX8_ride_31 : decode cX8_ride 31 = .ok (.iload_n 1, 1) := by decide +kernel
theorem dX8_ride_32 : decode cX8_ride 32 = .ok (.iastore, 1) := by decide +kernel
theorem dX8_ride_33 : decode cX8_ride 33 = .ok (.aload_n 0, 1) := by decide +kernel
theorem dX8_ride_34 : decode cX8_ride 34 = .ok (.getfield 27, 3) := by decide +kernel
theorem dX8_ride_37 : decode cX8_ride 37 = .ok (.bipush 6, 2) := by decide +kernel
theorem dX8_ride_39 : decode cX8_ride 39 = .ok (.iload_n 1, 1) := by decide +kernel
theorem dX8_ride_40 : decode cX8_ride 40 = .ok (.imul, 1) := by decide +kernel
theorem dX8_ride_41 : decode cX8_ride 41 = .ok (.iconst 1, 1) := by decide +kernel
theorem dX8_ride_42 : decode cX8_ride 42 = .ok (.iadd, 1) := by decide +kernel
theorem dX8_ride_43 : decode cX8_ride 43 = .ok (.iaload, 1) := by decide +kernel
theorem dX8_ride_44 : decode cX8_ride 44 = .ok (.ireturn, 1) := by decide +kernel
def Mo_ride (w : Wd) (a1 : Int32) : Option (Int32 × Wd) := (if (Mo_isTrain w a1) = (0 : Int32) then some ((-2 : Int32), w) else (Option.bind (Mo_hisTrains w) (fun q2 => (if (Mo_has w q2 a1) = (0 : Int32) then some ((-4 : Int32), w) else (if ib (((6 : Int32) * a1) + (1 : Int32)) 72 = true then some (((sI w 38 7 a1).1 42 (Int32.toNatClampNeg (((6 : Int32) * a1) + (1 : Int32)))), (sI w 38 7 a1)) else none)))))
set_option maxRecDepth 100000 in
set_option maxHeartbeats 4000000 in
theorem ct_Mo_ride {l : Launch} {g : GG} {σ : Sd} (hg : OKg g σ) (hb : σ.2.1 = false) (hx : ∀ c ∈ ([37, 38, 42] : List Nat), c ∈ σ.1) (w : Wd) (a1 : Int32) {q : Int32 × Wd} (hq : Mo_ride w a1 = some q) : CT l g σ yX8_ride cX8_ride 2 (some .int) 3 66 [.ref (gA g 37), .int a1] w (some (.int q.1)) q.2 := by
  refine ct_of (rt := rtI) (res := Mo_ride w a1) (q := q) (own := RX8) (b := false) hg hb hx (by decide) rfl (Nat.le_of_ble_eq_true rfl) hq (fun K e1 e2 e3 F => ?_)
  subst e1 e2 e3
  rw [Mo_ride]
  show N K _ _ w 0 [(0, .ref (gA (cg K) 37)), (1, .int a1)] []
  refine n_aload_n F dX8_ride_0 rfl 0 rfl ?_
  refine n_iload_n F dX8_ride_1 rfl 1 rfl ?_
  refine n_callVi F cb_X8_isTrain lm_RX8_147 ob_37 (by decide) ⟨_, _, rfl⟩ (ct_Mo_isTrain (fx_ok F) (fx_sd F) (fx_ix F rfl) w a1) rfl rfl (Nat.le_of_ble_eq_true rfl) ⟨Nat.le_of_ble_eq_true rfl, Nat.le_of_ble_eq_true rfl⟩ dX8_ride_2 ?_
  refine n_if_ne F 11 dX8_ride_5 (by decide) (fun e1 => ?_) (fun e1 => ?_)
  · rw [if_neg e1]
    refine n_aload_n F dX8_ride_11 rfl 0 rfl ?_
    refine n_bind (fun q2 hq2 => ?_)
    refine n_callVi F cb_X8_hisTrains lm_RX8_161 ob_37 (by decide) ⟨_, _, rfl⟩ (ct_Mo_hisTrains (fx_ok F) (fx_sd F) (fx_ix F rfl) w hq2) rfl rfl (Nat.le_of_ble_eq_true rfl) ⟨Nat.le_of_ble_eq_true rfl, Nat.le_of_ble_eq_true rfl⟩ dX8_ride_12 ?_
    refine n_iload_n F dX8_ride_15 rfl 1 rfl ?_
    refine n_callSi F cb_X8_has lm_RX8_164 (ct_Mo_has (fx_ok F) (fx_sd F) (fx_ix F rfl) w q2 a1) rfl rfl (Nat.le_of_ble_eq_true rfl) ⟨Nat.le_of_ble_eq_true rfl, Nat.le_of_ble_eq_true rfl⟩ dX8_ride_16 ?_
    refine n_if_ne F 25 dX8_ride_19 (by decide) (fun e3 => ?_) (fun e3 => ?_)
    · rw [if_neg e3]
      refine n_aload_n F dX8_ride_25 rfl 0 rfl ?_
      refine n_get F ck_8 lf_RX8_7 (by decide) fg_37_0 (by decide) dX8_ride_26 ?_
      refine n_bipush F (7 : Int32) dX8_ride_29 (by decide) ?_
      refine n_iload_n F dX8_ride_31 rfl 1 rfl ?_
      refine n_iast F ar_38 (by decide) (ib_c (n := 45) (by decide)) (j := 7) (by decide) dX8_ride_32 ?_
      refine n_aload_n F dX8_ride_33 rfl 0 rfl ?_
      refine n_get F ck_8 lf_RX8_27 (by decide) fg_37_7 (by decide) dX8_ride_34 ?_
      refine n_bipush F (6 : Int32) dX8_ride_37 (by decide) ?_
      refine n_iload_n F dX8_ride_39 rfl 1 rfl ?_
      refine n_imul F dX8_ride_40 ?_
      refine n_iconst F (1 : Int32) dX8_ride_41 (by decide) ?_
      refine n_iadd F dX8_ride_42 ?_
      refine n_chk (fun e4 => ?_)
      refine n_iald F ar_42 (by decide) (ib_in e4) rfl dX8_ride_43 ?_
      exact n_iret F rfl rfl dX8_ride_44
    rw [if_pos e3]
    refine n_bipush F (-4 : Int32) dX8_ride_22 (by decide) ?_
    exact n_iret F rfl rfl dX8_ride_24
  rw [if_pos e1]
  refine n_bipush F (-2 : Int32) dX8_ride_8 (by decide) ?_
  exact n_iret F rfl rfl dX8_ride_10
