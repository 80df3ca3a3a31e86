theorem dX8_copy_0 : decode cX8_copy 0 = .ok (.iconst 0, 1) := by decide +kernel
theorem dX8_copy_1 : decode cX8_copy 1 = .ok (.istore_n 3, 1) := by decide +kernel
theorem dX8_copy_2 : decode cX8_copy 2 = .ok (.iload_n 3, 1) := by decide +kernel
theorem dX8_copy_3 : decode cX8_copy 3 = .ok (.bipush 15, 2) := by decide +kernel
theorem dX8_copy_5 : decode cX8_copy 5 = .ok (.if_icmp .ge 31, 3) := by decide +kernel
theorem dX8_copy_8 : decode cX8_copy 8 = .ok (.aload_n 0, 1) := by decide +kernel
theorem dX8_copy_9 : decode cX8_copy 9 = .ok (.getfield 7, 3) := by decide +kernel
theorem dX8_copy_12 : decode cX8_copy 12 = .ok (.bipush 15, 2) := by decide +kernel
theorem dX8_copy_14 : decode cX8_copy 14 = .ok (.iload_n 2, 1) := by decide +kernel
theorem dX8_copy_15 : decode cX8_copy 15 = .ok (.imul, 1) := by decide +kernel
theorem dX8_copy_16 : decode cX8_copy 16 = .ok (.iload_n 3, 1) := by decide +kernel
theorem dX8_copy_17 : decode cX8_copy 17 = .ok (.iadd, 1) := by decide +kernel
theorem dX8_copy_18 : decode cX8_copy 18 = .ok (.aload_n 0, 1) := by decide +kernel
theorem dX8_copy_19 : decode cX8_copy 19 = .ok (.getfield 7, 3) := by decide +kernel
theorem dX8_copy_22 : decode cX8_copy 22 = .ok (.bipush 15, 2) := by decide +kernel
theorem dX8_copy_24 : decode cX8_copy 24 = .ok (.iload_n 1, 1) := by decide +kernel
theorem dX8_copy_25 : decode cX8_copy 25 = .ok (.imul, 1) := by decide +kernel
theorem dX8_copy_26 : decode cX8_copy 26 = .ok (.iload_n 3, 1) := by decide +kernel
theorem dX8_copy_27 : decode cX8_copy 27 = .ok (.iadd, 1) := by decide +kernel
theorem dX8_copy_28 : decode cX8_copy 28 = .ok (.iaload, 1) := by decide +kernel
theorem dX8_copy_29 : decode cX8_copy 29 = .ok (.iastore, 1) := by decide +kernel
theorem dX8_copy_30 : decode cX8_copy 30 = .ok (.iinc 3 1, 3) := by decide +kernel
theorem dX8_copy_33 : decode cX8_copy 33 = .ok (.goto (-31), 3) := by decide +kernel
theorem dX8_copy_36 : decode cX8_copy 36 = .ok (.return_, 1) := by decide +kernel
def Mo_copy_L2 (k36 : Wd → Option Wd) : Nat → Wd → Int32 → Int32 → Int32 → Option Wd
  | 0, _, _, _, _ => none
  | n + 1, w, v1, v2, v3 => (if (15 : Int32) ≤ v3 then (k36 w) else (if ib (((15 : Int32) * v1) + v3) 45 = true then (if ib (((15 : Int32) * v2) + v3) 45 = true then (Mo_copy_L2 k36 n (sI w 38 (Int32.toNatClampNeg (((15 : Int32) * v2) + v3)) (w.1 38 (Int32.toNatClampNeg (((15 : Int32) * v1) + v3)))) v1 v2 (v3 + (1 : Int32))) else none) else none))
set_option maxRecDepth 100000 in
set_option maxHeartbeats 4000000 in
theorem Mo_copy_L2_ok {K : Ctx} (F : Fx K cX8_copy 4 RX8 none 0 0 false [37, 38]) {k36 : Wd → Option Wd} (h36 : ∀ (w : Wd), N K rtV (k36 w) w 36 [] []) : ∀ (n : Nat) (w : Wd) (v1 : Int32) (v2 : Int32) (v3 : Int32), N K rtV (Mo_copy_L2 k36 n w v1 v2 v3) w 2 [(0, .ref (gA (cg K) 37)), (1, .int v1), (2, .int v2), (3, .int v3)] [] := by
  intro n
  induction n with
  | zero => intro _ _ _ _; exact n_none
  | succ n ih =>
    intro w v1 v2 v3
    rw [Mo_copy_L2]
    refine n_iload_n F dX8_copy_2 rfl 3 rfl ?_
    refine n_bipush F (15 : Int32) dX8_copy_3 (by decide) ?_
    refine n_icmp_ge F 36 dX8_copy_5 (by decide) (fun e1 => ?_) (fun e1 => ?_)
    · rw [if_pos e1]
      exact n_sub [] rfl (h36 _)
    rw [if_neg e1]
    refine n_aload_n F dX8_copy_8 rfl 0 rfl ?_
    refine n_get F ck_8 lf_RX8_7 (by decide) fg_37_0 (by decide) dX8_copy_9 ?_
    refine n_bipush F (15 : Int32) dX8_copy_12 (by decide) ?_
    refine n_iload_n F dX8_copy_14 rfl 2 rfl ?_
    refine n_imul F dX8_copy_15 ?_
    refine n_iload_n F dX8_copy_16 rfl 3 rfl ?_
    refine n_iadd F dX8_copy_17 ?_
    refine n_aload_n F dX8_copy_18 rfl 0 rfl ?_
    refine n_get F ck_8 lf_RX8_7 (by decide) fg_37_0 (by decide) dX8_copy_19 ?_
    refine n_bipush F (15 : Int32) dX8_copy_22 (by decide) ?_
    refine n_iload_n F dX8_copy_24 rfl 1 rfl ?_
    refine n_imul F dX8_copy_25 ?_
    refine n_iload_n F dX8_copy_26 rfl 3 rfl ?_
    refine n_iadd F dX8_copy_27 ?_
    refine n_chk (fun e2 => ?_)
    refine n_iald F ar_38 (by decide) (ib_in e2) rfl dX8_copy_28 ?_
    refine n_chk (fun e3 => ?_)
    refine n_iast F ar_38 (by decide) (ib_in e3) rfl dX8_copy_29 ?_
    refine n_iinc F (v3 + (1 : Int32)) (lv' := [(3, .int (v3 + (1 : Int32))), (0, .ref (gA (cg K) 37)), (1, .int v1), (2, .int v2)]) dX8_copy_30 3 rfl rfl (by decide) rfl ?_
    refine n_goto F 2 dX8_copy_33 (by decide) ?_
    exact n_sub [1, 2, 3, 0] rfl (ih _ _ _ _)
def Mo_copy_B36 (w : Wd) : Option Wd := some w
set_option maxRecDepth 100000 in
set_option maxHeartbeats 4000000 in
theorem Mo_copy_B36_ok {K : Ctx} (F : Fx K cX8_copy 4 RX8 none 0 0 false [37, 38]) (w : Wd) : N K rtV (Mo_copy_B36 w) w 36 [] [] := by
  rw [Mo_copy_B36]
  exact n_vret F rfl rfl dX8_copy_36
def Mo_copy (w : Wd) (a1 : Int32) (a2 : Int32) : Option Wd := (Mo_copy_L2 Mo_copy_B36 FU w a1 a2 (0 : Int32))
set_option maxRecDepth 100000 in
set_option maxHeartbeats 4000000 in
theorem ct_Mo_copy {l : Launch} {g : GG} {σ : Sd} (hg : OKg g σ) (hb : σ.2.1 = false) (hx : ∀ c ∈ ([37, 38] : List Nat), c ∈ σ.1) (w : Wd) (a1 : Int32) (a2 : Int32) {q : Wd} (hq : Mo_copy w a1 a2 = some q) : CT l g σ yX8_copy cX8_copy 4 none 0 0 [.ref (gA g 37), .int a1, .int a2] w none q := by
  refine ct_of (rt := rtV) (res := Mo_copy w a1 a2) (q := q) (own := RX8) (b := false) hg hb hx (by decide) rfl (Nat.le_of_ble_eq_true rfl) hq (fun K e1 e2 e3 F => ?_)
  subst e1 e2 e3
  rw [Mo_copy]
  show N K _ _ w 0 [(0, .ref (gA (cg K) 37)), (1, .int a1), (2, .int a2)] []
  refine n_iconst F (0 : Int32) dX8_copy_0 (by decide) ?_
  refine n_istore_n F (lv' := [(3, .int (0 : Int32)), (0, .ref (gA (cg K) 37)), (1, .int a1), (2, .int a2)]) dX8_copy_1 rfl (by decide) rfl ?_
  exact n_sub [1, 2, 3, 0] rfl (Mo_copy_L2_ok F (Mo_copy_B36_ok F) FU _ _ _ _)
theorem dX8_keep_0 : decode cX8_keep 0 = .ok (.iload_n 1, 1) := by decide +kernel
theorem dX8_keep_1 : decode cX8_keep 1 = .ok (.i2l, 1) := by decide +kernel
theorem dX8_keep_2 : decode cX8_keep 2 = .ok (.lconst 0, 1) := by decide +kernel
theorem dX8_keep_3 : decode cX8_keep 3 = .ok (.lconst 1, 1) := by decide +kernel
theorem dX8_keep_4 : decode cX8_keep 4 = .ok (.invokestatic 63, 3) := by decide +kernel
theorem dX8_keep_7 : decode cX8_keep 7 = .ok (.ifCond .ne 6, 3) := by decide +kernel
theorem dX8_keep_10 : decode cX8_keep 10 = .ok (.bipush (-2), 2) := by decide +kernel
theorem dX8_keep_12 : decode cX8_keep 12 = .ok (.ireturn, 1) := by decide +kernel
theorem dX8_keep_13 : decode cX8_keep 13 = .ok (.aload_n 0, 1) := by decide +kernel
theorem dX8_keep_14 : decode cX8_keep 14 = .ok (.iconst 0, 1) := by decide +kernel
theorem dX8_keep_15 : decode cX8_keep 15 = .ok (.iconst 1, 1) := by decide +kernel
theorem dX8_keep_16 : decode cX8_keep 16 = .ok (.iload_n 1, 1) := by decide +kernel
theorem dX8_keep_17 : decode cX8_keep 17 = .ok (.iadd, 1) := by decide +kernel
theorem dX8_keep_18 : decode cX8_keep 18 = .ok (.invokevirtual 231, 3) := by decide +kernel
theorem dX8_keep_21 : decode cX8_keep 21 = .ok (.aload_n 0, 1) := by decide +kernel
theorem dX8_keep_22 : decode cX8_keep 22 = .ok (.getfield 13, 3) := by decide +kernel
theorem dX8_keep_25 : decode cX8_keep 25 = .ok (.iload_n 1, 1) := by decide +kernel
theorem dX8_keep_26 : decode cX8_keep 26 = .ok (.iconst 1, 1) := by decide +kernel
theorem dX8_keep_27 : decode cX8_keep 27 = .ok (.bastore, 1) := by decide +kernel
theorem dX8_keep_28 : decode cX8_keep 28 = .ok (.aload_n 0, 1) := by decide +kernel
theorem dX8_keep_29 : decode cX8_keep 29 = .ok (.getfield 7, 3) := by decide +kernel
theorem dX8_keep_32 : decode cX8_keep 32 = .ok (.iconst 0, 1) := by decide +kernel
theorem dX8_keep_33 : decode cX8_keep 33 = .ok (.iaload, 1) := by decide +kernel
theorem dX8_keep_34 : decode cX8_keep 34 = .ok (.ireturn, 1) := by decide +kernel
def Mo_keep (w : Wd) (a1 : Int32) : Option (Int32 × Wd) := (if (Mo_in w (Int32.toInt64 a1) (0 : Int64) (1 : Int64)) = (0 : Int32) then some ((-2 : Int32), w) else (Option.bind (Mo_copy w (0 : Int32) ((1 : Int32) + a1)) (fun q2 => (if ib a1 2 = true then some (((sI q2 39 (Int32.toNatClampNeg a1) (vp_nar .boolean (1 : Int32))).1 38 0), (sI q2 39 (Int32.toNatClampNeg a1) (vp_nar .boolean (1 : Int32)))) else none))))
set_option maxRecDepth 100000 in
set_option maxHeartbeats 4000000 in
theorem ct_Mo_keep {l : Launch} {g : GG} {σ : Sd} (hg : OKg g σ) (hb : σ.2.1 = false) (hx : ∀ c ∈ ([37, 38, 39] : List Nat), c ∈ σ.1) (w : Wd) (a1 : Int32) {q : Int32 × Wd} (hq : Mo_keep w a1 = some q) : CT l g σ yX8_keep cX8_keep 2 (some .int) 1 25 [.ref (gA g 37), .int a1] w (some (.int q.1)) q.2 := by
  refine ct_of (rt := rtI) (res := Mo_keep w a1) (q := q) (own := RX8) (b := false) hg hb hx (by decide) rfl (Nat.le_of_ble_eq_true rfl) hq (fun K e1 e2 e3 F => ?_)
  subst e1 e2 e3
  rw [Mo_keep]
  show N K _ _ w 0 [(0, .ref (gA (cg K) 37)), (1, .int a1)] []
  refine n_iload_n F dX8_keep_0 rfl 1 rfl ?_
  refine n_i2l F dX8_keep_1 ?_
  refine n_lconst F (0 : Int64) dX8_keep_2 (by decide) ?_
  refine n_lconst F (1 : Int64) dX8_keep_3 (by decide) ?_
  refine n_callSi F cb_X8_in lm_RX8_63 (ct_Mo_in (fx_ok F) (fx_sd F) (fx_ix F rfl) w (Int32.toInt64 a1) (0 : Int64) (1 : Int64)) rfl rfl (Nat.le_of_ble_eq_true rfl) ⟨Nat.le_of_ble_eq_true rfl, Nat.le_of_ble_eq_true rfl⟩ dX8_keep_4 ?_
  refine n_if_ne F 13 dX8_keep_7 (by decide) (fun e1 => ?_) (fun e1 => ?_)
  · rw [if_neg e1]
    refine n_aload_n F dX8_keep_13 rfl 0 rfl ?_
    refine n_iconst F (0 : Int32) dX8_keep_14 (by decide) ?_
    refine n_iconst F (1 : Int32) dX8_keep_15 (by decide) ?_
    refine n_iload_n F dX8_keep_16 rfl 1 rfl ?_
    refine n_iadd F dX8_keep_17 ?_
    refine n_bind (fun q2 hq2 => ?_)
    refine n_callVv F cb_X8_copy lm_RX8_231 ob_37 (by decide) ⟨_, _, rfl⟩ (ct_Mo_copy (fx_ok F) (fx_sd F) (fx_ix F rfl) w (0 : Int32) ((1 : Int32) + a1) hq2) rfl rfl (Nat.le_of_ble_eq_true rfl) ⟨Nat.le_of_ble_eq_true rfl, Nat.le_of_ble_eq_true rfl⟩ dX8_keep_18 ?_
    refine n_aload_n F dX8_keep_21 rfl 0 rfl ?_
    refine n_get F ck_8 lf_RX8_13 (by decide) fg_37_1 (by decide) dX8_keep_22 ?_
    refine n_iload_n F dX8_keep_25 rfl 1 rfl ?_
    refine n_iconst F (1 : Int32) dX8_keep_26 (by decide) ?_
    refine n_chk (fun e3 => ?_)
    refine n_zast F ar_39 (by decide) (ib_in e3) rfl dX8_keep_27 ?_
    refine n_aload_n F dX8_keep_28 rfl 0 rfl ?_
    refine n_get F ck_8 lf_RX8_7 (by decide) fg_37_0 (by decide) dX8_keep_29 ?_
    refine n_iconst F (0 : Int32) dX8_keep_32 (by decide) ?_
    refine n_iald F ar_38 (by decide) (ib_c (n := 45) (by decide)) (j := 0) (by decide) dX8_keep_33 ?_
    exact n_iret F rfl rfl dX8_keep_34
  rw [if_pos e1]
  refine n_bipush F (-2 : Int32) dX8_keep_10 (by decide) ?_
  exact n_iret F rfl rfl dX8_keep_12
theorem dX8_back_0 : decode cX8_back 0 = .ok (.iload_n 1, 1) := by decide +kernel
theorem dX8_back_1 : decode cX8_back 1 = .ok (.i2l, 1) := by decide +kernel
theorem dX8_back_2 : decode cX8_back 2 = .ok (.lconst 0, 1) := by decide +kernel
theorem dX8_back_3 : decode cX8_back 3 = .ok (.lconst 1, 1) := by decide +kernel
theorem dX8_back_4 : decode cX8_back 4 = .ok (.invokestatic 63, 3) := by decide +kernel
theorem dX8_back_7 : decode cX8_back 7 = .ok (.ifCond .ne 6, 3) := by decide +kernel
theorem dX8_back_10 : decode cX8_back 10 = .ok (.bipush (-2), 2) := by decide +kernel
theorem dX8_back_12 : decode cX8_back 12 = .ok (.ireturn, 1) := by decide +kernel
theorem dX8_back_13 : decode cX8_back 13 = .ok (.aload_n 0, 1) := by decide +kernel
theorem dX8_back_14 : decode cX8_back 14 = .ok (.getfield 13, 3) := by decide +kernel
theorem dX8_back_17 : decode cX8_back 17 = .ok (.iload_n 1, 1) := by decide +kernel
theorem dX8_back_18 : decode cX8_back 18 = .ok (.baload, 1) := by decide +kernel
theorem dX8_back_19 : decode cX8_back 19 = .ok (.ifCond .ne 6, 3) := by decide +kernel
theorem dX8_back_22 : decode cX8_back 22 = .ok (.bipush (-4), 2) := by decide +kernel
theorem dX8_back_24 : decode cX8_back 24 = .ok (.ireturn, 1) := by decide +kernel
theorem dX8_back_25 : decode cX8_back 25 = .ok (.aload_n 0, 1) := by decide +kernel
theorem dX8_back_26 : decode cX8_back 26 = .ok (.iconst 1, 1) := by decide +kernel
theorem dX8_back_27 : decode cX8_back 27 = .ok (.iload_n 1, 1) := by decide +kernel
theorem dX8_back_28 : decode cX8_back 28 = .ok (.iadd, 1) := by decide +kernel
theorem dX8_back_29 : decode cX8_back 29 = .ok (.iconst 0, 1) := by decide +kernel
theorem dX8_back_30 : decode cX8_back 30 = .ok (.invokevirtual 231, 3) := by decide +kernel
theorem dX8_back_33 : decode cX8_back 33 = .ok (.aload_n 0, 1) := by decide +kernel
theorem dX8_back_34 : decode cX8_back 34 = .ok (.getfield 7, 3) := by decide +kernel
theorem dX8_back_37 : decode cX8_back 37 = .ok (.iconst 0, 1) := by decide +kernel
theorem dX8_back_38 : decode cX8_back 38 = .ok (.iaload, 1) := by decide +kernel
theorem dX8_back_39 : decode cX8_back 39 = .ok (.ireturn, 1) := by decide +kernel
def Mo_back (w : Wd) (a1 : Int32) : Option (Int32 × Wd) := (if (Mo_in w (Int32.toInt64 a1) (0 : Int64) (1 : Int64)) = (0 : Int32) then some ((-2 : Int32), w) else (if ib a1 2 = true then (if (w.1 39 (Int32.toNatClampNeg a1)) = (0 : Int32) then some ((-4 : Int32), w) else (Option.bind (Mo_copy w ((1 : Int32) + a1) (0 : Int32)) (fun q4 => some ((q4.1 38 0), q4)))) else none))
set_option maxRecDepth 100000 in
set_option maxHeartbeats 4000000 in
theorem ct_Mo_back {l : Launch} {g : GG} {σ : Sd} (hg : OKg g σ) (hb : σ.2.1 = false) (hx : ∀ c ∈ ([37, 38, 39] : List Nat), c ∈ σ.1) (w : Wd) (a1 : Int32) {q : Int32 × Wd} (hq : Mo_back w a1 = some q) : CT l g σ yX8_back cX8_back 2 (some .int) 1 25 [.ref (gA g 37), .int a1] w (some (.int q.1)) q.2 := by
  refine ct_of (rt := rtI) (res := Mo_back w a1) (q := q) (own := RX8) (b := false) hg hb hx (by decide) rfl (Nat.le_of_ble_eq_true rfl) hq (fun K e1 e2 e3 F => ?_)
  subst e1 e2 e3
  rw [Mo_back]
  show N K _ _ w 0 [(0, .ref (gA (cg K) 37)), (1, .int a1)] []
  refine n_iload_n F dX8_back_0 rfl 1 rfl ?_
  refine n_i2l F dX8_back_1 ?_
  refine n_lconst F (0 : Int64) dX8_back_2 (by decide) ?_
  refine n_lconst F (1 : Int64) dX8_back_3 (by decide) ?_
  refine n_callSi F cb_X8_in lm_RX8_63 (ct_Mo_in (fx_ok F) (fx_sd F) (fx_ix F rfl) w (Int32.toInt64 a1) (0 : Int64) (1 : Int64)) rfl rfl (Nat.le_of_ble_eq_true rfl) ⟨Nat.le_of_ble_eq_true rfl, Nat.le_of_ble_eq_true rfl⟩ dX8_back_4 ?_
  refine n_if_ne F 13 dX8_back_7 (by decide) (fun e1 => ?_) (fun e1 => ?_)
  · rw [if_neg e1]
    refine n_aload_n F dX8_back_13 rfl 0 rfl ?_
    refine n_get F ck_8 lf_RX8_13 (by decide) fg_37_1 (by decide) dX8_back_14 ?_
    refine n_iload_n F dX8_back_17 rfl 1 rfl ?_
    refine n_chk (fun e2 => ?_)
    refine n_zald F ar_39 (by decide) (ib_in e2) rfl dX8_back_18 ?_
    refine n_if_ne F 25 dX8_back_19 (by decide) (fun e3 => ?_) (fun e3 => ?_)
    · rw [if_neg e3]
      refine n_aload_n F dX8_back_25 rfl 0 rfl ?_
      refine n_iconst F (1 : Int32) dX8_back_26 (by decide) ?_
      refine n_iload_n F dX8_back_27 rfl 1 rfl ?_
      refine n_iadd F dX8_back_28 ?_
      refine n_iconst F (0 : Int32) dX8_back_29 (by decide) ?_
      refine n_bind (fun q4 hq4 => ?_)
      refine n_callVv F cb_X8_copy lm_RX8_231 ob_37 (by decide) ⟨_, _, rfl⟩ (ct_Mo_copy (fx_ok F) (fx_sd F) (fx_ix F rfl) w ((1 : Int32) + a1) (0 : Int32) hq4) rfl rfl (Nat.le_of_ble_eq_true rfl) ⟨Nat.le_of_ble_eq_true rfl, Nat.le_of_ble_eq_true rfl⟩ dX8_back_30 ?_
      refine n_aload_n F dX8_back_33 rfl 0 rfl ?_
      refine n_get F ck_8 lf_RX8_7 (by decide) fg_37_0 (by decide) dX8_back_34 ?_
      refine n_iconst F (0 : Int32) dX8_back_37 (by decide) ?_
      refine n_iald F ar_38 (by decide) (ib_c (n := 45) (by decide)) (j := 0) (by decide) dX8_back_38 ?_
      exact n_iret F rfl rfl dX8_back_39
    rw [if_pos e3]
    refine n_bipush F (-4 : Int32) dX8_back_22 (by decide) ?_
    exact n_iret F rfl rfl dX8_back_24
  rw [if_pos e1]
  refine n_bipush F (-2 : Int32) dX8_back_10 (by decide) ?_
  exact n_iret F rfl rfl dX8_back_12
theorem dX8_count_0 : decode cX8_count 0 = .ok (.iload_n 1, 1) := by decide +kernel
theorem dX8_count_1 : decode cX8_count 1 = .ok (.tableswitch 118 0 7 #[47, 52, 57, 62, 67, 74, 79, 84], 47) := by decide +kernel
theorem dX8_count_48 : decode cX8_count 48 = .ok (.aload_n 0, 1) := by decide +kernel
theorem dX8_count_49 : decode cX8_count 49 = .ok (.getfield 23, 3) := by decide +kernel
theorem dX8_count_52 : decode cX8_count 52 = .ok (.ireturn, 1) := by decide +kernel
theorem dX8_count_53 : decode cX8_count 53 = .ok (.aload_n 0, 1) := by decide +kernel
theorem dX8_count_54 : decode cX8_count 54 = .ok (.getfield 131, 3) := by decide +kernel
theorem dX8_count_57 : decode cX8_count 57 = .ok (.ireturn, 1) := by decide +kernel
theorem dX8_count_58 : decode cX8_count 58 = .ok (.aload_n 0, 1) := by decide +kernel
theorem dX8_count_59 : decode cX8_count 59 = .ok (.getfield 58, 3) := by decide +kernel
theorem dX8_count_62 : decode cX8_count 62 = .ok (.ireturn, 1) := by decide +kernel
theorem dX8_count_63 : decode cX8_count 63 = .ok (.aload_n 0, 1) := by decide +kernel
theorem dX8_count_64 : decode cX8_count 64 = .ok (.getfield 33, 3) := by decide +kernel
theorem dX8_count_67 : decode cX8_count 67 = .ok (.ireturn, 1) := by decide +kernel
theorem dX8_count_68 : decode cX8_count 68 = .ok (.aload_n 0, 1) := by decide +kernel
theorem dX8_count_69 : decode cX8_count 69 = .ok (.getfield 7, 3) := by decide +kernel
theorem dX8_count_72 : decode cX8_count 72 = .ok (.iconst 0, 1) := by decide +kernel
theorem dX8_count_73 : decode cX8_count 73 = .ok (.iaload, 1) := by decide +kernel
theorem dX8_count_74 : decode cX8_count 74 = .ok (.ireturn, 1) := by decide +kernel
theorem dX8_count_75 : decode cX8_count 75 = .ok (.aload_n 0, 1) := by decide +kernel
theorem dX8_count_76 : decode cX8_count 76 = .ok (.getfield 67, 3) := by decide +kernel
theorem dX8_count_79 : decode cX8_count 79 = .ok (.ireturn, 1) := by decide +kernel
theorem dX8_count_80 : decode cX8_count 80 = .ok (.aload_n 0, 1) := by decide +kernel
theorem dX8_count_81 : decode cX8_count 81 = .ok (.getfield 144, 3) := by decide +kernel
theorem dX8_count_84 : decode cX8_count 84 = .ok (.ireturn, 1) := by decide +kernel
theorem dX8_count_85 : decode cX8_count 85 = .ok (.aload_n 0, 1) := by decide +kernel
theorem dX8_count_86 : decode cX8_count 86 = .ok (.getfield 7, 3) := by decide +kernel
theorem dX8_count_89 : decode cX8_count 89 = .ok (.bipush 8, 2) := by decide +kernel
theorem dX8_count_91 : decode cX8_count 91 = .ok (.iaload, 1) := by decide +kernel
theorem dX8_count_92 : decode cX8_count 92 = .ok (.iconst (-1), 1) := by decide +kernel
theorem dX8_count_93 : decode cX8_count 93 = .ok (.if_icmp .ne 7, 3) := by decide +kernel
theorem dX8_count_96 : decode cX8_count 96 = .ok (.iconst 0, 1) := by decide +kernel
theorem dX8_count_97 : decode cX8_count 97 = .ok (.goto 4, 3) := by decide +kernel
theorem dX8_count_100 : decode cX8_count 100 = .ok (.iconst 1, 1) := by decide +kernel
theorem dX8_count_101 : decode cX8_count 101 = .ok (.aload_n 0, 1) := by decide +kernel
theorem dX8_count_102 : decode cX8_count 102 = .ok (.getfield 7, 3) := by decide +kernel
theorem dX8_count_105 : decode cX8_count 105 = .ok (.bipush 9, 2) := by decide +kernel
theorem dX8_count_107 : decode cX8_count 107 = .ok (.iaload, 1) := by decide +kernel
theorem dX8_count_108 : decode cX8_count 108 = .ok (.iconst (-1), 1) := by decide +kernel
theorem dX8_count_109 : decode cX8_count 109 = .ok (.if_icmp .ne 7, 3) := by decide +kernel
theorem dX8_count_112 : decode cX8_count 112 = .ok (.iconst 0, 1) := by decide +kernel
theorem dX8_count_113 : decode cX8_count 113 = .ok (.goto 4, 3) := by decide +kernel
theorem dX8_count_116 : decode cX8_count 116 = .ok (.iconst 2, 1) := by decide +kernel
theorem dX8_count_117 : decode cX8_count 117 = .ok (.iadd, 1) := by decide +kernel
theorem dX8_count_118 : decode cX8_count 118 = .ok (.ireturn, 1) := by decide +kernel
theorem dX8_count_119 : decode cX8_count 119 = .ok (.bipush (-3), 2) := by decide +kernel
theorem dX8_count_121 : decode cX8_count 121 = .ok (.ireturn, 1) := by decide +kernel
def Mo_count_B101 (w : Wd) (s0 : Int32) : Int32 := (if (w.1 38 9) = (-1 : Int32) then (s0 + (0 : Int32)) else (s0 + (2 : Int32)))
set_option maxRecDepth 100000 in
set_option maxHeartbeats 4000000 in
theorem Mo_count_B101_ok {K : Ctx} (F : Fx K cX8_count 2 RX8 (some .int) 0 0 false [37, 38]) (w : Wd) (s0 : Int32) : N K (rtP w) (some (Mo_count_B101 w s0)) w 101 [(0, .ref (gA (cg K) 37))] [.int s0] := by
  rw [Mo_count_B101]
  refine n_aload_n F dX8_count_101 rfl 0 rfl ?_
  refine n_get F ck_8 lf_RX8_7 (by decide) fg_37_0 (by decide) dX8_count_102 ?_
  refine n_bipush F (9 : Int32) dX8_count_105 (by decide) ?_
  refine n_iald F ar_38 (by decide) (ib_c (n := 45) (by decide)) (j := 9) (by decide) dX8_count_107 ?_
  refine n_iconst F (-1 : Int32) dX8_count_108 (by decide) ?_
  refine n_icmp_ne F 116 dX8_count_109 (by decide) (fun e10 => ?_) (fun e10 => ?_)
  · rw [if_neg e10]
    refine n_iconst F (2 : Int32) dX8_count_116 (by decide) ?_
    refine n_iadd F dX8_count_117 ?_
    exact n_iret F rfl rfl dX8_count_118
  rw [if_pos e10]
  refine n_iconst F (0 : Int32) dX8_count_112 (by decide) ?_
  refine n_goto F 117 dX8_count_113 (by decide) ?_
  refine n_iadd F dX8_count_117 ?_
  exact n_iret F rfl rfl dX8_count_118
def Mo_count (w : Wd) (a1 : Int32) : Int32 := (if a1 = (0 : Int32) then (w.1 37 6) else (if a1 = (1 : Int32) then (w.1 37 8) else (if a1 = (2 : Int32) then (w.1 37 9) else (if a1 = (3 : Int32) then (w.1 37 11) else (if a1 = (4 : Int32) then (w.1 38 0) else (if a1 = (5 : Int32) then (w.1 37 3) else (if a1 = (6 : Int32) then (w.1 37 22) else (if a1 = (7 : Int32) then (Mo_count_B101 w (if (w.1 38 8) = (-1 : Int32) then (0 : Int32) else (1 : Int32))) else (-3 : Int32)))))))))
set_option maxRecDepth 100000 in
set_option maxHeartbeats 4000000 in
theorem ct_Mo_count {l : Launch} {g : GG} {σ : Sd} (hg : OKg g σ) (hb : σ.2.1 = false) (hx : ∀ c ∈ ([37, 38] : List Nat), c ∈ σ.1) (w : Wd) (a1 : Int32) : CT l g σ yX8_count cX8_count 2 (some .int) 0 0 [.ref (gA g 37), .int a1] w (some (.int (Mo_count w a1))) w := by
  refine ct_of (rt := (rtP w)) (res := some (Mo_count w a1)) (q := (Mo_count w a1)) (own := RX8) (b := false) hg hb hx (by decide) rfl (Nat.le_of_ble_eq_true rfl) rfl (fun K e1 e2 e3 F => ?_)
  subst e1 e2 e3
  rw [Mo_count]
  show N K _ _ w 0 [(0, .ref (gA (cg K) 37)), (1, .int a1)] []
  refine n_iload_n F dX8_count_0 rfl 1 rfl ?_
  by_cases e1 : a1 = (0 : Int32)
  · rw [if_pos e1]
    refine n_tabIn F (0 : Int32) 48 dX8_count_1 e1 (by decide) (by decide) rfl (by decide) ?_
    refine n_aload_n F dX8_count_48 rfl 0 rfl ?_
    refine n_get F ck_8 lf_RX8_23 (by decide) fg_37_6 (by decide) dX8_count_49 ?_
    exact n_iret F rfl rfl dX8_count_52
  rw [if_neg e1]
  by_cases e2 : a1 = (1 : Int32)
  · rw [if_pos e2]
    refine n_tabIn F (1 : Int32) 53 dX8_count_1 e2 (by decide) (by decide) rfl (by decide) ?_
    refine n_aload_n F dX8_count_53 rfl 0 rfl ?_
    refine n_get F ck_8 lf_RX8_131 (by decide) fg_37_8 (by decide) dX8_count_54 ?_
    exact n_iret F rfl rfl dX8_count_57
  rw [if_neg e2]
  by_cases e3 : a1 = (2 : Int32)
  · rw [if_pos e3]
    refine n_tabIn F (2 : Int32) 58 dX8_count_1 e3 (by decide) (by decide) rfl (by decide) ?_
    refine n_aload_n F dX8_count_58 rfl 0 rfl ?_
    refine n_get F ck_8 lf_RX8_58 (by decide) fg_37_9 (by decide) dX8_count_59 ?_
    exact n_iret F rfl rfl dX8_count_62
  rw [if_neg e3]
  by_cases e4 : a1 = (3 : Int32)
  · rw [if_pos e4]
    refine n_tabIn F (3 : Int32) 63 dX8_count_1 e4 (by decide) (by decide) rfl (by decide) ?_
    refine n_aload_n F dX8_count_63 rfl 0 rfl ?_
    refine n_get F ck_8 lf_RX8_33 (by decide) fg_37_11 (by decide) dX8_count_64 ?_
    exact n_iret F rfl rfl dX8_count_67
  rw [if_neg e4]
  by_cases e5 : a1 = (4 : Int32)
  · rw [if_pos e5]
    refine n_tabIn F (4 : Int32) 68 dX8_count_1 e5 (by decide) (by decide) rfl (by decide) ?_
    refine n_aload_n F dX8_count_68 rfl 0 rfl ?_
    refine n_get F ck_8 lf_RX8_7 (by decide) fg_37_0 (by decide) dX8_count_69 ?_
    refine n_iconst F (0 : Int32) dX8_count_72 (by decide) ?_
    refine n_iald F ar_38 (by decide) (ib_c (n := 45) (by decide)) (j := 0) (by decide) dX8_count_73 ?_
    exact n_iret F rfl rfl dX8_count_74
  rw [if_neg e5]
  by_cases e6 : a1 = (5 : Int32)
  · rw [if_pos e6]
    refine n_tabIn F (5 : Int32) 75 dX8_count_1 e6 (by decide) (by decide) rfl (by decide) ?_
    refine n_aload_n F dX8_count_75 rfl 0 rfl ?_
    refine n_get F ck_8 lf_RX8_67 (by decide) fg_37_3 (by decide) dX8_count_76 ?_
    exact n_iret F rfl rfl dX8_count_79
  rw [if_neg e6]
  by_cases e7 : a1 = (6 : Int32)
  · rw [if_pos e7]
    refine n_tabIn F (6 : Int32) 80 dX8_count_1 e7 (by decide) (by decide) rfl (by decide) ?_
    refine n_aload_n F dX8_count_80 rfl 0 rfl ?_
    refine n_get F ck_8 lf_RX8_144 (by decide) fg_37_22 (by decide) dX8_count_81 ?_
    exact n_iret F rfl rfl dX8_count_84
  rw [if_neg e7]
  by_cases e8 : a1 = (7 : Int32)
  · rw [if_pos e8]
    refine n_tabIn F (7 : Int32) 85 dX8_count_1 e8 (by decide) (by decide) rfl (by decide) ?_
    refine n_aload_n F dX8_count_85 rfl 0 rfl ?_
    refine n_get F ck_8 lf_RX8_7 (by decide) fg_37_0 (by decide) dX8_count_86 ?_
    refine n_bipush F (8 : Int32) dX8_count_89 (by decide) ?_
    refine n_iald F ar_38 (by decide) (ib_c (n := 45) (by decide)) (j := 8) (by decide) dX8_count_91 ?_
    refine n_iconst F (-1 : Int32) dX8_count_92 (by decide) ?_
    refine n_icmp_ne F 100 dX8_count_93 (by decide) (fun e9 => ?_) (fun e9 => ?_)
    · rw [if_neg e9]
      refine n_iconst F (1 : Int32) dX8_count_100 (by decide) ?_
      exact n_sub [0] rfl (Mo_count_B101_ok F w _)
    rw [if_pos e9]
    refine n_iconst F (0 : Int32) dX8_count_96 (by decide) ?_
    refine n_goto F 101 dX8_count_97 (by decide) ?_
    exact n_sub [0] rfl (Mo_count_B101_ok F w _)
  rw [if_neg e8]
  have hsw := (⟨lv_neT e1 (a := 0) rfl, lv_neT e2 (a := 1) rfl, lv_neT e3 (a := 2) rfl, lv_neT e4 (a := 3) rfl, lv_neT e5 (a := 4) rfl, lv_neT e6 (a := 5) rfl, lv_neT e7 (a := 6) rfl, lv_neT e8 (a := 7) rfl⟩ : ¬ (a1).toInt = 0 ∧ ¬ (a1).toInt = 1 ∧ ¬ (a1).toInt = 2 ∧ ¬ (a1).toInt = 3 ∧ ¬ (a1).toInt = 4 ∧ ¬ (a1).toInt = 5 ∧ ¬ (a1).toInt = 6 ∧ ¬ (a1).toInt = 7)
  refine n_tabOut F 119 dX8_count_1 (by omega) (by decide) ?_
  refine n_bipush F (-3 : Int32) dX8_count_119 (by decide) ?_
  exact n_iret F rfl rfl dX8_count_121
