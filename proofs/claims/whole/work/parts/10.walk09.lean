theorem dX8_layByNone_0 : decode cX8_layByNone 0 = .ok (.aload_n 0, 1) := by decide +kernel
theorem dX8_layByNone_1 : decode cX8_layByNone 1 = .ok (.aload_n 0, 1) := by decide +kernel
theorem dX8_layByNone_2 : decode cX8_layByNone 2 = .ok (.getfield 7, 3) := by decide +kernel
theorem dX8_layByNone_5 : decode cX8_layByNone 5 = .ok (.bipush 13, 2) := by decide +kernel
theorem dX8_layByNone_7 : decode cX8_layByNone 7 = .ok (.iaload, 1) := by decide +kernel
theorem dX8_layByNone_8 : decode cX8_layByNone 8 = .ok (.putfield 171, 3) := by decide +kernel
theorem dX8_layByNone_11 : decode cX8_layByNone 11 = .ok (.aload_n 0, 1) := by decide +kernel
theorem dX8_layByNone_12 : decode cX8_layByNone 12 = .ok (.iconst 0, 1) := by decide +kernel
theorem dX8_layByNone_13 : decode cX8_layByNone 13 = .ok (.putfield 174, 3) := by decide +kernel
theorem dX8_layByNone_16 : decode cX8_layByNone 16 = .ok (.iconst 0, 1) := by decide +kernel
theorem dX8_layByNone_17 : decode cX8_layByNone 17 = .ok (.istore_n 1, 1) := by decide +kernel
theorem dX8_layByNone_18 : decode cX8_layByNone 18 = .ok (.iload_n 1, 1) := by decide +kernel
theorem dX8_layByNone_19 : decode cX8_layByNone 19 = .ok (.aload_n 0, 1) := by decide +kernel
theorem dX8_layByNone_20 : decode cX8_layByNone 20 = .ok (.getfield 23, 3) := by decide +kernel
theorem dX8_layByNone_23 : decode cX8_layByNone 23 = .ok (.if_icmp .ge 47, 3) := by decide +kernel
theorem dX8_layByNone_26 : decode cX8_layByNone 26 = .ok (.aload_n 0, 1) := by decide +kernel
theorem dX8_layByNone_27 : decode cX8_layByNone 27 = .ok (.dup, 1) := by decide +kernel
theorem dX8_layByNone_28 : decode cX8_layByNone 28 = .ok (.getfield 171, 3) := by decide +kernel
theorem dX8_layByNone_31 : decode cX8_layByNone 31 = .ok (.aload_n 0, 1) := by decide +kernel
theorem dX8_layByNone_32 : decode cX8_layByNone 32 = .ok (.getfield 7, 3) := by decide +kernel
theorem dX8_layByNone_35 : decode cX8_layByNone 35 = .ok (.bipush 12, 2) := by decide +kernel
theorem dX8_layByNone_37 : decode cX8_layByNone 37 = .ok (.iaload, 1) := by decide +kernel
theorem dX8_layByNone_38 : decode cX8_layByNone 38 = .ok (.iload_n 1, 1) := by decide +kernel
theorem dX8_layByNone_39 : decode cX8_layByNone 39 = .ok (.invokestatic 164, 3) := by decide +kernel
theorem dX8_layByNone_42 : decode cX8_layByNone 42 = .ok (.ifCond .eq 17, 3) := by decide +kernel
theorem dX8_layByNone_45 : decode cX8_layByNone 45 = .ok (.aload_n 0, 1) := by decide +kernel
theorem dX8_layByNone_46 : decode cX8_layByNone 46 = .ok (.iload_n 1, 1) := by decide +kernel
theorem dX8_layByNone_47 : decode cX8_layByNone 47 = .ok (.invokevirtual 158, 3) := by decide +kernel
theorem dX8_layByNone_50 : decode cX8_layByNone 50 = .ok (.ifCond .ne 9, 3) := by decide +kernel
theorem dX8_layByNone_53 : decode cX8_layByNone 53 = .ok (.iconst 1, 1) := by decide +kernel
theorem dX8_layByNone_54 : decode cX8_layByNone 54 = .ok (.iload_n 1, 1) := by decide +kernel
theorem dX8_layByNone_55 : decode cX8_layByNone 55 = .ok (.ishl, 1) := by decide +kernel
theorem dX8_layByNone_56 : decode cX8_layByNone 56 = .ok (.goto 4, 3) := by decide +kernel
theorem dX8_layByNone_59 : decode cX8_layByNone 59 = .ok (.iconst 0, 1) := by decide +kernel
theorem dX8_layByNone_60 : decode cX8_layByNone 60 = .ok (.ior, 1) := by decide +kernel
theorem dX8_layByNone_61 : decode cX8_layByNone 61 = .ok (.putfield 171, 3) := by decide +kernel
theorem dX8_layByNone_64 : decode cX8_layByNone 64 = .ok (.iinc 1 1, 3) := by decide +kernel
theorem dX8_layByNone_67 : decode cX8_layByNone 67 = .ok (.goto (-49), 3) := by decide +kernel
theorem dX8_layByNone_70 : decode cX8_layByNone 70 = .ok (.return_, 1) := by decide +kernel
def Mo_layByNone_L18 (k70 : Wd → Option Wd) : Nat → Wd → Int32 → Option Wd
  | 0, _, _ => none
  | n + 1, w, v1 => (if (w.1 37 6) ≤ v1 then (k70 w) else (if (Mo_has w (w.1 38 12) v1) = (0 : Int32) then (Mo_layByNone_L18 k70 n (sI w 37 18 ((w.1 37 18) ||| (0 : Int32))) (v1 + (1 : Int32))) else (Option.bind (Mo_ridable w v1) (fun q3 => (Mo_layByNone_L18 k70 n (if q3 = (0 : Int32) then (sI w 37 18 ((w.1 37 18) ||| ((1 : Int32) <<< (v1 &&& (31 : Int32))))) else (sI w 37 18 ((w.1 37 18) ||| (0 : Int32)))) (v1 + (1 : Int32)))))))
set_option maxRecDepth 100000 in
set_option maxHeartbeats 4000000 in
theorem Mo_layByNone_L18_ok {K : Ctx} (F : Fx K cX8_layByNone 2 RX8 none 2 46 false [37, 38, 42]) {k70 : Wd → Option Wd} (h70 : ∀ (w : Wd), N K rtV (k70 w) w 70 [] []) : ∀ (n : Nat) (w : Wd) (v1 : Int32), N K rtV (Mo_layByNone_L18 k70 n w v1) w 18 [(0, .ref (gA (cg K) 37)), (1, .int v1)] [] := by
  intro n
  induction n with
  | zero => intro _ _; exact n_none
  | succ n ih =>
    intro w v1
    rw [Mo_layByNone_L18]
    refine n_iload_n F dX8_layByNone_18 rfl 1 rfl ?_
    refine n_aload_n F dX8_layByNone_19 rfl 0 rfl ?_
    refine n_get F ck_8 lf_RX8_23 (by decide) fg_37_6 (by decide) dX8_layByNone_20 ?_
    refine n_icmp_ge F 70 dX8_layByNone_23 (by decide) (fun e1 => ?_) (fun e1 => ?_)
    · rw [if_pos e1]
      exact n_sub [] rfl (h70 _)
    rw [if_neg e1]
    refine n_aload_n F dX8_layByNone_26 rfl 0 rfl ?_
    refine n_dup F dX8_layByNone_27 rfl ?_
    refine n_get F ck_8 lf_RX8_171 (by decide) fg_37_18 (by decide) dX8_layByNone_28 ?_
    refine n_aload_n F dX8_layByNone_31 rfl 0 rfl ?_
    refine n_get F ck_8 lf_RX8_7 (by decide) fg_37_0 (by decide) dX8_layByNone_32 ?_
    refine n_bipush F (12 : Int32) dX8_layByNone_35 (by decide) ?_
    refine n_iald F ar_38 (by decide) (ib_c (n := 45) (by decide)) (j := 12) (by decide) dX8_layByNone_37 ?_
    refine n_iload_n F dX8_layByNone_38 rfl 1 rfl ?_
    refine n_callSi F cb_X8_has lm_RX8_164 (ct_Mo_has (fx_ok F) (fx_sd F) (fx_ix F rfl) w (w.1 38 12) v1) rfl rfl (Nat.le_of_ble_eq_true rfl) ⟨Nat.le_of_ble_eq_true rfl, Nat.le_of_ble_eq_true rfl⟩ dX8_layByNone_39 ?_
    refine n_if_eq F 59 dX8_layByNone_42 (by decide) (fun e2 => ?_) (fun e2 => ?_)
    · rw [if_pos e2]
      refine n_iconst F (0 : Int32) dX8_layByNone_59 (by decide) ?_
      refine n_ior F dX8_layByNone_60 ?_
      refine n_put F ck_8 lf_RX8_171 (by decide) rfl fp_37_18 (by decide) rfl rfl dX8_layByNone_61 ?_
      refine n_iinc F (v1 + (1 : Int32)) (lv' := [(1, .int (v1 + (1 : Int32))), (0, .ref (gA (cg K) 37))]) dX8_layByNone_64 1 rfl rfl (by decide) rfl ?_
      refine n_goto F 18 dX8_layByNone_67 (by decide) ?_
      exact n_sub [1, 0] rfl (ih _ _)
    rw [if_neg e2]
    refine n_aload_n F dX8_layByNone_45 rfl 0 rfl ?_
    refine n_iload_n F dX8_layByNone_46 rfl 1 rfl ?_
    refine n_bind (fun q3 hq3 => ?_)
    refine n_callVi F cb_X8_ridable lm_RX8_158 ob_37 (by decide) ⟨_, _, rfl⟩ (ct_Mo_ridable (fx_ok F) (fx_sd F) (fx_ix F rfl) w v1 hq3) rfl rfl (Nat.le_of_ble_eq_true rfl) ⟨Nat.le_of_ble_eq_true rfl, Nat.le_of_ble_eq_true rfl⟩ dX8_layByNone_47 ?_
    refine n_if_ne F 59 dX8_layByNone_50 (by decide) (fun e4 => ?_) (fun e4 => ?_)
    · rw [if_neg e4]
      refine n_iconst F (0 : Int32) dX8_layByNone_59 (by decide) ?_
      refine n_ior F dX8_layByNone_60 ?_
      refine n_put F ck_8 lf_RX8_171 (by decide) rfl fp_37_18 (by decide) rfl rfl dX8_layByNone_61 ?_
      refine n_iinc F (v1 + (1 : Int32)) (lv' := [(1, .int (v1 + (1 : Int32))), (0, .ref (gA (cg K) 37))]) dX8_layByNone_64 1 rfl rfl (by decide) rfl ?_
      refine n_goto F 18 dX8_layByNone_67 (by decide) ?_
      exact n_sub [1, 0] rfl (ih _ _)
    rw [if_pos e4]
    refine n_iconst F (1 : Int32) dX8_layByNone_53 (by decide) ?_
    refine n_iload_n F dX8_layByNone_54 rfl 1 rfl ?_
    refine n_ishl F dX8_layByNone_55 ?_
    refine n_goto F 60 dX8_layByNone_56 (by decide) ?_
    refine n_ior F dX8_layByNone_60 ?_
    refine n_put F ck_8 lf_RX8_171 (by decide) rfl fp_37_18 (by decide) rfl rfl dX8_layByNone_61 ?_
    refine n_iinc F (v1 + (1 : Int32)) (lv' := [(1, .int (v1 + (1 : Int32))), (0, .ref (gA (cg K) 37))]) dX8_layByNone_64 1 rfl rfl (by decide) rfl ?_
    refine n_goto F 18 dX8_layByNone_67 (by decide) ?_
    exact n_sub [1, 0] rfl (ih _ _)
def Mo_layByNone_B70 (w : Wd) : Option Wd := some w
set_option maxRecDepth 100000 in
set_option maxHeartbeats 4000000 in
theorem Mo_layByNone_B70_ok {K : Ctx} (F : Fx K cX8_layByNone 2 RX8 none 2 46 false [37, 38, 42]) (w : Wd) : N K rtV (Mo_layByNone_B70 w) w 70 [] [] := by
  rw [Mo_layByNone_B70]
  exact n_vret F rfl rfl dX8_layByNone_70
def Mo_layByNone (w : Wd) : Option Wd := (Mo_layByNone_L18 Mo_layByNone_B70 FU (sI (sI w 37 18 (w.1 38 13)) 37 19 (0 : Int32)) (0 : Int32))
set_option maxRecDepth 100000 in
set_option maxHeartbeats 4000000 in
theorem ct_Mo_layByNone {l : Launch} {g : GG} {σ : Sd} (hg : OKg g σ) (hb : σ.2.1 = false) (hx : ∀ c ∈ ([37, 38, 42] : List Nat), c ∈ σ.1) (w : Wd) {q : Wd} (hq : Mo_layByNone w = some q) : CT l g σ yX8_layByNone cX8_layByNone 2 none 2 46 [.ref (gA g 37)] w none q := by
  refine ct_of (rt := rtV) (res := Mo_layByNone w) (q := q) (own := RX8) (b := false) hg hb hx (by decide) rfl (Nat.le_of_ble_eq_true rfl) hq (fun K e1 e2 e3 F => ?_)
  subst e1 e2 e3
  rw [Mo_layByNone]
  show N K _ _ w 0 [(0, .ref (gA (cg K) 37))] []
  refine n_aload_n F dX8_layByNone_0 rfl 0 rfl ?_
  refine n_aload_n F dX8_layByNone_1 rfl 0 rfl ?_
  refine n_get F ck_8 lf_RX8_7 (by decide) fg_37_0 (by decide) dX8_layByNone_2 ?_
  refine n_bipush F (13 : Int32) dX8_layByNone_5 (by decide) ?_
  refine n_iald F ar_38 (by decide) (ib_c (n := 45) (by decide)) (j := 13) (by decide) dX8_layByNone_7 ?_
  refine n_put F ck_8 lf_RX8_171 (by decide) rfl fp_37_18 (by decide) rfl rfl dX8_layByNone_8 ?_
  refine n_aload_n F dX8_layByNone_11 rfl 0 rfl ?_
  refine n_iconst F (0 : Int32) dX8_layByNone_12 (by decide) ?_
  refine n_put F ck_8 lf_RX8_174 (by decide) rfl fp_37_19 (by decide) rfl rfl dX8_layByNone_13 ?_
  refine n_iconst F (0 : Int32) dX8_layByNone_16 (by decide) ?_
  refine n_istore_n F (lv' := [(1, .int (0 : Int32)), (0, .ref (gA (cg K) 37))]) dX8_layByNone_17 rfl (by decide) rfl ?_
  exact n_sub [1, 0] rfl (Mo_layByNone_L18_ok F (Mo_layByNone_B70_ok F) FU _ _)
theorem dX8_nextOf_0 : decode cX8_nextOf 0 = .ok (.aload_n 0, 1) := by decide +kernel
theorem dX8_nextOf_1 : decode cX8_nextOf 1 = .ok (.invokevirtual 177, 3) := by decide +kernel
theorem dX8_nextOf_4 : decode cX8_nextOf 4 = .ok (.aload_n 0, 1) := by decide +kernel
theorem dX8_nextOf_5 : decode cX8_nextOf 5 = .ok (.getfield 171, 3) := by decide +kernel
theorem dX8_nextOf_8 : decode cX8_nextOf 8 = .ok (.istore_n 1, 1) := by decide +kernel
theorem dX8_nextOf_9 : decode cX8_nextOf 9 = .ok (.iconst 0, 1) := by decide +kernel
theorem dX8_nextOf_10 : decode cX8_nextOf 10 = .ok (.istore_n 2, 1) := by decide +kernel
theorem dX8_nextOf_11 : decode cX8_nextOf 11 = .ok (.iload_n 2, 1) := by decide +kernel
theorem dX8_nextOf_12 : decode cX8_nextOf 12 = .ok (.iconst 3, 1) := by decide +kernel
theorem dX8_nextOf_13 : decode cX8_nextOf 13 = .ok (.if_icmp .ge 32, 3) := by decide +kernel
theorem dX8_nextOf_16 : decode cX8_nextOf 16 = .ok (.aload_n 0, 1) := by decide +kernel
theorem dX8_nextOf_17 : decode cX8_nextOf 17 = .ok (.getfield 7, 3) := by decide +kernel
theorem dX8_nextOf_20 : decode cX8_nextOf 20 = .ok (.iconst 4, 1) := by decide +kernel
theorem dX8_nextOf_21 : decode cX8_nextOf 21 = .ok (.iload_n 2, 1) := by decide +kernel
theorem dX8_nextOf_22 : decode cX8_nextOf 22 = .ok (.iadd, 1) := by decide +kernel
theorem dX8_nextOf_23 : decode cX8_nextOf 23 = .ok (.iaload, 1) := by decide +kernel
theorem dX8_nextOf_24 : decode cX8_nextOf 24 = .ok (.ifCond .le 15, 3) := by decide +kernel
theorem dX8_nextOf_27 : decode cX8_nextOf 27 = .ok (.aload_n 0, 1) := by decide +kernel
theorem dX8_nextOf_28 : decode cX8_nextOf 28 = .ok (.iload_n 2, 1) := by decide +kernel
theorem dX8_nextOf_29 : decode cX8_nextOf 29 = .ok (.invokevirtual 180, 3) := by decide +kernel
theorem dX8_nextOf_32 : decode cX8_nextOf 32 = .ok (.iload_n 1, 1) := by decide +kernel
theorem dX8_nextOf_33 : decode cX8_nextOf 33 = .ok (.aload_n 0, 1) := by decide +kernel
theorem dX8_nextOf_34 : decode cX8_nextOf 34 = .ok (.getfield 171, 3) := by decide +kernel
theorem dX8_nextOf_37 : decode cX8_nextOf 37 = .ok (.ior, 1) := by decide +kernel
theorem dX8_nextOf_38 : decode cX8_nextOf 38 = .ok (.istore_n 1, 1) := by decide +kernel
theorem dX8_nextOf_39 : decode cX8_nextOf 39 = .ok (.iinc 2 1, 3) := by decide +kernel
theorem dX8_nextOf_42 : decode cX8_nextOf 42 = .ok (.goto (-31), 3) := by decide +kernel
theorem dX8_nextOf_45 : decode cX8_nextOf 45 = .ok (.iload_n 1, 1) := by decide +kernel
theorem dX8_nextOf_46 : decode cX8_nextOf 46 = .ok (.ireturn, 1) := by decide +kernel
def Mo_nextOf_L11 (k45 : Wd → Int32 → Option (Int32 × Wd)) : Nat → Wd → Int32 → Int32 → Option (Int32 × Wd)
  | 0, _, _, _ => none
  | n + 1, w, v1, v2 => (if (3 : Int32) ≤ v2 then (k45 w v1) else (if ib ((4 : Int32) + v2) 45 = true then (if (w.1 38 (Int32.toNatClampNeg ((4 : Int32) + v2))) ≤ (0 : Int32) then (Mo_nextOf_L11 k45 n w v1 (v2 + (1 : Int32))) else (Option.bind (Mo_layBy w v2) (fun q5 => (Mo_nextOf_L11 k45 n q5 (v1 ||| (q5.1 37 18)) (v2 + (1 : Int32)))))) else none))
set_option maxRecDepth 100000 in
set_option maxHeartbeats 4000000 in
theorem Mo_nextOf_L11_ok {K : Ctx} (F : Fx K cX8_nextOf 3 RX8 (some .int) 3 67 false [37, 38, 42]) {k45 : Wd → Int32 → Option (Int32 × Wd)} (h45 : ∀ (w : Wd) (v1 : Int32), N K rtI (k45 w v1) w 45 [(1, .int v1)] []) : ∀ (n : Nat) (w : Wd) (v1 : Int32) (v2 : Int32), N K rtI (Mo_nextOf_L11 k45 n w v1 v2) w 11 [(0, .ref (gA (cg K) 37)), (1, .int v1), (2, .int v2)] [] := by
  intro n
  induction n with
  | zero => intro _ _ _; exact n_none
  | succ n ih =>
    intro w v1 v2
    rw [Mo_nextOf_L11]
    refine n_iload_n F dX8_nextOf_11 rfl 2 rfl ?_
    refine n_iconst F (3 : Int32) dX8_nextOf_12 (by decide) ?_
    refine n_icmp_ge F 45 dX8_nextOf_13 (by decide) (fun e2 => ?_) (fun e2 => ?_)
    · rw [if_pos e2]
      exact n_sub [1] rfl (h45 _ _)
    rw [if_neg e2]
    refine n_aload_n F dX8_nextOf_16 rfl 0 rfl ?_
    refine n_get F ck_8 lf_RX8_7 (by decide) fg_37_0 (by decide) dX8_nextOf_17 ?_
    refine n_iconst F (4 : Int32) dX8_nextOf_20 (by decide) ?_
    refine n_iload_n F dX8_nextOf_21 rfl 2 rfl ?_
    refine n_iadd F dX8_nextOf_22 ?_
    refine n_chk (fun e3 => ?_)
    refine n_iald F ar_38 (by decide) (ib_in e3) rfl dX8_nextOf_23 ?_
    refine n_if_le F 39 dX8_nextOf_24 (by decide) (fun e4 => ?_) (fun e4 => ?_)
    · rw [if_pos e4]
      refine n_iinc F (v2 + (1 : Int32)) (lv' := [(2, .int (v2 + (1 : Int32))), (0, .ref (gA (cg K) 37)), (1, .int v1)]) dX8_nextOf_39 2 rfl rfl (by decide) rfl ?_
      refine n_goto F 11 dX8_nextOf_42 (by decide) ?_
      exact n_sub [1, 2, 0] rfl (ih _ _ _)
    rw [if_neg e4]
    refine n_aload_n F dX8_nextOf_27 rfl 0 rfl ?_
    refine n_iload_n F dX8_nextOf_28 rfl 2 rfl ?_
    refine n_bind (fun q5 hq5 => ?_)
    refine n_callVv F cb_X8_layBy lm_RX8_180 ob_37 (by decide) ⟨_, _, rfl⟩ (ct_Mo_layBy (fx_ok F) (fx_sd F) (fx_ix F rfl) w v2 hq5) rfl rfl (Nat.le_of_ble_eq_true rfl) ⟨Nat.le_of_ble_eq_true rfl, Nat.le_of_ble_eq_true rfl⟩ dX8_nextOf_29 ?_
    refine n_iload_n F dX8_nextOf_32 rfl 1 rfl ?_
    refine n_aload_n F dX8_nextOf_33 rfl 0 rfl ?_
    refine n_get F ck_8 lf_RX8_171 (by decide) fg_37_18 (by decide) dX8_nextOf_34 ?_
    refine n_ior F dX8_nextOf_37 ?_
    refine n_istore_n F (lv' := [(1, .int (v1 ||| (q5.1 37 18))), (0, .ref (gA (cg K) 37)), (2, .int v2)]) dX8_nextOf_38 rfl (by decide) rfl ?_
    refine n_iinc F (v2 + (1 : Int32)) (lv' := [(2, .int (v2 + (1 : Int32))), (1, .int (v1 ||| (q5.1 37 18))), (0, .ref (gA (cg K) 37))]) dX8_nextOf_39 2 rfl rfl (by decide) rfl ?_
    refine n_goto F 11 dX8_nextOf_42 (by decide) ?_
    exact n_sub [2, 1, 0] rfl (ih _ _ _)
def Mo_nextOf_B45 (w : Wd) (v1 : Int32) : Option (Int32 × Wd) := some (v1, w)
set_option maxRecDepth 100000 in
set_option maxHeartbeats 4000000 in
theorem Mo_nextOf_B45_ok {K : Ctx} (F : Fx K cX8_nextOf 3 RX8 (some .int) 3 67 false [37, 38, 42]) (w : Wd) (v1 : Int32) : N K rtI (Mo_nextOf_B45 w v1) w 45 [(1, .int v1)] [] := by
  rw [Mo_nextOf_B45]
  refine n_iload_n F dX8_nextOf_45 rfl 0 rfl ?_
  exact n_iret F rfl rfl dX8_nextOf_46
def Mo_nextOf (w : Wd) : Option (Int32 × Wd) := (Option.bind (Mo_layByNone w) (fun q1 => (Mo_nextOf_L11 Mo_nextOf_B45 FU q1 (q1.1 37 18) (0 : Int32))))
set_option maxRecDepth 100000 in
set_option maxHeartbeats 4000000 in
theorem ct_Mo_nextOf {l : Launch} {g : GG} {σ : Sd} (hg : OKg g σ) (hb : σ.2.1 = false) (hx : ∀ c ∈ ([37, 38, 42] : List Nat), c ∈ σ.1) (w : Wd) {q : Int32 × Wd} (hq : Mo_nextOf w = some q) : CT l g σ yX8_nextOf cX8_nextOf 3 (some .int) 3 67 [.ref (gA g 37)] w (some (.int q.1)) q.2 := by
  refine ct_of (rt := rtI) (res := Mo_nextOf w) (q := q) (own := RX8) (b := false) hg hb hx (by decide) rfl (Nat.le_of_ble_eq_true rfl) hq (fun K e1 e2 e3 F => ?_)
  subst e1 e2 e3
  rw [Mo_nextOf]
  show N K _ _ w 0 [(0, .ref (gA (cg K) 37))] []
  refine n_aload_n F dX8_nextOf_0 rfl 0 rfl ?_
  refine n_bind (fun q1 hq1 => ?_)
  refine n_callVv F cb_X8_layByNone lm_RX8_177 ob_37 (by decide) ⟨_, _, rfl⟩ (ct_Mo_layByNone (fx_ok F) (fx_sd F) (fx_ix F rfl) w hq1) rfl rfl (Nat.le_of_ble_eq_true rfl) ⟨Nat.le_of_ble_eq_true rfl, Nat.le_of_ble_eq_true rfl⟩ dX8_nextOf_1 ?_
  refine n_aload_n F dX8_nextOf_4 rfl 0 rfl ?_
  refine n_get F ck_8 lf_RX8_171 (by decide) fg_37_18 (by decide) dX8_nextOf_5 ?_
  refine n_istore_n F (lv' := [(1, .int (q1.1 37 18)), (0, .ref (gA (cg K) 37))]) dX8_nextOf_8 rfl (by decide) rfl ?_
  refine n_iconst F (0 : Int32) dX8_nextOf_9 (by decide) ?_
  refine n_istore_n F (lv' := [(2, .int (0 : Int32)), (1, .int (q1.1 37 18)), (0, .ref (gA (cg K) 37))]) dX8_nextOf_10 rfl (by decide) rfl ?_
  exact n_sub [2, 1, 0] rfl (Mo_nextOf_L11_ok F (Mo_nextOf_B45_ok F) FU _ _ _)
theorem dX8_noon_0 : decode cX8_noon 0 = .ok (.aload_n 0, 1) := by decide +kernel
theorem dX8_noon_1 : decode cX8_noon 1 = .ok (.getfield 7, 3) := by decide +kernel
theorem dX8_noon_4 : decode cX8_noon 4 = .ok (.iconst 3, 1) := by decide +kernel
theorem dX8_noon_5 : decode cX8_noon 5 = .ok (.iaload, 1) := by decide +kernel
theorem dX8_noon_6 : decode cX8_noon 6 = .ok (.iconst 1, 1) := by decide +kernel
theorem dX8_noon_7 : decode cX8_noon 7 = .ok (.if_icmp .eq 21, 3) := by decide +kernel
theorem dX8_noon_10 : decode cX8_noon 10 = .ok (.aload_n 0, 1) := by decide +kernel
theorem dX8_noon_11 : decode cX8_noon 11 = .ok (.invokevirtual 161, 3) := by decide +kernel
theorem dX8_noon_14 : decode cX8_noon 14 = .ok (.ifCond .eq 17, 3) := by decide +kernel
theorem dX8_noon_17 : decode cX8_noon 17 = .ok (.aload_n 0, 1) := by decide +kernel
theorem dX8_noon_18 : decode cX8_noon 18 = .ok (.getfield 7, 3) := by decide +kernel
theorem dX8_noon_21 : decode cX8_noon 21 = .ok (.bipush 7, 2) := by decide +kernel
theorem dX8_noon_23 : decode cX8_noon 23 = .ok (.iaload, 1) := by decide +kernel
theorem dX8_noon_24 : decode cX8_noon 24 = .ok (.iconst (-1), 1) := by decide +kernel
theorem dX8_noon_25 : decode cX8_noon 25 = .ok (.if_icmp .ne 6, 3) := by decide +kernel
theorem dX8_noon_28 : decode cX8_noon 28 = .ok (.bipush (-4), 2) := by decide +kernel
theorem dX8_noon_30 : decode cX8_noon 30 = .ok (.ireturn, 1) := by decide +kernel
theorem dX8_noon_31 : decode cX8_noon 31 = .ok (.aload_n 0, 1) := by decide +kernel
theorem dX8_noon_32 : decode cX8_noon 32 = .ok (.getfield 7, 3) := by decide +kernel
theorem dX8_noon_35 : decode cX8_noon 35 = .ok (.bipush 14, 2) := by decide +kernel
theorem dX8_noon_37 : decode cX8_noon 37 = .ok (.aload_n 0, 1) := by decide +kernel
theorem dX8_noon_38 : decode cX8_noon 38 = .ok (.invokevirtual 183, 3) := by decide +kernel
theorem dX8_noon_41 : decode cX8_noon 41 = .ok (.iastore, 1) := by decide +kernel
theorem dX8_noon_42 : decode cX8_noon 42 = .ok (.aload_n 0, 1) := by decide +kernel
theorem dX8_noon_43 : decode cX8_noon 43 = .ok (.getfield 7, 3) := by decide +kernel
theorem dX8_noon_46 : decode cX8_noon 46 = .ok (.bipush 7, 2) := by decide +kernel
theorem dX8_noon_48 : decode cX8_noon 48 = .ok (.iaload, 1) := by decide +kernel
theorem dX8_noon_49 : decode cX8_noon 49 = .ok (.istore_n 1, 1) := by decide +kernel
theorem dX8_noon_50 : decode cX8_noon 50 = .ok (.iload_n 1, 1) := by decide +kernel
theorem dX8_noon_51 : decode cX8_noon 51 = .ok (.iconst (-1), 1) := by decide +kernel
theorem dX8_noon_52 : decode cX8_noon 52 = .ok (.if_icmp .ne 17, 3) := by decide +kernel
theorem dX8_noon_55 : decode cX8_noon 55 = .ok (.aload_n 0, 1) := by decide +kernel
theorem dX8_noon_56 : decode cX8_noon 56 = .ok (.invokevirtual 177, 3) := by decide +kernel
theorem dX8_noon_59 : decode cX8_noon 59 = .ok (.aload_n 0, 1) := by decide +kernel
theorem dX8_noon_60 : decode cX8_noon 60 = .ok (.getfield 7, 3) := by decide +kernel
theorem dX8_noon_63 : decode cX8_noon 63 = .ok (.iconst 2, 1) := by decide +kernel
theorem dX8_noon_64 : decode cX8_noon 64 = .ok (.iconst 0, 1) := by decide +kernel
theorem dX8_noon_65 : decode cX8_noon 65 = .ok (.iastore, 1) := by decide +kernel
theorem dX8_noon_66 : decode cX8_noon 66 = .ok (.goto 76, 3) := by decide +kernel
theorem dX8_noon_69 : decode cX8_noon 69 = .ok (.aload_n 0, 1) := by decide +kernel
theorem dX8_noon_70 : decode cX8_noon 70 = .ok (.aload_n 0, 1) := by decide +kernel
theorem dX8_noon_71 : decode cX8_noon 71 = .ok (.getfield 27, 3) := by decide +kernel
theorem dX8_noon_74 : decode cX8_noon 74 = .ok (.bipush 6, 2) := by decide +kernel
theorem dX8_noon_76 : decode cX8_noon 76 = .ok (.iload_n 1, 1) := by decide +kernel
theorem dX8_noon_77 : decode cX8_noon 77 = .ok (.imul, 1) := by decide +kernel
theorem dX8_noon_78 : decode cX8_noon 78 = .ok (.iconst 5, 1) := by decide +kernel
theorem dX8_noon_79 : decode cX8_noon 79 = .ok (.iadd, 1) := by decide +kernel
theorem dX8_noon_80 : decode cX8_noon 80 = .ok (.iaload, 1) := by decide +kernel
theorem dX8_noon_81 : decode cX8_noon 81 = .ok (.invokevirtual 180, 3) := by decide +kernel
theorem dX8_noon_84 : decode cX8_noon 84 = .ok (.aload_n 0, 1) := by decide +kernel
theorem dX8_noon_85 : decode cX8_noon 85 = .ok (.getfield 7, 3) := by decide +kernel
theorem dX8_noon_88 : decode cX8_noon 88 = .ok (.iconst 1, 1) := by decide +kernel
theorem dX8_noon_89 : decode cX8_noon 89 = .ok (.aload_n 0, 1) := by decide +kernel
theorem dX8_noon_90 : decode cX8_noon 90 = .ok (.getfield 27, 3) := by decide +kernel
theorem dX8_noon_93 : decode cX8_noon 93 = .ok (.bipush 6, 2) := by decide +kernel
theorem dX8_noon_95 : decode cX8_noon 95 = .ok (.iload_n 1, 1) := by decide +kernel
theorem dX8_noon_96 : decode cX8_noon 96 = .ok (.imul, 1) := by decide +kernel
theorem dX8_noon_97 : decode cX8_noon 97 = .ok (.iconst 1, 1) := by decide +kernel
theorem dX8_noon_98 : decode cX8_noon 98 = .ok (.iadd, 1) := by decide +kernel
theorem dX8_noon_99 : decode cX8_noon 99 = .ok (.iaload, 1) := by decide +kernel
theorem dX8_noon_100 : decode cX8_noon 100 = .ok (.iastore, 1) := by decide +kernel
theorem dX8_noon_101 : decode cX8_noon 101 = .ok (.aload_n 0, 1) := by decide +kernel
theorem dX8_noon_102 : decode cX8_noon 102 = .ok (.getfield 7, 3) := by decide +kernel
theorem dX8_noon_105 : decode cX8_noon 105 = .ok (.iconst 2, 1) := by decide +kernel
theorem dX8_noon_106 : decode cX8_noon 106 = .ok (.aload_n 0, 1) := by decide +kernel
theorem dX8_noon_107 : decode cX8_noon 107 = .ok (.getfield 27, 3) := by decide +kernel
theorem dX8_noon_110 : decode cX8_noon 110 = .ok (.bipush 6, 2) := by decide +kernel
theorem dX8_noon_112 : decode cX8_noon 112 = .ok (.iload_n 1, 1) := by decide +kernel
theorem dX8_noon_113 : decode cX8_noon 113 = .ok (.imul, 1) := by decide +kernel
theorem dX8_noon_114 : decode cX8_noon 114 = .ok (.iconst 4, 1) := by decide +kernel
theorem dX8_noon_115 : decode cX8_noon 115 = .ok (.iadd, 1) := by decide +kernel
theorem dX8_noon_116 : decode cX8_noon 116 = .ok (.iaload, 1) := by decide +kernel
theorem dX8_noon_117 : decode cX8_noon 117 = .ok (.iconst 1, 1) := by decide +kernel
theorem dX8_noon_118 : decode cX8_noon 118 = .ok (.isub, 1) := by decide +kernel
theorem dX8_noon_119 : decode cX8_noon 119 = .ok (.iastore, 1) := by decide +kernel
theorem dX8_noon_120 : decode cX8_noon 120 = .ok (.aload_n 0, 1) := by decide +kernel
theorem dX8_noon_121 : decode cX8_noon 121 = .ok (.getfield 7, 3) := by decide +kernel
theorem dX8_noon_124 : decode cX8_noon 124 = .ok (.iconst 4, 1) := by decide +kernel
theorem dX8_noon_125 : decode cX8_noon 125 = .ok (.aload_n 0, 1) := by decide +kernel
theorem dX8_noon_126 : decode cX8_noon 126 = .ok (.getfield 27, 3) := by decide +kernel
theorem dX8_noon_129 : decode cX8_noon 129 = .ok (.bipush 6, 2) := by decide +kernel
theorem dX8_noon_131 : decode cX8_noon 131 = .ok (.iload_n 1, 1) := by decide +kernel
theorem dX8_noon_132 : decode cX8_noon 132 = .ok (.imul, 1) := by decide +kernel
theorem dX8_noon_133 : decode cX8_noon 133 = .ok (.iconst 5, 1) := by decide +kernel
theorem dX8_noon_134 : decode cX8_noon 134 = .ok (.iadd, 1) := by decide +kernel
theorem dX8_noon_135 : decode cX8_noon 135 = .ok (.iaload, 1) := by decide +kernel
theorem dX8_noon_136 : decode cX8_noon 136 = .ok (.iadd, 1) := by decide +kernel
theorem dX8_noon_137 : decode cX8_noon 137 = .ok (.dup2, 1) := by decide +kernel
theorem dX8_noon_138 : decode cX8_noon 138 = .ok (.iaload, 1) := by decide +kernel
theorem dX8_noon_139 : decode cX8_noon 139 = .ok (.iconst 1, 1) := by decide +kernel
theorem dX8_noon_140 : decode cX8_noon 140 = .ok (.isub, 1) := by decide +kernel
theorem dX8_noon_141 : decode cX8_noon 141 = .ok (.iastore, 1) := by decide +kernel
theorem dX8_noon_142 : decode cX8_noon 142 = .ok (.aload_n 0, 1) := by decide +kernel
theorem dX8_noon_143 : decode cX8_noon 143 = .ok (.getfield 7, 3) := by decide +kernel
theorem dX8_noon_146 : decode cX8_noon 146 = .ok (.bipush 7, 2) := by decide +kernel
theorem dX8_noon_148 : decode cX8_noon 148 = .ok (.iconst (-1), 1) := by decide +kernel
theorem dX8_noon_149 : decode cX8_noon 149 = .ok (.iastore, 1) := by decide +kernel
theorem dX8_noon_150 : decode cX8_noon 150 = .ok (.aload_n 0, 1) := by decide +kernel
theorem dX8_noon_151 : decode cX8_noon 151 = .ok (.getfield 7, 3) := by decide +kernel
theorem dX8_noon_154 : decode cX8_noon 154 = .ok (.bipush 12, 2) := by decide +kernel
theorem dX8_noon_156 : decode cX8_noon 156 = .ok (.aload_n 0, 1) := by decide +kernel
theorem dX8_noon_157 : decode cX8_noon 157 = .ok (.getfield 171, 3) := by decide +kernel
theorem dX8_noon_160 : decode cX8_noon 160 = .ok (.iastore, 1) := by decide +kernel
theorem dX8_noon_161 : decode cX8_noon 161 = .ok (.aload_n 0, 1) := by decide +kernel
theorem dX8_noon_162 : decode cX8_noon 162 = .ok (.getfield 7, 3) := by decide +kernel
theorem dX8_noon_165 : decode cX8_noon 165 = .ok (.bipush 13, 2) := by decide +kernel
theorem dX8_noon_167 : decode cX8_noon 167 = .ok (.aload_n 0, 1) := by decide +kernel
theorem dX8_noon_168 : decode cX8_noon 168 = .ok (.getfield 174, 3) := by decide +kernel
theorem dX8_noon_171 : decode cX8_noon 171 = .ok (.iastore, 1) := by decide +kernel
theorem dX8_noon_172 : decode cX8_noon 172 = .ok (.iconst 0, 1) := by decide +kernel
theorem dX8_noon_173 : decode cX8_noon 173 = .ok (.istore_n 2, 1) := by decide +kernel
theorem dX8_noon_174 : decode cX8_noon 174 = .ok (.iload_n 2, 1) := by decide +kernel
theorem dX8_noon_175 : decode cX8_noon 175 = .ok (.iconst 2, 1) := by decide +kernel
theorem dX8_noon_176 : decode cX8_noon 176 = .ok (.if_icmp .ge 149, 3) := by decide +kernel
theorem dX8_noon_179 : decode cX8_noon 179 = .ok (.aload_n 0, 1) := by decide +kernel
theorem dX8_noon_180 : decode cX8_noon 180 = .ok (.getfield 7, 3) := by decide +kernel
theorem dX8_noon_183 : decode cX8_noon 183 = .ok (.bipush 10, 2) := by decide +kernel
theorem dX8_noon_185 : decode cX8_noon 185 = .ok (.iload_n 2, 1) := by decide +kernel
theorem dX8_noon_186 : decode cX8_noon 186 = .ok (.iadd, 1) := by decide +kernel
theorem dX8_noon_187 : decode cX8_noon 187 = .ok (.iaload, 1) := by decide +kernel
theorem dX8_noon_188 : decode cX8_noon 188 = .ok (.istore_n 3, 1) := by decide +kernel
theorem dX8_noon_189 : decode cX8_noon 189 = .ok (.aload_n 0, 1) := by decide +kernel
theorem dX8_noon_190 : decode cX8_noon 190 = .ok (.getfield 7, 3) := by decide +kernel
theorem dX8_noon_193 : decode cX8_noon 193 = .ok (.bipush 8, 2) := by decide +kernel
theorem dX8_noon_195 : decode cX8_noon 195 = .ok (.iload_n 2, 1) := by decide +kernel
theorem dX8_noon_196 : decode cX8_noon 196 = .ok (.iadd, 1) := by decide +kernel
theorem dX8_noon_197 : decode cX8_noon 197 = .ok (.iload_n 3, 1) := by decide +kernel
theorem dX8_noon_198 : decode cX8_noon 198 = .ok (.iconst (-1), 1) := by decide +kernel
theorem dX8_noon_199 : decode cX8_noon 199 = .ok (.if_icmp .ne 15, 3) := by decide +kernel
theorem dX8_noon_202 : decode cX8_noon 202 = .ok (.aload_n 0, 1) := by decide +kernel
theorem dX8_noon_203 : decode cX8_noon 203 = .ok (.getfield 7, 3) := by decide +kernel
theorem dX8_noon_206 : decode cX8_noon 206 = .ok (.bipush 8, 2) := by decide +kernel
theorem dX8_noon_208 : decode cX8_noon 208 = .ok (.iload_n 2, 1) := by decide +kernel
theorem dX8_noon_209 : decode cX8_noon 209 = .ok (.iadd, 1) := by decide +kernel
theorem dX8_noon_210 : decode cX8_noon 210 = .ok (.iaload, 1) := by decide +kernel
theorem dX8_noon_211 : decode cX8_noon 211 = .ok (.goto 14, 3) := by decide +kernel
theorem dX8_noon_214 : decode cX8_noon 214 = .ok (.aload_n 0, 1) := by decide +kernel
theorem dX8_noon_215 : decode cX8_noon 215 = .ok (.getfield 27, 3) := by decide +kernel
theorem dX8_noon_218 : decode cX8_noon 218 = .ok (.bipush 6, 2) := by decide +kernel
theorem dX8_noon_220 : decode cX8_noon 220 = .ok (.iload_n 3, 1) := by decide +kernel
theorem dX8_noon_221 : decode cX8_noon 221 = .ok (.imul, 1) := by decide +kernel
theorem dX8_noon_222 : decode cX8_noon 222 = .ok (.iconst 1, 1) := by decide +kernel
theorem dX8_noon_223 : decode cX8_noon 223 = .ok (.iadd, 1) := by decide +kernel
theorem dX8_noon_224 : decode cX8_noon 224 = .ok (.iaload, 1) := by decide +kernel
theorem dX8_noon_225 : decode cX8_noon 225 = .ok (.iastore, 1) := by decide +kernel
theorem dX8_noon_226 : decode cX8_noon 226 = .ok (.aload_n 0, 1) := by decide +kernel
theorem dX8_noon_227 : decode cX8_noon 227 = .ok (.getfield 7, 3) := by decide +kernel
theorem dX8_noon_230 : decode cX8_noon 230 = .ok (.bipush 10, 2) := by decide +kernel
theorem dX8_noon_232 : decode cX8_noon 232 = .ok (.iload_n 2, 1) := by decide +kernel
theorem dX8_noon_233 : decode cX8_noon 233 = .ok (.iadd, 1) := by decide +kernel
theorem dX8_noon_234 : decode cX8_noon 234 = .ok (.iconst (-1), 1) := by decide +kernel
theorem dX8_noon_235 : decode cX8_noon 235 = .ok (.iastore, 1) := by decide +kernel
theorem dX8_noon_236 : decode cX8_noon 236 = .ok (.aload_n 0, 1) := by decide +kernel
theorem dX8_noon_237 : decode cX8_noon 237 = .ok (.getfield 7, 3) := by decide +kernel
theorem dX8_noon_240 : decode cX8_noon 240 = .ok (.iconst 3, 1) := by decide +kernel
theorem dX8_noon_241 : decode cX8_noon 241 = .ok (.aload_n 0, 1) := by decide +kernel
theorem dX8_noon_242 : decode cX8_noon 242 = .ok (.getfield 7, 3) := by decide +kernel
theorem dX8_noon_245 : decode cX8_noon 245 = .ok (.iconst 2, 1) := by decide +kernel
theorem dX8_noon_246 : decode cX8_noon 246 = .ok (.iaload, 1) := by decide +kernel
theorem dX8_noon_247 : decode cX8_noon 247 = .ok (.ifCond .ne 25, 3) := by decide +kernel
theorem dX8_noon_250 : decode cX8_noon 250 = .ok (.aload_n 0, 1) := by decide +kernel
theorem dX8_noon_251 : decode cX8_noon 251 = .ok (.getfield 7, 3) := by decide +kernel
theorem dX8_noon_254 : decode cX8_noon 254 = .ok (.bipush 8, 2) := by decide +kernel
theorem dX8_noon_256 : decode cX8_noon 256 = .ok (.iload_n 2, 1) := by decide +kernel
theorem dX8_noon_257 : decode cX8_noon 257 = .ok (.iadd, 1) := by decide +kernel
theorem dX8_noon_258 : decode cX8_noon 258 = .ok (.iaload, 1) := by decide +kernel
theorem dX8_noon_259 : decode cX8_noon 259 = .ok (.aload_n 0, 1) := by decide +kernel
theorem dX8_noon_260 : decode cX8_noon 260 = .ok (.getfield 7, 3) := by decide +kernel
theorem dX8_noon_263 : decode cX8_noon 263 = .ok (.iconst 1, 1) := by decide +kernel
theorem dX8_noon_264 : decode cX8_noon 264 = .ok (.iaload, 1) := by decide +kernel
theorem dX8_noon_265 : decode cX8_noon 265 = .ok (.if_icmp .ne 7, 3) := by decide +kernel
theorem dX8_noon_268 : decode cX8_noon 268 = .ok (.iconst 1, 1) := by decide +kernel
theorem dX8_noon_269 : decode cX8_noon 269 = .ok (.goto 9, 3) := by decide +kernel
theorem dX8_noon_272 : decode cX8_noon 272 = .ok (.aload_n 0, 1) := by decide +kernel
theorem dX8_noon_273 : decode cX8_noon 273 = .ok (.getfield 7, 3) := by decide +kernel
theorem dX8_noon_276 : decode cX8_noon 276 = .ok (.iconst 3, 1) := by decide +kernel
theorem dX8_noon_277 : decode cX8_noon 277 = .ok (.iaload, 1) := by decide +kernel
theorem dX8_noon_278 : decode cX8_noon 278 = .ok (.iastore, 1) := by decide +kernel
theorem dX8_noon_279 : decode cX8_noon 279 = .ok (.aload_n 0, 1) := by decide +kernel
theorem dX8_noon_280 : decode cX8_noon 280 = .ok (.getfield 7, 3) := by decide +kernel
theorem dX8_noon_283 : decode cX8_noon 283 = .ok (.bipush 12, 2) := by decide +kernel
theorem dX8_noon_285 : decode cX8_noon 285 = .ok (.dup2, 1) := by decide +kernel
theorem dX8_noon_286 : decode cX8_noon 286 = .ok (.iaload, 1) := by decide +kernel
theorem dX8_noon_287 : decode cX8_noon 287 = .ok (.aload_n 0, 1) := by decide +kernel
theorem dX8_noon_288 : decode cX8_noon 288 = .ok (.getfield 7, 3) := by decide +kernel
theorem dX8_noon_291 : decode cX8_noon 291 = .ok (.bipush 8, 2) := by decide +kernel
theorem dX8_noon_293 : decode cX8_noon 293 = .ok (.iload_n 2, 1) := by decide +kernel
theorem dX8_noon_294 : decode cX8_noon 294 = .ok (.iadd, 1) := by decide +kernel
theorem dX8_noon_295 : decode cX8_noon 295 = .ok (.iaload, 1) := by decide +kernel
theorem dX8_noon_296 : decode cX8_noon 296 = .ok (.iconst (-1), 1) := by decide +kernel
theorem dX8_noon_297 : decode cX8_noon 297 = .ok (.if_icmp .ne 7, 3) := by decide +kernel
theorem dX8_noon_300 : decode cX8_noon 300 = .ok (.iconst (-1), 1) := by decide +kernel
theorem dX8_noon_301 : decode cX8_noon 301 = .ok (.goto 16, 3) := by decide +kernel
theorem dX8_noon_304 : decode cX8_noon 304 = .ok (.iconst 1, 1) := by decide +kernel
theorem dX8_noon_305 : decode cX8_noon 305 = .ok (.aload_n 0, 1) := by decide +kernel
theorem dX8_noon_306 : decode cX8_noon 306 = .ok (.getfield 7, 3) := by decide +kernel
theorem dX8_noon_309 : decode cX8_noon 309 = .ok (.bipush 8, 2) := by decide +kernel
theorem dX8_noon_311 : decode cX8_noon 311 = .ok (.iload_n 2, 1) := by decide +kernel
theorem dX8_noon_312 : decode cX8_noon 312 = .ok (.iadd, 1) := by decide +kernel
theorem dX8_noon_313 : decode cX8_noon 313 = .ok (.iaload, 1) := by decide +kernel
theorem dX8_noon_314 : decode cX8_noon 314 = .ok (.ishl, 1) := by decide +kernel
theorem dX8_noon_315 : decode cX8_noon 315 = .ok (.iconst (-1), 1) := by decide +kernel
theorem dX8_noon_316 : decode cX8_noon 316 = .ok (.ixor, 1) := by decide +kernel
theorem dX8_noon_317 : decode cX8_noon 317 = .ok (.iand, 1) := by decide +kernel
theorem dX8_noon_318 : decode cX8_noon 318 = .ok (.iastore, 1) := by decide +kernel
theorem dX8_noon_319 : decode cX8_noon 319 = .ok (.iinc 2 1, 3) := by decide +kernel
theorem dX8_noon_322 : decode cX8_noon 322 = .ok (.goto (-148), 3) := by decide +kernel
theorem dX8_noon_325 : decode cX8_noon 325 = .ok (.aload_n 0, 1) := by decide +kernel
theorem dX8_noon_326 : decode cX8_noon 326 = .ok (.getfield 7, 3) := by decide +kernel
theorem dX8_noon_329 : decode cX8_noon 329 = .ok (.iconst 0, 1) := by decide +kernel
theorem dX8_noon_330 : decode cX8_noon 330 = .ok (.dup2, 1) := by decide +kernel
theorem dX8_noon_331 : decode cX8_noon 331 = .ok (.iaload, 1) := by decide +kernel
theorem dX8_noon_332 : decode cX8_noon 332 = .ok (.iconst 1, 1) := by decide +kernel
theorem dX8_noon_333 : decode cX8_noon 333 = .ok (.iadd, 1) := by decide +kernel
theorem dX8_noon_334 : decode cX8_noon 334 = .ok (.iastore, 1) := by decide +kernel
theorem dX8_noon_335 : decode cX8_noon 335 = .ok (.aload_n 0, 1) := by decide +kernel
theorem dX8_noon_336 : decode cX8_noon 336 = .ok (.getfield 7, 3) := by decide +kernel
theorem dX8_noon_339 : decode cX8_noon 339 = .ok (.iconst 3, 1) := by decide +kernel
theorem dX8_noon_340 : decode cX8_noon 340 = .ok (.iaload, 1) := by decide +kernel
theorem dX8_noon_341 : decode cX8_noon 341 = .ok (.iconst 1, 1) := by decide +kernel
theorem dX8_noon_342 : decode cX8_noon 342 = .ok (.if_icmp .eq 17, 3) := by decide +kernel
theorem dX8_noon_345 : decode cX8_noon 345 = .ok (.aload_n 0, 1) := by decide +kernel
theorem dX8_noon_346 : decode cX8_noon 346 = .ok (.getfield 7, 3) := by decide +kernel
theorem dX8_noon_349 : decode cX8_noon 349 = .ok (.iconst 0, 1) := by decide +kernel
theorem dX8_noon_350 : decode cX8_noon 350 = .ok (.iaload, 1) := by decide +kernel
theorem dX8_noon_351 : decode cX8_noon 351 = .ok (.aload_n 0, 1) := by decide +kernel
theorem dX8_noon_352 : decode cX8_noon 352 = .ok (.getfield 33, 3) := by decide +kernel
theorem dX8_noon_355 : decode cX8_noon 355 = .ok (.irem, 1) := by decide +kernel
theorem dX8_noon_356 : decode cX8_noon 356 = .ok (.ifCond .ne 61, 3) := by decide +kernel
theorem dX8_noon_359 : decode cX8_noon 359 = .ok (.aload_n 0, 1) := by decide +kernel
theorem dX8_noon_360 : decode cX8_noon 360 = .ok (.getfield 7, 3) := by decide +kernel
theorem dX8_noon_363 : decode cX8_noon 363 = .ok (.bipush 12, 2) := by decide +kernel
theorem dX8_noon_365 : decode cX8_noon 365 = .ok (.aload_n 0, 1) := by decide +kernel
theorem dX8_noon_366 : decode cX8_noon 366 = .ok (.getfield 7, 3) := by decide +kernel
theorem dX8_noon_369 : decode cX8_noon 369 = .ok (.iconst 2, 1) := by decide +kernel
theorem dX8_noon_370 : decode cX8_noon 370 = .ok (.iaload, 1) := by decide +kernel
theorem dX8_noon_371 : decode cX8_noon 371 = .ok (.iconst 1, 1) := by decide +kernel
theorem dX8_noon_372 : decode cX8_noon 372 = .ok (.if_icmp .ne 7, 3) := by decide +kernel
theorem dX8_noon_375 : decode cX8_noon 375 = .ok (.iconst 0, 1) := by decide +kernel
theorem dX8_noon_376 : decode cX8_noon 376 = .ok (.goto 11, 3) := by decide +kernel
theorem dX8_noon_379 : decode cX8_noon 379 = .ok (.iconst 1, 1) := by decide +kernel
theorem dX8_noon_380 : decode cX8_noon 380 = .ok (.aload_n 0, 1) := by decide +kernel
theorem dX8_noon_381 : decode cX8_noon 381 = .ok (.getfield 7, 3) := by decide +kernel
theorem dX8_noon_384 : decode cX8_noon 384 = .ok (.iconst 1, 1) := by decide +kernel
theorem dX8_noon_385 : decode cX8_noon 385 = .ok (.iaload, 1) := by decide +kernel
theorem dX8_noon_386 : decode cX8_noon 386 = .ok (.ishl, 1) := by decide +kernel
theorem dX8_noon_387 : decode cX8_noon 387 = .ok (.iastore, 1) := by decide +kernel
theorem dX8_noon_388 : decode cX8_noon 388 = .ok (.aload_n 0, 1) := by decide +kernel
theorem dX8_noon_389 : decode cX8_noon 389 = .ok (.getfield 7, 3) := by decide +kernel
theorem dX8_noon_392 : decode cX8_noon 392 = .ok (.bipush 13, 2) := by decide +kernel
theorem dX8_noon_394 : decode cX8_noon 394 = .ok (.aload_n 0, 1) := by decide +kernel
theorem dX8_noon_395 : decode cX8_noon 395 = .ok (.getfield 7, 3) := by decide +kernel
theorem dX8_noon_398 : decode cX8_noon 398 = .ok (.iconst 2, 1) := by decide +kernel
theorem dX8_noon_399 : decode cX8_noon 399 = .ok (.iaload, 1) := by decide +kernel
theorem dX8_noon_400 : decode cX8_noon 400 = .ok (.iconst 1, 1) := by decide +kernel
theorem dX8_noon_401 : decode cX8_noon 401 = .ok (.if_icmp .ne 14, 3) := by decide +kernel
theorem dX8_noon_404 : decode cX8_noon 404 = .ok (.iconst 1, 1) := by decide +kernel
theorem dX8_noon_405 : decode cX8_noon 405 = .ok (.aload_n 0, 1) := by decide +kernel
theorem dX8_noon_406 : decode cX8_noon 406 = .ok (.getfield 7, 3) := by decide +kernel
theorem dX8_noon_409 : decode cX8_noon 409 = .ok (.iconst 1, 1) := by decide +kernel
theorem dX8_noon_410 : decode cX8_noon 410 = .ok (.iaload, 1) := by decide +kernel
theorem dX8_noon_411 : decode cX8_noon 411 = .ok (.ishl, 1) := by decide +kernel
theorem dX8_noon_412 : decode cX8_noon 412 = .ok (.goto 4, 3) := by decide +kernel
theorem dX8_noon_415 : decode cX8_noon 415 = .ok (.iconst 0, 1) := by decide +kernel
theorem dX8_noon_416 : decode cX8_noon 416 = .ok (.iastore, 1) := by decide +kernel
theorem dX8_noon_417 : decode cX8_noon 417 = .ok (.aload_n 0, 1) := by decide +kernel
theorem dX8_noon_418 : decode cX8_noon 418 = .ok (.getfield 7, 3) := by decide +kernel
theorem dX8_noon_421 : decode cX8_noon 421 = .ok (.iconst 3, 1) := by decide +kernel
theorem dX8_noon_422 : decode cX8_noon 422 = .ok (.iaload, 1) := by decide +kernel
theorem dX8_noon_423 : decode cX8_noon 423 = .ok (.ireturn, 1) := by decide +kernel
def Mo_noon_B278 (k174 : Wd → Int32 → Option (Int32 × Wd)) (w : Wd) (v2 : Int32) (s0 : Int32) (s1 : Int32) : Option (Int32 × Wd) := (if ib s1 45 = true then (if ib ((8 : Int32) + v2) 45 = true then (if ((sI w 38 (Int32.toNatClampNeg s1) s0).1 38 (Int32.toNatClampNeg ((8 : Int32) + v2))) = (-1 : Int32) then (k174 (sI (sI w 38 (Int32.toNatClampNeg s1) s0) 38 12 (((sI w 38 (Int32.toNatClampNeg s1) s0).1 38 12) &&& (-1 : Int32))) (v2 + (1 : Int32))) else (if ib ((8 : Int32) + v2) 45 = true then (k174 (sI (sI w 38 (Int32.toNatClampNeg s1) s0) 38 12 (((sI w 38 (Int32.toNatClampNeg s1) s0).1 38 12) &&& (((1 : Int32) <<< (((sI w 38 (Int32.toNatClampNeg s1) s0).1 38 (Int32.toNatClampNeg ((8 : Int32) + v2))) &&& (31 : Int32))) ^^^ (-1 : Int32)))) (v2 + (1 : Int32))) else none)) else none) else none)
set_option maxRecDepth 100000 in
set_option maxHeartbeats 4000000 in
theorem Mo_noon_B278_ok {K : Ctx} (F : Fx K cX8_noon 4 RX8 (some .int) 4 89 false [37, 38, 42]) {k174 : Wd → Int32 → Option (Int32 × Wd)} (h174 : ∀ (w : Wd) (v2 : Int32), N K rtI (k174 w v2) w 174 [(0, .ref (gA (cg K) 37)), (2, .int v2)] []) (w : Wd) (v2 : Int32) (s0 : Int32) (s1 : Int32) : N K rtI (Mo_noon_B278 k174 w v2 s0 s1) w 278 [(0, .ref (gA (cg K) 37)), (2, .int v2)] [.int s0, .int s1, .ref (gA (cg K) 38)] := by
  rw [Mo_noon_B278]
  refine n_chk (fun e20 => ?_)
  refine n_iast F ar_38 (by decide) (ib_in e20) rfl dX8_noon_278 ?_
  refine n_aload_n F dX8_noon_279 rfl 0 rfl ?_
  refine n_get F ck_8 lf_RX8_7 (by decide) fg_37_0 (by decide) dX8_noon_280 ?_
  refine n_bipush F (12 : Int32) dX8_noon_283 (by decide) ?_
  refine n_dup2 F dX8_noon_285 rfl rfl ?_
  refine n_iald F ar_38 (by decide) (ib_c (n := 45) (by decide)) (j := 12) (by decide) dX8_noon_286 ?_
  refine n_aload_n F dX8_noon_287 rfl 0 rfl ?_
  refine n_get F ck_8 lf_RX8_7 (by decide) fg_37_0 (by decide) dX8_noon_288 ?_
  refine n_bipush F (8 : Int32) dX8_noon_291 (by decide) ?_
  refine n_iload_n F dX8_noon_293 rfl 1 rfl ?_
  refine n_iadd F dX8_noon_294 ?_
  refine n_chk (fun e21 => ?_)
  refine n_iald F ar_38 (by decide) (ib_in e21) rfl dX8_noon_295 ?_
  refine n_iconst F (-1 : Int32) dX8_noon_296 (by decide) ?_
  refine n_icmp_ne F 304 dX8_noon_297 (by decide) (fun e22 => ?_) (fun e22 => ?_)
  · rw [if_neg e22]
    refine n_iconst F (1 : Int32) dX8_noon_304 (by decide) ?_
    refine n_aload_n F dX8_noon_305 rfl 0 rfl ?_
    refine n_get F ck_8 lf_RX8_7 (by decide) fg_37_0 (by decide) dX8_noon_306 ?_
    refine n_bipush F (8 : Int32) dX8_noon_309 (by decide) ?_
    refine n_iload_n F dX8_noon_311 rfl 1 rfl ?_
    refine n_iadd F dX8_noon_312 ?_
    refine n_chk (fun e23 => ?_)
    refine n_iald F ar_38 (by decide) (ib_in e23) rfl dX8_noon_313 ?_
    refine n_ishl F dX8_noon_314 ?_
    refine n_iconst F (-1 : Int32) dX8_noon_315 (by decide) ?_
    refine n_ixor F dX8_noon_316 ?_
    refine n_iand F dX8_noon_317 ?_
    refine n_iast F ar_38 (by decide) (ib_c (n := 45) (by decide)) (j := 12) (by decide) dX8_noon_318 ?_
    refine n_iinc F (v2 + (1 : Int32)) (lv' := [(2, .int (v2 + (1 : Int32))), (0, .ref (gA (cg K) 37))]) dX8_noon_319 1 rfl rfl (by decide) rfl ?_
    refine n_goto F 174 dX8_noon_322 (by decide) ?_
    exact n_sub [1, 0] rfl (h174 _ _)
  rw [if_pos e22]
  refine n_iconst F (-1 : Int32) dX8_noon_300 (by decide) ?_
  refine n_goto F 317 dX8_noon_301 (by decide) ?_
  refine n_iand F dX8_noon_317 ?_
  refine n_iast F ar_38 (by decide) (ib_c (n := 45) (by decide)) (j := 12) (by decide) dX8_noon_318 ?_
  refine n_iinc F (v2 + (1 : Int32)) (lv' := [(2, .int (v2 + (1 : Int32))), (0, .ref (gA (cg K) 37))]) dX8_noon_319 1 rfl rfl (by decide) rfl ?_
  refine n_goto F 174 dX8_noon_322 (by decide) ?_
  exact n_sub [1, 0] rfl (h174 _ _)
def Mo_noon_B225 (k174 : Wd → Int32 → Option (Int32 × Wd)) (w : Wd) (v2 : Int32) (s0 : Int32) (s1 : Int32) : Option (Int32 × Wd) := (if ib s1 45 = true then (if ib ((10 : Int32) + v2) 45 = true then (if ((sI (sI w 38 (Int32.toNatClampNeg s1) s0) 38 (Int32.toNatClampNeg ((10 : Int32) + v2)) (-1 : Int32)).1 38 2) = (0 : Int32) then (if ib ((8 : Int32) + v2) 45 = true then (Mo_noon_B278 k174 (sI (sI w 38 (Int32.toNatClampNeg s1) s0) 38 (Int32.toNatClampNeg ((10 : Int32) + v2)) (-1 : Int32)) v2 (if ((sI (sI w 38 (Int32.toNatClampNeg s1) s0) 38 (Int32.toNatClampNeg ((10 : Int32) + v2)) (-1 : Int32)).1 38 (Int32.toNatClampNeg ((8 : Int32) + v2))) = ((sI (sI w 38 (Int32.toNatClampNeg s1) s0) 38 (Int32.toNatClampNeg ((10 : Int32) + v2)) (-1 : Int32)).1 38 1) then (1 : Int32) else ((sI (sI w 38 (Int32.toNatClampNeg s1) s0) 38 (Int32.toNatClampNeg ((10 : Int32) + v2)) (-1 : Int32)).1 38 3)) (3 : Int32)) else none) else (Mo_noon_B278 k174 (sI (sI w 38 (Int32.toNatClampNeg s1) s0) 38 (Int32.toNatClampNeg ((10 : Int32) + v2)) (-1 : Int32)) v2 ((sI (sI w 38 (Int32.toNatClampNeg s1) s0) 38 (Int32.toNatClampNeg ((10 : Int32) + v2)) (-1 : Int32)).1 38 3) (3 : Int32))) else none) else none)
set_option maxRecDepth 100000 in
set_option maxHeartbeats 4000000 in
theorem Mo_noon_B225_ok {K : Ctx} (F : Fx K cX8_noon 4 RX8 (some .int) 4 89 false [37, 38, 42]) {k174 : Wd → Int32 → Option (Int32 × Wd)} (h174 : ∀ (w : Wd) (v2 : Int32), N K rtI (k174 w v2) w 174 [(0, .ref (gA (cg K) 37)), (2, .int v2)] []) (w : Wd) (v2 : Int32) (s0 : Int32) (s1 : Int32) : N K rtI (Mo_noon_B225 k174 w v2 s0 s1) w 225 [(0, .ref (gA (cg K) 37)), (2, .int v2)] [.int s0, .int s1, .ref (gA (cg K) 38)] := by
  rw [Mo_noon_B225]
  refine n_chk (fun e17 => ?_)
  refine n_iast F ar_38 (by decide) (ib_in e17) rfl dX8_noon_225 ?_
  refine n_aload_n F dX8_noon_226 rfl 0 rfl ?_
  refine n_get F ck_8 lf_RX8_7 (by decide) fg_37_0 (by decide) dX8_noon_227 ?_
  refine n_bipush F (10 : Int32) dX8_noon_230 (by decide) ?_
  refine n_iload_n F dX8_noon_232 rfl 1 rfl ?_
  refine n_iadd F dX8_noon_233 ?_
  refine n_iconst F (-1 : Int32) dX8_noon_234 (by decide) ?_
  refine n_chk (fun e18 => ?_)
  refine n_iast F ar_38 (by decide) (ib_in e18) rfl dX8_noon_235 ?_
  refine n_aload_n F dX8_noon_236 rfl 0 rfl ?_
  refine n_get F ck_8 lf_RX8_7 (by decide) fg_37_0 (by decide) dX8_noon_237 ?_
  refine n_iconst F (3 : Int32) dX8_noon_240 (by decide) ?_
  refine n_aload_n F dX8_noon_241 rfl 0 rfl ?_
  refine n_get F ck_8 lf_RX8_7 (by decide) fg_37_0 (by decide) dX8_noon_242 ?_
  refine n_iconst F (2 : Int32) dX8_noon_245 (by decide) ?_
  refine n_iald F ar_38 (by decide) (ib_c (n := 45) (by decide)) (j := 2) (by decide) dX8_noon_246 ?_
  refine n_if_ne F 272 dX8_noon_247 (by decide) (fun e19 => ?_) (fun e19 => ?_)
  · rw [if_neg e19]
    refine n_aload_n F dX8_noon_272 rfl 0 rfl ?_
    refine n_get F ck_8 lf_RX8_7 (by decide) fg_37_0 (by decide) dX8_noon_273 ?_
    refine n_iconst F (3 : Int32) dX8_noon_276 (by decide) ?_
    refine n_iald F ar_38 (by decide) (ib_c (n := 45) (by decide)) (j := 3) (by decide) dX8_noon_277 ?_
    exact n_sub [0, 1] rfl (Mo_noon_B278_ok F h174 _ _ _ _)
  rw [if_pos e19]
  refine n_aload_n F dX8_noon_250 rfl 0 rfl ?_
  refine n_get F ck_8 lf_RX8_7 (by decide) fg_37_0 (by decide) dX8_noon_251 ?_
  refine n_bipush F (8 : Int32) dX8_noon_254 (by decide) ?_
  refine n_iload_n F dX8_noon_256 rfl 1 rfl ?_
  refine n_iadd F dX8_noon_257 ?_
  refine n_chk (fun e24 => ?_)
  refine n_iald F ar_38 (by decide) (ib_in e24) rfl dX8_noon_258 ?_
  refine n_aload_n F dX8_noon_259 rfl 0 rfl ?_
  refine n_get F ck_8 lf_RX8_7 (by decide) fg_37_0 (by decide) dX8_noon_260 ?_
  refine n_iconst F (1 : Int32) dX8_noon_263 (by decide) ?_
  refine n_iald F ar_38 (by decide) (ib_c (n := 45) (by decide)) (j := 1) (by decide) dX8_noon_264 ?_
  refine n_icmp_ne F 272 dX8_noon_265 (by decide) (fun e25 => ?_) (fun e25 => ?_)
  · rw [if_neg e25]
    refine n_aload_n F dX8_noon_272 rfl 0 rfl ?_
    refine n_get F ck_8 lf_RX8_7 (by decide) fg_37_0 (by decide) dX8_noon_273 ?_
    refine n_iconst F (3 : Int32) dX8_noon_276 (by decide) ?_
    refine n_iald F ar_38 (by decide) (ib_c (n := 45) (by decide)) (j := 3) (by decide) dX8_noon_277 ?_
    exact n_sub [0, 1] rfl (Mo_noon_B278_ok F h174 _ _ _ _)
  rw [if_pos e25]
  refine n_iconst F (1 : Int32) dX8_noon_268 (by decide) ?_
  refine n_goto F 278 dX8_noon_269 (by decide) ?_
  exact n_sub [0, 1] rfl (Mo_noon_B278_ok F h174 _ _ _ _)
def Mo_noon_L174 (k325 : Wd → Option (Int32 × Wd)) : Nat → Wd → Int32 → Option (Int32 × Wd)
  | 0, _, _ => none
  | n + 1, w, v2 => (if (2 : Int32) ≤ v2 then (k325 w) else (if ib ((10 : Int32) + v2) 45 = true then (if (w.1 38 (Int32.toNatClampNeg ((10 : Int32) + v2))) = (-1 : Int32) then (if ib ((8 : Int32) + v2) 45 = true then (Mo_noon_B225 (Mo_noon_L174 k325 n) w v2 (w.1 38 (Int32.toNatClampNeg ((8 : Int32) + v2))) ((8 : Int32) + v2)) else none) else (if ib (((6 : Int32) * (w.1 38 (Int32.toNatClampNeg ((10 : Int32) + v2)))) + (1 : Int32)) 72 = true then (Mo_noon_B225 (Mo_noon_L174 k325 n) w v2 (w.1 42 (Int32.toNatClampNeg (((6 : Int32) * (w.1 38 (Int32.toNatClampNeg ((10 : Int32) + v2)))) + (1 : Int32)))) ((8 : Int32) + v2)) else none)) else none))
set_option maxRecDepth 100000 in
set_option maxHeartbeats 4000000 in
theorem Mo_noon_L174_ok {K : Ctx} (F : Fx K cX8_noon 4 RX8 (some .int) 4 89 false [37, 38, 42]) {k325 : Wd → Option (Int32 × Wd)} (h325 : ∀ (w : Wd), N K rtI (k325 w) w 325 [(0, .ref (gA (cg K) 37))] []) : ∀ (n : Nat) (w : Wd) (v2 : Int32), N K rtI (Mo_noon_L174 k325 n w v2) w 174 [(0, .ref (gA (cg K) 37)), (2, .int v2)] [] := by
  intro n
  induction n with
  | zero => intro _ _; exact n_none
  | succ n ih =>
    intro w v2
    rw [Mo_noon_L174]
    refine n_iload_n F dX8_noon_174 rfl 1 rfl ?_
    refine n_iconst F (2 : Int32) dX8_noon_175 (by decide) ?_
    refine n_icmp_ge F 325 dX8_noon_176 (by decide) (fun e13 => ?_) (fun e13 => ?_)
    · rw [if_pos e13]
      exact n_sub [0] rfl (h325 _)
    rw [if_neg e13]
    refine n_aload_n F dX8_noon_179 rfl 0 rfl ?_
    refine n_get F ck_8 lf_RX8_7 (by decide) fg_37_0 (by decide) dX8_noon_180 ?_
    refine n_bipush F (10 : Int32) dX8_noon_183 (by decide) ?_
    refine n_iload_n F dX8_noon_185 rfl 1 rfl ?_
    refine n_iadd F dX8_noon_186 ?_
    refine n_chk (fun e14 => ?_)
    refine n_iald F ar_38 (by decide) (ib_in e14) rfl dX8_noon_187 ?_
    refine n_istore_n F (lv' := [(3, .int (w.1 38 (Int32.toNatClampNeg ((10 : Int32) + v2)))), (0, .ref (gA (cg K) 37)), (2, .int v2)]) dX8_noon_188 rfl (by decide) rfl ?_
    refine n_aload_n F dX8_noon_189 rfl 1 rfl ?_
    refine n_get F ck_8 lf_RX8_7 (by decide) fg_37_0 (by decide) dX8_noon_190 ?_
    refine n_bipush F (8 : Int32) dX8_noon_193 (by decide) ?_
    refine n_iload_n F dX8_noon_195 rfl 2 rfl ?_
    refine n_iadd F dX8_noon_196 ?_
    refine n_iload_n F dX8_noon_197 rfl 0 rfl ?_
    refine n_iconst F (-1 : Int32) dX8_noon_198 (by decide) ?_
    refine n_icmp_ne F 214 dX8_noon_199 (by decide) (fun e15 => ?_) (fun e15 => ?_)
    · rw [if_neg e15]
      refine n_aload_n F dX8_noon_214 rfl 1 rfl ?_
      refine n_get F ck_8 lf_RX8_27 (by decide) fg_37_7 (by decide) dX8_noon_215 ?_
      refine n_bipush F (6 : Int32) dX8_noon_218 (by decide) ?_
      refine n_iload_n F dX8_noon_220 rfl 0 rfl ?_
      refine n_imul F dX8_noon_221 ?_
      refine n_iconst F (1 : Int32) dX8_noon_222 (by decide) ?_
      refine n_iadd F dX8_noon_223 ?_
      refine n_chk (fun e16 => ?_)
      refine n_iald F ar_42 (by decide) (ib_in e16) rfl dX8_noon_224 ?_
      exact n_sub [1, 2] rfl (Mo_noon_B225_ok F ih _ _ _ _)
    rw [if_pos e15]
    refine n_aload_n F dX8_noon_202 rfl 1 rfl ?_
    refine n_get F ck_8 lf_RX8_7 (by decide) fg_37_0 (by decide) dX8_noon_203 ?_
    refine n_bipush F (8 : Int32) dX8_noon_206 (by decide) ?_
    refine n_iload_n F dX8_noon_208 rfl 2 rfl ?_
    refine n_iadd F dX8_noon_209 ?_
    refine n_chk (fun e26 => ?_)
    refine n_iald F ar_38 (by decide) (ib_in e26) rfl dX8_noon_210 ?_
    refine n_goto F 225 dX8_noon_211 (by decide) ?_
    exact n_sub [1, 2] rfl (Mo_noon_B225_ok F ih _ _ _ _)
def Mo_noon_B387 (w : Wd) (s0 : Int32) (s1 : Int32) : Option (Int32 × Wd) := (if ib s1 45 = true then (if ((sI w 38 (Int32.toNatClampNeg s1) s0).1 38 2) = (1 : Int32) then some (((sI (sI w 38 (Int32.toNatClampNeg s1) s0) 38 13 ((1 : Int32) <<< (((sI w 38 (Int32.toNatClampNeg s1) s0).1 38 1) &&& (31 : Int32)))).1 38 3), (sI (sI w 38 (Int32.toNatClampNeg s1) s0) 38 13 ((1 : Int32) <<< (((sI w 38 (Int32.toNatClampNeg s1) s0).1 38 1) &&& (31 : Int32))))) else some (((sI (sI w 38 (Int32.toNatClampNeg s1) s0) 38 13 (0 : Int32)).1 38 3), (sI (sI w 38 (Int32.toNatClampNeg s1) s0) 38 13 (0 : Int32)))) else none)
set_option maxRecDepth 100000 in
set_option maxHeartbeats 4000000 in
theorem Mo_noon_B387_ok {K : Ctx} (F : Fx K cX8_noon 4 RX8 (some .int) 4 89 false [37, 38, 42]) (w : Wd) (s0 : Int32) (s1 : Int32) : N K rtI (Mo_noon_B387 w s0 s1) w 387 [(0, .ref (gA (cg K) 37))] [.int s0, .int s1, .ref (gA (cg K) 38)] := by
  rw [Mo_noon_B387]
  refine n_chk (fun e29 => ?_)
  refine n_iast F ar_38 (by decide) (ib_in e29) rfl dX8_noon_387 ?_
  refine n_aload_n F dX8_noon_388 rfl 0 rfl ?_
  refine n_get F ck_8 lf_RX8_7 (by decide) fg_37_0 (by decide) dX8_noon_389 ?_
  refine n_bipush F (13 : Int32) dX8_noon_392 (by decide) ?_
  refine n_aload_n F dX8_noon_394 rfl 0 rfl ?_
  refine n_get F ck_8 lf_RX8_7 (by decide) fg_37_0 (by decide) dX8_noon_395 ?_
  refine n_iconst F (2 : Int32) dX8_noon_398 (by decide) ?_
  refine n_iald F ar_38 (by decide) (ib_c (n := 45) (by decide)) (j := 2) (by decide) dX8_noon_399 ?_
  refine n_iconst F (1 : Int32) dX8_noon_400 (by decide) ?_
  refine n_icmp_ne F 415 dX8_noon_401 (by decide) (fun e30 => ?_) (fun e30 => ?_)
  · rw [if_neg e30]
    refine n_iconst F (0 : Int32) dX8_noon_415 (by decide) ?_
    refine n_iast F ar_38 (by decide) (ib_c (n := 45) (by decide)) (j := 13) (by decide) dX8_noon_416 ?_
    refine n_aload_n F dX8_noon_417 rfl 0 rfl ?_
    refine n_get F ck_8 lf_RX8_7 (by decide) fg_37_0 (by decide) dX8_noon_418 ?_
    refine n_iconst F (3 : Int32) dX8_noon_421 (by decide) ?_
    refine n_iald F ar_38 (by decide) (ib_c (n := 45) (by decide)) (j := 3) (by decide) dX8_noon_422 ?_
    exact n_iret F rfl rfl dX8_noon_423
  rw [if_pos e30]
  refine n_iconst F (1 : Int32) dX8_noon_404 (by decide) ?_
  refine n_aload_n F dX8_noon_405 rfl 0 rfl ?_
  refine n_get F ck_8 lf_RX8_7 (by decide) fg_37_0 (by decide) dX8_noon_406 ?_
  refine n_iconst F (1 : Int32) dX8_noon_409 (by decide) ?_
  refine n_iald F ar_38 (by decide) (ib_c (n := 45) (by decide)) (j := 1) (by decide) dX8_noon_410 ?_
  refine n_ishl F dX8_noon_411 ?_
  refine n_goto F 416 dX8_noon_412 (by decide) ?_
  refine n_iast F ar_38 (by decide) (ib_c (n := 45) (by decide)) (j := 13) (by decide) dX8_noon_416 ?_
  refine n_aload_n F dX8_noon_417 rfl 0 rfl ?_
  refine n_get F ck_8 lf_RX8_7 (by decide) fg_37_0 (by decide) dX8_noon_418 ?_
  refine n_iconst F (3 : Int32) dX8_noon_421 (by decide) ?_
  refine n_iald F ar_38 (by decide) (ib_c (n := 45) (by decide)) (j := 3) (by decide) dX8_noon_422 ?_
  exact n_iret F rfl rfl dX8_noon_423
def Mo_noon_B359 (w : Wd) : Option (Int32 × Wd) := (Mo_noon_B387 w (if (w.1 38 2) = (1 : Int32) then (0 : Int32) else ((1 : Int32) <<< ((w.1 38 1) &&& (31 : Int32)))) (12 : Int32))
set_option maxRecDepth 100000 in
set_option maxHeartbeats 4000000 in
theorem Mo_noon_B359_ok {K : Ctx} (F : Fx K cX8_noon 4 RX8 (some .int) 4 89 false [37, 38, 42]) (w : Wd) : N K rtI (Mo_noon_B359 w) w 359 [(0, .ref (gA (cg K) 37))] [] := by
  rw [Mo_noon_B359]
  refine n_aload_n F dX8_noon_359 rfl 0 rfl ?_
  refine n_get F ck_8 lf_RX8_7 (by decide) fg_37_0 (by decide) dX8_noon_360 ?_
  refine n_bipush F (12 : Int32) dX8_noon_363 (by decide) ?_
  refine n_aload_n F dX8_noon_365 rfl 0 rfl ?_
  refine n_get F ck_8 lf_RX8_7 (by decide) fg_37_0 (by decide) dX8_noon_366 ?_
  refine n_iconst F (2 : Int32) dX8_noon_369 (by decide) ?_
  refine n_iald F ar_38 (by decide) (ib_c (n := 45) (by decide)) (j := 2) (by decide) dX8_noon_370 ?_
  refine n_iconst F (1 : Int32) dX8_noon_371 (by decide) ?_
  refine n_icmp_ne F 379 dX8_noon_372 (by decide) (fun e28 => ?_) (fun e28 => ?_)
  · rw [if_neg e28]
    refine n_iconst F (1 : Int32) dX8_noon_379 (by decide) ?_
    refine n_aload_n F dX8_noon_380 rfl 0 rfl ?_
    refine n_get F ck_8 lf_RX8_7 (by decide) fg_37_0 (by decide) dX8_noon_381 ?_
    refine n_iconst F (1 : Int32) dX8_noon_384 (by decide) ?_
    refine n_iald F ar_38 (by decide) (ib_c (n := 45) (by decide)) (j := 1) (by decide) dX8_noon_385 ?_
    refine n_ishl F dX8_noon_386 ?_
    exact n_sub [0] rfl (Mo_noon_B387_ok F _ _ _)
  rw [if_pos e28]
  refine n_iconst F (0 : Int32) dX8_noon_375 (by decide) ?_
  refine n_goto F 387 dX8_noon_376 (by decide) ?_
  exact n_sub [0] rfl (Mo_noon_B387_ok F _ _ _)
def Mo_noon_B325 (w : Wd) : Option (Int32 × Wd) := (if ((sI w 38 0 ((w.1 38 0) + (1 : Int32))).1 38 3) = (1 : Int32) then (Mo_noon_B359 (sI w 38 0 ((w.1 38 0) + (1 : Int32)))) else (if ¬ ((sI w 38 0 ((w.1 38 0) + (1 : Int32))).1 37 11) = (0 : Int32) then (if (((sI w 38 0 ((w.1 38 0) + (1 : Int32))).1 38 0) - ((sI w 38 0 ((w.1 38 0) + (1 : Int32))).1 38 0) / ((sI w 38 0 ((w.1 38 0) + (1 : Int32))).1 37 11) * ((sI w 38 0 ((w.1 38 0) + (1 : Int32))).1 37 11)) = (0 : Int32) then (Mo_noon_B359 (sI w 38 0 ((w.1 38 0) + (1 : Int32)))) else some (((sI w 38 0 ((w.1 38 0) + (1 : Int32))).1 38 3), (sI w 38 0 ((w.1 38 0) + (1 : Int32))))) else none))
set_option maxRecDepth 100000 in
set_option maxHeartbeats 4000000 in
theorem Mo_noon_B325_ok {K : Ctx} (F : Fx K cX8_noon 4 RX8 (some .int) 4 89 false [37, 38, 42]) (w : Wd) : N K rtI (Mo_noon_B325 w) w 325 [(0, .ref (gA (cg K) 37))] [] := by
  rw [Mo_noon_B325]
  refine n_aload_n F dX8_noon_325 rfl 0 rfl ?_
  refine n_get F ck_8 lf_RX8_7 (by decide) fg_37_0 (by decide) dX8_noon_326 ?_
  refine n_iconst F (0 : Int32) dX8_noon_329 (by decide) ?_
  refine n_dup2 F dX8_noon_330 rfl rfl ?_
  refine n_iald F ar_38 (by decide) (ib_c (n := 45) (by decide)) (j := 0) (by decide) dX8_noon_331 ?_
  refine n_iconst F (1 : Int32) dX8_noon_332 (by decide) ?_
  refine n_iadd F dX8_noon_333 ?_
  refine n_iast F ar_38 (by decide) (ib_c (n := 45) (by decide)) (j := 0) (by decide) dX8_noon_334 ?_
  refine n_aload_n F dX8_noon_335 rfl 0 rfl ?_
  refine n_get F ck_8 lf_RX8_7 (by decide) fg_37_0 (by decide) dX8_noon_336 ?_
  refine n_iconst F (3 : Int32) dX8_noon_339 (by decide) ?_
  refine n_iald F ar_38 (by decide) (ib_c (n := 45) (by decide)) (j := 3) (by decide) dX8_noon_340 ?_
  refine n_iconst F (1 : Int32) dX8_noon_341 (by decide) ?_
  refine n_icmp_eq F 359 dX8_noon_342 (by decide) (fun e27 => ?_) (fun e27 => ?_)
  · rw [if_pos e27]
    exact n_sub [0] rfl (Mo_noon_B359_ok F _)
  rw [if_neg e27]
  refine n_aload_n F dX8_noon_345 rfl 0 rfl ?_
  refine n_get F ck_8 lf_RX8_7 (by decide) fg_37_0 (by decide) dX8_noon_346 ?_
  refine n_iconst F (0 : Int32) dX8_noon_349 (by decide) ?_
  refine n_iald F ar_38 (by decide) (ib_c (n := 45) (by decide)) (j := 0) (by decide) dX8_noon_350 ?_
  refine n_aload_n F dX8_noon_351 rfl 0 rfl ?_
  refine n_get F ck_8 lf_RX8_33 (by decide) fg_37_11 (by decide) dX8_noon_352 ?_
  refine n_chk (fun e31 => ?_)
  refine n_irem F dX8_noon_355 e31 ?_
  refine n_if_ne F 417 dX8_noon_356 (by decide) (fun e32 => ?_) (fun e32 => ?_)
  · rw [if_neg e32]
    refine n_aload_n F dX8_noon_417 rfl 0 rfl ?_
    refine n_get F ck_8 lf_RX8_7 (by decide) fg_37_0 (by decide) dX8_noon_418 ?_
    refine n_iconst F (3 : Int32) dX8_noon_421 (by decide) ?_
    refine n_iald F ar_38 (by decide) (ib_c (n := 45) (by decide)) (j := 3) (by decide) dX8_noon_422 ?_
    exact n_iret F rfl rfl dX8_noon_423
  rw [if_pos e32]
  exact n_sub [0] rfl (Mo_noon_B359_ok F _)
def Mo_noon_B142 (w : Wd) : Option (Int32 × Wd) := (Mo_noon_L174 Mo_noon_B325 FU (sI (sI (sI w 38 7 (-1 : Int32)) 38 12 ((sI w 38 7 (-1 : Int32)).1 37 18)) 38 13 ((sI (sI w 38 7 (-1 : Int32)) 38 12 ((sI w 38 7 (-1 : Int32)).1 37 18)).1 37 19)) (0 : Int32))
set_option maxRecDepth 100000 in
set_option maxHeartbeats 4000000 in
theorem Mo_noon_B142_ok {K : Ctx} (F : Fx K cX8_noon 4 RX8 (some .int) 4 89 false [37, 38, 42]) (w : Wd) : N K rtI (Mo_noon_B142 w) w 142 [(0, .ref (gA (cg K) 37))] [] := by
  rw [Mo_noon_B142]
  refine n_aload_n F dX8_noon_142 rfl 0 rfl ?_
  refine n_get F ck_8 lf_RX8_7 (by decide) fg_37_0 (by decide) dX8_noon_143 ?_
  refine n_bipush F (7 : Int32) dX8_noon_146 (by decide) ?_
  refine n_iconst F (-1 : Int32) dX8_noon_148 (by decide) ?_
  refine n_iast F ar_38 (by decide) (ib_c (n := 45) (by decide)) (j := 7) (by decide) dX8_noon_149 ?_
  refine n_aload_n F dX8_noon_150 rfl 0 rfl ?_
  refine n_get F ck_8 lf_RX8_7 (by decide) fg_37_0 (by decide) dX8_noon_151 ?_
  refine n_bipush F (12 : Int32) dX8_noon_154 (by decide) ?_
  refine n_aload_n F dX8_noon_156 rfl 0 rfl ?_
  refine n_get F ck_8 lf_RX8_171 (by decide) fg_37_18 (by decide) dX8_noon_157 ?_
  refine n_iast F ar_38 (by decide) (ib_c (n := 45) (by decide)) (j := 12) (by decide) dX8_noon_160 ?_
  refine n_aload_n F dX8_noon_161 rfl 0 rfl ?_
  refine n_get F ck_8 lf_RX8_7 (by decide) fg_37_0 (by decide) dX8_noon_162 ?_
  refine n_bipush F (13 : Int32) dX8_noon_165 (by decide) ?_
  refine n_aload_n F dX8_noon_167 rfl 0 rfl ?_
  refine n_get F ck_8 lf_RX8_174 (by decide) fg_37_19 (by decide) dX8_noon_168 ?_
  refine n_iast F ar_38 (by decide) (ib_c (n := 45) (by decide)) (j := 13) (by decide) dX8_noon_171 ?_
  refine n_iconst F (0 : Int32) dX8_noon_172 (by decide) ?_
  refine n_istore_n F (lv' := [(2, .int (0 : Int32)), (0, .ref (gA (cg K) 37))]) dX8_noon_173 rfl (by decide) rfl ?_
  exact n_sub [1, 0] rfl (Mo_noon_L174_ok F (Mo_noon_B325_ok F) FU _ _)
def Mo_noon_B31 (w : Wd) : Option (Int32 × Wd) := (Option.bind (Mo_nextOf w) (fun q4 => (if ((sI (q4.2) 38 14 (q4.1)).1 38 7) = (-1 : Int32) then (Option.bind (Mo_layByNone (sI (q4.2) 38 14 (q4.1))) (fun q33 => (Mo_noon_B142 (sI q33 38 2 (0 : Int32))))) else (if ib (((6 : Int32) * ((sI (q4.2) 38 14 (q4.1)).1 38 7)) + (5 : Int32)) 72 = true then (Option.bind (Mo_layBy (sI (q4.2) 38 14 (q4.1)) ((sI (q4.2) 38 14 (q4.1)).1 42 (Int32.toNatClampNeg (((6 : Int32) * ((sI (q4.2) 38 14 (q4.1)).1 38 7)) + (5 : Int32))))) (fun q7 => (if ib (((6 : Int32) * ((sI (q4.2) 38 14 (q4.1)).1 38 7)) + (1 : Int32)) 72 = true then (if ib (((6 : Int32) * ((sI (q4.2) 38 14 (q4.1)).1 38 7)) + (4 : Int32)) 72 = true then (if ib (((6 : Int32) * ((sI (q4.2) 38 14 (q4.1)).1 38 7)) + (5 : Int32)) 72 = true then (if ib ((4 : Int32) + ((sI (sI q7 38 1 (q7.1 42 (Int32.toNatClampNeg (((6 : Int32) * ((sI (q4.2) 38 14 (q4.1)).1 38 7)) + (1 : Int32))))) 38 2 (((sI q7 38 1 (q7.1 42 (Int32.toNatClampNeg (((6 : Int32) * ((sI (q4.2) 38 14 (q4.1)).1 38 7)) + (1 : Int32))))).1 42 (Int32.toNatClampNeg (((6 : Int32) * ((sI (q4.2) 38 14 (q4.1)).1 38 7)) + (4 : Int32)))) - (1 : Int32))).1 42 (Int32.toNatClampNeg (((6 : Int32) * ((sI (q4.2) 38 14 (q4.1)).1 38 7)) + (5 : Int32))))) 45 = true then (if ib ((4 : Int32) + ((sI (sI q7 38 1 (q7.1 42 (Int32.toNatClampNeg (((6 : Int32) * ((sI (q4.2) 38 14 (q4.1)).1 38 7)) + (1 : Int32))))) 38 2 (((sI q7 38 1 (q7.1 42 (Int32.toNatClampNeg (((6 : Int32) * ((sI (q4.2) 38 14 (q4.1)).1 38 7)) + (1 : Int32))))).1 42 (Int32.toNatClampNeg (((6 : Int32) * ((sI (q4.2) 38 14 (q4.1)).1 38 7)) + (4 : Int32)))) - (1 : Int32))).1 42 (Int32.toNatClampNeg (((6 : Int32) * ((sI (q4.2) 38 14 (q4.1)).1 38 7)) + (5 : Int32))))) 45 = true then (Mo_noon_B142 (sI (sI (sI q7 38 1 (q7.1 42 (Int32.toNatClampNeg (((6 : Int32) * ((sI (q4.2) 38 14 (q4.1)).1 38 7)) + (1 : Int32))))) 38 2 (((sI q7 38 1 (q7.1 42 (Int32.toNatClampNeg (((6 : Int32) * ((sI (q4.2) 38 14 (q4.1)).1 38 7)) + (1 : Int32))))).1 42 (Int32.toNatClampNeg (((6 : Int32) * ((sI (q4.2) 38 14 (q4.1)).1 38 7)) + (4 : Int32)))) - (1 : Int32))) 38 (Int32.toNatClampNeg ((4 : Int32) + ((sI (sI q7 38 1 (q7.1 42 (Int32.toNatClampNeg (((6 : Int32) * ((sI (q4.2) 38 14 (q4.1)).1 38 7)) + (1 : Int32))))) 38 2 (((sI q7 38 1 (q7.1 42 (Int32.toNatClampNeg (((6 : Int32) * ((sI (q4.2) 38 14 (q4.1)).1 38 7)) + (1 : Int32))))).1 42 (Int32.toNatClampNeg (((6 : Int32) * ((sI (q4.2) 38 14 (q4.1)).1 38 7)) + (4 : Int32)))) - (1 : Int32))).1 42 (Int32.toNatClampNeg (((6 : Int32) * ((sI (q4.2) 38 14 (q4.1)).1 38 7)) + (5 : Int32)))))) (((sI (sI q7 38 1 (q7.1 42 (Int32.toNatClampNeg (((6 : Int32) * ((sI (q4.2) 38 14 (q4.1)).1 38 7)) + (1 : Int32))))) 38 2 (((sI q7 38 1 (q7.1 42 (Int32.toNatClampNeg (((6 : Int32) * ((sI (q4.2) 38 14 (q4.1)).1 38 7)) + (1 : Int32))))).1 42 (Int32.toNatClampNeg (((6 : Int32) * ((sI (q4.2) 38 14 (q4.1)).1 38 7)) + (4 : Int32)))) - (1 : Int32))).1 38 (Int32.toNatClampNeg ((4 : Int32) + ((sI (sI q7 38 1 (q7.1 42 (Int32.toNatClampNeg (((6 : Int32) * ((sI (q4.2) 38 14 (q4.1)).1 38 7)) + (1 : Int32))))) 38 2 (((sI q7 38 1 (q7.1 42 (Int32.toNatClampNeg (((6 : Int32) * ((sI (q4.2) 38 14 (q4.1)).1 38 7)) + (1 : Int32))))).1 42 (Int32.toNatClampNeg (((6 : Int32) * ((sI (q4.2) 38 14 (q4.1)).1 38 7)) + (4 : Int32)))) - (1 : Int32))).1 42 (Int32.toNatClampNeg (((6 : Int32) * ((sI (q4.2) 38 14 (q4.1)).1 38 7)) + (5 : Int32))))))) - (1 : Int32)))) else none) else none) else none) else none) else none))) else none))))
set_option maxRecDepth 100000 in
set_option maxHeartbeats 4000000 in
theorem Mo_noon_B31_ok {K : Ctx} (F : Fx K cX8_noon 4 RX8 (some .int) 4 89 false [37, 38, 42]) (w : Wd) : N K rtI (Mo_noon_B31 w) w 31 [(0, .ref (gA (cg K) 37))] [] := by
  rw [Mo_noon_B31]
  refine n_aload_n F dX8_noon_31 rfl 0 rfl ?_
  refine n_get F ck_8 lf_RX8_7 (by decide) fg_37_0 (by decide) dX8_noon_32 ?_
  refine n_bipush F (14 : Int32) dX8_noon_35 (by decide) ?_
  refine n_aload_n F dX8_noon_37 rfl 0 rfl ?_
  refine n_bind (fun q4 hq4 => ?_)
  refine n_callVi F cb_X8_nextOf lm_RX8_183 ob_37 (by decide) ⟨_, _, rfl⟩ (ct_Mo_nextOf (fx_ok F) (fx_sd F) (fx_ix F rfl) w hq4) rfl rfl (Nat.le_of_ble_eq_true rfl) ⟨Nat.le_of_ble_eq_true rfl, Nat.le_of_ble_eq_true rfl⟩ dX8_noon_38 ?_
  refine n_iast F ar_38 (by decide) (ib_c (n := 45) (by decide)) (j := 14) (by decide) dX8_noon_41 ?_
  refine n_aload_n F dX8_noon_42 rfl 0 rfl ?_
  refine n_get F ck_8 lf_RX8_7 (by decide) fg_37_0 (by decide) dX8_noon_43 ?_
  refine n_bipush F (7 : Int32) dX8_noon_46 (by decide) ?_
  refine n_iald F ar_38 (by decide) (ib_c (n := 45) (by decide)) (j := 7) (by decide) dX8_noon_48 ?_
  refine n_istore_n F (lv' := [(1, .int ((sI (q4.2) 38 14 (q4.1)).1 38 7)), (0, .ref (gA (cg K) 37))]) dX8_noon_49 rfl (by decide) rfl ?_
  refine n_iload_n F dX8_noon_50 rfl 0 rfl ?_
  refine n_iconst F (-1 : Int32) dX8_noon_51 (by decide) ?_
  refine n_icmp_ne F 69 dX8_noon_52 (by decide) (fun e5 => ?_) (fun e5 => ?_)
  · rw [if_neg e5]
    refine n_aload_n F dX8_noon_69 rfl 1 rfl ?_
    refine n_aload_n F dX8_noon_70 rfl 1 rfl ?_
    refine n_get F ck_8 lf_RX8_27 (by decide) fg_37_7 (by decide) dX8_noon_71 ?_
    refine n_bipush F (6 : Int32) dX8_noon_74 (by decide) ?_
    refine n_iload_n F dX8_noon_76 rfl 0 rfl ?_
    refine n_imul F dX8_noon_77 ?_
    refine n_iconst F (5 : Int32) dX8_noon_78 (by decide) ?_
    refine n_iadd F dX8_noon_79 ?_
    refine n_chk (fun e6 => ?_)
    refine n_iald F ar_42 (by decide) (ib_in e6) rfl dX8_noon_80 ?_
    refine n_bind (fun q7 hq7 => ?_)
    refine n_callVv F cb_X8_layBy lm_RX8_180 ob_37 (by decide) ⟨_, _, rfl⟩ (ct_Mo_layBy (fx_ok F) (fx_sd F) (fx_ix F rfl) (sI (q4.2) 38 14 (q4.1)) ((sI (q4.2) 38 14 (q4.1)).1 42 (Int32.toNatClampNeg (((6 : Int32) * ((sI (q4.2) 38 14 (q4.1)).1 38 7)) + (5 : Int32)))) hq7) rfl rfl (Nat.le_of_ble_eq_true rfl) ⟨Nat.le_of_ble_eq_true rfl, Nat.le_of_ble_eq_true rfl⟩ dX8_noon_81 ?_
    refine n_aload_n F dX8_noon_84 rfl 1 rfl ?_
    refine n_get F ck_8 lf_RX8_7 (by decide) fg_37_0 (by decide) dX8_noon_85 ?_
    refine n_iconst F (1 : Int32) dX8_noon_88 (by decide) ?_
    refine n_aload_n F dX8_noon_89 rfl 1 rfl ?_
    refine n_get F ck_8 lf_RX8_27 (by decide) fg_37_7 (by decide) dX8_noon_90 ?_
    refine n_bipush F (6 : Int32) dX8_noon_93 (by decide) ?_
    refine n_iload_n F dX8_noon_95 rfl 0 rfl ?_
    refine n_imul F dX8_noon_96 ?_
    refine n_iconst F (1 : Int32) dX8_noon_97 (by decide) ?_
    refine n_iadd F dX8_noon_98 ?_
    refine n_chk (fun e8 => ?_)
    refine n_iald F ar_42 (by decide) (ib_in e8) rfl dX8_noon_99 ?_
    refine n_iast F ar_38 (by decide) (ib_c (n := 45) (by decide)) (j := 1) (by decide) dX8_noon_100 ?_
    refine n_aload_n F dX8_noon_101 rfl 1 rfl ?_
    refine n_get F ck_8 lf_RX8_7 (by decide) fg_37_0 (by decide) dX8_noon_102 ?_
    refine n_iconst F (2 : Int32) dX8_noon_105 (by decide) ?_
    refine n_aload_n F dX8_noon_106 rfl 1 rfl ?_
    refine n_get F ck_8 lf_RX8_27 (by decide) fg_37_7 (by decide) dX8_noon_107 ?_
    refine n_bipush F (6 : Int32) dX8_noon_110 (by decide) ?_
    refine n_iload_n F dX8_noon_112 rfl 0 rfl ?_
    refine n_imul F dX8_noon_113 ?_
    refine n_iconst F (4 : Int32) dX8_noon_114 (by decide) ?_
    refine n_iadd F dX8_noon_115 ?_
    refine n_chk (fun e9 => ?_)
    refine n_iald F ar_42 (by decide) (ib_in e9) rfl dX8_noon_116 ?_
    refine n_iconst F (1 : Int32) dX8_noon_117 (by decide) ?_
    refine n_isub F dX8_noon_118 ?_
    refine n_iast F ar_38 (by decide) (ib_c (n := 45) (by decide)) (j := 2) (by decide) dX8_noon_119 ?_
    refine n_aload_n F dX8_noon_120 rfl 1 rfl ?_
    refine n_get F ck_8 lf_RX8_7 (by decide) fg_37_0 (by decide) dX8_noon_121 ?_
    refine n_iconst F (4 : Int32) dX8_noon_124 (by decide) ?_
    refine n_aload_n F dX8_noon_125 rfl 1 rfl ?_
    refine n_get F ck_8 lf_RX8_27 (by decide) fg_37_7 (by decide) dX8_noon_126 ?_
    refine n_bipush F (6 : Int32) dX8_noon_129 (by decide) ?_
    refine n_iload_n F dX8_noon_131 rfl 0 rfl ?_
    refine n_imul F dX8_noon_132 ?_
    refine n_iconst F (5 : Int32) dX8_noon_133 (by decide) ?_
    refine n_iadd F dX8_noon_134 ?_
    refine n_chk (fun e10 => ?_)
    refine n_iald F ar_42 (by decide) (ib_in e10) rfl dX8_noon_135 ?_
    refine n_iadd F dX8_noon_136 ?_
    refine n_dup2 F dX8_noon_137 rfl rfl ?_
    refine n_chk (fun e11 => ?_)
    refine n_iald F ar_38 (by decide) (ib_in e11) rfl dX8_noon_138 ?_
    refine n_iconst F (1 : Int32) dX8_noon_139 (by decide) ?_
    refine n_isub F dX8_noon_140 ?_
    refine n_chk (fun e12 => ?_)
    refine n_iast F ar_38 (by decide) (ib_in e12) rfl dX8_noon_141 ?_
    exact n_sub [1] rfl (Mo_noon_B142_ok F _)
  rw [if_pos e5]
  refine n_aload_n F dX8_noon_55 rfl 1 rfl ?_
  refine n_bind (fun q33 hq33 => ?_)
  refine n_callVv F cb_X8_layByNone lm_RX8_177 ob_37 (by decide) ⟨_, _, rfl⟩ (ct_Mo_layByNone (fx_ok F) (fx_sd F) (fx_ix F rfl) (sI (q4.2) 38 14 (q4.1)) hq33) rfl rfl (Nat.le_of_ble_eq_true rfl) ⟨Nat.le_of_ble_eq_true rfl, Nat.le_of_ble_eq_true rfl⟩ dX8_noon_56 ?_
  refine n_aload_n F dX8_noon_59 rfl 1 rfl ?_
  refine n_get F ck_8 lf_RX8_7 (by decide) fg_37_0 (by decide) dX8_noon_60 ?_
  refine n_iconst F (2 : Int32) dX8_noon_63 (by decide) ?_
  refine n_iconst F (0 : Int32) dX8_noon_64 (by decide) ?_
  refine n_iast F ar_38 (by decide) (ib_c (n := 45) (by decide)) (j := 2) (by decide) dX8_noon_65 ?_
  refine n_goto F 142 dX8_noon_66 (by decide) ?_
  exact n_sub [1] rfl (Mo_noon_B142_ok F _)
def Mo_noon (w : Wd) : Option (Int32 × Wd) := (if (w.1 38 3) = (1 : Int32) then some ((-4 : Int32), w) else (Option.bind (Mo_hisTrains w) (fun q2 => (if q2 = (0 : Int32) then (Mo_noon_B31 w) else (if (w.1 38 7) = (-1 : Int32) then some ((-4 : Int32), w) else (Mo_noon_B31 w))))))
set_option maxRecDepth 100000 in
set_option maxHeartbeats 4000000 in
theorem ct_Mo_noon {l : Launch} {g : GG} {σ : Sd} (hg : OKg g σ) (hb : σ.2.1 = false) (hx : ∀ c ∈ ([37, 38, 42] : List Nat), c ∈ σ.1) (w : Wd) {q : Int32 × Wd} (hq : Mo_noon w = some q) : CT l g σ yX8_noon cX8_noon 4 (some .int) 4 89 [.ref (gA g 37)] w (some (.int q.1)) q.2 := by
  refine ct_of (rt := rtI) (res := Mo_noon w) (q := q) (own := RX8) (b := false) hg hb hx (by decide) rfl (Nat.le_of_ble_eq_true rfl) hq (fun K e1 e2 e3 F => ?_)
  subst e1 e2 e3
  rw [Mo_noon]
  show N K _ _ w 0 [(0, .ref (gA (cg K) 37))] []
  refine n_aload_n F dX8_noon_0 rfl 0 rfl ?_
  refine n_get F ck_8 lf_RX8_7 (by decide) fg_37_0 (by decide) dX8_noon_1 ?_
  refine n_iconst F (3 : Int32) dX8_noon_4 (by decide) ?_
  refine n_iald F ar_38 (by decide) (ib_c (n := 45) (by decide)) (j := 3) (by decide) dX8_noon_5 ?_
  refine n_iconst F (1 : Int32) dX8_noon_6 (by decide) ?_
  refine n_icmp_eq F 28 dX8_noon_7 (by decide) (fun e1 => ?_) (fun e1 => ?_)
  · rw [if_pos e1]
    refine n_bipush F (-4 : Int32) dX8_noon_28 (by decide) ?_
    exact n_iret F rfl rfl dX8_noon_30
  rw [if_neg e1]
  refine n_aload_n F dX8_noon_10 rfl 0 rfl ?_
  refine n_bind (fun q2 hq2 => ?_)
  refine n_callVi F cb_X8_hisTrains lm_RX8_161 ob_37 (by decide) ⟨_, _, rfl⟩ (ct_Mo_hisTrains (fx_ok F) (fx_sd F) (fx_ix F rfl) w hq2) rfl rfl (Nat.le_of_ble_eq_true rfl) ⟨Nat.le_of_ble_eq_true rfl, Nat.le_of_ble_eq_true rfl⟩ dX8_noon_11 ?_
  refine n_if_eq F 31 dX8_noon_14 (by decide) (fun e3 => ?_) (fun e3 => ?_)
  · rw [if_pos e3]
    exact n_sub [0] rfl (Mo_noon_B31_ok F _)
  rw [if_neg e3]
  refine n_aload_n F dX8_noon_17 rfl 0 rfl ?_
  refine n_get F ck_8 lf_RX8_7 (by decide) fg_37_0 (by decide) dX8_noon_18 ?_
  refine n_bipush F (7 : Int32) dX8_noon_21 (by decide) ?_
  refine n_iald F ar_38 (by decide) (ib_c (n := 45) (by decide)) (j := 7) (by decide) dX8_noon_23 ?_
  refine n_iconst F (-1 : Int32) dX8_noon_24 (by decide) ?_
  refine n_icmp_ne F 31 dX8_noon_25 (by decide) (fun e34 => ?_) (fun e34 => ?_)
  · rw [if_neg e34]
    exact n_sub [0] rfl (Mo_noon_B31_ok F _)
  rw [if_pos e34]
  refine n_bipush F (-4 : Int32) dX8_noon_28 (by decide) ?_
  exact n_iret F rfl rfl dX8_noon_30
theorem dX8_he_0 : decode cX8_he 0 = .ok (.iload_n 1, 1) := by decide +kernel
theorem dX8_he_1 : decode cX8_he 1 = .ok (.tableswitch 80 0 6 #[43, 50, 57, 64, 64, 64, 75], 43) := by decide +kernel
theorem dX8_he_44 : decode cX8_he 44 = .ok (.aload_n 0, 1) := by decide +kernel
theorem dX8_he_45 : decode cX8_he 45 = .ok (.getfield 7, 3) := by decide +kernel
theorem dX8_he_48 : decode cX8_he 48 = .ok (.iconst 1, 1) := by decide +kernel
theorem dX8_he_49 : decode cX8_he 49 = .ok (.iaload, 1) := by decide +kernel
theorem dX8_he_50 : decode cX8_he 50 = .ok (.ireturn, 1) := by decide +kernel
theorem dX8_he_51 : decode cX8_he 51 = .ok (.aload_n 0, 1) := by decide +kernel
theorem dX8_he_52 : decode cX8_he 52 = .ok (.getfield 7, 3) := by decide +kernel
theorem dX8_he_55 : decode cX8_he 55 = .ok (.iconst 2, 1) := by decide +kernel
theorem dX8_he_56 : decode cX8_he 56 = .ok (.iaload, 1) := by decide +kernel
theorem dX8_he_57 : decode cX8_he 57 = .ok (.ireturn, 1) := by decide +kernel
theorem dX8_he_58 : decode cX8_he 58 = .ok (.aload_n 0, 1) := by decide +kernel
theorem dX8_he_59 : decode cX8_he 59 = .ok (.getfield 7, 3) := by decide +kernel
theorem dX8_he_62 : decode cX8_he 62 = .ok (.iconst 3, 1) := by decide +kernel
theorem dX8_he_63 : decode cX8_he 63 = .ok (.iaload, 1) := by decide +kernel
theorem dX8_he_64 : decode cX8_he 64 = .ok (.ireturn, 1) := by decide +kernel
theorem dX8_he_65 : decode cX8_he 65 = .ok (.aload_n 0, 1) := by decide +kernel
theorem dX8_he_66 : decode cX8_he 66 = .ok (.getfield 7, 3) := by decide +kernel
theorem dX8_he_69 : decode cX8_he 69 = .ok (.iconst 4, 1) := by decide +kernel
theorem dX8_he_70 : decode cX8_he 70 = .ok (.iload_n 1, 1) := by decide +kernel
theorem dX8_he_71 : decode cX8_he 71 = .ok (.iadd, 1) := by decide +kernel
theorem dX8_he_72 : decode cX8_he 72 = .ok (.iconst 3, 1) := by decide +kernel
theorem dX8_he_73 : decode cX8_he 73 = .ok (.isub, 1) := by decide +kernel
theorem dX8_he_74 : decode cX8_he 74 = .ok (.iaload, 1) := by decide +kernel
theorem dX8_he_75 : decode cX8_he 75 = .ok (.ireturn, 1) := by decide +kernel
theorem dX8_he_76 : decode cX8_he 76 = .ok (.aload_n 0, 1) := by decide +kernel
theorem dX8_he_77 : decode cX8_he 77 = .ok (.invokevirtual 161, 3) := by decide +kernel
theorem dX8_he_80 : decode cX8_he 80 = .ok (.ireturn, 1) := by decide +kernel
theorem dX8_he_81 : decode cX8_he 81 = .ok (.bipush (-3), 2) := by decide +kernel
theorem dX8_he_83 : decode cX8_he 83 = .ok (.ireturn, 1) := by decide +kernel
def Mo_he (w : Wd) (a1 : Int32) : Option Int32 := (if a1 = (0 : Int32) then some (w.1 38 1) else (if a1 = (1 : Int32) then some (w.1 38 2) else (if a1 = (2 : Int32) then some (w.1 38 3) else (if a1 = (3 : Int32) then (if ib (((4 : Int32) + a1) - (3 : Int32)) 45 = true then some (w.1 38 (Int32.toNatClampNeg (((4 : Int32) + a1) - (3 : Int32)))) else none) else (if a1 = (4 : Int32) then (if ib (((4 : Int32) + a1) - (3 : Int32)) 45 = true then some (w.1 38 (Int32.toNatClampNeg (((4 : Int32) + a1) - (3 : Int32)))) else none) else (if a1 = (5 : Int32) then (if ib (((4 : Int32) + a1) - (3 : Int32)) 45 = true then some (w.1 38 (Int32.toNatClampNeg (((4 : Int32) + a1) - (3 : Int32)))) else none) else (if a1 = (6 : Int32) then (Option.bind (Mo_hisTrains w) (fun q11 => some q11)) else some (-3 : Int32))))))))
set_option maxRecDepth 100000 in
set_option maxHeartbeats 4000000 in
theorem ct_Mo_he {l : Launch} {g : GG} {σ : Sd} (hg : OKg g σ) (hb : σ.2.1 = false) (hx : ∀ c ∈ ([37, 38, 42] : List Nat), c ∈ σ.1) (w : Wd) (a1 : Int32) {q : Int32} (hq : Mo_he w a1 = some q) : CT l g σ yX8_he cX8_he 2 (some .int) 3 66 [.ref (gA g 37), .int a1] w (some (.int q)) w := by
  refine ct_of (rt := (rtP w)) (res := Mo_he w a1) (q := q) (own := RX8) (b := false) hg hb hx (by decide) rfl (Nat.le_of_ble_eq_true rfl) hq (fun K e1 e2 e3 F => ?_)
  subst e1 e2 e3
  rw [Mo_he]
  show N K _ _ w 0 [(0, .ref (gA (cg K) 37)), (1, .int a1)] []
  refine n_iload_n F dX8_he_0 rfl 1 rfl ?_
  by_cases e1 : a1 = (0 : Int32)
  · rw [if_pos e1]
    refine n_tabIn F (0 : Int32) 44 dX8_he_1 e1 (by decide) (by decide) rfl (by decide) ?_
    refine n_aload_n F dX8_he_44 rfl 0 rfl ?_
    refine n_get F ck_8 lf_RX8_7 (by decide) fg_37_0 (by decide) dX8_he_45 ?_
    refine n_iconst F (1 : Int32) dX8_he_48 (by decide) ?_
    refine n_iald F ar_38 (by decide) (ib_c (n := 45) (by decide)) (j := 1) (by decide) dX8_he_49 ?_
    exact n_iret F rfl rfl dX8_he_50
  rw [if_neg e1]
  by_cases e2 : a1 = (1 : Int32)
  · rw [if_pos e2]
    refine n_tabIn F (1 : Int32) 51 dX8_he_1 e2 (by decide) (by decide) rfl (by decide) ?_
    refine n_aload_n F dX8_he_51 rfl 0 rfl ?_
    refine n_get F ck_8 lf_RX8_7 (by decide) fg_37_0 (by decide) dX8_he_52 ?_
    refine n_iconst F (2 : Int32) dX8_he_55 (by decide) ?_
    refine n_iald F ar_38 (by decide) (ib_c (n := 45) (by decide)) (j := 2) (by decide) dX8_he_56 ?_
    exact n_iret F rfl rfl dX8_he_57
  rw [if_neg e2]
  by_cases e3 : a1 = (2 : Int32)
  · rw [if_pos e3]
    refine n_tabIn F (2 : Int32) 58 dX8_he_1 e3 (by decide) (by decide) rfl (by decide) ?_
    refine n_aload_n F dX8_he_58 rfl 0 rfl ?_
    refine n_get F ck_8 lf_RX8_7 (by decide) fg_37_0 (by decide) dX8_he_59 ?_
    refine n_iconst F (3 : Int32) dX8_he_62 (by decide) ?_
    refine n_iald F ar_38 (by decide) (ib_c (n := 45) (by decide)) (j := 3) (by decide) dX8_he_63 ?_
    exact n_iret F rfl rfl dX8_he_64
  rw [if_neg e3]
  by_cases e4 : a1 = (3 : Int32)
  · rw [if_pos e4]
    refine n_tabIn F (3 : Int32) 65 dX8_he_1 e4 (by decide) (by decide) rfl (by decide) ?_
    refine n_aload_n F dX8_he_65 rfl 0 rfl ?_
    refine n_get F ck_8 lf_RX8_7 (by decide) fg_37_0 (by decide) dX8_he_66 ?_
    refine n_iconst F (4 : Int32) dX8_he_69 (by decide) ?_
    refine n_iload_n F dX8_he_70 rfl 1 rfl ?_
    refine n_iadd F dX8_he_71 ?_
    refine n_iconst F (3 : Int32) dX8_he_72 (by decide) ?_
    refine n_isub F dX8_he_73 ?_
    refine n_chk (fun e5 => ?_)
    refine n_iald F ar_38 (by decide) (ib_in e5) rfl dX8_he_74 ?_
    exact n_iret F rfl rfl dX8_he_75
  rw [if_neg e4]
  by_cases e6 : a1 = (4 : Int32)
  · rw [if_pos e6]
    refine n_tabIn F (4 : Int32) 65 dX8_he_1 e6 (by decide) (by decide) rfl (by decide) ?_
    refine n_aload_n F dX8_he_65 rfl 0 rfl ?_
    refine n_get F ck_8 lf_RX8_7 (by decide) fg_37_0 (by decide) dX8_he_66 ?_
    refine n_iconst F (4 : Int32) dX8_he_69 (by decide) ?_
    refine n_iload_n F dX8_he_70 rfl 1 rfl ?_
    refine n_iadd F dX8_he_71 ?_
    refine n_iconst F (3 : Int32) dX8_he_72 (by decide) ?_
    refine n_isub F dX8_he_73 ?_
    refine n_chk (fun e7 => ?_)
    refine n_iald F ar_38 (by decide) (ib_in e7) rfl dX8_he_74 ?_
    exact n_iret F rfl rfl dX8_he_75
  rw [if_neg e6]
  by_cases e8 : a1 = (5 : Int32)
  · rw [if_pos e8]
    refine n_tabIn F (5 : Int32) 65 dX8_he_1 e8 (by decide) (by decide) rfl (by decide) ?_
    refine n_aload_n F dX8_he_65 rfl 0 rfl ?_
    refine n_get F ck_8 lf_RX8_7 (by decide) fg_37_0 (by decide) dX8_he_66 ?_
    refine n_iconst F (4 : Int32) dX8_he_69 (by decide) ?_
    refine n_iload_n F dX8_he_70 rfl 1 rfl ?_
    refine n_iadd F dX8_he_71 ?_
    refine n_iconst F (3 : Int32) dX8_he_72 (by decide) ?_
    refine n_isub F dX8_he_73 ?_
    refine n_chk (fun e9 => ?_)
    refine n_iald F ar_38 (by decide) (ib_in e9) rfl dX8_he_74 ?_
    exact n_iret F rfl rfl dX8_he_75
  rw [if_neg e8]
  by_cases e10 : a1 = (6 : Int32)
  · rw [if_pos e10]
    refine n_tabIn F (6 : Int32) 76 dX8_he_1 e10 (by decide) (by decide) rfl (by decide) ?_
    refine n_aload_n F dX8_he_76 rfl 0 rfl ?_
    refine n_bind (fun q11 hq11 => ?_)
    refine n_callVi F cb_X8_hisTrains lm_RX8_161 ob_37 (by decide) ⟨_, _, rfl⟩ (ct_Mo_hisTrains (fx_ok F) (fx_sd F) (fx_ix F rfl) w hq11) rfl rfl (Nat.le_of_ble_eq_true rfl) ⟨Nat.le_of_ble_eq_true rfl, Nat.le_of_ble_eq_true rfl⟩ dX8_he_77 ?_
    exact n_iret F rfl rfl dX8_he_80
  rw [if_neg e10]
  have hsw := (⟨lv_neT e1 (a := 0) rfl, lv_neT e2 (a := 1) rfl, lv_neT e3 (a := 2) rfl, lv_neT e4 (a := 3) rfl, lv_neT e6 (a := 4) rfl, lv_neT e8 (a := 5) rfl, lv_neT e10 (a := 6) rfl⟩ : ¬ (a1).toInt = 0 ∧ ¬ (a1).toInt = 1 ∧ ¬ (a1).toInt = 2 ∧ ¬ (a1).toInt = 3 ∧ ¬ (a1).toInt = 4 ∧ ¬ (a1).toInt = 5 ∧ ¬ (a1).toInt = 6)
  refine n_tabOut F 81 dX8_he_1 (by omega) (by decide) ?_
  refine n_bipush F (-3 : Int32) dX8_he_81 (by decide) ?_
  exact n_iret F rfl rfl dX8_he_83
theorem dX8_seeker_0 : decode cX8_seeker 0 = .ok (.iload_n 1, 1) := by decide +kernel
theorem dX8_seeker_1 : decode cX8_seeker 1 = .ok (.invokestatic 168, 3) := by decide +kernel
theorem dX8_seeker_4 : decode cX8_seeker 4 = .ok (.ifCond .eq 15, 3) := by decide +kernel
theorem dX8_seeker_7 : decode cX8_seeker 7 = .ok (.aload_n 0, 1) := by decide +kernel
theorem dX8_seeker_8 : decode cX8_seeker 8 = .ok (.getfield 7, 3) := by decide +kernel
theorem dX8_seeker_11 : decode cX8_seeker 11 = .ok (.bipush 8, 2) := by decide +kernel
theorem dX8_seeker_13 : decode cX8_seeker 13 = .ok (.iload_n 1, 1) := by decide +kernel
theorem dX8_seeker_14 : decode cX8_seeker 14 = .ok (.iadd, 1) := by decide +kernel
theorem dX8_seeker_15 : decode cX8_seeker 15 = .ok (.iaload, 1) := by decide +kernel
theorem dX8_seeker_16 : decode cX8_seeker 16 = .ok (.goto 5, 3) := by decide +kernel
theorem dX8_seeker_19 : decode cX8_seeker 19 = .ok (.bipush (-2), 2) := by decide +kernel
theorem dX8_seeker_21 : decode cX8_seeker 21 = .ok (.ireturn, 1) := by decide +kernel
def Mo_seeker (w : Wd) (a1 : Int32) : Option Int32 := (if (Mo_isSeeker w a1) = (0 : Int32) then some (-2 : Int32) else (if ib ((8 : Int32) + a1) 45 = true then some (w.1 38 (Int32.toNatClampNeg ((8 : Int32) + a1))) else none))
set_option maxRecDepth 100000 in
set_option maxHeartbeats 4000000 in
theorem ct_Mo_seeker {l : Launch} {g : GG} {σ : Sd} (hg : OKg g σ) (hb : σ.2.1 = false) (hx : ∀ c ∈ ([37, 38] : List Nat), c ∈ σ.1) (w : Wd) (a1 : Int32) {q : Int32} (hq : Mo_seeker w a1 = some q) : CT l g σ yX8_seeker cX8_seeker 2 (some .int) 2 45 [.ref (gA g 37), .int a1] w (some (.int q)) w := by
  refine ct_of (rt := (rtP w)) (res := Mo_seeker w a1) (q := q) (own := RX8) (b := false) hg hb hx (by decide) rfl (Nat.le_of_ble_eq_true rfl) hq (fun K e1 e2 e3 F => ?_)
  subst e1 e2 e3
  rw [Mo_seeker]
  show N K _ _ w 0 [(0, .ref (gA (cg K) 37)), (1, .int a1)] []
  refine n_iload_n F dX8_seeker_0 rfl 1 rfl ?_
  refine n_callSi F cb_X8_isSeeker lm_RX8_168 (ct_Mo_isSeeker (fx_ok F) (fx_sd F) (fx_ix F rfl) w a1) rfl rfl (Nat.le_of_ble_eq_true rfl) ⟨Nat.le_of_ble_eq_true rfl, Nat.le_of_ble_eq_true rfl⟩ dX8_seeker_1 ?_
  refine n_if_eq F 19 dX8_seeker_4 (by decide) (fun e1 => ?_) (fun e1 => ?_)
  · rw [if_pos e1]
    refine n_bipush F (-2 : Int32) dX8_seeker_19 (by decide) ?_
    exact n_iret F rfl rfl dX8_seeker_21
  rw [if_neg e1]
  refine n_aload_n F dX8_seeker_7 rfl 0 rfl ?_
  refine n_get F ck_8 lf_RX8_7 (by decide) fg_37_0 (by decide) dX8_seeker_8 ?_
  refine n_bipush F (8 : Int32) dX8_seeker_11 (by decide) ?_
  refine n_iload_n F dX8_seeker_13 rfl 1 rfl ?_
  refine n_iadd F dX8_seeker_14 ?_
  refine n_chk (fun e2 => ?_)
  refine n_iald F ar_38 (by decide) (ib_in e2) rfl dX8_seeker_15 ?_
  refine n_goto F 21 dX8_seeker_16 (by decide) ?_
  exact n_iret F rfl rfl dX8_seeker_21
theorem dX8_may_0 : decode cX8_may 0 = .ok (.aload_n 0, 1) := by decide +kernel
theorem dX8_may_1 : decode cX8_may 1 = .ok (.getfield 7, 3) := by decide +kernel
theorem dX8_may_4 : decode cX8_may 4 = .ok (.bipush 12, 2) := by decide +kernel
theorem dX8_may_6 : decode cX8_may 6 = .ok (.iaload, 1) := by decide +kernel
theorem dX8_may_7 : decode cX8_may 7 = .ok (.ireturn, 1) := by decide +kernel
def Mo_may (w : Wd) : Int32 := (w.1 38 12)
set_option maxRecDepth 100000 in
set_option maxHeartbeats 4000000 in
theorem ct_Mo_may {l : Launch} {g : GG} {σ : Sd} (hg : OKg g σ) (hb : σ.2.1 = false) (hx : ∀ c ∈ ([37, 38] : List Nat), c ∈ σ.1) (w : Wd) : CT l g σ yX8_may cX8_may 1 (some .int) 0 0 [.ref (gA g 37)] w (some (.int (Mo_may w))) w := by
  refine ct_of (rt := (rtP w)) (res := some (Mo_may w)) (q := (Mo_may w)) (own := RX8) (b := false) hg hb hx (by decide) rfl (Nat.le_of_ble_eq_true rfl) rfl (fun K e1 e2 e3 F => ?_)
  subst e1 e2 e3
  rw [Mo_may]
  show N K _ _ w 0 [(0, .ref (gA (cg K) 37))] []
  refine n_aload_n F dX8_may_0 rfl 0 rfl ?_
  refine n_get F ck_8 lf_RX8_7 (by decide) fg_37_0 (by decide) dX8_may_1 ?_
  refine n_bipush F (12 : Int32) dX8_may_4 (by decide) ?_
  refine n_iald F ar_38 (by decide) (ib_c (n := 45) (by decide)) (j := 12) (by decide) dX8_may_6 ?_
  exact n_iret F rfl rfl dX8_may_7
theorem dX8_way_0 : decode cX8_way 0 = .ok (.aload_n 0, 1) := by decide +kernel
theorem dX8_way_1 : decode cX8_way 1 = .ok (.getfield 7, 3) := by decide +kernel
theorem dX8_way_4 : decode cX8_way 4 = .ok (.bipush 13, 2) := by decide +kernel
theorem dX8_way_6 : decode cX8_way 6 = .ok (.iaload, 1) := by decide +kernel
theorem dX8_way_7 : decode cX8_way 7 = .ok (.ireturn, 1) := by decide +kernel
def Mo_way (w : Wd) : Int32 := (w.1 38 13)
set_option maxRecDepth 100000 in
set_option maxHeartbeats 4000000 in
theorem ct_Mo_way {l : Launch} {g : GG} {σ : Sd} (hg : OKg g σ) (hb : σ.2.1 = false) (hx : ∀ c ∈ ([37, 38] : List Nat), c ∈ σ.1) (w : Wd) : CT l g σ yX8_way cX8_way 1 (some .int) 0 0 [.ref (gA g 37)] w (some (.int (Mo_way w))) w := by
  refine ct_of (rt := (rtP w)) (res := some (Mo_way w)) (q := (Mo_way w)) (own := RX8) (b := false) hg hb hx (by decide) rfl (Nat.le_of_ble_eq_true rfl) rfl (fun K e1 e2 e3 F => ?_)
  subst e1 e2 e3
  rw [Mo_way]
  show N K _ _ w 0 [(0, .ref (gA (cg K) 37))] []
  refine n_aload_n F dX8_way_0 rfl 0 rfl ?_
  refine n_get F ck_8 lf_RX8_7 (by decide) fg_37_0 (by decide) dX8_way_1 ?_
  refine n_bipush F (13 : Int32) dX8_way_4 (by decide) ?_
  refine n_iald F ar_38 (by decide) (ib_c (n := 45) (by decide)) (j := 13) (by decide) dX8_way_6 ?_
  exact n_iret F rfl rfl dX8_way_7
theorem dX8_next_0 : decode cX8_next 0 = .ok (.aload_n 0, 1) := by decide +kernel
theorem dX8_next_1 : decode cX8_next 1 = .ok (.invokevirtual 183, 3) := by decide +kernel
theorem dX8_next_4 : decode cX8_next 4 = .ok (.ireturn, 1) := by decide +kernel
def Mo_next (w : Wd) : Option (Int32 × Wd) := (Option.bind (Mo_nextOf w) (fun q1 => some ((q1.1), (q1.2))))
set_option maxRecDepth 100000 in
set_option maxHeartbeats 4000000 in
theorem ct_Mo_next {l : Launch} {g : GG} {σ : Sd} (hg : OKg g σ) (hb : σ.2.1 = false) (hx : ∀ c ∈ ([37, 38, 42] : List Nat), c ∈ σ.1) (w : Wd) {q : Int32 × Wd} (hq : Mo_next w = some q) : CT l g σ yX8_next cX8_next 1 (some .int) 4 89 [.ref (gA g 37)] w (some (.int q.1)) q.2 := by
  refine ct_of (rt := rtI) (res := Mo_next w) (q := q) (own := RX8) (b := false) hg hb hx (by decide) rfl (Nat.le_of_ble_eq_true rfl) hq (fun K e1 e2 e3 F => ?_)
  subst e1 e2 e3
  rw [Mo_next]
  show N K _ _ w 0 [(0, .ref (gA (cg K) 37))] []
  refine n_aload_n F dX8_next_0 rfl 0 rfl ?_
  refine n_bind (fun q1 hq1 => ?_)
  refine n_callVi F cb_X8_nextOf lm_RX8_183 ob_37 (by decide) ⟨_, _, rfl⟩ (ct_Mo_nextOf (fx_ok F) (fx_sd F) (fx_ix F rfl) w hq1) rfl rfl (Nat.le_of_ble_eq_true rfl) ⟨Nat.le_of_ble_eq_true rfl, Nat.le_of_ble_eq_true rfl⟩ dX8_next_1 ?_
  exact n_iret F rfl rfl dX8_next_4
theorem dX8_letter_0 : decode cX8_letter 0 = .ok (.aload_n 0, 1) := by decide +kernel
theorem dX8_letter_1 : decode cX8_letter 1 = .ok (.getfield 7, 3) := by decide +kernel
theorem dX8_letter_4 : decode cX8_letter 4 = .ok (.bipush 14, 2) := by decide +kernel
theorem dX8_letter_6 : decode cX8_letter 6 = .ok (.iaload, 1) := by decide +kernel
theorem dX8_letter_7 : decode cX8_letter 7 = .ok (.ireturn, 1) := by decide +kernel
def Mo_letter (w : Wd) : Int32 := (w.1 38 14)
set_option maxRecDepth 100000 in
set_option maxHeartbeats 4000000 in
theorem ct_Mo_letter {l : Launch} {g : GG} {σ : Sd} (hg : OKg g σ) (hb : σ.2.1 = false) (hx : ∀ c ∈ ([37, 38] : List Nat), c ∈ σ.1) (w : Wd) : CT l g σ yX8_letter cX8_letter 1 (some .int) 0 0 [.ref (gA g 37)] w (some (.int (Mo_letter w))) w := by
  refine ct_of (rt := (rtP w)) (res := some (Mo_letter w)) (q := (Mo_letter w)) (own := RX8) (b := false) hg hb hx (by decide) rfl (Nat.le_of_ble_eq_true rfl) rfl (fun K e1 e2 e3 F => ?_)
  subst e1 e2 e3
  rw [Mo_letter]
  show N K _ _ w 0 [(0, .ref (gA (cg K) 37))] []
  refine n_aload_n F dX8_letter_0 rfl 0 rfl ?_
  refine n_get F ck_8 lf_RX8_7 (by decide) fg_37_0 (by decide) dX8_letter_1 ?_
  refine n_bipush F (14 : Int32) dX8_letter_4 (by decide) ?_
  refine n_iald F ar_38 (by decide) (ib_c (n := 45) (by decide)) (j := 14) (by decide) dX8_letter_6 ?_
  exact n_iret F rfl rfl dX8_letter_7
theorem dX8_bits_0 : decode cX8_bits 0 = .ok (.iconst 0, 1) := by decide +kernel
theorem dX8_bits_1 : decode cX8_bits 1 = .ok (.istore_n 1, 1) := by decide +kernel
theorem dX8_bits_2 : decode cX8_bits 2 = .ok (.iconst 0, 1) := by decide +kernel
theorem dX8_bits_3 : decode cX8_bits 3 = .ok (.istore_n 2, 1) := by decide +kernel
theorem dX8_bits_4 : decode cX8_bits 4 = .ok (.iload_n 2, 1) := by decide +kernel
theorem dX8_bits_5 : decode cX8_bits 5 = .ok (.bipush 7, 2) := by decide +kernel
theorem dX8_bits_7 : decode cX8_bits 7 = .ok (.if_icmp .ge 17, 3) := by decide +kernel
theorem dX8_bits_10 : decode cX8_bits 10 = .ok (.iload_n 1, 1) := by decide +kernel
theorem dX8_bits_11 : decode cX8_bits 11 = .ok (.iload_n 0, 1) := by decide +kernel
theorem dX8_bits_12 : decode cX8_bits 12 = .ok (.iload_n 2, 1) := by decide +kernel
theorem dX8_bits_13 : decode cX8_bits 13 = .ok (.ishr, 1) := by decide +kernel
theorem dX8_bits_14 : decode cX8_bits 14 = .ok (.iconst 1, 1) := by decide +kernel
theorem dX8_bits_15 : decode cX8_bits 15 = .ok (.iand, 1) := by decide +kernel
theorem dX8_bits_16 : decode cX8_bits 16 = .ok (.iadd, 1) := by decide +kernel
theorem dX8_bits_17 : decode cX8_bits 17 = .ok (.istore_n 1, 1) := by decide +kernel
theorem dX8_bits_18 : decode cX8_bits 18 = .ok (.iinc 2 1, 3) := by decide +kernel
theorem dX8_bits_21 : decode cX8_bits 21 = .ok (.goto (-17), 3) := by decide +kernel
theorem dX8_bits_24 : decode cX8_bits 24 = .ok (.iload_n 1, 1) := by decide +kernel
theorem dX8_bits_25 : decode cX8_bits 25 = .ok (.ireturn, 1) := by decide +kernel
def Mo_bits_L4 (w : Wd) (k24 : Int32 → Option Int32) : Nat → Int32 → Int32 → Int32 → Option Int32
  | 0, _, _, _ => none
  | n + 1, v0, v1, v2 => (if (7 : Int32) ≤ v2 then (k24 v1) else (Mo_bits_L4 w k24 n v0 (v1 + ((v0 >>> (v2 &&& (31 : Int32))) &&& (1 : Int32))) (v2 + (1 : Int32))))
set_option maxRecDepth 100000 in
set_option maxHeartbeats 4000000 in
theorem Mo_bits_L4_ok {K : Ctx} (F : Fx K cX8_bits 3 RX8 (some .int) 0 0 false []) (w : Wd) {k24 : Int32 → Option Int32} (h24 : ∀ (v1 : Int32), N K (rtP w) (k24 v1) w 24 [(1, .int v1)] []) : ∀ (n : Nat) (v0 : Int32) (v1 : Int32) (v2 : Int32), N K (rtP w) (Mo_bits_L4 w k24 n v0 v1 v2) w 4 [(0, .int v0), (1, .int v1), (2, .int v2)] [] := by
  intro n
  induction n with
  | zero => intro _ _ _; exact n_none
  | succ n ih =>
    intro v0 v1 v2
    rw [Mo_bits_L4]
    refine n_iload_n F dX8_bits_4 rfl 2 rfl ?_
    refine n_bipush F (7 : Int32) dX8_bits_5 (by decide) ?_
    refine n_icmp_ge F 24 dX8_bits_7 (by decide) (fun e1 => ?_) (fun e1 => ?_)
    · rw [if_pos e1]
      exact n_sub [1] rfl (h24 _)
    rw [if_neg e1]
    refine n_iload_n F dX8_bits_10 rfl 1 rfl ?_
    refine n_iload_n F dX8_bits_11 rfl 0 rfl ?_
    refine n_iload_n F dX8_bits_12 rfl 2 rfl ?_
    refine n_ishr F dX8_bits_13 ?_
    refine n_iconst F (1 : Int32) dX8_bits_14 (by decide) ?_
    refine n_iand F dX8_bits_15 ?_
    refine n_iadd F dX8_bits_16 ?_
    refine n_istore_n F (lv' := [(1, .int (v1 + ((v0 >>> (v2 &&& (31 : Int32))) &&& (1 : Int32)))), (0, .int v0), (2, .int v2)]) dX8_bits_17 rfl (by decide) rfl ?_
    refine n_iinc F (v2 + (1 : Int32)) (lv' := [(2, .int (v2 + (1 : Int32))), (1, .int (v1 + ((v0 >>> (v2 &&& (31 : Int32))) &&& (1 : Int32)))), (0, .int v0)]) dX8_bits_18 2 rfl rfl (by decide) rfl ?_
    refine n_goto F 4 dX8_bits_21 (by decide) ?_
    exact n_sub [2, 1, 0] rfl (ih _ _ _)
def Mo_bits_B24 (w : Wd) (v1 : Int32) : Option Int32 := some v1
set_option maxRecDepth 100000 in
set_option maxHeartbeats 4000000 in
theorem Mo_bits_B24_ok {K : Ctx} (F : Fx K cX8_bits 3 RX8 (some .int) 0 0 false []) (w : Wd) (v1 : Int32) : N K (rtP w) (Mo_bits_B24 w v1) w 24 [(1, .int v1)] [] := by
  rw [Mo_bits_B24]
  refine n_iload_n F dX8_bits_24 rfl 0 rfl ?_
  exact n_iret F rfl rfl dX8_bits_25
def Mo_bits (w : Wd) (a1 : Int32) : Option Int32 := (Mo_bits_L4 w (Mo_bits_B24 w) FU a1 (0 : Int32) (0 : Int32))
set_option maxRecDepth 100000 in
set_option maxHeartbeats 4000000 in
theorem ct_Mo_bits {l : Launch} {g : GG} {σ : Sd} (hg : OKg g σ) (hb : σ.2.1 = false) (hx : ∀ c ∈ ([] : List Nat), c ∈ σ.1) (w : Wd) (a1 : Int32) {q : Int32} (hq : Mo_bits w a1 = some q) : CT l g σ yX8_bits cX8_bits 3 (some .int) 0 0 [.int a1] w (some (.int q)) w := by
  refine ct_of (rt := (rtP w)) (res := Mo_bits w a1) (q := q) (own := RX8) (b := false) hg hb hx (by decide) rfl (Nat.le_of_ble_eq_true rfl) hq (fun K e1 e2 e3 F => ?_)
  subst e1 e2 e3
  rw [Mo_bits]
  show N K _ _ w 0 [(0, .int a1)] []
  refine n_iconst F (0 : Int32) dX8_bits_0 (by decide) ?_
  refine n_istore_n F (lv' := [(1, .int (0 : Int32)), (0, .int a1)]) dX8_bits_1 rfl (by decide) rfl ?_
  refine n_iconst F (0 : Int32) dX8_bits_2 (by decide) ?_
  refine n_istore_n F (lv' := [(2, .int (0 : Int32)), (1, .int (0 : Int32)), (0, .int a1)]) dX8_bits_3 rfl (by decide) rfl ?_
  exact n_sub [2, 1, 0] rfl (Mo_bits_L4_ok F w (Mo_bits_B24_ok F w) FU _ _ _)
theorem dX8_nightsFrom_0 : decode cX8_nightsFrom 0 = .ok (.iconst 0, 1) := by decide +kernel
theorem dX8_nightsFrom_1 : decode cX8_nightsFrom 1 = .ok (.istore 4, 2) := by decide +kernel
theorem dX8_nightsFrom_3 : decode cX8_nightsFrom 3 = .ok (.iconst 0, 1) := by decide +kernel
theorem dX8_nightsFrom_4 : decode cX8_nightsFrom 4 = .ok (.istore 5, 2) := by decide +kernel
theorem dX8_nightsFrom_6 : decode cX8_nightsFrom 6 = .ok (.iload 5, 2) := by decide +kernel
theorem dX8_nightsFrom_8 : decode cX8_nightsFrom 8 = .ok (.aload_n 0, 1) := by decide +kernel
theorem dX8_nightsFrom_9 : decode cX8_nightsFrom 9 = .ok (.getfield 131, 3) := by decide +kernel
theorem dX8_nightsFrom_12 : decode cX8_nightsFrom 12 = .ok (.if_icmp .ge 65, 3) := by decide +kernel
theorem dX8_nightsFrom_15 : decode cX8_nightsFrom 15 = .ok (.iload 4, 2) := by decide +kernel
theorem dX8_nightsFrom_17 : decode cX8_nightsFrom 17 = .ok (.iload 5, 2) := by decide +kernel
theorem dX8_nightsFrom_19 : decode cX8_nightsFrom 19 = .ok (.iload_n 3, 1) := by decide +kernel
theorem dX8_nightsFrom_20 : decode cX8_nightsFrom 20 = .ok (.if_icmp .eq 47, 3) := by decide +kernel
theorem dX8_nightsFrom_23 : decode cX8_nightsFrom 23 = .ok (.aload_n 0, 1) := by decide +kernel
theorem dX8_nightsFrom_24 : decode cX8_nightsFrom 24 = .ok (.getfield 27, 3) := by decide +kernel
theorem dX8_nightsFrom_27 : decode cX8_nightsFrom 27 = .ok (.bipush 6, 2) := by decide +kernel
theorem dX8_nightsFrom_29 : decode cX8_nightsFrom 29 = .ok (.iload 5, 2) := by decide +kernel
theorem dX8_nightsFrom_31 : decode cX8_nightsFrom 31 = .ok (.imul, 1) := by decide +kernel
theorem dX8_nightsFrom_32 : decode cX8_nightsFrom 32 = .ok (.iconst 4, 1) := by decide +kernel
theorem dX8_nightsFrom_33 : decode cX8_nightsFrom 33 = .ok (.iadd, 1) := by decide +kernel
theorem dX8_nightsFrom_34 : decode cX8_nightsFrom 34 = .ok (.iaload, 1) := by decide +kernel
theorem dX8_nightsFrom_35 : decode cX8_nightsFrom 35 = .ok (.iconst 1, 1) := by decide +kernel
theorem dX8_nightsFrom_36 : decode cX8_nightsFrom 36 = .ok (.if_icmp .ne 31, 3) := by decide +kernel
theorem dX8_nightsFrom_39 : decode cX8_nightsFrom 39 = .ok (.aload_n 0, 1) := by decide +kernel
theorem dX8_nightsFrom_40 : decode cX8_nightsFrom 40 = .ok (.iload 5, 2) := by decide +kernel
theorem dX8_nightsFrom_42 : decode cX8_nightsFrom 42 = .ok (.iload_n 1, 1) := by decide +kernel
theorem dX8_nightsFrom_43 : decode cX8_nightsFrom 43 = .ok (.iload_n 2, 1) := by decide +kernel
theorem dX8_nightsFrom_44 : decode cX8_nightsFrom 44 = .ok (.invokevirtual 152, 3) := by decide +kernel
theorem dX8_nightsFrom_47 : decode cX8_nightsFrom 47 = .ok (.ifCond .eq 20, 3) := by decide +kernel
theorem dX8_nightsFrom_50 : decode cX8_nightsFrom 50 = .ok (.iconst 1, 1) := by decide +kernel
theorem dX8_nightsFrom_51 : decode cX8_nightsFrom 51 = .ok (.aload_n 0, 1) := by decide +kernel
theorem dX8_nightsFrom_52 : decode cX8_nightsFrom 52 = .ok (.getfield 27, 3) := by decide +kernel
theorem dX8_nightsFrom_55 : decode cX8_nightsFrom 55 = .ok (.bipush 6, 2) := by decide +kernel
theorem dX8_nightsFrom_57 : decode cX8_nightsFrom 57 = .ok (.iload 5, 2) := by decide +kernel
theorem dX8_nightsFrom_59 : decode cX8_nightsFrom 59 = .ok (.imul, 1) := by decide +kernel
theorem dX8_nightsFrom_60 : decode cX8_nightsFrom 60 = .ok (.iconst 1, 1) := by decide +kernel
theorem dX8_nightsFrom_61 : decode cX8_nightsFrom 61 = .ok (.iadd, 1) := by decide +kernel
theorem dX8_nightsFrom_62 : decode cX8_nightsFrom 62 = .ok (.iaload, 1) := by decide +kernel
theorem dX8_nightsFrom_63 : decode cX8_nightsFrom 63 = .ok (.ishl, 1) := by decide +kernel
theorem dX8_nightsFrom_64 : decode cX8_nightsFrom 64 = .ok (.goto 4, 3) := by decide +kernel
theorem dX8_nightsFrom_67 : decode cX8_nightsFrom 67 = .ok (.iconst 0, 1) := by decide +kernel
theorem dX8_nightsFrom_68 : decode cX8_nightsFrom 68 = .ok (.ior, 1) := by decide +kernel
theorem dX8_nightsFrom_69 : decode cX8_nightsFrom 69 = .ok (.istore 4, 2) := by decide +kernel
theorem dX8_nightsFrom_71 : decode cX8_nightsFrom 71 = .ok (.iinc 5 1, 3) := by decide +kernel
theorem dX8_nightsFrom_74 : decode cX8_nightsFrom 74 = .ok (.goto (-68), 3) := by decide +kernel
theorem dX8_nightsFrom_77 : decode cX8_nightsFrom 77 = .ok (.iload 4, 2) := by decide +kernel
theorem dX8_nightsFrom_79 : decode cX8_nightsFrom 79 = .ok (.ireturn, 1) := by decide +kernel
def Mo_nightsFrom_L6 (w : Wd) (k77 : Int32 → Option Int32) : Nat → Int32 → Int32 → Int32 → Int32 → Int32 → Option Int32
  | 0, _, _, _, _, _ => none
  | n + 1, v1, v2, v3, v4, v5 => (if (w.1 37 8) ≤ v5 then (k77 v4) else (if v5 = v3 then (Mo_nightsFrom_L6 w k77 n v1 v2 v3 (v4 ||| (0 : Int32)) (v5 + (1 : Int32))) else (if ib (((6 : Int32) * v5) + (4 : Int32)) 72 = true then (if (w.1 42 (Int32.toNatClampNeg (((6 : Int32) * v5) + (4 : Int32)))) = (1 : Int32) then (Option.bind (Mo_leaves w v5 v1 v2) (fun q5 => (if q5 = (0 : Int32) then (Mo_nightsFrom_L6 w k77 n v1 v2 v3 (v4 ||| (0 : Int32)) (v5 + (1 : Int32))) else (if ib (((6 : Int32) * v5) + (1 : Int32)) 72 = true then (Mo_nightsFrom_L6 w k77 n v1 v2 v3 (v4 ||| ((1 : Int32) <<< ((w.1 42 (Int32.toNatClampNeg (((6 : Int32) * v5) + (1 : Int32)))) &&& (31 : Int32)))) (v5 + (1 : Int32))) else none)))) else (Mo_nightsFrom_L6 w k77 n v1 v2 v3 (v4 ||| (0 : Int32)) (v5 + (1 : Int32)))) else none)))
set_option maxRecDepth 100000 in
set_option maxHeartbeats 4000000 in
theorem Mo_nightsFrom_L6_ok {K : Ctx} (F : Fx K cX8_nightsFrom 6 RX8 (some .int) 1 23 false [37, 42]) (w : Wd) {k77 : Int32 → Option Int32} (h77 : ∀ (v4 : Int32), N K (rtP w) (k77 v4) w 77 [(4, .int v4)] []) : ∀ (n : Nat) (v1 : Int32) (v2 : Int32) (v3 : Int32) (v4 : Int32) (v5 : Int32), N K (rtP w) (Mo_nightsFrom_L6 w k77 n v1 v2 v3 v4 v5) w 6 [(0, .ref (gA (cg K) 37)), (1, .int v1), (2, .int v2), (3, .int v3), (4, .int v4), (5, .int v5)] [] := by
  intro n
  induction n with
  | zero => intro _ _ _ _ _; exact n_none
  | succ n ih =>
    intro v1 v2 v3 v4 v5
    rw [Mo_nightsFrom_L6]
    refine n_iload F dX8_nightsFrom_6 5 rfl ?_
    refine n_aload_n F dX8_nightsFrom_8 rfl 0 rfl ?_
    refine n_get F ck_8 lf_RX8_131 (by decide) fg_37_8 (by decide) dX8_nightsFrom_9 ?_
    refine n_icmp_ge F 77 dX8_nightsFrom_12 (by decide) (fun e1 => ?_) (fun e1 => ?_)
    · rw [if_pos e1]
      exact n_sub [4] rfl (h77 _)
    rw [if_neg e1]
    refine n_iload F dX8_nightsFrom_15 4 rfl ?_
    refine n_iload F dX8_nightsFrom_17 5 rfl ?_
    refine n_iload_n F dX8_nightsFrom_19 rfl 3 rfl ?_
    refine n_icmp_eq F 67 dX8_nightsFrom_20 (by decide) (fun e2 => ?_) (fun e2 => ?_)
    · rw [if_pos e2]
      refine n_iconst F (0 : Int32) dX8_nightsFrom_67 (by decide) ?_
      refine n_ior F dX8_nightsFrom_68 ?_
      refine n_istore F (lv' := [(4, .int (v4 ||| (0 : Int32))), (0, .ref (gA (cg K) 37)), (1, .int v1), (2, .int v2), (3, .int v3), (5, .int v5)]) dX8_nightsFrom_69 (by decide) rfl ?_
      refine n_iinc F (v5 + (1 : Int32)) (lv' := [(5, .int (v5 + (1 : Int32))), (4, .int (v4 ||| (0 : Int32))), (0, .ref (gA (cg K) 37)), (1, .int v1), (2, .int v2), (3, .int v3)]) dX8_nightsFrom_71 5 rfl rfl (by decide) rfl ?_
      refine n_goto F 6 dX8_nightsFrom_74 (by decide) ?_
      exact n_sub [2, 3, 4, 5, 1, 0] rfl (ih _ _ _ _ _)
    rw [if_neg e2]
    refine n_aload_n F dX8_nightsFrom_23 rfl 0 rfl ?_
    refine n_get F ck_8 lf_RX8_27 (by decide) fg_37_7 (by decide) dX8_nightsFrom_24 ?_
    refine n_bipush F (6 : Int32) dX8_nightsFrom_27 (by decide) ?_
    refine n_iload F dX8_nightsFrom_29 5 rfl ?_
    refine n_imul F dX8_nightsFrom_31 ?_
    refine n_iconst F (4 : Int32) dX8_nightsFrom_32 (by decide) ?_
    refine n_iadd F dX8_nightsFrom_33 ?_
    refine n_chk (fun e3 => ?_)
    refine n_iald F ar_42 (by decide) (ib_in e3) rfl dX8_nightsFrom_34 ?_
    refine n_iconst F (1 : Int32) dX8_nightsFrom_35 (by decide) ?_
    refine n_icmp_ne F 67 dX8_nightsFrom_36 (by decide) (fun e4 => ?_) (fun e4 => ?_)
    · rw [if_neg e4]
      refine n_iconst F (0 : Int32) dX8_nightsFrom_67 (by decide) ?_
      refine n_ior F dX8_nightsFrom_68 ?_
      refine n_istore F (lv' := [(4, .int (v4 ||| (0 : Int32))), (0, .ref (gA (cg K) 37)), (1, .int v1), (2, .int v2), (3, .int v3), (5, .int v5)]) dX8_nightsFrom_69 (by decide) rfl ?_
      refine n_iinc F (v5 + (1 : Int32)) (lv' := [(5, .int (v5 + (1 : Int32))), (4, .int (v4 ||| (0 : Int32))), (0, .ref (gA (cg K) 37)), (1, .int v1), (2, .int v2), (3, .int v3)]) dX8_nightsFrom_71 5 rfl rfl (by decide) rfl ?_
      refine n_goto F 6 dX8_nightsFrom_74 (by decide) ?_
      exact n_sub [2, 3, 4, 5, 1, 0] rfl (ih _ _ _ _ _)
    rw [if_pos e4]
    refine n_aload_n F dX8_nightsFrom_39 rfl 0 rfl ?_
    refine n_iload F dX8_nightsFrom_40 5 rfl ?_
    refine n_iload_n F dX8_nightsFrom_42 rfl 1 rfl ?_
    refine n_iload_n F dX8_nightsFrom_43 rfl 2 rfl ?_
    refine n_bind (fun q5 hq5 => ?_)
    refine n_callVi F cb_X8_leaves lm_RX8_152 ob_37 (by decide) ⟨_, _, rfl⟩ (ct_Mo_leaves (fx_ok F) (fx_sd F) (fx_ix F rfl) w v5 v1 v2 hq5) rfl rfl (Nat.le_of_ble_eq_true rfl) ⟨Nat.le_of_ble_eq_true rfl, Nat.le_of_ble_eq_true rfl⟩ dX8_nightsFrom_44 ?_
    refine n_if_eq F 67 dX8_nightsFrom_47 (by decide) (fun e6 => ?_) (fun e6 => ?_)
    · rw [if_pos e6]
      refine n_iconst F (0 : Int32) dX8_nightsFrom_67 (by decide) ?_
      refine n_ior F dX8_nightsFrom_68 ?_
      refine n_istore F (lv' := [(4, .int (v4 ||| (0 : Int32))), (0, .ref (gA (cg K) 37)), (1, .int v1), (2, .int v2), (3, .int v3), (5, .int v5)]) dX8_nightsFrom_69 (by decide) rfl ?_
      refine n_iinc F (v5 + (1 : Int32)) (lv' := [(5, .int (v5 + (1 : Int32))), (4, .int (v4 ||| (0 : Int32))), (0, .ref (gA (cg K) 37)), (1, .int v1), (2, .int v2), (3, .int v3)]) dX8_nightsFrom_71 5 rfl rfl (by decide) rfl ?_
      refine n_goto F 6 dX8_nightsFrom_74 (by decide) ?_
      exact n_sub [2, 3, 4, 5, 1, 0] rfl (ih _ _ _ _ _)
    rw [if_neg e6]
    refine n_iconst F (1 : Int32) dX8_nightsFrom_50 (by decide) ?_
    refine n_aload_n F dX8_nightsFrom_51 rfl 0 rfl ?_
    refine n_get F ck_8 lf_RX8_27 (by decide) fg_37_7 (by decide) dX8_nightsFrom_52 ?_
    refine n_bipush F (6 : Int32) dX8_nightsFrom_55 (by decide) ?_
    refine n_iload F dX8_nightsFrom_57 5 rfl ?_
    refine n_imul F dX8_nightsFrom_59 ?_
    refine n_iconst F (1 : Int32) dX8_nightsFrom_60 (by decide) ?_
    refine n_iadd F dX8_nightsFrom_61 ?_
    refine n_chk (fun e7 => ?_)
    refine n_iald F ar_42 (by decide) (ib_in e7) rfl dX8_nightsFrom_62 ?_
    refine n_ishl F dX8_nightsFrom_63 ?_
    refine n_goto F 68 dX8_nightsFrom_64 (by decide) ?_
    refine n_ior F dX8_nightsFrom_68 ?_
    refine n_istore F (lv' := [(4, .int (v4 ||| ((1 : Int32) <<< ((w.1 42 (Int32.toNatClampNeg (((6 : Int32) * v5) + (1 : Int32)))) &&& (31 : Int32))))), (0, .ref (gA (cg K) 37)), (1, .int v1), (2, .int v2), (3, .int v3), (5, .int v5)]) dX8_nightsFrom_69 (by decide) rfl ?_
    refine n_iinc F (v5 + (1 : Int32)) (lv' := [(5, .int (v5 + (1 : Int32))), (4, .int (v4 ||| ((1 : Int32) <<< ((w.1 42 (Int32.toNatClampNeg (((6 : Int32) * v5) + (1 : Int32)))) &&& (31 : Int32))))), (0, .ref (gA (cg K) 37)), (1, .int v1), (2, .int v2), (3, .int v3)]) dX8_nightsFrom_71 5 rfl rfl (by decide) rfl ?_
    refine n_goto F 6 dX8_nightsFrom_74 (by decide) ?_
    exact n_sub [2, 3, 4, 5, 1, 0] rfl (ih _ _ _ _ _)
def Mo_nightsFrom_B77 (w : Wd) (v4 : Int32) : Option Int32 := some v4
set_option maxRecDepth 100000 in
set_option maxHeartbeats 4000000 in
theorem Mo_nightsFrom_B77_ok {K : Ctx} (F : Fx K cX8_nightsFrom 6 RX8 (some .int) 1 23 false [37, 42]) (w : Wd) (v4 : Int32) : N K (rtP w) (Mo_nightsFrom_B77 w v4) w 77 [(4, .int v4)] [] := by
  rw [Mo_nightsFrom_B77]
  refine n_iload F dX8_nightsFrom_77 0 rfl ?_
  exact n_iret F rfl rfl dX8_nightsFrom_79
def Mo_nightsFrom (w : Wd) (a1 : Int32) (a2 : Int32) (a3 : Int32) : Option Int32 := (Mo_nightsFrom_L6 w (Mo_nightsFrom_B77 w) FU a1 a2 a3 (0 : Int32) (0 : Int32))
set_option maxRecDepth 100000 in
set_option maxHeartbeats 4000000 in
theorem ct_Mo_nightsFrom {l : Launch} {g : GG} {σ : Sd} (hg : OKg g σ) (hb : σ.2.1 = false) (hx : ∀ c ∈ ([37, 42] : List Nat), c ∈ σ.1) (w : Wd) (a1 : Int32) (a2 : Int32) (a3 : Int32) {q : Int32} (hq : Mo_nightsFrom w a1 a2 a3 = some q) : CT l g σ yX8_nightsFrom cX8_nightsFrom 6 (some .int) 1 23 [.ref (gA g 37), .int a1, .int a2, .int a3] w (some (.int q)) w := by
  refine ct_of (rt := (rtP w)) (res := Mo_nightsFrom w a1 a2 a3) (q := q) (own := RX8) (b := false) hg hb hx (by decide) rfl (Nat.le_of_ble_eq_true rfl) hq (fun K e1 e2 e3 F => ?_)
  subst e1 e2 e3
  rw [Mo_nightsFrom]
  show N K _ _ w 0 [(0, .ref (gA (cg K) 37)), (1, .int a1), (2, .int a2), (3, .int a3)] []
  refine n_iconst F (0 : Int32) dX8_nightsFrom_0 (by decide) ?_
  refine n_istore F (lv' := [(4, .int (0 : Int32)), (0, .ref (gA (cg K) 37)), (1, .int a1), (2, .int a2), (3, .int a3)]) dX8_nightsFrom_1 (by decide) rfl ?_
  refine n_iconst F (0 : Int32) dX8_nightsFrom_3 (by decide) ?_
  refine n_istore F (lv' := [(5, .int (0 : Int32)), (4, .int (0 : Int32)), (0, .ref (gA (cg K) 37)), (1, .int a1), (2, .int a2), (3, .int a3)]) dX8_nightsFrom_4 (by decide) rfl ?_
  exact n_sub [2, 3, 4, 5, 1, 0] rfl (Mo_nightsFrom_L6_ok F w (Mo_nightsFrom_B77_ok F w) FU _ _ _ _ _)
