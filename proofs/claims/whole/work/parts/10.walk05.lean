theorem dX6_append_0 : decode cX6_append 0 = .ok (.aload_n 0, 1) := by decide +kernel
theorem dX6_append_1 : decode cX6_append 1 = .ok (.getfield 15, 3) := by decide +kernel
theorem dX6_append_4 : decode cX6_append 4 = .ok (.iconst 0, 1) := by decide +kernel
theorem dX6_append_5 : decode cX6_append 5 = .ok (.sipush 199, 3) := by decide +kernel
theorem dX6_append_8 : decode cX6_append 8 = .ok (.invokestatic 19, 3) := by decide +kernel
theorem dX6_append_11 : decode cX6_append 11 = .ok (.ifCond .eq 24, 3) := by decide +kernel
theorem dX6_append_14 : decode cX6_append 14 = .ok (.aload_n 0, 1) := by decide +kernel
theorem dX6_append_15 : decode cX6_append 15 = .ok (.getfield 9, 3) := by decide +kernel
theorem dX6_append_18 : decode cX6_append 18 = .ok (.aload_n 0, 1) := by decide +kernel
theorem dX6_append_19 : decode cX6_append 19 = .ok (.getfield 15, 3) := by decide +kernel
theorem dX6_append_22 : decode cX6_append 22 = .ok (.iload_n 1, 1) := by decide +kernel
theorem dX6_append_23 : decode cX6_append 23 = .ok (.i2c, 1) := by decide +kernel
theorem dX6_append_24 : decode cX6_append 24 = .ok (.castore, 1) := by decide +kernel
theorem dX6_append_25 : decode cX6_append 25 = .ok (.aload_n 0, 1) := by decide +kernel
theorem dX6_append_26 : decode cX6_append 26 = .ok (.dup, 1) := by decide +kernel
theorem dX6_append_27 : decode cX6_append 27 = .ok (.getfield 15, 3) := by decide +kernel
theorem dX6_append_30 : decode cX6_append 30 = .ok (.iconst 1, 1) := by decide +kernel
theorem dX6_append_31 : decode cX6_append 31 = .ok (.iadd, 1) := by decide +kernel
theorem dX6_append_32 : decode cX6_append 32 = .ok (.putfield 15, 3) := by decide +kernel
theorem dX6_append_35 : decode cX6_append 35 = .ok (.return_, 1) := by decide +kernel
def Te_append (w : Wd) (a1 : Int32) : Option Wd := (if (Nt_within w (w.1 1 1) (0 : Int32) (199 : Int32)) = (0 : Int32) then some w else (if ib (w.1 1 1) 200 = true then some (sI (sI w 2 (Int32.toNatClampNeg (w.1 1 1)) (vp_nar .char (UInt32.toInt32 (Int32.toUInt32 a1 % (65536 : UInt32))))) 1 1 (((sI w 2 (Int32.toNatClampNeg (w.1 1 1)) (vp_nar .char (UInt32.toInt32 (Int32.toUInt32 a1 % (65536 : UInt32))))).1 1 1) + (1 : Int32))) else none))
set_option maxRecDepth 100000 in
set_option maxHeartbeats 4000000 in
theorem ct_Te_append {l : Launch} {g : GG} {σ : Sd} (hg : OKg g σ) (hb : σ.2.1 = true) (hx : ∀ c ∈ ([1, 2] : List Nat), c ∈ σ.1) (w : Wd) (a1 : Int32) {q : Wd} (hq : Te_append w a1 = some q) : CT l g σ yX6_append cX6_append 2 none 1 22 [.ref (gA g 1), .int a1] w none q := by
  refine ct_of (rt := rtV) (res := Te_append w a1) (q := q) (own := RX6) (b := true) hg hb hx (by decide) rfl (Nat.le_of_ble_eq_true rfl) hq (fun K e1 e2 e3 F => ?_)
  subst e1 e2 e3
  rw [Te_append]
  show N K _ _ w 0 [(0, .ref (gA (cg K) 1)), (1, .int a1)] []
  refine n_aload_n F dX6_append_0 rfl 0 rfl ?_
  refine n_get F ck_6 lf_RX6_15 (by decide) fg_1_1 (by decide) dX6_append_1 ?_
  refine n_iconst F (0 : Int32) dX6_append_4 (by decide) ?_
  refine n_sipush F (199 : Int32) dX6_append_5 (by decide) ?_
  refine n_callSNi F cb_X7_within lm_RX6_19 (ct_Nt_within (fx_ok F) (fx_sd F) (fx_ix F rfl) w (w.1 1 1) (0 : Int32) (199 : Int32)) rfl rfl (Nat.le_of_ble_eq_true rfl) ⟨Nat.le_of_ble_eq_true rfl, Nat.le_of_ble_eq_true rfl⟩ dX6_append_8 ?_
  refine n_if_eq F 35 dX6_append_11 (by decide) (fun e1 => ?_) (fun e1 => ?_)
  · rw [if_pos e1]
    exact n_vret F rfl rfl dX6_append_35
  rw [if_neg e1]
  refine n_aload_n F dX6_append_14 rfl 0 rfl ?_
  refine n_get F ck_6 lf_RX6_9 (by decide) fg_1_0 (by decide) dX6_append_15 ?_
  refine n_aload_n F dX6_append_18 rfl 0 rfl ?_
  refine n_get F ck_6 lf_RX6_15 (by decide) fg_1_1 (by decide) dX6_append_19 ?_
  refine n_iload_n F dX6_append_22 rfl 1 rfl ?_
  refine n_i2c F dX6_append_23 ?_
  refine n_chk (fun e2 => ?_)
  refine n_cast F ar_2 (by decide) (ib_in e2) rfl dX6_append_24 ?_
  refine n_aload_n F dX6_append_25 rfl 0 rfl ?_
  refine n_dup F dX6_append_26 rfl ?_
  refine n_get F ck_6 lf_RX6_15 (by decide) fg_1_1 (by decide) dX6_append_27 ?_
  refine n_iconst F (1 : Int32) dX6_append_30 (by decide) ?_
  refine n_iadd F dX6_append_31 ?_
  refine n_put F ck_6 lf_RX6_15 (by decide) rfl fp_1_1 (by decide) rfl rfl dX6_append_32 ?_
  exact n_vret F rfl rfl dX6_append_35
theorem dX7_write_0 : decode cX7_write 0 = .ok (.iload_n 3, 1) := by decide +kernel
theorem dX7_write_1 : decode cX7_write 1 = .ok (.iconst 1, 1) := by decide +kernel
theorem dX7_write_2 : decode cX7_write 2 = .ok (.bipush 8, 2) := by decide +kernel
theorem dX7_write_4 : decode cX7_write 4 = .ok (.invokestatic 74, 3) := by decide +kernel
theorem dX7_write_7 : decode cX7_write 7 = .ok (.ifCond .ne 6, 3) := by decide +kernel
theorem dX7_write_10 : decode cX7_write 10 = .ok (.bipush (-3), 2) := by decide +kernel
theorem dX7_write_12 : decode cX7_write 12 = .ok (.ireturn, 1) := by decide +kernel
theorem dX7_write_13 : decode cX7_write 13 = .ok (.iload_n 3, 1) := by decide +kernel
theorem dX7_write_14 : decode cX7_write 14 = .ok (.sipush 200, 3) := by decide +kernel
theorem dX7_write_17 : decode cX7_write 17 = .ok (.aload_n 0, 1) := by decide +kernel
theorem dX7_write_18 : decode cX7_write 18 = .ok (.getfield 12, 3) := by decide +kernel
theorem dX7_write_21 : decode cX7_write 21 = .ok (.getfield 78, 3) := by decide +kernel
theorem dX7_write_24 : decode cX7_write 24 = .ok (.isub, 1) := by decide +kernel
theorem dX7_write_25 : decode cX7_write 25 = .ok (.if_icmp .le 6, 3) := by decide +kernel
theorem dX7_write_28 : decode cX7_write 28 = .ok (.bipush (-5), 2) := by decide +kernel
theorem dX7_write_30 : decode cX7_write 30 = .ok (.ireturn, 1) := by decide +kernel
theorem dX7_write_31 : decode cX7_write 31 = .ok (.iconst 0, 1) := by decide +kernel
theorem dX7_write_32 : decode cX7_write 32 = .ok (.istore 4, 2) := by decide +kernel
theorem dX7_write_34 : decode cX7_write 34 = .ok (.iload 4, 2) := by decide +kernel
theorem dX7_write_36 : decode cX7_write 36 = .ok (.iload_n 3, 1) := by decide +kernel
theorem dX7_write_37 : decode cX7_write 37 = .ok (.if_icmp .ge 28, 3) := by decide +kernel
theorem dX7_write_40 : decode cX7_write 40 = .ok (.aload_n 0, 1) := by decide +kernel
theorem dX7_write_41 : decode cX7_write 41 = .ok (.getfield 12, 3) := by decide +kernel
theorem dX7_write_44 : decode cX7_write 44 = .ok (.lload_n 1, 1) := by decide +kernel
theorem dX7_write_45 : decode cX7_write 45 = .ok (.bipush 8, 2) := by decide +kernel
theorem dX7_write_47 : decode cX7_write 47 = .ok (.iload 4, 2) := by decide +kernel
theorem dX7_write_49 : decode cX7_write 49 = .ok (.imul, 1) := by decide +kernel
theorem dX7_write_50 : decode cX7_write 50 = .ok (.lshr, 1) := by decide +kernel
theorem dX7_write_51 : decode cX7_write 51 = .ok (.ldc2_w 81, 3) := by decide +kernel
theorem dX7_write_54 : decode cX7_write 54 = .ok (.land, 1) := by decide +kernel
theorem dX7_write_55 : decode cX7_write 55 = .ok (.l2i, 1) := by decide +kernel
theorem dX7_write_56 : decode cX7_write 56 = .ok (.invokevirtual 83, 3) := by decide +kernel
theorem dX7_write_59 : decode cX7_write 59 = .ok (.iinc 4 1, 3) := by decide +kernel
theorem dX7_write_62 : decode cX7_write 62 = .ok (.goto (-28), 3) := by decide +kernel
theorem dX7_write_65 : decode cX7_write 65 = .ok (.aload_n 0, 1) := by decide +kernel
theorem dX7_write_66 : decode cX7_write 66 = .ok (.getfield 12, 3) := by decide +kernel
theorem dX7_write_69 : decode cX7_write 69 = .ok (.getfield 78, 3) := by decide +kernel
theorem dX7_write_72 : decode cX7_write 72 = .ok (.ireturn, 1) := by decide +kernel
def Nt_write_L34 (k65 : Wd → Option (Int32 × Wd)) : Nat → Wd → Int64 → Int32 → Int32 → Option (Int32 × Wd)
  | 0, _, _, _, _ => none
  | n + 1, w, v1, v3, v4 => (if v3 ≤ v4 then (k65 w) else (Option.bind (Te_append w (Int64.toInt32 ((v1 >>> (Int32.toInt64 ((8 : Int32) * v4) &&& (63 : Int64))) &&& (255 : Int64)))) (fun q4 => (Nt_write_L34 k65 n q4 v1 v3 (v4 + (1 : Int32))))))
set_option maxRecDepth 100000 in
set_option maxHeartbeats 4000000 in
theorem Nt_write_L34_ok {K : Ctx} (F : Fx K cX7_write 5 RX7 (some .int) 2 43 true [0, 1, 2]) {k65 : Wd → Option (Int32 × Wd)} (h65 : ∀ (w : Wd), N K rtI (k65 w) w 65 [(0, .ref (gA (cg K) 0))] []) : ∀ (n : Nat) (w : Wd) (v1 : Int64) (v3 : Int32) (v4 : Int32), N K rtI (Nt_write_L34 k65 n w v1 v3 v4) w 34 [(0, .ref (gA (cg K) 0)), (1, .long v1), (3, .int v3), (4, .int v4)] [] := by
  intro n
  induction n with
  | zero => intro _ _ _ _; exact n_none
  | succ n ih =>
    intro w v1 v3 v4
    rw [Nt_write_L34]
    refine n_iload F dX7_write_34 3 rfl ?_
    refine n_iload_n F dX7_write_36 rfl 2 rfl ?_
    refine n_icmp_ge F 65 dX7_write_37 (by decide) (fun e3 => ?_) (fun e3 => ?_)
    · rw [if_pos e3]
      exact n_sub [0] rfl (h65 _)
    rw [if_neg e3]
    refine n_aload_n F dX7_write_40 rfl 0 rfl ?_
    refine n_get F ck_7 lf_RX7_12 (by decide) fg_0_0 (by decide) dX7_write_41 ?_
    refine n_lload_n F dX7_write_44 rfl 1 rfl ?_
    refine n_bipush F (8 : Int32) dX7_write_45 (by decide) ?_
    refine n_iload F dX7_write_47 3 rfl ?_
    refine n_imul F dX7_write_49 ?_
    refine n_lshr F dX7_write_50 ?_
    refine n_ldc2 F (255 : Int64) dX7_write_51 kc_RX7_81 ?_
    refine n_land F dX7_write_54 ?_
    refine n_l2i F dX7_write_55 ?_
    refine n_bind (fun q4 hq4 => ?_)
    refine n_callVv F cb_X6_append lm_RX7_83 ob_1 (by decide) ⟨_, _, rfl⟩ (ct_Te_append (fx_ok F) (fx_sd F) (fx_ix F rfl) w (Int64.toInt32 ((v1 >>> (Int32.toInt64 ((8 : Int32) * v4) &&& (63 : Int64))) &&& (255 : Int64))) hq4) rfl rfl (Nat.le_of_ble_eq_true rfl) ⟨Nat.le_of_ble_eq_true rfl, Nat.le_of_ble_eq_true rfl⟩ dX7_write_56 ?_
    refine n_iinc F (v4 + (1 : Int32)) (lv' := [(4, .int (v4 + (1 : Int32))), (0, .ref (gA (cg K) 0)), (1, .long v1), (3, .int v3)]) dX7_write_59 3 rfl rfl (by decide) rfl ?_
    refine n_goto F 34 dX7_write_62 (by decide) ?_
    exact n_sub [1, 2, 3, 0] rfl (ih _ _ _ _)
def Nt_write_B65 (w : Wd) : Option (Int32 × Wd) := some ((w.1 1 1), w)
set_option maxRecDepth 100000 in
set_option maxHeartbeats 4000000 in
theorem Nt_write_B65_ok {K : Ctx} (F : Fx K cX7_write 5 RX7 (some .int) 2 43 true [0, 1, 2]) (w : Wd) : N K rtI (Nt_write_B65 w) w 65 [(0, .ref (gA (cg K) 0))] [] := by
  rw [Nt_write_B65]
  refine n_aload_n F dX7_write_65 rfl 0 rfl ?_
  refine n_get F ck_7 lf_RX7_12 (by decide) fg_0_0 (by decide) dX7_write_66 ?_
  refine n_get F ck_6 lf_RX7_78 (by decide) fg_1_1 (by decide) dX7_write_69 ?_
  exact n_iret F rfl rfl dX7_write_72
def Nt_write (w : Wd) (a1 : Int64) (a2 : Int32) : Option (Int32 × Wd) := (if (Nt_within w a2 (1 : Int32) (8 : Int32)) = (0 : Int32) then some ((-3 : Int32), w) else (if a2 ≤ ((200 : Int32) - (w.1 1 1)) then (Nt_write_L34 Nt_write_B65 FU w a1 a2 (0 : Int32)) else some ((-5 : Int32), w)))
set_option maxRecDepth 100000 in
set_option maxHeartbeats 4000000 in
theorem ct_Nt_write {l : Launch} {g : GG} {σ : Sd} (hg : OKg g σ) (hb : σ.2.1 = true) (hx : ∀ c ∈ ([0, 1, 2] : List Nat), c ∈ σ.1) (w : Wd) (a1 : Int64) (a2 : Int32) {q : Int32 × Wd} (hq : Nt_write w a1 a2 = some q) : CT l g σ yX7_write cX7_write 5 (some .int) 2 43 [.ref (gA g 0), .long a1, .int a2] w (some (.int q.1)) q.2 := by
  refine ct_of (rt := rtI) (res := Nt_write w a1 a2) (q := q) (own := RX7) (b := true) hg hb hx (by decide) rfl (Nat.le_of_ble_eq_true rfl) hq (fun K e1 e2 e3 F => ?_)
  subst e1 e2 e3
  rw [Nt_write]
  show N K _ _ w 0 [(0, .ref (gA (cg K) 0)), (1, .long a1), (3, .int a2)] []
  refine n_iload_n F dX7_write_0 rfl 2 rfl ?_
  refine n_iconst F (1 : Int32) dX7_write_1 (by decide) ?_
  refine n_bipush F (8 : Int32) dX7_write_2 (by decide) ?_
  refine n_callSi F cb_X7_within lm_RX7_74 (ct_Nt_within (fx_ok F) (fx_sd F) (fx_ix F rfl) w a2 (1 : Int32) (8 : Int32)) rfl rfl (Nat.le_of_ble_eq_true rfl) ⟨Nat.le_of_ble_eq_true rfl, Nat.le_of_ble_eq_true rfl⟩ dX7_write_4 ?_
  refine n_if_ne F 13 dX7_write_7 (by decide) (fun e1 => ?_) (fun e1 => ?_)
  · rw [if_neg e1]
    refine n_iload_n F dX7_write_13 rfl 2 rfl ?_
    refine n_sipush F (200 : Int32) dX7_write_14 (by decide) ?_
    refine n_aload_n F dX7_write_17 rfl 0 rfl ?_
    refine n_get F ck_7 lf_RX7_12 (by decide) fg_0_0 (by decide) dX7_write_18 ?_
    refine n_get F ck_6 lf_RX7_78 (by decide) fg_1_1 (by decide) dX7_write_21 ?_
    refine n_isub F dX7_write_24 ?_
    refine n_icmp_le F 31 dX7_write_25 (by decide) (fun e2 => ?_) (fun e2 => ?_)
    · rw [if_pos e2]
      refine n_iconst F (0 : Int32) dX7_write_31 (by decide) ?_
      refine n_istore F (lv' := [(4, .int (0 : Int32)), (0, .ref (gA (cg K) 0)), (1, .long a1), (3, .int a2)]) dX7_write_32 (by decide) rfl ?_
      exact n_sub [1, 2, 3, 0] rfl (Nt_write_L34_ok F (Nt_write_B65_ok F) FU _ _ _ _)
    rw [if_neg e2]
    refine n_bipush F (-5 : Int32) dX7_write_28 (by decide) ?_
    exact n_iret F rfl rfl dX7_write_30
  rw [if_pos e1]
  refine n_bipush F (-3 : Int32) dX7_write_10 (by decide) ?_
  exact n_iret F rfl rfl dX7_write_12
theorem dX7_erase_0 : decode cX7_erase 0 = .ok (.aload_n 0, 1) := by decide +kernel
theorem dX7_erase_1 : decode cX7_erase 1 = .ok (.getfield 12, 3) := by decide +kernel
theorem dX7_erase_4 : decode cX7_erase 4 = .ok (.getfield 78, 3) := by decide +kernel
theorem dX7_erase_7 : decode cX7_erase 7 = .ok (.istore_n 1, 1) := by decide +kernel
theorem dX7_erase_8 : decode cX7_erase 8 = .ok (.aload_n 0, 1) := by decide +kernel
theorem dX7_erase_9 : decode cX7_erase 9 = .ok (.getfield 12, 3) := by decide +kernel
theorem dX7_erase_12 : decode cX7_erase 12 = .ok (.iconst 0, 1) := by decide +kernel
theorem dX7_erase_13 : decode cX7_erase 13 = .ok (.putfield 78, 3) := by decide +kernel
theorem dX7_erase_16 : decode cX7_erase 16 = .ok (.iload_n 1, 1) := by decide +kernel
theorem dX7_erase_17 : decode cX7_erase 17 = .ok (.ireturn, 1) := by decide +kernel
def Nt_erase (w : Wd) : Int32 × Wd := ((w.1 1 1), (sI w 1 1 (0 : Int32)))
set_option maxRecDepth 100000 in
set_option maxHeartbeats 4000000 in
theorem ct_Nt_erase {l : Launch} {g : GG} {σ : Sd} (hg : OKg g σ) (hb : σ.2.1 = true) (hx : ∀ c ∈ ([0, 1] : List Nat), c ∈ σ.1) (w : Wd) : CT l g σ yX7_erase cX7_erase 2 (some .int) 0 0 [.ref (gA g 0)] w (some (.int (Nt_erase w).1)) (Nt_erase w).2 := by
  refine ct_of (rt := rtI) (res := some (Nt_erase w)) (q := (Nt_erase w)) (own := RX7) (b := true) hg hb hx (by decide) rfl (Nat.le_of_ble_eq_true rfl) rfl (fun K e1 e2 e3 F => ?_)
  subst e1 e2 e3
  rw [Nt_erase]
  show N K _ _ w 0 [(0, .ref (gA (cg K) 0))] []
  refine n_aload_n F dX7_erase_0 rfl 0 rfl ?_
  refine n_get F ck_7 lf_RX7_12 (by decide) fg_0_0 (by decide) dX7_erase_1 ?_
  refine n_get F ck_6 lf_RX7_78 (by decide) fg_1_1 (by decide) dX7_erase_4 ?_
  refine n_istore_n F (lv' := [(1, .int (w.1 1 1)), (0, .ref (gA (cg K) 0))]) dX7_erase_7 rfl (by decide) rfl ?_
  refine n_aload_n F dX7_erase_8 rfl 1 rfl ?_
  refine n_get F ck_7 lf_RX7_12 (by decide) fg_0_0 (by decide) dX7_erase_9 ?_
  refine n_iconst F (0 : Int32) dX7_erase_12 (by decide) ?_
  refine n_put F ck_6 lf_RX7_78 (by decide) rfl fp_1_1 (by decide) rfl rfl dX7_erase_13 ?_
  refine n_iload_n F dX7_erase_16 rfl 0 rfl ?_
  exact n_iret F rfl rfl dX7_erase_17
theorem dX7_train_0 : decode cX7_train 0 = .ok (.aload_n 0, 1) := by decide +kernel
theorem dX7_train_1 : decode cX7_train 1 = .ok (.getfield 19, 3) := by decide +kernel
theorem dX7_train_4 : decode cX7_train 4 = .ok (.iload_n 1, 1) := by decide +kernel
theorem dX7_train_5 : decode cX7_train 5 = .ok (.invokevirtual 104, 3) := by decide +kernel
theorem dX7_train_8 : decode cX7_train 8 = .ok (.ifCond .ne 6, 3) := by decide +kernel
theorem dX7_train_11 : decode cX7_train 11 = .ok (.bipush (-2), 2) := by decide +kernel
theorem dX7_train_13 : decode cX7_train 13 = .ok (.ireturn, 1) := by decide +kernel
theorem dX7_train_14 : decode cX7_train 14 = .ok (.iload_n 2, 1) := by decide +kernel
theorem dX7_train_15 : decode cX7_train 15 = .ok (.iconst 0, 1) := by decide +kernel
theorem dX7_train_16 : decode cX7_train 16 = .ok (.iconst 5, 1) := by decide +kernel
theorem dX7_train_17 : decode cX7_train 17 = .ok (.invokestatic 74, 3) := by decide +kernel
theorem dX7_train_20 : decode cX7_train 20 = .ok (.ifCond .eq 15, 3) := by decide +kernel
theorem dX7_train_23 : decode cX7_train 23 = .ok (.aload_n 0, 1) := by decide +kernel
theorem dX7_train_24 : decode cX7_train 24 = .ok (.getfield 19, 3) := by decide +kernel
theorem dX7_train_27 : decode cX7_train 27 = .ok (.iload_n 1, 1) := by decide +kernel
theorem dX7_train_28 : decode cX7_train 28 = .ok (.iload_n 2, 1) := by decide +kernel
theorem dX7_train_29 : decode cX7_train 29 = .ok (.invokevirtual 108, 3) := by decide +kernel
theorem dX7_train_32 : decode cX7_train 32 = .ok (.goto 5, 3) := by decide +kernel
theorem dX7_train_35 : decode cX7_train 35 = .ok (.bipush (-3), 2) := by decide +kernel
theorem dX7_train_37 : decode cX7_train 37 = .ok (.ireturn, 1) := by decide +kernel
def Nt_train (w : Wd) (a1 : Int32) (a2 : Int32) : Option Int32 := (if (La_hasTrain w a1) = (0 : Int32) then some (-2 : Int32) else (if (Nt_within w a2 (0 : Int32) (5 : Int32)) = (0 : Int32) then some (-3 : Int32) else (Option.bind (La_part w a1 a2) (fun q3 => some q3))))
set_option maxRecDepth 100000 in
set_option maxHeartbeats 4000000 in
theorem ct_Nt_train {l : Launch} {g : GG} {σ : Sd} (hg : OKg g σ) (hb : σ.2.1 = true) (hx : ∀ c ∈ ([0, 3, 4] : List Nat), c ∈ σ.1) (w : Wd) (a1 : Int32) (a2 : Int32) {q : Int32} (hq : Nt_train w a1 a2 = some q) : CT l g σ yX7_train cX7_train 3 (some .int) 1 23 [.ref (gA g 0), .int a1, .int a2] w (some (.int q)) w := by
  refine ct_of (rt := (rtP w)) (res := Nt_train w a1 a2) (q := q) (own := RX7) (b := true) hg hb hx (by decide) rfl (Nat.le_of_ble_eq_true rfl) hq (fun K e1 e2 e3 F => ?_)
  subst e1 e2 e3
  rw [Nt_train]
  show N K _ _ w 0 [(0, .ref (gA (cg K) 0)), (1, .int a1), (2, .int a2)] []
  refine n_aload_n F dX7_train_0 rfl 0 rfl ?_
  refine n_get F ck_7 lf_RX7_19 (by decide) fg_0_1 (by decide) dX7_train_1 ?_
  refine n_iload_n F dX7_train_4 rfl 1 rfl ?_
  refine n_callVi F cb_X1_hasTrain lm_RX7_104 ob_3 (by decide) ⟨_, _, rfl⟩ (ct_La_hasTrain (fx_ok F) (fx_sd F) (fx_ix F rfl) w a1) rfl rfl (Nat.le_of_ble_eq_true rfl) ⟨Nat.le_of_ble_eq_true rfl, Nat.le_of_ble_eq_true rfl⟩ dX7_train_5 ?_
  refine n_if_ne F 14 dX7_train_8 (by decide) (fun e1 => ?_) (fun e1 => ?_)
  · rw [if_neg e1]
    refine n_iload_n F dX7_train_14 rfl 2 rfl ?_
    refine n_iconst F (0 : Int32) dX7_train_15 (by decide) ?_
    refine n_iconst F (5 : Int32) dX7_train_16 (by decide) ?_
    refine n_callSi F cb_X7_within lm_RX7_74 (ct_Nt_within (fx_ok F) (fx_sd F) (fx_ix F rfl) w a2 (0 : Int32) (5 : Int32)) rfl rfl (Nat.le_of_ble_eq_true rfl) ⟨Nat.le_of_ble_eq_true rfl, Nat.le_of_ble_eq_true rfl⟩ dX7_train_17 ?_
    refine n_if_eq F 35 dX7_train_20 (by decide) (fun e2 => ?_) (fun e2 => ?_)
    · rw [if_pos e2]
      refine n_bipush F (-3 : Int32) dX7_train_35 (by decide) ?_
      exact n_iret F rfl rfl dX7_train_37
    rw [if_neg e2]
    refine n_aload_n F dX7_train_23 rfl 0 rfl ?_
    refine n_get F ck_7 lf_RX7_19 (by decide) fg_0_1 (by decide) dX7_train_24 ?_
    refine n_iload_n F dX7_train_27 rfl 1 rfl ?_
    refine n_iload_n F dX7_train_28 rfl 2 rfl ?_
    refine n_bind (fun q3 hq3 => ?_)
    refine n_callVi F cb_X1_part lm_RX7_108 ob_3 (by decide) ⟨_, _, rfl⟩ (ct_La_part (fx_ok F) (fx_sd F) (fx_ix F rfl) w a1 a2 hq3) rfl rfl (Nat.le_of_ble_eq_true rfl) ⟨Nat.le_of_ble_eq_true rfl, Nat.le_of_ble_eq_true rfl⟩ dX7_train_29 ?_
    refine n_goto F 37 dX7_train_32 (by decide) ?_
    exact n_iret F rfl rfl dX7_train_37
  rw [if_pos e1]
  refine n_bipush F (-2 : Int32) dX7_train_11 (by decide) ?_
  exact n_iret F rfl rfl dX7_train_13
theorem dX7_runs_0 : decode cX7_runs 0 = .ok (.aload_n 0, 1) := by decide +kernel
theorem dX7_runs_1 : decode cX7_runs 1 = .ok (.getfield 19, 3) := by decide +kernel
theorem dX7_runs_4 : decode cX7_runs 4 = .ok (.iload_n 1, 1) := by decide +kernel
theorem dX7_runs_5 : decode cX7_runs 5 = .ok (.invokevirtual 112, 3) := by decide +kernel
theorem dX7_runs_8 : decode cX7_runs 8 = .ok (.ifCond .ne 6, 3) := by decide +kernel
theorem dX7_runs_11 : decode cX7_runs 11 = .ok (.bipush (-2), 2) := by decide +kernel
theorem dX7_runs_13 : decode cX7_runs 13 = .ok (.ireturn, 1) := by decide +kernel
theorem dX7_runs_14 : decode cX7_runs 14 = .ok (.iload_n 2, 1) := by decide +kernel
theorem dX7_runs_15 : decode cX7_runs 15 = .ok (.ifCond .ge 8, 3) := by decide +kernel
theorem dX7_runs_18 : decode cX7_runs 18 = .ok (.bipush (-3), 2) := by decide +kernel
theorem dX7_runs_20 : decode cX7_runs 20 = .ok (.goto 14, 3) := by decide +kernel
theorem dX7_runs_23 : decode cX7_runs 23 = .ok (.aload_n 0, 1) := by decide +kernel
theorem dX7_runs_24 : decode cX7_runs 24 = .ok (.getfield 19, 3) := by decide +kernel
theorem dX7_runs_27 : decode cX7_runs 27 = .ok (.iload_n 1, 1) := by decide +kernel
theorem dX7_runs_28 : decode cX7_runs 28 = .ok (.iload_n 2, 1) := by decide +kernel
theorem dX7_runs_29 : decode cX7_runs 29 = .ok (.bipush 7, 2) := by decide +kernel
theorem dX7_runs_31 : decode cX7_runs 31 = .ok (.invokevirtual 115, 3) := by decide +kernel
theorem dX7_runs_34 : decode cX7_runs 34 = .ok (.ireturn, 1) := by decide +kernel
def Nt_runs (w : Wd) (a1 : Int32) (a2 : Int32) : Option Int32 := (if (La_hasStation_3 w a1) = (0 : Int32) then some (-2 : Int32) else (if (0 : Int32) ≤ a2 then (Option.bind (La_rideable w a1 a2 (7 : Int32)) (fun q3 => some q3)) else some (-3 : Int32)))
set_option maxRecDepth 100000 in
set_option maxHeartbeats 4000000 in
theorem ct_Nt_runs {l : Launch} {g : GG} {σ : Sd} (hg : OKg g σ) (hb : σ.2.1 = true) (hx : ∀ c ∈ ([0, 3, 4] : List Nat), c ∈ σ.1) (w : Wd) (a1 : Int32) (a2 : Int32) {q : Int32} (hq : Nt_runs w a1 a2 = some q) : CT l g σ yX7_runs cX7_runs 3 (some .int) 4 94 [.ref (gA g 0), .int a1, .int a2] w (some (.int q)) w := by
  refine ct_of (rt := (rtP w)) (res := Nt_runs w a1 a2) (q := q) (own := RX7) (b := true) hg hb hx (by decide) rfl (Nat.le_of_ble_eq_true rfl) hq (fun K e1 e2 e3 F => ?_)
  subst e1 e2 e3
  rw [Nt_runs]
  show N K _ _ w 0 [(0, .ref (gA (cg K) 0)), (1, .int a1), (2, .int a2)] []
  refine n_aload_n F dX7_runs_0 rfl 0 rfl ?_
  refine n_get F ck_7 lf_RX7_19 (by decide) fg_0_1 (by decide) dX7_runs_1 ?_
  refine n_iload_n F dX7_runs_4 rfl 1 rfl ?_
  refine n_callVi F cb_X1_hasStation lm_RX7_112 ob_3 (by decide) ⟨_, _, rfl⟩ (ct_La_hasStation_3 (fx_ok F) (fx_sd F) (fx_ix F rfl) w a1) rfl rfl (Nat.le_of_ble_eq_true rfl) ⟨Nat.le_of_ble_eq_true rfl, Nat.le_of_ble_eq_true rfl⟩ dX7_runs_5 ?_
  refine n_if_ne F 14 dX7_runs_8 (by decide) (fun e1 => ?_) (fun e1 => ?_)
  · rw [if_neg e1]
    refine n_iload_n F dX7_runs_14 rfl 2 rfl ?_
    refine n_if_ge F 23 dX7_runs_15 (by decide) (fun e2 => ?_) (fun e2 => ?_)
    · rw [if_pos e2]
      refine n_aload_n F dX7_runs_23 rfl 0 rfl ?_
      refine n_get F ck_7 lf_RX7_19 (by decide) fg_0_1 (by decide) dX7_runs_24 ?_
      refine n_iload_n F dX7_runs_27 rfl 1 rfl ?_
      refine n_iload_n F dX7_runs_28 rfl 2 rfl ?_
      refine n_bipush F (7 : Int32) dX7_runs_29 (by decide) ?_
      refine n_bind (fun q3 hq3 => ?_)
      refine n_callVi F cb_X1_rideable lm_RX7_115 ob_3 (by decide) ⟨_, _, rfl⟩ (ct_La_rideable (fx_ok F) (fx_sd F) (fx_ix F rfl) w a1 a2 (7 : Int32) hq3) rfl rfl (Nat.le_of_ble_eq_true rfl) ⟨Nat.le_of_ble_eq_true rfl, Nat.le_of_ble_eq_true rfl⟩ dX7_runs_31 ?_
      exact n_iret F rfl rfl dX7_runs_34
    rw [if_neg e2]
    refine n_bipush F (-3 : Int32) dX7_runs_18 (by decide) ?_
    refine n_goto F 34 dX7_runs_20 (by decide) ?_
    exact n_iret F rfl rfl dX7_runs_34
  rw [if_pos e1]
  refine n_bipush F (-2 : Int32) dX7_runs_11 (by decide) ?_
  exact n_iret F rfl rfl dX7_runs_13
theorem dX7_isSuch_0 : decode cX7_isSuch 0 = .ok (.iload_n 2, 1) := by decide +kernel
theorem dX7_isSuch_1 : decode cX7_isSuch 1 = .ok (.lookupswitch 54 #[(0, 27), (3, 29)], 27) := by decide +kernel
theorem dX7_isSuch_28 : decode cX7_isSuch 28 = .ok (.iconst 1, 1) := by decide +kernel
theorem dX7_isSuch_29 : decode cX7_isSuch 29 = .ok (.ireturn, 1) := by decide +kernel
theorem dX7_isSuch_30 : decode cX7_isSuch 30 = .ok (.aload_n 0, 1) := by decide +kernel
theorem dX7_isSuch_31 : decode cX7_isSuch 31 = .ok (.getfield 37, 3) := by decide +kernel
theorem dX7_isSuch_34 : decode cX7_isSuch 34 = .ok (.aload_n 0, 1) := by decide +kernel
theorem dX7_isSuch_35 : decode cX7_isSuch 35 = .ok (.getfield 19, 3) := by decide +kernel
theorem dX7_isSuch_38 : decode cX7_isSuch 38 = .ok (.iload_n 1, 1) := by decide +kernel
theorem dX7_isSuch_39 : decode cX7_isSuch 39 = .ok (.iconst 5, 1) := by decide +kernel
theorem dX7_isSuch_40 : decode cX7_isSuch 40 = .ok (.invokevirtual 108, 3) := by decide +kernel
theorem dX7_isSuch_43 : decode cX7_isSuch 43 = .ok (.invokevirtual 123, 3) := by decide +kernel
theorem dX7_isSuch_46 : decode cX7_isSuch 46 = .ok (.ifCond .ne 7, 3) := by decide +kernel
theorem dX7_isSuch_49 : decode cX7_isSuch 49 = .ok (.iconst 1, 1) := by decide +kernel
theorem dX7_isSuch_50 : decode cX7_isSuch 50 = .ok (.goto 4, 3) := by decide +kernel
theorem dX7_isSuch_53 : decode cX7_isSuch 53 = .ok (.iconst 0, 1) := by decide +kernel
theorem dX7_isSuch_54 : decode cX7_isSuch 54 = .ok (.ireturn, 1) := by decide +kernel
theorem dX7_isSuch_55 : decode cX7_isSuch 55 = .ok (.aload_n 0, 1) := by decide +kernel
theorem dX7_isSuch_56 : decode cX7_isSuch 56 = .ok (.getfield 19, 3) := by decide +kernel
theorem dX7_isSuch_59 : decode cX7_isSuch 59 = .ok (.iload_n 1, 1) := by decide +kernel
theorem dX7_isSuch_60 : decode cX7_isSuch 60 = .ok (.iconst 4, 1) := by decide +kernel
theorem dX7_isSuch_61 : decode cX7_isSuch 61 = .ok (.invokevirtual 108, 3) := by decide +kernel
theorem dX7_isSuch_64 : decode cX7_isSuch 64 = .ok (.iload_n 2, 1) := by decide +kernel
theorem dX7_isSuch_65 : decode cX7_isSuch 65 = .ok (.if_icmp .ne 7, 3) := by decide +kernel
theorem dX7_isSuch_68 : decode cX7_isSuch 68 = .ok (.iconst 1, 1) := by decide +kernel
theorem dX7_isSuch_69 : decode cX7_isSuch 69 = .ok (.goto 4, 3) := by decide +kernel
theorem dX7_isSuch_72 : decode cX7_isSuch 72 = .ok (.iconst 0, 1) := by decide +kernel
theorem dX7_isSuch_73 : decode cX7_isSuch 73 = .ok (.ireturn, 1) := by decide +kernel
def Nt_isSuch (w : Wd) (a1 : Int32) (a2 : Int32) : Option Int32 := (if a2 = (0 : Int32) then some (1 : Int32) else (if a2 = (3 : Int32) then (Option.bind (La_part w a1 (5 : Int32)) (fun q3 => (Option.bind (Sc_ticketsOf w q3) (fun q4 => (if q4 = (0 : Int32) then some (1 : Int32) else some (0 : Int32)))))) else (Option.bind (La_part w a1 (4 : Int32)) (fun q6 => (if q6 = a2 then some (1 : Int32) else some (0 : Int32))))))
set_option maxRecDepth 100000 in
set_option maxHeartbeats 4000000 in
theorem ct_Nt_isSuch {l : Launch} {g : GG} {σ : Sd} (hg : OKg g σ) (hb : σ.2.1 = true) (hx : ∀ c ∈ ([0, 3, 4, 13, 14] : List Nat), c ∈ σ.1) (w : Wd) (a1 : Int32) (a2 : Int32) {q : Int32} (hq : Nt_isSuch w a1 a2 = some q) : CT l g σ yX7_isSuch cX7_isSuch 3 (some .boolean) 2 43 [.ref (gA g 0), .int a1, .int a2] w (some (.int q)) w := by
  refine ct_of (rt := (rtP w)) (res := Nt_isSuch w a1 a2) (q := q) (own := RX7) (b := true) hg hb hx (by decide) rfl (Nat.le_of_ble_eq_true rfl) hq (fun K e1 e2 e3 F => ?_)
  subst e1 e2 e3
  rw [Nt_isSuch]
  show N K _ _ w 0 [(0, .ref (gA (cg K) 0)), (1, .int a1), (2, .int a2)] []
  refine n_iload_n F dX7_isSuch_0 rfl 2 rfl ?_
  by_cases e1 : a2 = (0 : Int32)
  · rw [if_pos e1]
    refine n_look F (off := 27) 28 dX7_isSuch_1 (by decide) (by rw [e1]; decide) (by decide) ?_
    refine n_iconst F (1 : Int32) dX7_isSuch_28 (by decide) ?_
    exact n_zret F .boolean rfl rfl rfl dX7_isSuch_29
  rw [if_neg e1]
  by_cases e2 : a2 = (3 : Int32)
  · rw [if_pos e2]
    refine n_look F (off := 29) 30 dX7_isSuch_1 (by decide) (by rw [e2]; decide) (by decide) ?_
    refine n_aload_n F dX7_isSuch_30 rfl 0 rfl ?_
    refine n_get F ck_7 lf_RX7_37 (by decide) fg_0_3 (by decide) dX7_isSuch_31 ?_
    refine n_aload_n F dX7_isSuch_34 rfl 0 rfl ?_
    refine n_get F ck_7 lf_RX7_19 (by decide) fg_0_1 (by decide) dX7_isSuch_35 ?_
    refine n_iload_n F dX7_isSuch_38 rfl 1 rfl ?_
    refine n_iconst F (5 : Int32) dX7_isSuch_39 (by decide) ?_
    refine n_bind (fun q3 hq3 => ?_)
    refine n_callVi F cb_X1_part lm_RX7_108 ob_3 (by decide) ⟨_, _, rfl⟩ (ct_La_part (fx_ok F) (fx_sd F) (fx_ix F rfl) w a1 (5 : Int32) hq3) rfl rfl (Nat.le_of_ble_eq_true rfl) ⟨Nat.le_of_ble_eq_true rfl, Nat.le_of_ble_eq_true rfl⟩ dX7_isSuch_40 ?_
    refine n_bind (fun q4 hq4 => ?_)
    refine n_callVi F cb_X5_ticketsOf lm_RX7_123 ob_13 (by decide) ⟨_, _, rfl⟩ (ct_Sc_ticketsOf (fx_ok F) (fx_sd F) (fx_ix F rfl) w q3 hq4) rfl rfl (Nat.le_of_ble_eq_true rfl) ⟨Nat.le_of_ble_eq_true rfl, Nat.le_of_ble_eq_true rfl⟩ dX7_isSuch_43 ?_
    refine n_if_ne F 53 dX7_isSuch_46 (by decide) (fun e5 => ?_) (fun e5 => ?_)
    · rw [if_neg e5]
      refine n_iconst F (0 : Int32) dX7_isSuch_53 (by decide) ?_
      exact n_zret F .boolean rfl rfl rfl dX7_isSuch_54
    rw [if_pos e5]
    refine n_iconst F (1 : Int32) dX7_isSuch_49 (by decide) ?_
    refine n_goto F 54 dX7_isSuch_50 (by decide) ?_
    exact n_zret F .boolean rfl rfl rfl dX7_isSuch_54
  rw [if_neg e2]
  refine n_look F (off := 54) 55 dX7_isSuch_1 (by decide) (by rw [show (#[(0, 27), (3, 29)] : Array (Int × Int)).toList = [(0, 27), (3, 29)] from rfl, lv_osw (a := 0) e1 rfl, lv_osw (a := 3) e2 rfl]; rfl) (by decide) ?_
  refine n_aload_n F dX7_isSuch_55 rfl 0 rfl ?_
  refine n_get F ck_7 lf_RX7_19 (by decide) fg_0_1 (by decide) dX7_isSuch_56 ?_
  refine n_iload_n F dX7_isSuch_59 rfl 1 rfl ?_
  refine n_iconst F (4 : Int32) dX7_isSuch_60 (by decide) ?_
  refine n_bind (fun q6 hq6 => ?_)
  refine n_callVi F cb_X1_part lm_RX7_108 ob_3 (by decide) ⟨_, _, rfl⟩ (ct_La_part (fx_ok F) (fx_sd F) (fx_ix F rfl) w a1 (4 : Int32) hq6) rfl rfl (Nat.le_of_ble_eq_true rfl) ⟨Nat.le_of_ble_eq_true rfl, Nat.le_of_ble_eq_true rfl⟩ dX7_isSuch_61 ?_
  refine n_iload_n F dX7_isSuch_64 rfl 2 rfl ?_
  refine n_icmp_ne F 72 dX7_isSuch_65 (by decide) (fun e7 => ?_) (fun e7 => ?_)
  · rw [if_neg e7]
    refine n_iconst F (0 : Int32) dX7_isSuch_72 (by decide) ?_
    exact n_zret F .boolean rfl rfl rfl dX7_isSuch_73
  rw [if_pos e7]
  refine n_iconst F (1 : Int32) dX7_isSuch_68 (by decide) ?_
  refine n_goto F 73 dX7_isSuch_69 (by decide) ?_
  exact n_zret F .boolean rfl rfl rfl dX7_isSuch_73
theorem dX7_as_0 : decode cX7_as 0 = .ok (.aload_n 0, 1) := by decide +kernel
theorem dX7_as_1 : decode cX7_as 1 = .ok (.getfield 19, 3) := by decide +kernel
theorem dX7_as_4 : decode cX7_as 4 = .ok (.iload_n 1, 1) := by decide +kernel
theorem dX7_as_5 : decode cX7_as 5 = .ok (.invokevirtual 104, 3) := by decide +kernel
theorem dX7_as_8 : decode cX7_as 8 = .ok (.ifCond .ne 6, 3) := by decide +kernel
theorem dX7_as_11 : decode cX7_as 11 = .ok (.bipush (-2), 2) := by decide +kernel
theorem dX7_as_13 : decode cX7_as 13 = .ok (.ireturn, 1) := by decide +kernel
theorem dX7_as_14 : decode cX7_as 14 = .ok (.iload_n 2, 1) := by decide +kernel
theorem dX7_as_15 : decode cX7_as 15 = .ok (.iconst 0, 1) := by decide +kernel
theorem dX7_as_16 : decode cX7_as 16 = .ok (.iconst 3, 1) := by decide +kernel
theorem dX7_as_17 : decode cX7_as 17 = .ok (.invokestatic 74, 3) := by decide +kernel
theorem dX7_as_20 : decode cX7_as 20 = .ok (.ifCond .ne 6, 3) := by decide +kernel
theorem dX7_as_23 : decode cX7_as 23 = .ok (.bipush (-3), 2) := by decide +kernel
theorem dX7_as_25 : decode cX7_as 25 = .ok (.ireturn, 1) := by decide +kernel
theorem dX7_as_26 : decode cX7_as 26 = .ok (.aload_n 0, 1) := by decide +kernel
theorem dX7_as_27 : decode cX7_as 27 = .ok (.iload_n 1, 1) := by decide +kernel
theorem dX7_as_28 : decode cX7_as 28 = .ok (.iload_n 2, 1) := by decide +kernel
theorem dX7_as_29 : decode cX7_as 29 = .ok (.invokevirtual 119, 3) := by decide +kernel
theorem dX7_as_32 : decode cX7_as 32 = .ok (.ifCond .eq 15, 3) := by decide +kernel
theorem dX7_as_35 : decode cX7_as 35 = .ok (.aload_n 0, 1) := by decide +kernel
theorem dX7_as_36 : decode cX7_as 36 = .ok (.getfield 19, 3) := by decide +kernel
theorem dX7_as_39 : decode cX7_as 39 = .ok (.iload_n 1, 1) := by decide +kernel
theorem dX7_as_40 : decode cX7_as 40 = .ok (.iconst 5, 1) := by decide +kernel
theorem dX7_as_41 : decode cX7_as 41 = .ok (.invokevirtual 108, 3) := by decide +kernel
theorem dX7_as_44 : decode cX7_as 44 = .ok (.goto 5, 3) := by decide +kernel
theorem dX7_as_47 : decode cX7_as 47 = .ok (.bipush (-4), 2) := by decide +kernel
theorem dX7_as_49 : decode cX7_as 49 = .ok (.ireturn, 1) := by decide +kernel
def Nt_as (w : Wd) (a1 : Int32) (a2 : Int32) : Option Int32 := (if (La_hasTrain w a1) = (0 : Int32) then some (-2 : Int32) else (if (Nt_within w a2 (0 : Int32) (3 : Int32)) = (0 : Int32) then some (-3 : Int32) else (Option.bind (Nt_isSuch w a1 a2) (fun q3 => (if q3 = (0 : Int32) then some (-4 : Int32) else (Option.bind (La_part w a1 (5 : Int32)) (fun q5 => some q5)))))))
set_option maxRecDepth 100000 in
set_option maxHeartbeats 4000000 in
theorem ct_Nt_as {l : Launch} {g : GG} {σ : Sd} (hg : OKg g σ) (hb : σ.2.1 = true) (hx : ∀ c ∈ ([0, 3, 4, 13, 14] : List Nat), c ∈ σ.1) (w : Wd) (a1 : Int32) (a2 : Int32) {q : Int32} (hq : Nt_as w a1 a2 = some q) : CT l g σ yX7_as cX7_as 3 (some .int) 3 65 [.ref (gA g 0), .int a1, .int a2] w (some (.int q)) w := by
  refine ct_of (rt := (rtP w)) (res := Nt_as w a1 a2) (q := q) (own := RX7) (b := true) hg hb hx (by decide) rfl (Nat.le_of_ble_eq_true rfl) hq (fun K e1 e2 e3 F => ?_)
  subst e1 e2 e3
  rw [Nt_as]
  show N K _ _ w 0 [(0, .ref (gA (cg K) 0)), (1, .int a1), (2, .int a2)] []
  refine n_aload_n F dX7_as_0 rfl 0 rfl ?_
  refine n_get F ck_7 lf_RX7_19 (by decide) fg_0_1 (by decide) dX7_as_1 ?_
  refine n_iload_n F dX7_as_4 rfl 1 rfl ?_
  refine n_callVi F cb_X1_hasTrain lm_RX7_104 ob_3 (by decide) ⟨_, _, rfl⟩ (ct_La_hasTrain (fx_ok F) (fx_sd F) (fx_ix F rfl) w a1) rfl rfl (Nat.le_of_ble_eq_true rfl) ⟨Nat.le_of_ble_eq_true rfl, Nat.le_of_ble_eq_true rfl⟩ dX7_as_5 ?_
  refine n_if_ne F 14 dX7_as_8 (by decide) (fun e1 => ?_) (fun e1 => ?_)
  · rw [if_neg e1]
    refine n_iload_n F dX7_as_14 rfl 2 rfl ?_
    refine n_iconst F (0 : Int32) dX7_as_15 (by decide) ?_
    refine n_iconst F (3 : Int32) dX7_as_16 (by decide) ?_
    refine n_callSi F cb_X7_within lm_RX7_74 (ct_Nt_within (fx_ok F) (fx_sd F) (fx_ix F rfl) w a2 (0 : Int32) (3 : Int32)) rfl rfl (Nat.le_of_ble_eq_true rfl) ⟨Nat.le_of_ble_eq_true rfl, Nat.le_of_ble_eq_true rfl⟩ dX7_as_17 ?_
    refine n_if_ne F 26 dX7_as_20 (by decide) (fun e2 => ?_) (fun e2 => ?_)
    · rw [if_neg e2]
      refine n_aload_n F dX7_as_26 rfl 0 rfl ?_
      refine n_iload_n F dX7_as_27 rfl 1 rfl ?_
      refine n_iload_n F dX7_as_28 rfl 2 rfl ?_
      refine n_bind (fun q3 hq3 => ?_)
      refine n_callVi F cb_X7_isSuch lm_RX7_119 ob_0 (by decide) ⟨_, _, rfl⟩ (ct_Nt_isSuch (fx_ok F) (fx_sd F) (fx_ix F rfl) w a1 a2 hq3) rfl rfl (Nat.le_of_ble_eq_true rfl) ⟨Nat.le_of_ble_eq_true rfl, Nat.le_of_ble_eq_true rfl⟩ dX7_as_29 ?_
      refine n_if_eq F 47 dX7_as_32 (by decide) (fun e4 => ?_) (fun e4 => ?_)
      · rw [if_pos e4]
        refine n_bipush F (-4 : Int32) dX7_as_47 (by decide) ?_
        exact n_iret F rfl rfl dX7_as_49
      rw [if_neg e4]
      refine n_aload_n F dX7_as_35 rfl 0 rfl ?_
      refine n_get F ck_7 lf_RX7_19 (by decide) fg_0_1 (by decide) dX7_as_36 ?_
      refine n_iload_n F dX7_as_39 rfl 1 rfl ?_
      refine n_iconst F (5 : Int32) dX7_as_40 (by decide) ?_
      refine n_bind (fun q5 hq5 => ?_)
      refine n_callVi F cb_X1_part lm_RX7_108 ob_3 (by decide) ⟨_, _, rfl⟩ (ct_La_part (fx_ok F) (fx_sd F) (fx_ix F rfl) w a1 (5 : Int32) hq5) rfl rfl (Nat.le_of_ble_eq_true rfl) ⟨Nat.le_of_ble_eq_true rfl, Nat.le_of_ble_eq_true rfl⟩ dX7_as_41 ?_
      refine n_goto F 49 dX7_as_44 (by decide) ?_
      exact n_iret F rfl rfl dX7_as_49
    rw [if_pos e2]
    refine n_bipush F (-3 : Int32) dX7_as_23 (by decide) ?_
    exact n_iret F rfl rfl dX7_as_25
  rw [if_pos e1]
  refine n_bipush F (-2 : Int32) dX7_as_11 (by decide) ?_
  exact n_iret F rfl rfl dX7_as_13
theorem dX7_ride_0 : decode cX7_ride 0 = .ok (.aload_n 0, 1) := by decide +kernel
theorem dX7_ride_1 : decode cX7_ride 1 = .ok (.getfield 19, 3) := by decide +kernel
theorem dX7_ride_4 : decode cX7_ride 4 = .ok (.iload_n 1, 1) := by decide +kernel
theorem dX7_ride_5 : decode cX7_ride 5 = .ok (.invokevirtual 104, 3) := by decide +kernel
theorem dX7_ride_8 : decode cX7_ride 8 = .ok (.ifCond .ne 6, 3) := by decide +kernel
theorem dX7_ride_11 : decode cX7_ride 11 = .ok (.bipush (-2), 2) := by decide +kernel
theorem dX7_ride_13 : decode cX7_ride 13 = .ok (.ireturn, 1) := by decide +kernel
theorem dX7_ride_14 : decode cX7_ride 14 = .ok (.aload_n 0, 1) := by decide +kernel
theorem dX7_ride_15 : decode cX7_ride 15 = .ok (.getfield 37, 3) := by decide +kernel
theorem dX7_ride_18 : decode cX7_ride 18 = .ok (.invokevirtual 127, 3) := by decide +kernel
theorem dX7_ride_21 : decode cX7_ride 21 = .ok (.iload_n 1, 1) := by decide +kernel
theorem dX7_ride_22 : decode cX7_ride 22 = .ok (.ishr, 1) := by decide +kernel
theorem dX7_ride_23 : decode cX7_ride 23 = .ok (.iconst 1, 1) := by decide +kernel
theorem dX7_ride_24 : decode cX7_ride 24 = .ok (.iand, 1) := by decide +kernel
theorem dX7_ride_25 : decode cX7_ride 25 = .ok (.ifCond .ne 6, 3) := by decide +kernel
theorem dX7_ride_28 : decode cX7_ride 28 = .ok (.bipush (-4), 2) := by decide +kernel
theorem dX7_ride_30 : decode cX7_ride 30 = .ok (.ireturn, 1) := by decide +kernel
theorem dX7_ride_31 : decode cX7_ride 31 = .ok (.aload_n 0, 1) := by decide +kernel
theorem dX7_ride_32 : decode cX7_ride 32 = .ok (.getfield 37, 3) := by decide +kernel
theorem dX7_ride_35 : decode cX7_ride 35 = .ok (.iload_n 1, 1) := by decide +kernel
theorem dX7_ride_36 : decode cX7_ride 36 = .ok (.putfield 130, 3) := by decide +kernel
theorem dX7_ride_39 : decode cX7_ride 39 = .ok (.aload_n 0, 1) := by decide +kernel
theorem dX7_ride_40 : decode cX7_ride 40 = .ok (.getfield 19, 3) := by decide +kernel
theorem dX7_ride_43 : decode cX7_ride 43 = .ok (.iload_n 1, 1) := by decide +kernel
theorem dX7_ride_44 : decode cX7_ride 44 = .ok (.iconst 1, 1) := by decide +kernel
theorem dX7_ride_45 : decode cX7_ride 45 = .ok (.invokevirtual 108, 3) := by decide +kernel
theorem dX7_ride_48 : decode cX7_ride 48 = .ok (.ireturn, 1) := by decide +kernel
def Nt_ride (w : Wd) (a1 : Int32) : Option (Int32 × Wd) := (if (La_hasTrain w a1) = (0 : Int32) then some ((-2 : Int32), w) else (Option.bind (Sc_rideable w) (fun q2 => (if ((q2 >>> (a1 &&& (31 : Int32))) &&& (1 : Int32)) = (0 : Int32) then some ((-4 : Int32), w) else (Option.bind (La_part (sI w 13 5 a1) a1 (1 : Int32)) (fun q4 => some (q4, (sI w 13 5 a1))))))))
set_option maxRecDepth 100000 in
set_option maxHeartbeats 4000000 in
theorem ct_Nt_ride {l : Launch} {g : GG} {σ : Sd} (hg : OKg g σ) (hb : σ.2.1 = true) (hx : ∀ c ∈ ([0, 3, 4, 13, 14] : List Nat), c ∈ σ.1) (w : Wd) (a1 : Int32) {q : Int32 × Wd} (hq : Nt_ride w a1 = some q) : CT l g σ yX7_ride cX7_ride 2 (some .int) 5 114 [.ref (gA g 0), .int a1] w (some (.int q.1)) q.2 := by
  refine ct_of (rt := rtI) (res := Nt_ride w a1) (q := q) (own := RX7) (b := true) hg hb hx (by decide) rfl (Nat.le_of_ble_eq_true rfl) hq (fun K e1 e2 e3 F => ?_)
  subst e1 e2 e3
  rw [Nt_ride]
  show N K _ _ w 0 [(0, .ref (gA (cg K) 0)), (1, .int a1)] []
  refine n_aload_n F dX7_ride_0 rfl 0 rfl ?_
  refine n_get F ck_7 lf_RX7_19 (by decide) fg_0_1 (by decide) dX7_ride_1 ?_
  refine n_iload_n F dX7_ride_4 rfl 1 rfl ?_
  refine n_callVi F cb_X1_hasTrain lm_RX7_104 ob_3 (by decide) ⟨_, _, rfl⟩ (ct_La_hasTrain (fx_ok F) (fx_sd F) (fx_ix F rfl) w a1) rfl rfl (Nat.le_of_ble_eq_true rfl) ⟨Nat.le_of_ble_eq_true rfl, Nat.le_of_ble_eq_true rfl⟩ dX7_ride_5 ?_
  refine n_if_ne F 14 dX7_ride_8 (by decide) (fun e1 => ?_) (fun e1 => ?_)
  · rw [if_neg e1]
    refine n_aload_n F dX7_ride_14 rfl 0 rfl ?_
    refine n_get F ck_7 lf_RX7_37 (by decide) fg_0_3 (by decide) dX7_ride_15 ?_
    refine n_bind (fun q2 hq2 => ?_)
    refine n_callVi F cb_X5_rideable lm_RX7_127 ob_13 (by decide) ⟨_, _, rfl⟩ (ct_Sc_rideable (fx_ok F) (fx_sd F) (fx_ix F rfl) w hq2) rfl rfl (Nat.le_of_ble_eq_true rfl) ⟨Nat.le_of_ble_eq_true rfl, Nat.le_of_ble_eq_true rfl⟩ dX7_ride_18 ?_
    refine n_iload_n F dX7_ride_21 rfl 1 rfl ?_
    refine n_ishr F dX7_ride_22 ?_
    refine n_iconst F (1 : Int32) dX7_ride_23 (by decide) ?_
    refine n_iand F dX7_ride_24 ?_
    refine n_if_ne F 31 dX7_ride_25 (by decide) (fun e3 => ?_) (fun e3 => ?_)
    · rw [if_neg e3]
      refine n_aload_n F dX7_ride_31 rfl 0 rfl ?_
      refine n_get F ck_7 lf_RX7_37 (by decide) fg_0_3 (by decide) dX7_ride_32 ?_
      refine n_iload_n F dX7_ride_35 rfl 1 rfl ?_
      refine n_put F ck_5 lf_RX7_130 (by decide) rfl fp_13_5 (by decide) rfl rfl dX7_ride_36 ?_
      refine n_aload_n F dX7_ride_39 rfl 0 rfl ?_
      refine n_get F ck_7 lf_RX7_19 (by decide) fg_0_1 (by decide) dX7_ride_40 ?_
      refine n_iload_n F dX7_ride_43 rfl 1 rfl ?_
      refine n_iconst F (1 : Int32) dX7_ride_44 (by decide) ?_
      refine n_bind (fun q4 hq4 => ?_)
      refine n_callVi F cb_X1_part lm_RX7_108 ob_3 (by decide) ⟨_, _, rfl⟩ (ct_La_part (fx_ok F) (fx_sd F) (fx_ix F rfl) (sI w 13 5 a1) a1 (1 : Int32) hq4) rfl rfl (Nat.le_of_ble_eq_true rfl) ⟨Nat.le_of_ble_eq_true rfl, Nat.le_of_ble_eq_true rfl⟩ dX7_ride_45 ?_
      exact n_iret F rfl rfl dX7_ride_48
    rw [if_pos e3]
    refine n_bipush F (-4 : Int32) dX7_ride_28 (by decide) ?_
    exact n_iret F rfl rfl dX7_ride_30
  rw [if_pos e1]
  refine n_bipush F (-2 : Int32) dX7_ride_11 (by decide) ?_
  exact n_iret F rfl rfl dX7_ride_13
theorem dX7_send_0 : decode cX7_send 0 = .ok (.iload_n 1, 1) := by decide +kernel
theorem dX7_send_1 : decode cX7_send 1 = .ok (.invokestatic 133, 3) := by decide +kernel
theorem dX7_send_4 : decode cX7_send 4 = .ok (.ifCond .eq 19, 3) := by decide +kernel
theorem dX7_send_7 : decode cX7_send 7 = .ok (.iload_n 2, 1) := by decide +kernel
theorem dX7_send_8 : decode cX7_send 8 = .ok (.iconst (-1), 1) := by decide +kernel
theorem dX7_send_9 : decode cX7_send 9 = .ok (.if_icmp .eq 17, 3) := by decide +kernel
theorem dX7_send_12 : decode cX7_send 12 = .ok (.aload_n 0, 1) := by decide +kernel
theorem dX7_send_13 : decode cX7_send 13 = .ok (.getfield 19, 3) := by decide +kernel
theorem dX7_send_16 : decode cX7_send 16 = .ok (.iload_n 2, 1) := by decide +kernel
theorem dX7_send_17 : decode cX7_send 17 = .ok (.invokevirtual 104, 3) := by decide +kernel
theorem dX7_send_20 : decode cX7_send 20 = .ok (.ifCond .ne 6, 3) := by decide +kernel
theorem dX7_send_23 : decode cX7_send 23 = .ok (.bipush (-2), 2) := by decide +kernel
theorem dX7_send_25 : decode cX7_send 25 = .ok (.ireturn, 1) := by decide +kernel
theorem dX7_send_26 : decode cX7_send 26 = .ok (.aload_n 0, 1) := by decide +kernel
theorem dX7_send_27 : decode cX7_send 27 = .ok (.getfield 37, 3) := by decide +kernel
theorem dX7_send_30 : decode cX7_send 30 = .ok (.getfield 136, 3) := by decide +kernel
theorem dX7_send_33 : decode cX7_send 33 = .ok (.ifCond .ne 15, 3) := by decide +kernel
theorem dX7_send_36 : decode cX7_send 36 = .ok (.aload_n 0, 1) := by decide +kernel
theorem dX7_send_37 : decode cX7_send 37 = .ok (.getfield 37, 3) := by decide +kernel
theorem dX7_send_40 : decode cX7_send 40 = .ok (.iload_n 1, 1) := by decide +kernel
theorem dX7_send_41 : decode cX7_send 41 = .ok (.iload_n 2, 1) := by decide +kernel
theorem dX7_send_42 : decode cX7_send 42 = .ok (.invokevirtual 140, 3) := by decide +kernel
theorem dX7_send_45 : decode cX7_send 45 = .ok (.ifCond .ne 6, 3) := by decide +kernel
theorem dX7_send_48 : decode cX7_send 48 = .ok (.bipush (-4), 2) := by decide +kernel
theorem dX7_send_50 : decode cX7_send 50 = .ok (.ireturn, 1) := by decide +kernel
theorem dX7_send_51 : decode cX7_send 51 = .ok (.aload_n 0, 1) := by decide +kernel
theorem dX7_send_52 : decode cX7_send 52 = .ok (.getfield 37, 3) := by decide +kernel
theorem dX7_send_55 : decode cX7_send 55 = .ok (.getfield 143, 3) := by decide +kernel
theorem dX7_send_58 : decode cX7_send 58 = .ok (.iload_n 1, 1) := by decide +kernel
theorem dX7_send_59 : decode cX7_send 59 = .ok (.iload_n 2, 1) := by decide +kernel
theorem dX7_send_60 : decode cX7_send 60 = .ok (.iastore, 1) := by decide +kernel
theorem dX7_send_61 : decode cX7_send 61 = .ok (.aload_n 0, 1) := by decide +kernel
theorem dX7_send_62 : decode cX7_send 62 = .ok (.getfield 37, 3) := by decide +kernel
theorem dX7_send_65 : decode cX7_send 65 = .ok (.iload_n 1, 1) := by decide +kernel
theorem dX7_send_66 : decode cX7_send 66 = .ok (.invokevirtual 147, 3) := by decide +kernel
theorem dX7_send_69 : decode cX7_send 69 = .ok (.ireturn, 1) := by decide +kernel
def Nt_send_B26 (w : Wd) (v1 : Int32) (v2 : Int32) : Option (Int32 × Wd) := (if (w.1 13 4) = (0 : Int32) then (Option.bind (Sc_canSend w v1 v2) (fun q4 => (if q4 = (0 : Int32) then some ((-4 : Int32), w) else (if ib v1 2 = true then (Option.bind (Sc_placeBehind (sI w 16 (Int32.toNatClampNeg v1) v2) v1) (fun q7 => some (q7, (sI w 16 (Int32.toNatClampNeg v1) v2)))) else none)))) else some ((-4 : Int32), w))
set_option maxRecDepth 100000 in
set_option maxHeartbeats 4000000 in
theorem Nt_send_B26_ok {K : Ctx} (F : Fx K cX7_send 3 RX7 (some .int) 4 91 true [0, 3, 4, 13, 15, 16]) (w : Wd) (v1 : Int32) (v2 : Int32) : N K rtI (Nt_send_B26 w v1 v2) w 26 [(0, .ref (gA (cg K) 0)), (1, .int v1), (2, .int v2)] [] := by
  rw [Nt_send_B26]
  refine n_aload_n F dX7_send_26 rfl 0 rfl ?_
  refine n_get F ck_7 lf_RX7_37 (by decide) fg_0_3 (by decide) dX7_send_27 ?_
  refine n_get F ck_5 lf_RX7_136 (by decide) fg_13_4 (by decide) dX7_send_30 ?_
  refine n_if_ne F 48 dX7_send_33 (by decide) (fun e3 => ?_) (fun e3 => ?_)
  · rw [if_neg e3]
    refine n_bipush F (-4 : Int32) dX7_send_48 (by decide) ?_
    exact n_iret F rfl rfl dX7_send_50
  rw [if_pos e3]
  refine n_aload_n F dX7_send_36 rfl 0 rfl ?_
  refine n_get F ck_7 lf_RX7_37 (by decide) fg_0_3 (by decide) dX7_send_37 ?_
  refine n_iload_n F dX7_send_40 rfl 1 rfl ?_
  refine n_iload_n F dX7_send_41 rfl 2 rfl ?_
  refine n_bind (fun q4 hq4 => ?_)
  refine n_callVi F cb_X5_canSend lm_RX7_140 ob_13 (by decide) ⟨_, _, rfl⟩ (ct_Sc_canSend (fx_ok F) (fx_sd F) (fx_ix F rfl) w v1 v2 hq4) rfl rfl (Nat.le_of_ble_eq_true rfl) ⟨Nat.le_of_ble_eq_true rfl, Nat.le_of_ble_eq_true rfl⟩ dX7_send_42 ?_
  refine n_if_ne F 51 dX7_send_45 (by decide) (fun e5 => ?_) (fun e5 => ?_)
  · rw [if_neg e5]
    refine n_aload_n F dX7_send_51 rfl 0 rfl ?_
    refine n_get F ck_7 lf_RX7_37 (by decide) fg_0_3 (by decide) dX7_send_52 ?_
    refine n_get F ck_5 lf_RX7_143 (by decide) fg_13_8 (by decide) dX7_send_55 ?_
    refine n_iload_n F dX7_send_58 rfl 1 rfl ?_
    refine n_iload_n F dX7_send_59 rfl 2 rfl ?_
    refine n_chk (fun e6 => ?_)
    refine n_iast F ar_16 (by decide) (ib_in e6) rfl dX7_send_60 ?_
    refine n_aload_n F dX7_send_61 rfl 0 rfl ?_
    refine n_get F ck_7 lf_RX7_37 (by decide) fg_0_3 (by decide) dX7_send_62 ?_
    refine n_iload_n F dX7_send_65 rfl 1 rfl ?_
    refine n_bind (fun q7 hq7 => ?_)
    refine n_callVi F cb_X5_placeBehind lm_RX7_147 ob_13 (by decide) ⟨_, _, rfl⟩ (ct_Sc_placeBehind (fx_ok F) (fx_sd F) (fx_ix F rfl) (sI w 16 (Int32.toNatClampNeg v1) v2) v1 hq7) rfl rfl (Nat.le_of_ble_eq_true rfl) ⟨Nat.le_of_ble_eq_true rfl, Nat.le_of_ble_eq_true rfl⟩ dX7_send_66 ?_
    exact n_iret F rfl rfl dX7_send_69
  rw [if_pos e5]
  refine n_bipush F (-4 : Int32) dX7_send_48 (by decide) ?_
  exact n_iret F rfl rfl dX7_send_50
def Nt_send (w : Wd) (a1 : Int32) (a2 : Int32) : Option (Int32 × Wd) := (if (Nt_isSeeker w a1) = (0 : Int32) then some ((-2 : Int32), w) else (if a2 = (-1 : Int32) then (Nt_send_B26 w a1 a2) else (if (La_hasTrain w a2) = (0 : Int32) then some ((-2 : Int32), w) else (Nt_send_B26 w a1 a2))))
set_option maxRecDepth 100000 in
set_option maxHeartbeats 4000000 in
theorem ct_Nt_send {l : Launch} {g : GG} {σ : Sd} (hg : OKg g σ) (hb : σ.2.1 = true) (hx : ∀ c ∈ ([0, 3, 4, 13, 15, 16] : List Nat), c ∈ σ.1) (w : Wd) (a1 : Int32) (a2 : Int32) {q : Int32 × Wd} (hq : Nt_send w a1 a2 = some q) : CT l g σ yX7_send cX7_send 3 (some .int) 4 91 [.ref (gA g 0), .int a1, .int a2] w (some (.int q.1)) q.2 := by
  refine ct_of (rt := rtI) (res := Nt_send w a1 a2) (q := q) (own := RX7) (b := true) hg hb hx (by decide) rfl (Nat.le_of_ble_eq_true rfl) hq (fun K e1 e2 e3 F => ?_)
  subst e1 e2 e3
  rw [Nt_send]
  show N K _ _ w 0 [(0, .ref (gA (cg K) 0)), (1, .int a1), (2, .int a2)] []
  refine n_iload_n F dX7_send_0 rfl 1 rfl ?_
  refine n_callSi F cb_X7_isSeeker lm_RX7_133 (ct_Nt_isSeeker (fx_ok F) (fx_sd F) (fx_ix F rfl) w a1) rfl rfl (Nat.le_of_ble_eq_true rfl) ⟨Nat.le_of_ble_eq_true rfl, Nat.le_of_ble_eq_true rfl⟩ dX7_send_1 ?_
  refine n_if_eq F 23 dX7_send_4 (by decide) (fun e1 => ?_) (fun e1 => ?_)
  · rw [if_pos e1]
    refine n_bipush F (-2 : Int32) dX7_send_23 (by decide) ?_
    exact n_iret F rfl rfl dX7_send_25
  rw [if_neg e1]
  refine n_iload_n F dX7_send_7 rfl 2 rfl ?_
  refine n_iconst F (-1 : Int32) dX7_send_8 (by decide) ?_
  refine n_icmp_eq F 26 dX7_send_9 (by decide) (fun e2 => ?_) (fun e2 => ?_)
  · rw [if_pos e2]
    exact n_sub [0, 1, 2] rfl (Nt_send_B26_ok F _ _ _)
  rw [if_neg e2]
  refine n_aload_n F dX7_send_12 rfl 0 rfl ?_
  refine n_get F ck_7 lf_RX7_19 (by decide) fg_0_1 (by decide) dX7_send_13 ?_
  refine n_iload_n F dX7_send_16 rfl 2 rfl ?_
  refine n_callVi F cb_X1_hasTrain lm_RX7_104 ob_3 (by decide) ⟨_, _, rfl⟩ (ct_La_hasTrain (fx_ok F) (fx_sd F) (fx_ix F rfl) w a2) rfl rfl (Nat.le_of_ble_eq_true rfl) ⟨Nat.le_of_ble_eq_true rfl, Nat.le_of_ble_eq_true rfl⟩ dX7_send_17 ?_
  refine n_if_ne F 26 dX7_send_20 (by decide) (fun e8 => ?_) (fun e8 => ?_)
  · rw [if_neg e8]
    exact n_sub [0, 1, 2] rfl (Nt_send_B26_ok F _ _ _)
  rw [if_pos e8]
  refine n_bipush F (-2 : Int32) dX7_send_23 (by decide) ?_
  exact n_iret F rfl rfl dX7_send_25
theorem dX7_noon_0 : decode cX7_noon 0 = .ok (.aload_n 0, 1) := by decide +kernel
theorem dX7_noon_1 : decode cX7_noon 1 = .ok (.getfield 37, 3) := by decide +kernel
theorem dX7_noon_4 : decode cX7_noon 4 = .ok (.getfield 136, 3) := by decide +kernel
theorem dX7_noon_7 : decode cX7_noon 7 = .ok (.ifCond .ne 24, 3) := by decide +kernel
theorem dX7_noon_10 : decode cX7_noon 10 = .ok (.aload_n 0, 1) := by decide +kernel
theorem dX7_noon_11 : decode cX7_noon 11 = .ok (.getfield 37, 3) := by decide +kernel
theorem dX7_noon_14 : decode cX7_noon 14 = .ok (.getfield 130, 3) := by decide +kernel
theorem dX7_noon_17 : decode cX7_noon 17 = .ok (.iconst (-1), 1) := by decide +kernel
theorem dX7_noon_18 : decode cX7_noon 18 = .ok (.if_icmp .ne 16, 3) := by decide +kernel
theorem dX7_noon_21 : decode cX7_noon 21 = .ok (.aload_n 0, 1) := by decide +kernel
theorem dX7_noon_22 : decode cX7_noon 22 = .ok (.getfield 37, 3) := by decide +kernel
theorem dX7_noon_25 : decode cX7_noon 25 = .ok (.invokevirtual 127, 3) := by decide +kernel
theorem dX7_noon_28 : decode cX7_noon 28 = .ok (.ifCond .eq 6, 3) := by decide +kernel
theorem dX7_noon_31 : decode cX7_noon 31 = .ok (.bipush (-4), 2) := by decide +kernel
theorem dX7_noon_33 : decode cX7_noon 33 = .ok (.ireturn, 1) := by decide +kernel
theorem dX7_noon_34 : decode cX7_noon 34 = .ok (.aload_n 0, 1) := by decide +kernel
theorem dX7_noon_35 : decode cX7_noon 35 = .ok (.getfield 37, 3) := by decide +kernel
theorem dX7_noon_38 : decode cX7_noon 38 = .ok (.invokevirtual 150, 3) := by decide +kernel
theorem dX7_noon_41 : decode cX7_noon 41 = .ok (.aload_n 0, 1) := by decide +kernel
theorem dX7_noon_42 : decode cX7_noon 42 = .ok (.getfield 37, 3) := by decide +kernel
theorem dX7_noon_45 : decode cX7_noon 45 = .ok (.getfield 136, 3) := by decide +kernel
theorem dX7_noon_48 : decode cX7_noon 48 = .ok (.ifCond .eq 7, 3) := by decide +kernel
theorem dX7_noon_51 : decode cX7_noon 51 = .ok (.iconst 1, 1) := by decide +kernel
theorem dX7_noon_52 : decode cX7_noon 52 = .ok (.goto 4, 3) := by decide +kernel
theorem dX7_noon_55 : decode cX7_noon 55 = .ok (.iconst 0, 1) := by decide +kernel
theorem dX7_noon_56 : decode cX7_noon 56 = .ok (.ireturn, 1) := by decide +kernel
def Nt_noon_B34 (w : Wd) : Option (Int32 × Wd) := (Option.bind (Sc_advance w) (fun q3 => (if (q3.1 13 4) = (0 : Int32) then some ((0 : Int32), q3) else some ((1 : Int32), q3))))
set_option maxRecDepth 100000 in
set_option maxHeartbeats 4000000 in
theorem Nt_noon_B34_ok {K : Ctx} (F : Fx K cX7_noon 1 RX7 (some .int) 5 114 true [0, 3, 4, 13, 14, 15, 16]) (w : Wd) : N K rtI (Nt_noon_B34 w) w 34 [(0, .ref (gA (cg K) 0))] [] := by
  rw [Nt_noon_B34]
  refine n_aload_n F dX7_noon_34 rfl 0 rfl ?_
  refine n_get F ck_7 lf_RX7_37 (by decide) fg_0_3 (by decide) dX7_noon_35 ?_
  refine n_bind (fun q3 hq3 => ?_)
  refine n_callVv F cb_X5_advance lm_RX7_150 ob_13 (by decide) ⟨_, _, rfl⟩ (ct_Sc_advance (fx_ok F) (fx_sd F) (fx_ix F rfl) w hq3) rfl rfl (Nat.le_of_ble_eq_true rfl) ⟨Nat.le_of_ble_eq_true rfl, Nat.le_of_ble_eq_true rfl⟩ dX7_noon_38 ?_
  refine n_aload_n F dX7_noon_41 rfl 0 rfl ?_
  refine n_get F ck_7 lf_RX7_37 (by decide) fg_0_3 (by decide) dX7_noon_42 ?_
  refine n_get F ck_5 lf_RX7_136 (by decide) fg_13_4 (by decide) dX7_noon_45 ?_
  refine n_if_eq F 55 dX7_noon_48 (by decide) (fun e4 => ?_) (fun e4 => ?_)
  · rw [if_pos e4]
    refine n_iconst F (0 : Int32) dX7_noon_55 (by decide) ?_
    exact n_iret F rfl rfl dX7_noon_56
  rw [if_neg e4]
  refine n_iconst F (1 : Int32) dX7_noon_51 (by decide) ?_
  refine n_goto F 56 dX7_noon_52 (by decide) ?_
  exact n_iret F rfl rfl dX7_noon_56
def Nt_noon (w : Wd) : Option (Int32 × Wd) := (if (w.1 13 4) = (0 : Int32) then (if (w.1 13 5) = (-1 : Int32) then (Option.bind (Sc_rideable w) (fun q5 => (if q5 = (0 : Int32) then (Nt_noon_B34 w) else some ((-4 : Int32), w)))) else (Nt_noon_B34 w)) else some ((-4 : Int32), w))
set_option maxRecDepth 100000 in
set_option maxHeartbeats 4000000 in
theorem ct_Nt_noon {l : Launch} {g : GG} {σ : Sd} (hg : OKg g σ) (hb : σ.2.1 = true) (hx : ∀ c ∈ ([0, 3, 4, 13, 14, 15, 16] : List Nat), c ∈ σ.1) (w : Wd) {q : Int32 × Wd} (hq : Nt_noon w = some q) : CT l g σ yX7_noon cX7_noon 1 (some .int) 5 114 [.ref (gA g 0)] w (some (.int q.1)) q.2 := by
  refine ct_of (rt := rtI) (res := Nt_noon w) (q := q) (own := RX7) (b := true) hg hb hx (by decide) rfl (Nat.le_of_ble_eq_true rfl) hq (fun K e1 e2 e3 F => ?_)
  subst e1 e2 e3
  rw [Nt_noon]
  show N K _ _ w 0 [(0, .ref (gA (cg K) 0))] []
  refine n_aload_n F dX7_noon_0 rfl 0 rfl ?_
  refine n_get F ck_7 lf_RX7_37 (by decide) fg_0_3 (by decide) dX7_noon_1 ?_
  refine n_get F ck_5 lf_RX7_136 (by decide) fg_13_4 (by decide) dX7_noon_4 ?_
  refine n_if_ne F 31 dX7_noon_7 (by decide) (fun e1 => ?_) (fun e1 => ?_)
  · rw [if_neg e1]
    refine n_bipush F (-4 : Int32) dX7_noon_31 (by decide) ?_
    exact n_iret F rfl rfl dX7_noon_33
  rw [if_pos e1]
  refine n_aload_n F dX7_noon_10 rfl 0 rfl ?_
  refine n_get F ck_7 lf_RX7_37 (by decide) fg_0_3 (by decide) dX7_noon_11 ?_
  refine n_get F ck_5 lf_RX7_130 (by decide) fg_13_5 (by decide) dX7_noon_14 ?_
  refine n_iconst F (-1 : Int32) dX7_noon_17 (by decide) ?_
  refine n_icmp_ne F 34 dX7_noon_18 (by decide) (fun e2 => ?_) (fun e2 => ?_)
  · rw [if_neg e2]
    exact n_sub [0] rfl (Nt_noon_B34_ok F _)
  rw [if_pos e2]
  refine n_aload_n F dX7_noon_21 rfl 0 rfl ?_
  refine n_get F ck_7 lf_RX7_37 (by decide) fg_0_3 (by decide) dX7_noon_22 ?_
  refine n_bind (fun q5 hq5 => ?_)
  refine n_callVi F cb_X5_rideable lm_RX7_127 ob_13 (by decide) ⟨_, _, rfl⟩ (ct_Sc_rideable (fx_ok F) (fx_sd F) (fx_ix F rfl) w hq5) rfl rfl (Nat.le_of_ble_eq_true rfl) ⟨Nat.le_of_ble_eq_true rfl, Nat.le_of_ble_eq_true rfl⟩ dX7_noon_25 ?_
  refine n_if_eq F 34 dX7_noon_28 (by decide) (fun e6 => ?_) (fun e6 => ?_)
  · rw [if_pos e6]
    exact n_sub [0] rfl (Nt_noon_B34_ok F _)
  rw [if_neg e6]
  refine n_bipush F (-4 : Int32) dX7_noon_31 (by decide) ?_
  exact n_iret F rfl rfl dX7_noon_33
theorem dX7_he_0 : decode cX7_he 0 = .ok (.iload_n 1, 1) := by decide +kernel
theorem dX7_he_1 : decode cX7_he 1 = .ok (.tableswitch 102 0 6 #[43, 51, 67, 83, 83, 83, 94], 43) := by decide +kernel
theorem dX7_he_44 : decode cX7_he 44 = .ok (.aload_n 0, 1) := by decide +kernel
theorem dX7_he_45 : decode cX7_he 45 = .ok (.getfield 37, 3) := by decide +kernel
theorem dX7_he_48 : decode cX7_he 48 = .ok (.getfield 153, 3) := by decide +kernel
theorem dX7_he_51 : decode cX7_he 51 = .ok (.ireturn, 1) := by decide +kernel
theorem dX7_he_52 : decode cX7_he 52 = .ok (.aload_n 0, 1) := by decide +kernel
theorem dX7_he_53 : decode cX7_he 53 = .ok (.getfield 37, 3) := by decide +kernel
theorem dX7_he_56 : decode cX7_he 56 = .ok (.getfield 156, 3) := by decide +kernel
theorem dX7_he_59 : decode cX7_he 59 = .ok (.ifCond .eq 7, 3) := by decide +kernel
theorem dX7_he_62 : decode cX7_he 62 = .ok (.iconst 1, 1) := by decide +kernel
theorem dX7_he_63 : decode cX7_he 63 = .ok (.goto 4, 3) := by decide +kernel
theorem dX7_he_66 : decode cX7_he 66 = .ok (.iconst 0, 1) := by decide +kernel
theorem dX7_he_67 : decode cX7_he 67 = .ok (.ireturn, 1) := by decide +kernel
theorem dX7_he_68 : decode cX7_he 68 = .ok (.aload_n 0, 1) := by decide +kernel
theorem dX7_he_69 : decode cX7_he 69 = .ok (.getfield 37, 3) := by decide +kernel
theorem dX7_he_72 : decode cX7_he 72 = .ok (.getfield 136, 3) := by decide +kernel
theorem dX7_he_75 : decode cX7_he 75 = .ok (.ifCond .eq 7, 3) := by decide +kernel
theorem dX7_he_78 : decode cX7_he 78 = .ok (.iconst 1, 1) := by decide +kernel
theorem dX7_he_79 : decode cX7_he 79 = .ok (.goto 4, 3) := by decide +kernel
theorem dX7_he_82 : decode cX7_he 82 = .ok (.iconst 0, 1) := by decide +kernel
theorem dX7_he_83 : decode cX7_he 83 = .ok (.ireturn, 1) := by decide +kernel
theorem dX7_he_84 : decode cX7_he 84 = .ok (.aload_n 0, 1) := by decide +kernel
theorem dX7_he_85 : decode cX7_he 85 = .ok (.getfield 37, 3) := by decide +kernel
theorem dX7_he_88 : decode cX7_he 88 = .ok (.iload_n 1, 1) := by decide +kernel
theorem dX7_he_89 : decode cX7_he 89 = .ok (.iconst 3, 1) := by decide +kernel
theorem dX7_he_90 : decode cX7_he 90 = .ok (.isub, 1) := by decide +kernel
theorem dX7_he_91 : decode cX7_he 91 = .ok (.invokevirtual 123, 3) := by decide +kernel
theorem dX7_he_94 : decode cX7_he 94 = .ok (.ireturn, 1) := by decide +kernel
theorem dX7_he_95 : decode cX7_he 95 = .ok (.aload_n 0, 1) := by decide +kernel
theorem dX7_he_96 : decode cX7_he 96 = .ok (.getfield 37, 3) := by decide +kernel
theorem dX7_he_99 : decode cX7_he 99 = .ok (.invokevirtual 127, 3) := by decide +kernel
theorem dX7_he_102 : decode cX7_he 102 = .ok (.ireturn, 1) := by decide +kernel
theorem dX7_he_103 : decode cX7_he 103 = .ok (.bipush (-3), 2) := by decide +kernel
theorem dX7_he_105 : decode cX7_he 105 = .ok (.ireturn, 1) := by decide +kernel
def Nt_he (w : Wd) (a1 : Int32) : Option Int32 := (if a1 = (0 : Int32) then some (w.1 13 2) else (if a1 = (1 : Int32) then (if (w.1 13 3) = (0 : Int32) then some (0 : Int32) else some (1 : Int32)) else (if a1 = (2 : Int32) then (if (w.1 13 4) = (0 : Int32) then some (0 : Int32) else some (1 : Int32)) else (if a1 = (3 : Int32) then (Option.bind (Sc_ticketsOf w (a1 - (3 : Int32))) (fun q7 => some q7)) else (if a1 = (4 : Int32) then (Option.bind (Sc_ticketsOf w (a1 - (3 : Int32))) (fun q9 => some q9)) else (if a1 = (5 : Int32) then (Option.bind (Sc_ticketsOf w (a1 - (3 : Int32))) (fun q11 => some q11)) else (if a1 = (6 : Int32) then (Option.bind (Sc_rideable w) (fun q13 => some q13)) else some (-3 : Int32))))))))
set_option maxRecDepth 100000 in
set_option maxHeartbeats 4000000 in
theorem ct_Nt_he {l : Launch} {g : GG} {σ : Sd} (hg : OKg g σ) (hb : σ.2.1 = true) (hx : ∀ c ∈ ([0, 3, 4, 13, 14] : List Nat), c ∈ σ.1) (w : Wd) (a1 : Int32) {q : Int32} (hq : Nt_he w a1 = some q) : CT l g σ yX7_he cX7_he 2 (some .int) 5 114 [.ref (gA g 0), .int a1] w (some (.int q)) w := by
  refine ct_of (rt := (rtP w)) (res := Nt_he w a1) (q := q) (own := RX7) (b := true) hg hb hx (by decide) rfl (Nat.le_of_ble_eq_true rfl) hq (fun K e1 e2 e3 F => ?_)
  subst e1 e2 e3
  rw [Nt_he]
  show N K _ _ w 0 [(0, .ref (gA (cg K) 0)), (1, .int a1)] []
  refine n_iload_n F dX7_he_0 rfl 1 rfl ?_
  by_cases e1 : a1 = (0 : Int32)
  · rw [if_pos e1]
    refine n_tabIn F (0 : Int32) 44 dX7_he_1 e1 (by decide) (by decide) rfl (by decide) ?_
    refine n_aload_n F dX7_he_44 rfl 0 rfl ?_
    refine n_get F ck_7 lf_RX7_37 (by decide) fg_0_3 (by decide) dX7_he_45 ?_
    refine n_get F ck_5 lf_RX7_153 (by decide) fg_13_2 (by decide) dX7_he_48 ?_
    exact n_iret F rfl rfl dX7_he_51
  rw [if_neg e1]
  by_cases e2 : a1 = (1 : Int32)
  · rw [if_pos e2]
    refine n_tabIn F (1 : Int32) 52 dX7_he_1 e2 (by decide) (by decide) rfl (by decide) ?_
    refine n_aload_n F dX7_he_52 rfl 0 rfl ?_
    refine n_get F ck_7 lf_RX7_37 (by decide) fg_0_3 (by decide) dX7_he_53 ?_
    refine n_get F ck_5 lf_RX7_156 (by decide) fg_13_3 (by decide) dX7_he_56 ?_
    refine n_if_eq F 66 dX7_he_59 (by decide) (fun e3 => ?_) (fun e3 => ?_)
    · rw [if_pos e3]
      refine n_iconst F (0 : Int32) dX7_he_66 (by decide) ?_
      exact n_iret F rfl rfl dX7_he_67
    rw [if_neg e3]
    refine n_iconst F (1 : Int32) dX7_he_62 (by decide) ?_
    refine n_goto F 67 dX7_he_63 (by decide) ?_
    exact n_iret F rfl rfl dX7_he_67
  rw [if_neg e2]
  by_cases e4 : a1 = (2 : Int32)
  · rw [if_pos e4]
    refine n_tabIn F (2 : Int32) 68 dX7_he_1 e4 (by decide) (by decide) rfl (by decide) ?_
    refine n_aload_n F dX7_he_68 rfl 0 rfl ?_
    refine n_get F ck_7 lf_RX7_37 (by decide) fg_0_3 (by decide) dX7_he_69 ?_
    refine n_get F ck_5 lf_RX7_136 (by decide) fg_13_4 (by decide) dX7_he_72 ?_
    refine n_if_eq F 82 dX7_he_75 (by decide) (fun e5 => ?_) (fun e5 => ?_)
    · rw [if_pos e5]
      refine n_iconst F (0 : Int32) dX7_he_82 (by decide) ?_
      exact n_iret F rfl rfl dX7_he_83
    rw [if_neg e5]
    refine n_iconst F (1 : Int32) dX7_he_78 (by decide) ?_
    refine n_goto F 83 dX7_he_79 (by decide) ?_
    exact n_iret F rfl rfl dX7_he_83
  rw [if_neg e4]
  by_cases e6 : a1 = (3 : Int32)
  · rw [if_pos e6]
    refine n_tabIn F (3 : Int32) 84 dX7_he_1 e6 (by decide) (by decide) rfl (by decide) ?_
    refine n_aload_n F dX7_he_84 rfl 0 rfl ?_
    refine n_get F ck_7 lf_RX7_37 (by decide) fg_0_3 (by decide) dX7_he_85 ?_
    refine n_iload_n F dX7_he_88 rfl 1 rfl ?_
    refine n_iconst F (3 : Int32) dX7_he_89 (by decide) ?_
    refine n_isub F dX7_he_90 ?_
    refine n_bind (fun q7 hq7 => ?_)
    refine n_callVi F cb_X5_ticketsOf lm_RX7_123 ob_13 (by decide) ⟨_, _, rfl⟩ (ct_Sc_ticketsOf (fx_ok F) (fx_sd F) (fx_ix F rfl) w (a1 - (3 : Int32)) hq7) rfl rfl (Nat.le_of_ble_eq_true rfl) ⟨Nat.le_of_ble_eq_true rfl, Nat.le_of_ble_eq_true rfl⟩ dX7_he_91 ?_
    exact n_iret F rfl rfl dX7_he_94
  rw [if_neg e6]
  by_cases e8 : a1 = (4 : Int32)
  · rw [if_pos e8]
    refine n_tabIn F (4 : Int32) 84 dX7_he_1 e8 (by decide) (by decide) rfl (by decide) ?_
    refine n_aload_n F dX7_he_84 rfl 0 rfl ?_
    refine n_get F ck_7 lf_RX7_37 (by decide) fg_0_3 (by decide) dX7_he_85 ?_
    refine n_iload_n F dX7_he_88 rfl 1 rfl ?_
    refine n_iconst F (3 : Int32) dX7_he_89 (by decide) ?_
    refine n_isub F dX7_he_90 ?_
    refine n_bind (fun q9 hq9 => ?_)
    refine n_callVi F cb_X5_ticketsOf lm_RX7_123 ob_13 (by decide) ⟨_, _, rfl⟩ (ct_Sc_ticketsOf (fx_ok F) (fx_sd F) (fx_ix F rfl) w (a1 - (3 : Int32)) hq9) rfl rfl (Nat.le_of_ble_eq_true rfl) ⟨Nat.le_of_ble_eq_true rfl, Nat.le_of_ble_eq_true rfl⟩ dX7_he_91 ?_
    exact n_iret F rfl rfl dX7_he_94
  rw [if_neg e8]
  by_cases e10 : a1 = (5 : Int32)
  · rw [if_pos e10]
    refine n_tabIn F (5 : Int32) 84 dX7_he_1 e10 (by decide) (by decide) rfl (by decide) ?_
    refine n_aload_n F dX7_he_84 rfl 0 rfl ?_
    refine n_get F ck_7 lf_RX7_37 (by decide) fg_0_3 (by decide) dX7_he_85 ?_
    refine n_iload_n F dX7_he_88 rfl 1 rfl ?_
    refine n_iconst F (3 : Int32) dX7_he_89 (by decide) ?_
    refine n_isub F dX7_he_90 ?_
    refine n_bind (fun q11 hq11 => ?_)
    refine n_callVi F cb_X5_ticketsOf lm_RX7_123 ob_13 (by decide) ⟨_, _, rfl⟩ (ct_Sc_ticketsOf (fx_ok F) (fx_sd F) (fx_ix F rfl) w (a1 - (3 : Int32)) hq11) rfl rfl (Nat.le_of_ble_eq_true rfl) ⟨Nat.le_of_ble_eq_true rfl, Nat.le_of_ble_eq_true rfl⟩ dX7_he_91 ?_
    exact n_iret F rfl rfl dX7_he_94
  rw [if_neg e10]
  by_cases e12 : a1 = (6 : Int32)
  · rw [if_pos e12]
    refine n_tabIn F (6 : Int32) 95 dX7_he_1 e12 (by decide) (by decide) rfl (by decide) ?_
    refine n_aload_n F dX7_he_95 rfl 0 rfl ?_
    refine n_get F ck_7 lf_RX7_37 (by decide) fg_0_3 (by decide) dX7_he_96 ?_
    refine n_bind (fun q13 hq13 => ?_)
    refine n_callVi F cb_X5_rideable lm_RX7_127 ob_13 (by decide) ⟨_, _, rfl⟩ (ct_Sc_rideable (fx_ok F) (fx_sd F) (fx_ix F rfl) w hq13) rfl rfl (Nat.le_of_ble_eq_true rfl) ⟨Nat.le_of_ble_eq_true rfl, Nat.le_of_ble_eq_true rfl⟩ dX7_he_99 ?_
    exact n_iret F rfl rfl dX7_he_102
  rw [if_neg e12]
  have hsw := (⟨lv_neT e1 (a := 0) rfl, lv_neT e2 (a := 1) rfl, lv_neT e4 (a := 2) rfl, lv_neT e6 (a := 3) rfl, lv_neT e8 (a := 4) rfl, lv_neT e10 (a := 5) rfl, lv_neT e12 (a := 6) rfl⟩ : ¬ (a1).toInt = 0 ∧ ¬ (a1).toInt = 1 ∧ ¬ (a1).toInt = 2 ∧ ¬ (a1).toInt = 3 ∧ ¬ (a1).toInt = 4 ∧ ¬ (a1).toInt = 5 ∧ ¬ (a1).toInt = 6)
  refine n_tabOut F 103 dX7_he_1 (by omega) (by decide) ?_
  refine n_bipush F (-3 : Int32) dX7_he_103 (by decide) ?_
  exact n_iret F rfl rfl dX7_he_105
theorem dX7_seeker_0 : decode cX7_seeker 0 = .ok (.iload_n 1, 1) := by decide +kernel
theorem dX7_seeker_1 : decode cX7_seeker 1 = .ok (.invokestatic 133, 3) := by decide +kernel
theorem dX7_seeker_4 : decode cX7_seeker 4 = .ok (.ifCond .eq 15, 3) := by decide +kernel
theorem dX7_seeker_7 : decode cX7_seeker 7 = .ok (.aload_n 0, 1) := by decide +kernel
theorem dX7_seeker_8 : decode cX7_seeker 8 = .ok (.getfield 37, 3) := by decide +kernel
theorem dX7_seeker_11 : decode cX7_seeker 11 = .ok (.getfield 159, 3) := by decide +kernel
theorem dX7_seeker_14 : decode cX7_seeker 14 = .ok (.iload_n 1, 1) := by decide +kernel
theorem dX7_seeker_15 : decode cX7_seeker 15 = .ok (.iaload, 1) := by decide +kernel
theorem dX7_seeker_16 : decode cX7_seeker 16 = .ok (.goto 5, 3) := by decide +kernel
theorem dX7_seeker_19 : decode cX7_seeker 19 = .ok (.bipush (-2), 2) := by decide +kernel
theorem dX7_seeker_21 : decode cX7_seeker 21 = .ok (.ireturn, 1) := by decide +kernel
def Nt_seeker (w : Wd) (a1 : Int32) : Option Int32 := (if (Nt_isSeeker w a1) = (0 : Int32) then some (-2 : Int32) else (if ib a1 2 = true then some (w.1 15 (Int32.toNatClampNeg a1)) else none))
set_option maxRecDepth 100000 in
set_option maxHeartbeats 4000000 in
theorem ct_Nt_seeker {l : Launch} {g : GG} {σ : Sd} (hg : OKg g σ) (hb : σ.2.1 = true) (hx : ∀ c ∈ ([0, 13, 15] : List Nat), c ∈ σ.1) (w : Wd) (a1 : Int32) {q : Int32} (hq : Nt_seeker w a1 = some q) : CT l g σ yX7_seeker cX7_seeker 2 (some .int) 2 42 [.ref (gA g 0), .int a1] w (some (.int q)) w := by
  refine ct_of (rt := (rtP w)) (res := Nt_seeker w a1) (q := q) (own := RX7) (b := true) hg hb hx (by decide) rfl (Nat.le_of_ble_eq_true rfl) hq (fun K e1 e2 e3 F => ?_)
  subst e1 e2 e3
  rw [Nt_seeker]
  show N K _ _ w 0 [(0, .ref (gA (cg K) 0)), (1, .int a1)] []
  refine n_iload_n F dX7_seeker_0 rfl 1 rfl ?_
  refine n_callSi F cb_X7_isSeeker lm_RX7_133 (ct_Nt_isSeeker (fx_ok F) (fx_sd F) (fx_ix F rfl) w a1) rfl rfl (Nat.le_of_ble_eq_true rfl) ⟨Nat.le_of_ble_eq_true rfl, Nat.le_of_ble_eq_true rfl⟩ dX7_seeker_1 ?_
  refine n_if_eq F 19 dX7_seeker_4 (by decide) (fun e1 => ?_) (fun e1 => ?_)
  · rw [if_pos e1]
    refine n_bipush F (-2 : Int32) dX7_seeker_19 (by decide) ?_
    exact n_iret F rfl rfl dX7_seeker_21
  rw [if_neg e1]
  refine n_aload_n F dX7_seeker_7 rfl 0 rfl ?_
  refine n_get F ck_7 lf_RX7_37 (by decide) fg_0_3 (by decide) dX7_seeker_8 ?_
  refine n_get F ck_5 lf_RX7_159 (by decide) fg_13_7 (by decide) dX7_seeker_11 ?_
  refine n_iload_n F dX7_seeker_14 rfl 1 rfl ?_
  refine n_chk (fun e2 => ?_)
  refine n_iald F ar_15 (by decide) (ib_in e2) rfl dX7_seeker_15 ?_
  refine n_goto F 21 dX7_seeker_16 (by decide) ?_
  exact n_iret F rfl rfl dX7_seeker_21
theorem dX7_may_0 : decode cX7_may 0 = .ok (.aload_n 0, 1) := by decide +kernel
theorem dX7_may_1 : decode cX7_may 1 = .ok (.getfield 37, 3) := by decide +kernel
theorem dX7_may_4 : decode cX7_may 4 = .ok (.getfield 162, 3) := by decide +kernel
theorem dX7_may_7 : decode cX7_may 7 = .ok (.ireturn, 1) := by decide +kernel
def Nt_may (w : Wd) : Int32 := (w.1 13 9)
set_option maxRecDepth 100000 in
set_option maxHeartbeats 4000000 in
theorem ct_Nt_may {l : Launch} {g : GG} {σ : Sd} (hg : OKg g σ) (hb : σ.2.1 = true) (hx : ∀ c ∈ ([0, 13] : List Nat), c ∈ σ.1) (w : Wd) : CT l g σ yX7_may cX7_may 1 (some .int) 0 0 [.ref (gA g 0)] w (some (.int (Nt_may w))) w := by
  refine ct_of (rt := (rtP w)) (res := some (Nt_may w)) (q := (Nt_may w)) (own := RX7) (b := true) hg hb hx (by decide) rfl (Nat.le_of_ble_eq_true rfl) rfl (fun K e1 e2 e3 F => ?_)
  subst e1 e2 e3
  rw [Nt_may]
  show N K _ _ w 0 [(0, .ref (gA (cg K) 0))] []
  refine n_aload_n F dX7_may_0 rfl 0 rfl ?_
  refine n_get F ck_7 lf_RX7_37 (by decide) fg_0_3 (by decide) dX7_may_1 ?_
  refine n_get F ck_5 lf_RX7_162 (by decide) fg_13_9 (by decide) dX7_may_4 ?_
  exact n_iret F rfl rfl dX7_may_7
theorem dX7_way_0 : decode cX7_way 0 = .ok (.aload_n 0, 1) := by decide +kernel
theorem dX7_way_1 : decode cX7_way 1 = .ok (.getfield 37, 3) := by decide +kernel
theorem dX7_way_4 : decode cX7_way 4 = .ok (.getfield 165, 3) := by decide +kernel
theorem dX7_way_7 : decode cX7_way 7 = .ok (.ireturn, 1) := by decide +kernel
def Nt_way (w : Wd) : Int32 := (w.1 13 10)
set_option maxRecDepth 100000 in
set_option maxHeartbeats 4000000 in
theorem ct_Nt_way {l : Launch} {g : GG} {σ : Sd} (hg : OKg g σ) (hb : σ.2.1 = true) (hx : ∀ c ∈ ([0, 13] : List Nat), c ∈ σ.1) (w : Wd) : CT l g σ yX7_way cX7_way 1 (some .int) 0 0 [.ref (gA g 0)] w (some (.int (Nt_way w))) w := by
  refine ct_of (rt := (rtP w)) (res := some (Nt_way w)) (q := (Nt_way w)) (own := RX7) (b := true) hg hb hx (by decide) rfl (Nat.le_of_ble_eq_true rfl) rfl (fun K e1 e2 e3 F => ?_)
  subst e1 e2 e3
  rw [Nt_way]
  show N K _ _ w 0 [(0, .ref (gA (cg K) 0))] []
  refine n_aload_n F dX7_way_0 rfl 0 rfl ?_
  refine n_get F ck_7 lf_RX7_37 (by decide) fg_0_3 (by decide) dX7_way_1 ?_
  refine n_get F ck_5 lf_RX7_165 (by decide) fg_13_10 (by decide) dX7_way_4 ?_
  exact n_iret F rfl rfl dX7_way_7
theorem dX7_next_0 : decode cX7_next 0 = .ok (.aload_n 0, 1) := by decide +kernel
theorem dX7_next_1 : decode cX7_next 1 = .ok (.getfield 37, 3) := by decide +kernel
theorem dX7_next_4 : decode cX7_next 4 = .ok (.invokevirtual 168, 3) := by decide +kernel
theorem dX7_next_7 : decode cX7_next 7 = .ok (.ireturn, 1) := by decide +kernel
def Nt_next (w : Wd) : Option Int32 := (Option.bind (Sc_nextBits w) (fun q1 => some q1))
set_option maxRecDepth 100000 in
set_option maxHeartbeats 4000000 in
theorem ct_Nt_next {l : Launch} {g : GG} {σ : Sd} (hg : OKg g σ) (hb : σ.2.1 = true) (hx : ∀ c ∈ ([0, 3, 4, 13, 14] : List Nat), c ∈ σ.1) (w : Wd) {q : Int32} (hq : Nt_next w = some q) : CT l g σ yX7_next cX7_next 1 (some .int) 4 93 [.ref (gA g 0)] w (some (.int q)) w := by
  refine ct_of (rt := (rtP w)) (res := Nt_next w) (q := q) (own := RX7) (b := true) hg hb hx (by decide) rfl (Nat.le_of_ble_eq_true rfl) hq (fun K e1 e2 e3 F => ?_)
  subst e1 e2 e3
  rw [Nt_next]
  show N K _ _ w 0 [(0, .ref (gA (cg K) 0))] []
  refine n_aload_n F dX7_next_0 rfl 0 rfl ?_
  refine n_get F ck_7 lf_RX7_37 (by decide) fg_0_3 (by decide) dX7_next_1 ?_
  refine n_bind (fun q1 hq1 => ?_)
  refine n_callVi F cb_X5_nextBits lm_RX7_168 ob_13 (by decide) ⟨_, _, rfl⟩ (ct_Sc_nextBits (fx_ok F) (fx_sd F) (fx_ix F rfl) w hq1) rfl rfl (Nat.le_of_ble_eq_true rfl) ⟨Nat.le_of_ble_eq_true rfl, Nat.le_of_ble_eq_true rfl⟩ dX7_next_4 ?_
  exact n_iret F rfl rfl dX7_next_7
theorem dX7_letter_0 : decode cX7_letter 0 = .ok (.aload_n 0, 1) := by decide +kernel
theorem dX7_letter_1 : decode cX7_letter 1 = .ok (.getfield 37, 3) := by decide +kernel
theorem dX7_letter_4 : decode cX7_letter 4 = .ok (.getfield 171, 3) := by decide +kernel
theorem dX7_letter_7 : decode cX7_letter 7 = .ok (.ireturn, 1) := by decide +kernel
def Nt_letter (w : Wd) : Int32 := (w.1 13 11)
set_option maxRecDepth 100000 in
set_option maxHeartbeats 4000000 in
theorem ct_Nt_letter {l : Launch} {g : GG} {σ : Sd} (hg : OKg g σ) (hb : σ.2.1 = true) (hx : ∀ c ∈ ([0, 13] : List Nat), c ∈ σ.1) (w : Wd) : CT l g σ yX7_letter cX7_letter 1 (some .int) 0 0 [.ref (gA g 0)] w (some (.int (Nt_letter w))) w := by
  refine ct_of (rt := (rtP w)) (res := some (Nt_letter w)) (q := (Nt_letter w)) (own := RX7) (b := true) hg hb hx (by decide) rfl (Nat.le_of_ble_eq_true rfl) rfl (fun K e1 e2 e3 F => ?_)
  subst e1 e2 e3
  rw [Nt_letter]
  show N K _ _ w 0 [(0, .ref (gA (cg K) 0))] []
  refine n_aload_n F dX7_letter_0 rfl 0 rfl ?_
  refine n_get F ck_7 lf_RX7_37 (by decide) fg_0_3 (by decide) dX7_letter_1 ?_
  refine n_get F ck_5 lf_RX7_171 (by decide) fg_13_11 (by decide) dX7_letter_4 ?_
  exact n_iret F rfl rfl dX7_letter_7
theorem dX7_shut_0 : decode cX7_shut 0 = .ok (.iload_n 1, 1) := by decide +kernel
theorem dX7_shut_1 : decode cX7_shut 1 = .ok (.iconst (-1), 1) := by decide +kernel
theorem dX7_shut_2 : decode cX7_shut 2 = .ok (.if_icmp .eq 13, 3) := by decide +kernel
theorem dX7_shut_5 : decode cX7_shut 5 = .ok (.iload_n 1, 1) := by decide +kernel
theorem dX7_shut_6 : decode cX7_shut 6 = .ok (.invokestatic 133, 3) := by decide +kernel
theorem dX7_shut_9 : decode cX7_shut 9 = .ok (.ifCond .ne 6, 3) := by decide +kernel
theorem dX7_shut_12 : decode cX7_shut 12 = .ok (.bipush (-2), 2) := by decide +kernel
theorem dX7_shut_14 : decode cX7_shut 14 = .ok (.ireturn, 1) := by decide +kernel
theorem dX7_shut_15 : decode cX7_shut 15 = .ok (.aload_n 0, 1) := by decide +kernel
theorem dX7_shut_16 : decode cX7_shut 16 = .ok (.getfield 37, 3) := by decide +kernel
theorem dX7_shut_19 : decode cX7_shut 19 = .ok (.getfield 136, 3) := by decide +kernel
theorem dX7_shut_22 : decode cX7_shut 22 = .ok (.ifCond .eq 6, 3) := by decide +kernel
theorem dX7_shut_25 : decode cX7_shut 25 = .ok (.bipush (-4), 2) := by decide +kernel
theorem dX7_shut_27 : decode cX7_shut 27 = .ok (.ireturn, 1) := by decide +kernel
theorem dX7_shut_28 : decode cX7_shut 28 = .ok (.aload_n 0, 1) := by decide +kernel
theorem dX7_shut_29 : decode cX7_shut 29 = .ok (.getfield 52, 3) := by decide +kernel
theorem dX7_shut_32 : decode cX7_shut 32 = .ok (.invokevirtual 174, 3) := by decide +kernel
theorem dX7_shut_35 : decode cX7_shut 35 = .ok (.iload_n 1, 1) := by decide +kernel
theorem dX7_shut_36 : decode cX7_shut 36 = .ok (.iconst (-1), 1) := by decide +kernel
theorem dX7_shut_37 : decode cX7_shut 37 = .ok (.if_icmp .ne 11, 3) := by decide +kernel
theorem dX7_shut_40 : decode cX7_shut 40 = .ok (.aload_n 0, 1) := by decide +kernel
theorem dX7_shut_41 : decode cX7_shut 41 = .ok (.getfield 52, 3) := by decide +kernel
theorem dX7_shut_44 : decode cX7_shut 44 = .ok (.getfield 177, 3) := by decide +kernel
theorem dX7_shut_47 : decode cX7_shut 47 = .ok (.ireturn, 1) := by decide +kernel
theorem dX7_shut_48 : decode cX7_shut 48 = .ok (.iload_n 1, 1) := by decide +kernel
theorem dX7_shut_49 : decode cX7_shut 49 = .ok (.ifCond .ne 13, 3) := by decide +kernel
theorem dX7_shut_52 : decode cX7_shut 52 = .ok (.aload_n 0, 1) := by decide +kernel
theorem dX7_shut_53 : decode cX7_shut 53 = .ok (.getfield 52, 3) := by decide +kernel
theorem dX7_shut_56 : decode cX7_shut 56 = .ok (.getfield 180, 3) := by decide +kernel
theorem dX7_shut_59 : decode cX7_shut 59 = .ok (.goto 10, 3) := by decide +kernel
theorem dX7_shut_62 : decode cX7_shut 62 = .ok (.aload_n 0, 1) := by decide +kernel
theorem dX7_shut_63 : decode cX7_shut 63 = .ok (.getfield 52, 3) := by decide +kernel
theorem dX7_shut_66 : decode cX7_shut 66 = .ok (.getfield 183, 3) := by decide +kernel
theorem dX7_shut_69 : decode cX7_shut 69 = .ok (.istore_n 2, 1) := by decide +kernel
theorem dX7_shut_70 : decode cX7_shut 70 = .ok (.iload_n 2, 1) := by decide +kernel
theorem dX7_shut_71 : decode cX7_shut 71 = .ok (.bipush 7, 2) := by decide +kernel
theorem dX7_shut_73 : decode cX7_shut 73 = .ok (.if_icmp .ne 7, 3) := by decide +kernel
theorem dX7_shut_76 : decode cX7_shut 76 = .ok (.iconst (-1), 1) := by decide +kernel
theorem dX7_shut_77 : decode cX7_shut 77 = .ok (.goto 4, 3) := by decide +kernel
theorem dX7_shut_80 : decode cX7_shut 80 = .ok (.iload_n 2, 1) := by decide +kernel
theorem dX7_shut_81 : decode cX7_shut 81 = .ok (.ireturn, 1) := by decide +kernel
def Nt_shut_B69 (w : Wd) (s0 : Int32) : Option (Int32 × Wd) := (if s0 = (7 : Int32) then some ((-1 : Int32), w) else some (s0, w))
set_option maxRecDepth 100000 in
set_option maxHeartbeats 4000000 in
theorem Nt_shut_B69_ok {K : Ctx} (F : Fx K cX7_shut 3 RX7 (some .int) 5 120 true [0, 3, 4, 13, 14, 15, 25]) (w : Wd) (s0 : Int32) : N K rtI (Nt_shut_B69 w s0) w 69 [] [.int s0] := by
  rw [Nt_shut_B69]
  refine n_istore_n F (lv' := [(2, .int s0)]) dX7_shut_69 rfl (by decide) rfl ?_
  refine n_iload_n F dX7_shut_70 rfl 0 rfl ?_
  refine n_bipush F (7 : Int32) dX7_shut_71 (by decide) ?_
  refine n_icmp_ne F 80 dX7_shut_73 (by decide) (fun e6 => ?_) (fun e6 => ?_)
  · rw [if_neg e6]
    refine n_iload_n F dX7_shut_80 rfl 0 rfl ?_
    exact n_iret F rfl rfl dX7_shut_81
  rw [if_pos e6]
  refine n_iconst F (-1 : Int32) dX7_shut_76 (by decide) ?_
  refine n_goto F 81 dX7_shut_77 (by decide) ?_
  exact n_iret F rfl rfl dX7_shut_81
def Nt_shut_B15 (w : Wd) (v1 : Int32) : Option (Int32 × Wd) := (if (w.1 13 4) = (0 : Int32) then (Option.bind (Fs_stand w) (fun q3 => (if v1 = (-1 : Int32) then some ((q3.1 25 2), q3) else (Nt_shut_B69 q3 (if v1 = (0 : Int32) then (q3.1 25 3) else (q3.1 25 4)))))) else some ((-4 : Int32), w))
set_option maxRecDepth 100000 in
set_option maxHeartbeats 4000000 in
theorem Nt_shut_B15_ok {K : Ctx} (F : Fx K cX7_shut 3 RX7 (some .int) 5 120 true [0, 3, 4, 13, 14, 15, 25]) (w : Wd) (v1 : Int32) : N K rtI (Nt_shut_B15 w v1) w 15 [(0, .ref (gA (cg K) 0)), (1, .int v1)] [] := by
  rw [Nt_shut_B15]
  refine n_aload_n F dX7_shut_15 rfl 0 rfl ?_
  refine n_get F ck_7 lf_RX7_37 (by decide) fg_0_3 (by decide) dX7_shut_16 ?_
  refine n_get F ck_5 lf_RX7_136 (by decide) fg_13_4 (by decide) dX7_shut_19 ?_
  refine n_if_eq F 28 dX7_shut_22 (by decide) (fun e2 => ?_) (fun e2 => ?_)
  · rw [if_pos e2]
    refine n_aload_n F dX7_shut_28 rfl 0 rfl ?_
    refine n_get F ck_7 lf_RX7_52 (by decide) fg_0_6 (by decide) dX7_shut_29 ?_
    refine n_bind (fun q3 hq3 => ?_)
    refine n_callVv F cb_X0_stand lm_RX7_174 ob_25 (by decide) ⟨_, _, rfl⟩ (ct_Fs_stand (fx_ok F) (fx_sd F) (fx_ix F rfl) w hq3) rfl rfl (Nat.le_of_ble_eq_true rfl) ⟨Nat.le_of_ble_eq_true rfl, Nat.le_of_ble_eq_true rfl⟩ dX7_shut_32 ?_
    refine n_iload_n F dX7_shut_35 rfl 1 rfl ?_
    refine n_iconst F (-1 : Int32) dX7_shut_36 (by decide) ?_
    refine n_icmp_ne F 48 dX7_shut_37 (by decide) (fun e4 => ?_) (fun e4 => ?_)
    · rw [if_neg e4]
      refine n_iload_n F dX7_shut_48 rfl 1 rfl ?_
      refine n_if_ne F 62 dX7_shut_49 (by decide) (fun e5 => ?_) (fun e5 => ?_)
      · rw [if_neg e5]
        refine n_aload_n F dX7_shut_62 rfl 0 rfl ?_
        refine n_get F ck_7 lf_RX7_52 (by decide) fg_0_6 (by decide) dX7_shut_63 ?_
        refine n_get F ck_0 lf_RX7_183 (by decide) fg_25_4 (by decide) dX7_shut_66 ?_
        exact n_sub [] rfl (Nt_shut_B69_ok F _ _)
      rw [if_pos e5]
      refine n_aload_n F dX7_shut_52 rfl 0 rfl ?_
      refine n_get F ck_7 lf_RX7_52 (by decide) fg_0_6 (by decide) dX7_shut_53 ?_
      refine n_get F ck_0 lf_RX7_180 (by decide) fg_25_3 (by decide) dX7_shut_56 ?_
      refine n_goto F 69 dX7_shut_59 (by decide) ?_
      exact n_sub [] rfl (Nt_shut_B69_ok F _ _)
    rw [if_pos e4]
    refine n_aload_n F dX7_shut_40 rfl 0 rfl ?_
    refine n_get F ck_7 lf_RX7_52 (by decide) fg_0_6 (by decide) dX7_shut_41 ?_
    refine n_get F ck_0 lf_RX7_177 (by decide) fg_25_2 (by decide) dX7_shut_44 ?_
    exact n_iret F rfl rfl dX7_shut_47
  rw [if_neg e2]
  refine n_bipush F (-4 : Int32) dX7_shut_25 (by decide) ?_
  exact n_iret F rfl rfl dX7_shut_27
def Nt_shut (w : Wd) (a1 : Int32) : Option (Int32 × Wd) := (if a1 = (-1 : Int32) then (Nt_shut_B15 w a1) else (if (Nt_isSeeker w a1) = (0 : Int32) then some ((-2 : Int32), w) else (Nt_shut_B15 w a1)))
set_option maxRecDepth 100000 in
set_option maxHeartbeats 4000000 in
theorem ct_Nt_shut {l : Launch} {g : GG} {σ : Sd} (hg : OKg g σ) (hb : σ.2.1 = true) (hx : ∀ c ∈ ([0, 3, 4, 13, 14, 15, 25] : List Nat), c ∈ σ.1) (w : Wd) (a1 : Int32) {q : Int32 × Wd} (hq : Nt_shut w a1 = some q) : CT l g σ yX7_shut cX7_shut 3 (some .int) 5 120 [.ref (gA g 0), .int a1] w (some (.int q.1)) q.2 := by
  refine ct_of (rt := rtI) (res := Nt_shut w a1) (q := q) (own := RX7) (b := true) hg hb hx (by decide) rfl (Nat.le_of_ble_eq_true rfl) hq (fun K e1 e2 e3 F => ?_)
  subst e1 e2 e3
  rw [Nt_shut]
  show N K _ _ w 0 [(0, .ref (gA (cg K) 0)), (1, .int a1)] []
  refine n_iload_n F dX7_shut_0 rfl 1 rfl ?_
  refine n_iconst F (-1 : Int32) dX7_shut_1 (by decide) ?_
  refine n_icmp_eq F 15 dX7_shut_2 (by decide) (fun e1 => ?_) (fun e1 => ?_)
  · rw [if_pos e1]
    exact n_sub [0, 1] rfl (Nt_shut_B15_ok F _ _)
  rw [if_neg e1]
  refine n_iload_n F dX7_shut_5 rfl 1 rfl ?_
  refine n_callSi F cb_X7_isSeeker lm_RX7_133 (ct_Nt_isSeeker (fx_ok F) (fx_sd F) (fx_ix F rfl) w a1) rfl rfl (Nat.le_of_ble_eq_true rfl) ⟨Nat.le_of_ble_eq_true rfl, Nat.le_of_ble_eq_true rfl⟩ dX7_shut_6 ?_
  refine n_if_ne F 15 dX7_shut_9 (by decide) (fun e7 => ?_) (fun e7 => ?_)
  · rw [if_neg e7]
    exact n_sub [0, 1] rfl (Nt_shut_B15_ok F _ _)
  rw [if_pos e7]
  refine n_bipush F (-2 : Int32) dX7_shut_12 (by decide) ?_
  exact n_iret F rfl rfl dX7_shut_14
theorem dX7_hides_0 : decode cX7_hides 0 = .ok (.iload_n 1, 1) := by decide +kernel
theorem dX7_hides_1 : decode cX7_hides 1 = .ok (.iconst 0, 1) := by decide +kernel
theorem dX7_hides_2 : decode cX7_hides 2 = .ok (.iconst 1, 1) := by decide +kernel
theorem dX7_hides_3 : decode cX7_hides 3 = .ok (.invokestatic 74, 3) := by decide +kernel
theorem dX7_hides_6 : decode cX7_hides 6 = .ok (.ifCond .ne 6, 3) := by decide +kernel
theorem dX7_hides_9 : decode cX7_hides 9 = .ok (.bipush (-3), 2) := by decide +kernel
theorem dX7_hides_11 : decode cX7_hides 11 = .ok (.ireturn, 1) := by decide +kernel
theorem dX7_hides_12 : decode cX7_hides 12 = .ok (.aload_n 0, 1) := by decide +kernel
theorem dX7_hides_13 : decode cX7_hides 13 = .ok (.getfield 37, 3) := by decide +kernel
theorem dX7_hides_16 : decode cX7_hides 16 = .ok (.getfield 136, 3) := by decide +kernel
theorem dX7_hides_19 : decode cX7_hides 19 = .ok (.ifCond .ne 13, 3) := by decide +kernel
theorem dX7_hides_22 : decode cX7_hides 22 = .ok (.aload_n 0, 1) := by decide +kernel
theorem dX7_hides_23 : decode cX7_hides 23 = .ok (.getfield 37, 3) := by decide +kernel
theorem dX7_hides_26 : decode cX7_hides 26 = .ok (.getfield 156, 3) := by decide +kernel
theorem dX7_hides_29 : decode cX7_hides 29 = .ok (.ifCond .eq 6, 3) := by decide +kernel
theorem dX7_hides_32 : decode cX7_hides 32 = .ok (.bipush (-4), 2) := by decide +kernel
theorem dX7_hides_34 : decode cX7_hides 34 = .ok (.ireturn, 1) := by decide +kernel
theorem dX7_hides_35 : decode cX7_hides 35 = .ok (.aload_n 0, 1) := by decide +kernel
theorem dX7_hides_36 : decode cX7_hides 36 = .ok (.getfield 52, 3) := by decide +kernel
theorem dX7_hides_39 : decode cX7_hides 39 = .ok (.invokevirtual 186, 3) := by decide +kernel
theorem dX7_hides_42 : decode cX7_hides 42 = .ok (.iload_n 1, 1) := by decide +kernel
theorem dX7_hides_43 : decode cX7_hides 43 = .ok (.ifCond .ne 13, 3) := by decide +kernel
theorem dX7_hides_46 : decode cX7_hides 46 = .ok (.aload_n 0, 1) := by decide +kernel
theorem dX7_hides_47 : decode cX7_hides 47 = .ok (.getfield 52, 3) := by decide +kernel
theorem dX7_hides_50 : decode cX7_hides 50 = .ok (.getfield 189, 3) := by decide +kernel
theorem dX7_hides_53 : decode cX7_hides 53 = .ok (.goto 10, 3) := by decide +kernel
theorem dX7_hides_56 : decode cX7_hides 56 = .ok (.aload_n 0, 1) := by decide +kernel
theorem dX7_hides_57 : decode cX7_hides 57 = .ok (.getfield 52, 3) := by decide +kernel
theorem dX7_hides_60 : decode cX7_hides 60 = .ok (.getfield 177, 3) := by decide +kernel
theorem dX7_hides_63 : decode cX7_hides 63 = .ok (.ireturn, 1) := by decide +kernel
def Nt_hides (w : Wd) (a1 : Int32) : Option (Int32 × Wd) := (if (Nt_within w a1 (0 : Int32) (1 : Int32)) = (0 : Int32) then some ((-3 : Int32), w) else (if (w.1 13 4) = (0 : Int32) then (if (w.1 13 3) = (0 : Int32) then (Option.bind (Fs_hide w) (fun q4 => (if a1 = (0 : Int32) then some ((q4.1 25 5), q4) else some ((q4.1 25 2), q4)))) else some ((-4 : Int32), w)) else some ((-4 : Int32), w)))
set_option maxRecDepth 100000 in
set_option maxHeartbeats 4000000 in
theorem ct_Nt_hides {l : Launch} {g : GG} {σ : Sd} (hg : OKg g σ) (hb : σ.2.1 = true) (hx : ∀ c ∈ ([0, 3, 4, 13, 14, 25] : List Nat), c ∈ σ.1) (w : Wd) (a1 : Int32) {q : Int32 × Wd} (hq : Nt_hides w a1 = some q) : CT l g σ yX7_hides cX7_hides 2 (some .int) 6 137 [.ref (gA g 0), .int a1] w (some (.int q.1)) q.2 := by
  refine ct_of (rt := rtI) (res := Nt_hides w a1) (q := q) (own := RX7) (b := true) hg hb hx (by decide) rfl (Nat.le_of_ble_eq_true rfl) hq (fun K e1 e2 e3 F => ?_)
  subst e1 e2 e3
  rw [Nt_hides]
  show N K _ _ w 0 [(0, .ref (gA (cg K) 0)), (1, .int a1)] []
  refine n_iload_n F dX7_hides_0 rfl 1 rfl ?_
  refine n_iconst F (0 : Int32) dX7_hides_1 (by decide) ?_
  refine n_iconst F (1 : Int32) dX7_hides_2 (by decide) ?_
  refine n_callSi F cb_X7_within lm_RX7_74 (ct_Nt_within (fx_ok F) (fx_sd F) (fx_ix F rfl) w a1 (0 : Int32) (1 : Int32)) rfl rfl (Nat.le_of_ble_eq_true rfl) ⟨Nat.le_of_ble_eq_true rfl, Nat.le_of_ble_eq_true rfl⟩ dX7_hides_3 ?_
  refine n_if_ne F 12 dX7_hides_6 (by decide) (fun e1 => ?_) (fun e1 => ?_)
  · rw [if_neg e1]
    refine n_aload_n F dX7_hides_12 rfl 0 rfl ?_
    refine n_get F ck_7 lf_RX7_37 (by decide) fg_0_3 (by decide) dX7_hides_13 ?_
    refine n_get F ck_5 lf_RX7_136 (by decide) fg_13_4 (by decide) dX7_hides_16 ?_
    refine n_if_ne F 32 dX7_hides_19 (by decide) (fun e2 => ?_) (fun e2 => ?_)
    · rw [if_neg e2]
      refine n_bipush F (-4 : Int32) dX7_hides_32 (by decide) ?_
      exact n_iret F rfl rfl dX7_hides_34
    rw [if_pos e2]
    refine n_aload_n F dX7_hides_22 rfl 0 rfl ?_
    refine n_get F ck_7 lf_RX7_37 (by decide) fg_0_3 (by decide) dX7_hides_23 ?_
    refine n_get F ck_5 lf_RX7_156 (by decide) fg_13_3 (by decide) dX7_hides_26 ?_
    refine n_if_eq F 35 dX7_hides_29 (by decide) (fun e3 => ?_) (fun e3 => ?_)
    · rw [if_pos e3]
      refine n_aload_n F dX7_hides_35 rfl 0 rfl ?_
      refine n_get F ck_7 lf_RX7_52 (by decide) fg_0_6 (by decide) dX7_hides_36 ?_
      refine n_bind (fun q4 hq4 => ?_)
      refine n_callVv F cb_X0_hide lm_RX7_186 ob_25 (by decide) ⟨_, _, rfl⟩ (ct_Fs_hide (fx_ok F) (fx_sd F) (fx_ix F rfl) w hq4) rfl rfl (Nat.le_of_ble_eq_true rfl) ⟨Nat.le_of_ble_eq_true rfl, Nat.le_of_ble_eq_true rfl⟩ dX7_hides_39 ?_
      refine n_iload_n F dX7_hides_42 rfl 1 rfl ?_
      refine n_if_ne F 56 dX7_hides_43 (by decide) (fun e5 => ?_) (fun e5 => ?_)
      · rw [if_neg e5]
        refine n_aload_n F dX7_hides_56 rfl 0 rfl ?_
        refine n_get F ck_7 lf_RX7_52 (by decide) fg_0_6 (by decide) dX7_hides_57 ?_
        refine n_get F ck_0 lf_RX7_177 (by decide) fg_25_2 (by decide) dX7_hides_60 ?_
        exact n_iret F rfl rfl dX7_hides_63
      rw [if_pos e5]
      refine n_aload_n F dX7_hides_46 rfl 0 rfl ?_
      refine n_get F ck_7 lf_RX7_52 (by decide) fg_0_6 (by decide) dX7_hides_47 ?_
      refine n_get F ck_0 lf_RX7_189 (by decide) fg_25_5 (by decide) dX7_hides_50 ?_
      refine n_goto F 63 dX7_hides_53 (by decide) ?_
      exact n_iret F rfl rfl dX7_hides_63
    rw [if_neg e3]
    refine n_bipush F (-4 : Int32) dX7_hides_32 (by decide) ?_
    exact n_iret F rfl rfl dX7_hides_34
  rw [if_pos e1]
  refine n_bipush F (-3 : Int32) dX7_hides_9 (by decide) ?_
  exact n_iret F rfl rfl dX7_hides_11
theorem dX7_daysOrNone_0 : decode cX7_daysOrNone 0 = .ok (.iload_n 0, 1) := by decide +kernel
theorem dX7_daysOrNone_1 : decode cX7_daysOrNone 1 = .ok (.bipush 12, 2) := by decide +kernel
theorem dX7_daysOrNone_3 : decode cX7_daysOrNone 3 = .ok (.if_icmp .le 7, 3) := by decide +kernel
theorem dX7_daysOrNone_6 : decode cX7_daysOrNone 6 = .ok (.iconst (-1), 1) := by decide +kernel
theorem dX7_daysOrNone_7 : decode cX7_daysOrNone 7 = .ok (.goto 4, 3) := by decide +kernel
theorem dX7_daysOrNone_10 : decode cX7_daysOrNone 10 = .ok (.iload_n 0, 1) := by decide +kernel
theorem dX7_daysOrNone_11 : decode cX7_daysOrNone 11 = .ok (.ireturn, 1) := by decide +kernel
def Nt_daysOrNone (w : Wd) (a1 : Int32) : Int32 := (if a1 ≤ (12 : Int32) then a1 else (-1 : Int32))
set_option maxRecDepth 100000 in
set_option maxHeartbeats 4000000 in
theorem ct_Nt_daysOrNone {l : Launch} {g : GG} {σ : Sd} (hg : OKg g σ) (hb : σ.2.1 = true) (hx : ∀ c ∈ ([] : List Nat), c ∈ σ.1) (w : Wd) (a1 : Int32) : CT l g σ yX7_daysOrNone cX7_daysOrNone 1 (some .int) 0 0 [.int a1] w (some (.int (Nt_daysOrNone w a1))) w := by
  refine ct_of (rt := (rtP w)) (res := some (Nt_daysOrNone w a1)) (q := (Nt_daysOrNone w a1)) (own := RX7) (b := true) hg hb hx (by decide) rfl (Nat.le_of_ble_eq_true rfl) rfl (fun K e1 e2 e3 F => ?_)
  subst e1 e2 e3
  rw [Nt_daysOrNone]
  show N K _ _ w 0 [(0, .int a1)] []
  refine n_iload_n F dX7_daysOrNone_0 rfl 0 rfl ?_
  refine n_bipush F (12 : Int32) dX7_daysOrNone_1 (by decide) ?_
  refine n_icmp_le F 10 dX7_daysOrNone_3 (by decide) (fun e1 => ?_) (fun e1 => ?_)
  · rw [if_pos e1]
    refine n_iload_n F dX7_daysOrNone_10 rfl 0 rfl ?_
    exact n_iret F rfl rfl dX7_daysOrNone_11
  rw [if_neg e1]
  refine n_iconst F (-1 : Int32) dX7_daysOrNone_6 (by decide) ?_
  refine n_goto F 11 dX7_daysOrNone_7 (by decide) ?_
  exact n_iret F rfl rfl dX7_daysOrNone_11
theorem dX7_chase_0 : decode cX7_chase 0 = .ok (.aload_n 0, 1) := by decide +kernel
theorem dX7_chase_1 : decode cX7_chase 1 = .ok (.getfield 37, 3) := by decide +kernel
theorem dX7_chase_4 : decode cX7_chase 4 = .ok (.getfield 156, 3) := by decide +kernel
theorem dX7_chase_7 : decode cX7_chase 7 = .ok (.ifCond .ne 13, 3) := by decide +kernel
theorem dX7_chase_10 : decode cX7_chase 10 = .ok (.aload_n 0, 1) := by decide +kernel
theorem dX7_chase_11 : decode cX7_chase 11 = .ok (.getfield 37, 3) := by decide +kernel
theorem dX7_chase_14 : decode cX7_chase 14 = .ok (.invokevirtual 192, 3) := by decide +kernel
theorem dX7_chase_17 : decode cX7_chase 17 = .ok (.ifCond .ne 6, 3) := by decide +kernel
theorem dX7_chase_20 : decode cX7_chase 20 = .ok (.bipush (-4), 2) := by decide +kernel
theorem dX7_chase_22 : decode cX7_chase 22 = .ok (.ireturn, 1) := by decide +kernel
theorem dX7_chase_23 : decode cX7_chase 23 = .ok (.aload_n 0, 1) := by decide +kernel
theorem dX7_chase_24 : decode cX7_chase 24 = .ok (.getfield 59, 3) := by decide +kernel
theorem dX7_chase_27 : decode cX7_chase 27 = .ok (.iconst (-1), 1) := by decide +kernel
theorem dX7_chase_28 : decode cX7_chase 28 = .ok (.bipush 12, 2) := by decide +kernel
theorem dX7_chase_30 : decode cX7_chase 30 = .ok (.invokevirtual 196, 3) := by decide +kernel
theorem dX7_chase_33 : decode cX7_chase 33 = .ok (.invokestatic 199, 3) := by decide +kernel
theorem dX7_chase_36 : decode cX7_chase 36 = .ok (.ireturn, 1) := by decide +kernel
def Nt_chase (w : Wd) : Option (Int32 × Wd) := (if (w.1 13 3) = (0 : Int32) then (Option.bind (Sc_anySeeks w) (fun q2 => (if q2 = (0 : Int32) then some ((-4 : Int32), w) else (Option.bind (Pu_fewestDays w (-1 : Int32) (12 : Int32)) (fun q4 => some ((Nt_daysOrNone (q4.2) (q4.1)), (q4.2))))))) else some ((-4 : Int32), w))
set_option maxRecDepth 100000 in
set_option maxHeartbeats 4000000 in
theorem ct_Nt_chase {l : Launch} {g : GG} {σ : Sd} (hg : OKg g σ) (hb : σ.2.1 = true) (hx : ∀ c ∈ ([0, 3, 4, 13, 15, 26, 27, 28, 29, 30, 31] : List Nat), c ∈ σ.1) (w : Wd) {q : Int32 × Wd} (hq : Nt_chase w = some q) : CT l g σ yX7_chase cX7_chase 1 (some .int) 4 95 [.ref (gA g 0)] w (some (.int q.1)) q.2 := by
  refine ct_of (rt := rtI) (res := Nt_chase w) (q := q) (own := RX7) (b := true) hg hb hx (by decide) rfl (Nat.le_of_ble_eq_true rfl) hq (fun K e1 e2 e3 F => ?_)
  subst e1 e2 e3
  rw [Nt_chase]
  show N K _ _ w 0 [(0, .ref (gA (cg K) 0))] []
  refine n_aload_n F dX7_chase_0 rfl 0 rfl ?_
  refine n_get F ck_7 lf_RX7_37 (by decide) fg_0_3 (by decide) dX7_chase_1 ?_
  refine n_get F ck_5 lf_RX7_156 (by decide) fg_13_3 (by decide) dX7_chase_4 ?_
  refine n_if_ne F 20 dX7_chase_7 (by decide) (fun e1 => ?_) (fun e1 => ?_)
  · rw [if_neg e1]
    refine n_bipush F (-4 : Int32) dX7_chase_20 (by decide) ?_
    exact n_iret F rfl rfl dX7_chase_22
  rw [if_pos e1]
  refine n_aload_n F dX7_chase_10 rfl 0 rfl ?_
  refine n_get F ck_7 lf_RX7_37 (by decide) fg_0_3 (by decide) dX7_chase_11 ?_
  refine n_bind (fun q2 hq2 => ?_)
  refine n_callVi F cb_X5_anySeeks lm_RX7_192 ob_13 (by decide) ⟨_, _, rfl⟩ (ct_Sc_anySeeks (fx_ok F) (fx_sd F) (fx_ix F rfl) w hq2) rfl rfl (Nat.le_of_ble_eq_true rfl) ⟨Nat.le_of_ble_eq_true rfl, Nat.le_of_ble_eq_true rfl⟩ dX7_chase_14 ?_
  refine n_if_ne F 23 dX7_chase_17 (by decide) (fun e3 => ?_) (fun e3 => ?_)
  · rw [if_neg e3]
    refine n_aload_n F dX7_chase_23 rfl 0 rfl ?_
    refine n_get F ck_7 lf_RX7_59 (by decide) fg_0_7 (by decide) dX7_chase_24 ?_
    refine n_iconst F (-1 : Int32) dX7_chase_27 (by decide) ?_
    refine n_bipush F (12 : Int32) dX7_chase_28 (by decide) ?_
    refine n_bind (fun q4 hq4 => ?_)
    refine n_callVi F cb_X2_fewestDays lm_RX7_196 ob_26 (by decide) ⟨_, _, rfl⟩ (ct_Pu_fewestDays (fx_ok F) (fx_sd F) (fx_ix F rfl) w (-1 : Int32) (12 : Int32) hq4) rfl rfl (Nat.le_of_ble_eq_true rfl) ⟨Nat.le_of_ble_eq_true rfl, Nat.le_of_ble_eq_true rfl⟩ dX7_chase_30 ?_
    refine n_callSi F cb_X7_daysOrNone lm_RX7_199 (ct_Nt_daysOrNone (fx_ok F) (fx_sd F) (fx_ix F rfl) (q4.2) (q4.1)) rfl rfl (Nat.le_of_ble_eq_true rfl) ⟨Nat.le_of_ble_eq_true rfl, Nat.le_of_ble_eq_true rfl⟩ dX7_chase_33 ?_
    exact n_iret F rfl rfl dX7_chase_36
  rw [if_pos e3]
  refine n_bipush F (-4 : Int32) dX7_chase_20 (by decide) ?_
  exact n_iret F rfl rfl dX7_chase_22
theorem dX7_closed_0 : decode cX7_closed 0 = .ok (.iload_n 1, 1) := by decide +kernel
theorem dX7_closed_1 : decode cX7_closed 1 = .ok (.iconst 0, 1) := by decide +kernel
theorem dX7_closed_2 : decode cX7_closed 2 = .ok (.iconst 1, 1) := by decide +kernel
theorem dX7_closed_3 : decode cX7_closed 3 = .ok (.invokestatic 74, 3) := by decide +kernel
theorem dX7_closed_6 : decode cX7_closed 6 = .ok (.ifCond .ne 6, 3) := by decide +kernel
theorem dX7_closed_9 : decode cX7_closed 9 = .ok (.bipush (-3), 2) := by decide +kernel
theorem dX7_closed_11 : decode cX7_closed 11 = .ok (.ireturn, 1) := by decide +kernel
theorem dX7_closed_12 : decode cX7_closed 12 = .ok (.aload_n 0, 1) := by decide +kernel
theorem dX7_closed_13 : decode cX7_closed 13 = .ok (.getfield 37, 3) := by decide +kernel
theorem dX7_closed_16 : decode cX7_closed 16 = .ok (.getfield 156, 3) := by decide +kernel
theorem dX7_closed_19 : decode cX7_closed 19 = .ok (.ifCond .ne 13, 3) := by decide +kernel
theorem dX7_closed_22 : decode cX7_closed 22 = .ok (.aload_n 0, 1) := by decide +kernel
theorem dX7_closed_23 : decode cX7_closed 23 = .ok (.getfield 37, 3) := by decide +kernel
theorem dX7_closed_26 : decode cX7_closed 26 = .ok (.invokevirtual 192, 3) := by decide +kernel
theorem dX7_closed_29 : decode cX7_closed 29 = .ok (.ifCond .ne 6, 3) := by decide +kernel
theorem dX7_closed_32 : decode cX7_closed 32 = .ok (.bipush (-4), 2) := by decide +kernel
theorem dX7_closed_34 : decode cX7_closed 34 = .ok (.ireturn, 1) := by decide +kernel
theorem dX7_closed_35 : decode cX7_closed 35 = .ok (.aload_n 0, 1) := by decide +kernel
theorem dX7_closed_36 : decode cX7_closed 36 = .ok (.getfield 19, 3) := by decide +kernel
theorem dX7_closed_39 : decode cX7_closed 39 = .ok (.getfield 202, 3) := by decide +kernel
theorem dX7_closed_42 : decode cX7_closed 42 = .ok (.ifCond .ne 5, 3) := by decide +kernel
theorem dX7_closed_45 : decode cX7_closed 45 = .ok (.iconst (-1), 1) := by decide +kernel
theorem dX7_closed_46 : decode cX7_closed 46 = .ok (.ireturn, 1) := by decide +kernel
theorem dX7_closed_47 : decode cX7_closed 47 = .ok (.aload_n 0, 1) := by decide +kernel
theorem dX7_closed_48 : decode cX7_closed 48 = .ok (.getfield 59, 3) := by decide +kernel
theorem dX7_closed_51 : decode cX7_closed 51 = .ok (.invokevirtual 205, 3) := by decide +kernel
theorem dX7_closed_54 : decode cX7_closed 54 = .ok (.iload_n 1, 1) := by decide +kernel
theorem dX7_closed_55 : decode cX7_closed 55 = .ok (.ifCond .ne 13, 3) := by decide +kernel
theorem dX7_closed_58 : decode cX7_closed 58 = .ok (.aload_n 0, 1) := by decide +kernel
theorem dX7_closed_59 : decode cX7_closed 59 = .ok (.getfield 59, 3) := by decide +kernel
theorem dX7_closed_62 : decode cX7_closed 62 = .ok (.getfield 208, 3) := by decide +kernel
theorem dX7_closed_65 : decode cX7_closed 65 = .ok (.goto 13, 3) := by decide +kernel
theorem dX7_closed_68 : decode cX7_closed 68 = .ok (.aload_n 0, 1) := by decide +kernel
theorem dX7_closed_69 : decode cX7_closed 69 = .ok (.getfield 59, 3) := by decide +kernel
theorem dX7_closed_72 : decode cX7_closed 72 = .ok (.getfield 211, 3) := by decide +kernel
theorem dX7_closed_75 : decode cX7_closed 75 = .ok (.invokestatic 199, 3) := by decide +kernel
theorem dX7_closed_78 : decode cX7_closed 78 = .ok (.ireturn, 1) := by decide +kernel
def Nt_closed (w : Wd) (a1 : Int32) : Option (Int32 × Wd) := (if (Nt_within w a1 (0 : Int32) (1 : Int32)) = (0 : Int32) then some ((-3 : Int32), w) else (if (w.1 13 3) = (0 : Int32) then (Option.bind (Sc_anySeeks w) (fun q3 => (if q3 = (0 : Int32) then some ((-4 : Int32), w) else (if (w.1 3 1) = (0 : Int32) then some ((-1 : Int32), w) else (Option.bind (Pu_close w) (fun q6 => (if a1 = (0 : Int32) then some ((q6.1 26 8), q6) else some ((Nt_daysOrNone q6 (q6.1 26 9)), q6)))))))) else some ((-4 : Int32), w)))
set_option maxRecDepth 100000 in
set_option maxHeartbeats 4000000 in
theorem ct_Nt_closed {l : Launch} {g : GG} {σ : Sd} (hg : OKg g σ) (hb : σ.2.1 = true) (hx : ∀ c ∈ ([0, 3, 4, 13, 15, 26, 27, 28, 29, 30, 31] : List Nat), c ∈ σ.1) (w : Wd) (a1 : Int32) {q : Int32 × Wd} (hq : Nt_closed w a1 = some q) : CT l g σ yX7_closed cX7_closed 2 (some .int) 5 117 [.ref (gA g 0), .int a1] w (some (.int q.1)) q.2 := by
  refine ct_of (rt := rtI) (res := Nt_closed w a1) (q := q) (own := RX7) (b := true) hg hb hx (by decide) rfl (Nat.le_of_ble_eq_true rfl) hq (fun K e1 e2 e3 F => ?_)
  subst e1 e2 e3
  rw [Nt_closed]
  show N K _ _ w 0 [(0, .ref (gA (cg K) 0)), (1, .int a1)] []
  refine n_iload_n F dX7_closed_0 rfl 1 rfl ?_
  refine n_iconst F (0 : Int32) dX7_closed_1 (by decide) ?_
  refine n_iconst F (1 : Int32) dX7_closed_2 (by decide) ?_
  refine n_callSi F cb_X7_within lm_RX7_74 (ct_Nt_within (fx_ok F) (fx_sd F) (fx_ix F rfl) w a1 (0 : Int32) (1 : Int32)) rfl rfl (Nat.le_of_ble_eq_true rfl) ⟨Nat.le_of_ble_eq_true rfl, Nat.le_of_ble_eq_true rfl⟩ dX7_closed_3 ?_
  refine n_if_ne F 12 dX7_closed_6 (by decide) (fun e1 => ?_) (fun e1 => ?_)
  · rw [if_neg e1]
    refine n_aload_n F dX7_closed_12 rfl 0 rfl ?_
    refine n_get F ck_7 lf_RX7_37 (by decide) fg_0_3 (by decide) dX7_closed_13 ?_
    refine n_get F ck_5 lf_RX7_156 (by decide) fg_13_3 (by decide) dX7_closed_16 ?_
    refine n_if_ne F 32 dX7_closed_19 (by decide) (fun e2 => ?_) (fun e2 => ?_)
    · rw [if_neg e2]
      refine n_bipush F (-4 : Int32) dX7_closed_32 (by decide) ?_
      exact n_iret F rfl rfl dX7_closed_34
    rw [if_pos e2]
    refine n_aload_n F dX7_closed_22 rfl 0 rfl ?_
    refine n_get F ck_7 lf_RX7_37 (by decide) fg_0_3 (by decide) dX7_closed_23 ?_
    refine n_bind (fun q3 hq3 => ?_)
    refine n_callVi F cb_X5_anySeeks lm_RX7_192 ob_13 (by decide) ⟨_, _, rfl⟩ (ct_Sc_anySeeks (fx_ok F) (fx_sd F) (fx_ix F rfl) w hq3) rfl rfl (Nat.le_of_ble_eq_true rfl) ⟨Nat.le_of_ble_eq_true rfl, Nat.le_of_ble_eq_true rfl⟩ dX7_closed_26 ?_
    refine n_if_ne F 35 dX7_closed_29 (by decide) (fun e4 => ?_) (fun e4 => ?_)
    · rw [if_neg e4]
      refine n_aload_n F dX7_closed_35 rfl 0 rfl ?_
      refine n_get F ck_7 lf_RX7_19 (by decide) fg_0_1 (by decide) dX7_closed_36 ?_
      refine n_get F ck_1 lf_RX7_202 (by decide) fg_3_1 (by decide) dX7_closed_39 ?_
      refine n_if_ne F 47 dX7_closed_42 (by decide) (fun e5 => ?_) (fun e5 => ?_)
      · rw [if_neg e5]
        refine n_aload_n F dX7_closed_47 rfl 0 rfl ?_
        refine n_get F ck_7 lf_RX7_59 (by decide) fg_0_7 (by decide) dX7_closed_48 ?_
        refine n_bind (fun q6 hq6 => ?_)
        refine n_callVv F cb_X2_close lm_RX7_205 ob_26 (by decide) ⟨_, _, rfl⟩ (ct_Pu_close (fx_ok F) (fx_sd F) (fx_ix F rfl) w hq6) rfl rfl (Nat.le_of_ble_eq_true rfl) ⟨Nat.le_of_ble_eq_true rfl, Nat.le_of_ble_eq_true rfl⟩ dX7_closed_51 ?_
        refine n_iload_n F dX7_closed_54 rfl 1 rfl ?_
        refine n_if_ne F 68 dX7_closed_55 (by decide) (fun e7 => ?_) (fun e7 => ?_)
        · rw [if_neg e7]
          refine n_aload_n F dX7_closed_68 rfl 0 rfl ?_
          refine n_get F ck_7 lf_RX7_59 (by decide) fg_0_7 (by decide) dX7_closed_69 ?_
          refine n_get F ck_2 lf_RX7_211 (by decide) fg_26_9 (by decide) dX7_closed_72 ?_
          refine n_callSi F cb_X7_daysOrNone lm_RX7_199 (ct_Nt_daysOrNone (fx_ok F) (fx_sd F) (fx_ix F rfl) q6 (q6.1 26 9)) rfl rfl (Nat.le_of_ble_eq_true rfl) ⟨Nat.le_of_ble_eq_true rfl, Nat.le_of_ble_eq_true rfl⟩ dX7_closed_75 ?_
          exact n_iret F rfl rfl dX7_closed_78
        rw [if_pos e7]
        refine n_aload_n F dX7_closed_58 rfl 0 rfl ?_
        refine n_get F ck_7 lf_RX7_59 (by decide) fg_0_7 (by decide) dX7_closed_59 ?_
        refine n_get F ck_2 lf_RX7_208 (by decide) fg_26_8 (by decide) dX7_closed_62 ?_
        refine n_goto F 78 dX7_closed_65 (by decide) ?_
        exact n_iret F rfl rfl dX7_closed_78
      rw [if_pos e5]
      refine n_iconst F (-1 : Int32) dX7_closed_45 (by decide) ?_
      exact n_iret F rfl rfl dX7_closed_46
    rw [if_pos e4]
    refine n_bipush F (-4 : Int32) dX7_closed_32 (by decide) ?_
    exact n_iret F rfl rfl dX7_closed_34
  rw [if_pos e1]
  refine n_bipush F (-3 : Int32) dX7_closed_9 (by decide) ?_
  exact n_iret F rfl rfl dX7_closed_11
theorem dX7_log_0 : decode cX7_log 0 = .ok (.aload_n 0, 1) := by decide +kernel
theorem dX7_log_1 : decode cX7_log 1 = .ok (.getfield 19, 3) := by decide +kernel
theorem dX7_log_4 : decode cX7_log 4 = .ok (.iload_n 1, 1) := by decide +kernel
theorem dX7_log_5 : decode cX7_log 5 = .ok (.invokevirtual 104, 3) := by decide +kernel
theorem dX7_log_8 : decode cX7_log 8 = .ok (.ifCond .ne 6, 3) := by decide +kernel
theorem dX7_log_11 : decode cX7_log 11 = .ok (.bipush (-2), 2) := by decide +kernel
theorem dX7_log_13 : decode cX7_log 13 = .ok (.ireturn, 1) := by decide +kernel
theorem dX7_log_14 : decode cX7_log 14 = .ok (.aload_n 0, 1) := by decide +kernel
theorem dX7_log_15 : decode cX7_log 15 = .ok (.getfield 66, 3) := by decide +kernel
theorem dX7_log_18 : decode cX7_log 18 = .ok (.iload_n 1, 1) := by decide +kernel
theorem dX7_log_19 : decode cX7_log 19 = .ok (.invokevirtual 214, 3) := by decide +kernel
theorem dX7_log_22 : decode cX7_log 22 = .ok (.ifCond .eq 13, 3) := by decide +kernel
theorem dX7_log_25 : decode cX7_log 25 = .ok (.aload_n 0, 1) := by decide +kernel
theorem dX7_log_26 : decode cX7_log 26 = .ok (.getfield 66, 3) := by decide +kernel
theorem dX7_log_29 : decode cX7_log 29 = .ok (.getfield 100, 3) := by decide +kernel
theorem dX7_log_32 : decode cX7_log 32 = .ok (.goto 5, 3) := by decide +kernel
theorem dX7_log_35 : decode cX7_log 35 = .ok (.bipush (-5), 2) := by decide +kernel
theorem dX7_log_37 : decode cX7_log 37 = .ok (.ireturn, 1) := by decide +kernel
def Nt_log (w : Wd) (a1 : Int32) : Option (Int32 × Wd) := (if (La_hasTrain w a1) = (0 : Int32) then some ((-2 : Int32), w) else (Option.bind (Ri_append w a1) (fun q2 => (if (q2.1) = (0 : Int32) then some ((-5 : Int32), (q2.2)) else some (((q2.2).1 32 2), (q2.2))))))
set_option maxRecDepth 100000 in
set_option maxHeartbeats 4000000 in
theorem ct_Nt_log {l : Launch} {g : GG} {σ : Sd} (hg : OKg g σ) (hb : σ.2.1 = true) (hx : ∀ c ∈ ([0, 3, 32, 33] : List Nat), c ∈ σ.1) (w : Wd) (a1 : Int32) {q : Int32 × Wd} (hq : Nt_log w a1 = some q) : CT l g σ yX7_log cX7_log 2 (some .int) 2 43 [.ref (gA g 0), .int a1] w (some (.int q.1)) q.2 := by
  refine ct_of (rt := rtI) (res := Nt_log w a1) (q := q) (own := RX7) (b := true) hg hb hx (by decide) rfl (Nat.le_of_ble_eq_true rfl) hq (fun K e1 e2 e3 F => ?_)
  subst e1 e2 e3
  rw [Nt_log]
  show N K _ _ w 0 [(0, .ref (gA (cg K) 0)), (1, .int a1)] []
  refine n_aload_n F dX7_log_0 rfl 0 rfl ?_
  refine n_get F ck_7 lf_RX7_19 (by decide) fg_0_1 (by decide) dX7_log_1 ?_
  refine n_iload_n F dX7_log_4 rfl 1 rfl ?_
  refine n_callVi F cb_X1_hasTrain lm_RX7_104 ob_3 (by decide) ⟨_, _, rfl⟩ (ct_La_hasTrain (fx_ok F) (fx_sd F) (fx_ix F rfl) w a1) rfl rfl (Nat.le_of_ble_eq_true rfl) ⟨Nat.le_of_ble_eq_true rfl, Nat.le_of_ble_eq_true rfl⟩ dX7_log_5 ?_
  refine n_if_ne F 14 dX7_log_8 (by decide) (fun e1 => ?_) (fun e1 => ?_)
  · rw [if_neg e1]
    refine n_aload_n F dX7_log_14 rfl 0 rfl ?_
    refine n_get F ck_7 lf_RX7_66 (by decide) fg_0_8 (by decide) dX7_log_15 ?_
    refine n_iload_n F dX7_log_18 rfl 1 rfl ?_
    refine n_bind (fun q2 hq2 => ?_)
    refine n_callVi F cb_X4_append lm_RX7_214 ob_32 (by decide) ⟨_, _, rfl⟩ (ct_Ri_append (fx_ok F) (fx_sd F) (fx_ix F rfl) w a1 hq2) rfl rfl (Nat.le_of_ble_eq_true rfl) ⟨Nat.le_of_ble_eq_true rfl, Nat.le_of_ble_eq_true rfl⟩ dX7_log_19 ?_
    refine n_if_eq F 35 dX7_log_22 (by decide) (fun e3 => ?_) (fun e3 => ?_)
    · rw [if_pos e3]
      refine n_bipush F (-5 : Int32) dX7_log_35 (by decide) ?_
      exact n_iret F rfl rfl dX7_log_37
    rw [if_neg e3]
    refine n_aload_n F dX7_log_25 rfl 0 rfl ?_
    refine n_get F ck_7 lf_RX7_66 (by decide) fg_0_8 (by decide) dX7_log_26 ?_
    refine n_get F ck_4 lf_RX7_100 (by decide) fg_32_2 (by decide) dX7_log_29 ?_
    refine n_goto F 37 dX7_log_32 (by decide) ?_
    exact n_iret F rfl rfl dX7_log_37
  rw [if_pos e1]
  refine n_bipush F (-2 : Int32) dX7_log_11 (by decide) ?_
  exact n_iret F rfl rfl dX7_log_13
