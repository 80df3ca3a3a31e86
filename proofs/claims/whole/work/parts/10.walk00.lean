theorem dX5_kindsLeft_0 : decode cX5_kindsLeft 0 = .ok (.iconst 0, 1) := by decide +kernel
theorem dX5_kindsLeft_1 : decode cX5_kindsLeft 1 = .ok (.istore_n 1, 1) := by decide +kernel
theorem dX5_kindsLeft_2 : decode cX5_kindsLeft 2 = .ok (.iconst 0, 1) := by decide +kernel
theorem dX5_kindsLeft_3 : decode cX5_kindsLeft 3 = .ok (.istore_n 2, 1) := by decide +kernel
theorem dX5_kindsLeft_4 : decode cX5_kindsLeft 4 = .ok (.iload_n 2, 1) := by decide +kernel
theorem dX5_kindsLeft_5 : decode cX5_kindsLeft 5 = .ok (.iconst 3, 1) := by decide +kernel
theorem dX5_kindsLeft_6 : decode cX5_kindsLeft 6 = .ok (.if_icmp .ge 24, 3) := by decide +kernel
theorem dX5_kindsLeft_9 : decode cX5_kindsLeft 9 = .ok (.aload_n 0, 1) := by decide +kernel
theorem dX5_kindsLeft_10 : decode cX5_kindsLeft 10 = .ok (.getfield 9, 3) := by decide +kernel
theorem dX5_kindsLeft_13 : decode cX5_kindsLeft 13 = .ok (.iload_n 2, 1) := by decide +kernel
theorem dX5_kindsLeft_14 : decode cX5_kindsLeft 14 = .ok (.iaload, 1) := by decide +kernel
theorem dX5_kindsLeft_15 : decode cX5_kindsLeft 15 = .ok (.ifCond .le 9, 3) := by decide +kernel
theorem dX5_kindsLeft_18 : decode cX5_kindsLeft 18 = .ok (.iload_n 1, 1) := by decide +kernel
theorem dX5_kindsLeft_19 : decode cX5_kindsLeft 19 = .ok (.iconst 1, 1) := by decide +kernel
theorem dX5_kindsLeft_20 : decode cX5_kindsLeft 20 = .ok (.iload_n 2, 1) := by decide +kernel
theorem dX5_kindsLeft_21 : decode cX5_kindsLeft 21 = .ok (.ishl, 1) := by decide +kernel
theorem dX5_kindsLeft_22 : decode cX5_kindsLeft 22 = .ok (.ior, 1) := by decide +kernel
theorem dX5_kindsLeft_23 : decode cX5_kindsLeft 23 = .ok (.istore_n 1, 1) := by decide +kernel
theorem dX5_kindsLeft_24 : decode cX5_kindsLeft 24 = .ok (.iinc 2 1, 3) := by decide +kernel
theorem dX5_kindsLeft_27 : decode cX5_kindsLeft 27 = .ok (.goto (-23), 3) := by decide +kernel
theorem dX5_kindsLeft_30 : decode cX5_kindsLeft 30 = .ok (.iload_n 1, 1) := by decide +kernel
theorem dX5_kindsLeft_31 : decode cX5_kindsLeft 31 = .ok (.ireturn, 1) := by decide +kernel
def Sc_kindsLeft_L4 (w : Wd) (k30 : Int32 → Option Int32) : Nat → Int32 → Int32 → Option Int32
  | 0, _, _ => none
  | n + 1, v1, v2 => (if (3 : Int32) ≤ v2 then (k30 v1) else (if ib v2 3 = true then (Sc_kindsLeft_L4 w k30 n (if (w.1 14 (Int32.toNatClampNeg v2)) ≤ (0 : Int32) then v1 else (v1 ||| ((1 : Int32) <<< (v2 &&& (31 : Int32))))) (v2 + (1 : Int32))) else none))
set_option maxRecDepth 100000 in
set_option maxHeartbeats 4000000 in
theorem Sc_kindsLeft_L4_ok {K : Ctx} (F : Fx K cX5_kindsLeft 3 RX5 (some .int) 0 0 true [13, 14]) (w : Wd) {k30 : Int32 → Option Int32} (h30 : ∀ (v1 : Int32), N K (rtP w) (k30 v1) w 30 [(1, .int v1)] []) : ∀ (n : Nat) (v1 : Int32) (v2 : Int32), N K (rtP w) (Sc_kindsLeft_L4 w k30 n v1 v2) w 4 [(0, .ref (gA (cg K) 13)), (1, .int v1), (2, .int v2)] [] := by
  intro n
  induction n with
  | zero => intro _ _; exact n_none
  | succ n ih =>
    intro v1 v2
    rw [Sc_kindsLeft_L4]
    refine n_iload_n F dX5_kindsLeft_4 rfl 2 rfl ?_
    refine n_iconst F (3 : Int32) dX5_kindsLeft_5 (by decide) ?_
    refine n_icmp_ge F 30 dX5_kindsLeft_6 (by decide) (fun e1 => ?_) (fun e1 => ?_)
    · rw [if_pos e1]
      exact n_sub [1] rfl (h30 _)
    rw [if_neg e1]
    refine n_aload_n F dX5_kindsLeft_9 rfl 0 rfl ?_
    refine n_get F ck_5 lf_RX5_9 (by decide) fg_13_6 (by decide) dX5_kindsLeft_10 ?_
    refine n_iload_n F dX5_kindsLeft_13 rfl 2 rfl ?_
    refine n_chk (fun e2 => ?_)
    refine n_iald F ar_14 (by decide) (ib_in e2) rfl dX5_kindsLeft_14 ?_
    refine n_if_le F 24 dX5_kindsLeft_15 (by decide) (fun e3 => ?_) (fun e3 => ?_)
    · rw [if_pos e3]
      refine n_iinc F (v2 + (1 : Int32)) (lv' := [(2, .int (v2 + (1 : Int32))), (0, .ref (gA (cg K) 13)), (1, .int v1)]) dX5_kindsLeft_24 2 rfl rfl (by decide) rfl ?_
      refine n_goto F 4 dX5_kindsLeft_27 (by decide) ?_
      exact n_sub [1, 2, 0] rfl (ih _ _)
    rw [if_neg e3]
    refine n_iload_n F dX5_kindsLeft_18 rfl 1 rfl ?_
    refine n_iconst F (1 : Int32) dX5_kindsLeft_19 (by decide) ?_
    refine n_iload_n F dX5_kindsLeft_20 rfl 2 rfl ?_
    refine n_ishl F dX5_kindsLeft_21 ?_
    refine n_ior F dX5_kindsLeft_22 ?_
    refine n_istore_n F (lv' := [(1, .int (v1 ||| ((1 : Int32) <<< (v2 &&& (31 : Int32))))), (0, .ref (gA (cg K) 13)), (2, .int v2)]) dX5_kindsLeft_23 rfl (by decide) rfl ?_
    refine n_iinc F (v2 + (1 : Int32)) (lv' := [(2, .int (v2 + (1 : Int32))), (1, .int (v1 ||| ((1 : Int32) <<< (v2 &&& (31 : Int32))))), (0, .ref (gA (cg K) 13))]) dX5_kindsLeft_24 2 rfl rfl (by decide) rfl ?_
    refine n_goto F 4 dX5_kindsLeft_27 (by decide) ?_
    exact n_sub [2, 1, 0] rfl (ih _ _)
def Sc_kindsLeft_B30 (w : Wd) (v1 : Int32) : Option Int32 := some v1
set_option maxRecDepth 100000 in
set_option maxHeartbeats 4000000 in
theorem Sc_kindsLeft_B30_ok {K : Ctx} (F : Fx K cX5_kindsLeft 3 RX5 (some .int) 0 0 true [13, 14]) (w : Wd) (v1 : Int32) : N K (rtP w) (Sc_kindsLeft_B30 w v1) w 30 [(1, .int v1)] [] := by
  rw [Sc_kindsLeft_B30]
  refine n_iload_n F dX5_kindsLeft_30 rfl 0 rfl ?_
  exact n_iret F rfl rfl dX5_kindsLeft_31
def Sc_kindsLeft (w : Wd) : Option Int32 := (Sc_kindsLeft_L4 w (Sc_kindsLeft_B30 w) FU (0 : Int32) (0 : Int32))
set_option maxRecDepth 100000 in
set_option maxHeartbeats 4000000 in
theorem ct_Sc_kindsLeft {l : Launch} {g : GG} {σ : Sd} (hg : OKg g σ) (hb : σ.2.1 = true) (hx : ∀ c ∈ ([13, 14] : List Nat), c ∈ σ.1) (w : Wd) {q : Int32} (hq : Sc_kindsLeft w = some q) : CT l g σ yX5_kindsLeft cX5_kindsLeft 3 (some .int) 0 0 [.ref (gA g 13)] w (some (.int q)) w := by
  refine ct_of (rt := (rtP w)) (res := Sc_kindsLeft w) (q := q) (own := RX5) (b := true) hg hb hx (by decide) rfl (Nat.le_of_ble_eq_true rfl) hq (fun K e1 e2 e3 F => ?_)
  subst e1 e2 e3
  rw [Sc_kindsLeft]
  show N K _ _ w 0 [(0, .ref (gA (cg K) 13))] []
  refine n_iconst F (0 : Int32) dX5_kindsLeft_0 (by decide) ?_
  refine n_istore_n F (lv' := [(1, .int (0 : Int32)), (0, .ref (gA (cg K) 13))]) dX5_kindsLeft_1 rfl (by decide) rfl ?_
  refine n_iconst F (0 : Int32) dX5_kindsLeft_2 (by decide) ?_
  refine n_istore_n F (lv' := [(2, .int (0 : Int32)), (1, .int (0 : Int32)), (0, .ref (gA (cg K) 13))]) dX5_kindsLeft_3 rfl (by decide) rfl ?_
  exact n_sub [2, 1, 0] rfl (Sc_kindsLeft_L4_ok F w (Sc_kindsLeft_B30_ok F w) FU _ _)
theorem dX1_part_0 : decode cX1_part 0 = .ok (.iload_n 1, 1) := by decide +kernel
theorem dX1_part_1 : decode cX1_part 1 = .ok (.ifCond .lt 21, 3) := by decide +kernel
theorem dX1_part_4 : decode cX1_part 4 = .ok (.iload_n 1, 1) := by decide +kernel
theorem dX1_part_5 : decode cX1_part 5 = .ok (.aload_n 0, 1) := by decide +kernel
theorem dX1_part_6 : decode cX1_part 6 = .ok (.getfield 15, 3) := by decide +kernel
theorem dX1_part_9 : decode cX1_part 9 = .ok (.if_icmp .ge 13, 3) := by decide +kernel
theorem dX1_part_12 : decode cX1_part 12 = .ok (.iload_n 1, 1) := by decide +kernel
theorem dX1_part_13 : decode cX1_part 13 = .ok (.bipush 12, 2) := by decide +kernel
theorem dX1_part_15 : decode cX1_part 15 = .ok (.if_icmp .ge 7, 3) := by decide +kernel
theorem dX1_part_18 : decode cX1_part 18 = .ok (.iconst 1, 1) := by decide +kernel
theorem dX1_part_19 : decode cX1_part 19 = .ok (.goto 4, 3) := by decide +kernel
theorem dX1_part_22 : decode cX1_part 22 = .ok (.iconst 0, 1) := by decide +kernel
theorem dX1_part_23 : decode cX1_part 23 = .ok (.istore_n 3, 1) := by decide +kernel
theorem dX1_part_24 : decode cX1_part 24 = .ok (.iload_n 3, 1) := by decide +kernel
theorem dX1_part_25 : decode cX1_part 25 = .ok (.ifCond .eq 27, 3) := by decide +kernel
theorem dX1_part_28 : decode cX1_part 28 = .ok (.iload_n 2, 1) := by decide +kernel
theorem dX1_part_29 : decode cX1_part 29 = .ok (.ifCond .lt 23, 3) := by decide +kernel
theorem dX1_part_32 : decode cX1_part 32 = .ok (.iload_n 2, 1) := by decide +kernel
theorem dX1_part_33 : decode cX1_part 33 = .ok (.bipush 6, 2) := by decide +kernel
theorem dX1_part_35 : decode cX1_part 35 = .ok (.if_icmp .ge 17, 3) := by decide +kernel
theorem dX1_part_38 : decode cX1_part 38 = .ok (.aload_n 0, 1) := by decide +kernel
theorem dX1_part_39 : decode cX1_part 39 = .ok (.getfield 24, 3) := by decide +kernel
theorem dX1_part_42 : decode cX1_part 42 = .ok (.iload_n 1, 1) := by decide +kernel
theorem dX1_part_43 : decode cX1_part 43 = .ok (.bipush 6, 2) := by decide +kernel
theorem dX1_part_45 : decode cX1_part 45 = .ok (.imul, 1) := by decide +kernel
theorem dX1_part_46 : decode cX1_part 46 = .ok (.iload_n 2, 1) := by decide +kernel
theorem dX1_part_47 : decode cX1_part 47 = .ok (.iadd, 1) := by decide +kernel
theorem dX1_part_48 : decode cX1_part 48 = .ok (.iaload, 1) := by decide +kernel
theorem dX1_part_49 : decode cX1_part 49 = .ok (.goto 4, 3) := by decide +kernel
theorem dX1_part_52 : decode cX1_part 52 = .ok (.iconst (-1), 1) := by decide +kernel
theorem dX1_part_53 : decode cX1_part 53 = .ok (.ireturn, 1) := by decide +kernel
def La_part_B23 (w : Wd) (v1 : Int32) (v2 : Int32) (s0 : Int32) : Option Int32 := (if s0 = (0 : Int32) then some (-1 : Int32) else (if v2 < (0 : Int32) then some (-1 : Int32) else (if (6 : Int32) ≤ v2 then some (-1 : Int32) else (if ib ((v1 * (6 : Int32)) + v2) 72 = true then some (w.1 4 (Int32.toNatClampNeg ((v1 * (6 : Int32)) + v2))) else none))))
set_option maxRecDepth 100000 in
set_option maxHeartbeats 4000000 in
theorem La_part_B23_ok {K : Ctx} (F : Fx K cX1_part 4 RX1 (some .int) 0 0 true [3, 4]) (w : Wd) (v1 : Int32) (v2 : Int32) (s0 : Int32) : N K (rtP w) (La_part_B23 w v1 v2 s0) w 23 [(0, .ref (gA (cg K) 3)), (1, .int v1), (2, .int v2)] [.int s0] := by
  rw [La_part_B23]
  refine n_istore_n F (lv' := [(3, .int s0), (0, .ref (gA (cg K) 3)), (1, .int v1), (2, .int v2)]) dX1_part_23 rfl (by decide) rfl ?_
  refine n_iload_n F dX1_part_24 rfl 0 rfl ?_
  refine n_if_eq F 52 dX1_part_25 (by decide) (fun e2 => ?_) (fun e2 => ?_)
  · rw [if_pos e2]
    refine n_iconst F (-1 : Int32) dX1_part_52 (by decide) ?_
    exact n_iret F rfl rfl dX1_part_53
  rw [if_neg e2]
  refine n_iload_n F dX1_part_28 rfl 3 rfl ?_
  refine n_if_lt F 52 dX1_part_29 (by decide) (fun e3 => ?_) (fun e3 => ?_)
  · rw [if_pos e3]
    refine n_iconst F (-1 : Int32) dX1_part_52 (by decide) ?_
    exact n_iret F rfl rfl dX1_part_53
  rw [if_neg e3]
  refine n_iload_n F dX1_part_32 rfl 3 rfl ?_
  refine n_bipush F (6 : Int32) dX1_part_33 (by decide) ?_
  refine n_icmp_ge F 52 dX1_part_35 (by decide) (fun e4 => ?_) (fun e4 => ?_)
  · rw [if_pos e4]
    refine n_iconst F (-1 : Int32) dX1_part_52 (by decide) ?_
    exact n_iret F rfl rfl dX1_part_53
  rw [if_neg e4]
  refine n_aload_n F dX1_part_38 rfl 1 rfl ?_
  refine n_get F ck_1 lf_RX1_24 (by decide) fg_3_4 (by decide) dX1_part_39 ?_
  refine n_iload_n F dX1_part_42 rfl 2 rfl ?_
  refine n_bipush F (6 : Int32) dX1_part_43 (by decide) ?_
  refine n_imul F dX1_part_45 ?_
  refine n_iload_n F dX1_part_46 rfl 3 rfl ?_
  refine n_iadd F dX1_part_47 ?_
  refine n_chk (fun e5 => ?_)
  refine n_iald F ar_4 (by decide) (ib_in e5) rfl dX1_part_48 ?_
  refine n_goto F 53 dX1_part_49 (by decide) ?_
  exact n_iret F rfl rfl dX1_part_53
def La_part (w : Wd) (a1 : Int32) (a2 : Int32) : Option Int32 := (La_part_B23 w a1 a2 (if a1 < (0 : Int32) then (0 : Int32) else (if (w.1 3 1) ≤ a1 then (0 : Int32) else (if (12 : Int32) ≤ a1 then (0 : Int32) else (1 : Int32)))))
set_option maxRecDepth 100000 in
set_option maxHeartbeats 4000000 in
theorem ct_La_part {l : Launch} {g : GG} {σ : Sd} (hg : OKg g σ) (hb : σ.2.1 = true) (hx : ∀ c ∈ ([3, 4] : List Nat), c ∈ σ.1) (w : Wd) (a1 : Int32) (a2 : Int32) {q : Int32} (hq : La_part w a1 a2 = some q) : CT l g σ yX1_part cX1_part 4 (some .int) 0 0 [.ref (gA g 3), .int a1, .int a2] w (some (.int q)) w := by
  refine ct_of (rt := (rtP w)) (res := La_part w a1 a2) (q := q) (own := RX1) (b := true) hg hb hx (by decide) rfl (Nat.le_of_ble_eq_true rfl) hq (fun K e1 e2 e3 F => ?_)
  subst e1 e2 e3
  rw [La_part]
  show N K _ _ w 0 [(0, .ref (gA (cg K) 3)), (1, .int a1), (2, .int a2)] []
  refine n_iload_n F dX1_part_0 rfl 1 rfl ?_
  refine n_if_lt F 22 dX1_part_1 (by decide) (fun e1 => ?_) (fun e1 => ?_)
  · rw [if_pos e1]
    refine n_iconst F (0 : Int32) dX1_part_22 (by decide) ?_
    exact n_sub [0, 1, 2] rfl (La_part_B23_ok F w _ _ _)
  rw [if_neg e1]
  refine n_iload_n F dX1_part_4 rfl 1 rfl ?_
  refine n_aload_n F dX1_part_5 rfl 0 rfl ?_
  refine n_get F ck_1 lf_RX1_15 (by decide) fg_3_1 (by decide) dX1_part_6 ?_
  refine n_icmp_ge F 22 dX1_part_9 (by decide) (fun e6 => ?_) (fun e6 => ?_)
  · rw [if_pos e6]
    refine n_iconst F (0 : Int32) dX1_part_22 (by decide) ?_
    exact n_sub [0, 1, 2] rfl (La_part_B23_ok F w _ _ _)
  rw [if_neg e6]
  refine n_iload_n F dX1_part_12 rfl 1 rfl ?_
  refine n_bipush F (12 : Int32) dX1_part_13 (by decide) ?_
  refine n_icmp_ge F 22 dX1_part_15 (by decide) (fun e7 => ?_) (fun e7 => ?_)
  · rw [if_pos e7]
    refine n_iconst F (0 : Int32) dX1_part_22 (by decide) ?_
    exact n_sub [0, 1, 2] rfl (La_part_B23_ok F w _ _ _)
  rw [if_neg e7]
  refine n_iconst F (1 : Int32) dX1_part_18 (by decide) ?_
  refine n_goto F 23 dX1_part_19 (by decide) ?_
  exact n_sub [0, 1, 2] rfl (La_part_B23_ok F w _ _ _)
theorem dX7_hasBit_0 : decode cX7_hasBit 0 = .ok (.iload_n 0, 1) := by decide +kernel
theorem dX7_hasBit_1 : decode cX7_hasBit 1 = .ok (.iload_n 1, 1) := by decide +kernel
theorem dX7_hasBit_2 : decode cX7_hasBit 2 = .ok (.ishr, 1) := by decide +kernel
theorem dX7_hasBit_3 : decode cX7_hasBit 3 = .ok (.iconst 1, 1) := by decide +kernel
theorem dX7_hasBit_4 : decode cX7_hasBit 4 = .ok (.iand, 1) := by decide +kernel
theorem dX7_hasBit_5 : decode cX7_hasBit 5 = .ok (.ifCond .eq 7, 3) := by decide +kernel
theorem dX7_hasBit_8 : decode cX7_hasBit 8 = .ok (.iconst 1, 1) := by decide +kernel
theorem dX7_hasBit_9 : decode cX7_hasBit 9 = .ok (.goto 4, 3) := by decide +kernel
theorem dX7_hasBit_12 : decode cX7_hasBit 12 = .ok (.iconst 0, 1) := by decide +kernel
theorem dX7_hasBit_13 : decode cX7_hasBit 13 = .ok (.ireturn, 1) := by decide +kernel
def Nt_hasBit (w : Wd) (a1 : Int32) (a2 : Int32) : Int32 := (if ((a1 >>> (a2 &&& (31 : Int32))) &&& (1 : Int32)) = (0 : Int32) then (0 : Int32) else (1 : Int32))
set_option maxRecDepth 100000 in
set_option maxHeartbeats 4000000 in
theorem ct_Nt_hasBit {l : Launch} {g : GG} {σ : Sd} (hg : OKg g σ) (hb : σ.2.1 = true) (hx : ∀ c ∈ ([] : List Nat), c ∈ σ.1) (w : Wd) (a1 : Int32) (a2 : Int32) : CT l g σ yX7_hasBit cX7_hasBit 2 (some .boolean) 0 0 [.int a1, .int a2] w (some (.int (Nt_hasBit w a1 a2))) w := by
  refine ct_of (rt := (rtP w)) (res := some (Nt_hasBit w a1 a2)) (q := (Nt_hasBit w a1 a2)) (own := RX7) (b := true) hg hb hx (by decide) rfl (Nat.le_of_ble_eq_true rfl) rfl (fun K e1 e2 e3 F => ?_)
  subst e1 e2 e3
  rw [Nt_hasBit]
  show N K _ _ w 0 [(0, .int a1), (1, .int a2)] []
  refine n_iload_n F dX7_hasBit_0 rfl 0 rfl ?_
  refine n_iload_n F dX7_hasBit_1 rfl 1 rfl ?_
  refine n_ishr F dX7_hasBit_2 ?_
  refine n_iconst F (1 : Int32) dX7_hasBit_3 (by decide) ?_
  refine n_iand F dX7_hasBit_4 ?_
  refine n_if_eq F 12 dX7_hasBit_5 (by decide) (fun e1 => ?_) (fun e1 => ?_)
  · rw [if_pos e1]
    refine n_iconst F (0 : Int32) dX7_hasBit_12 (by decide) ?_
    exact n_zret F .boolean rfl rfl rfl dX7_hasBit_13
  rw [if_neg e1]
  refine n_iconst F (1 : Int32) dX7_hasBit_8 (by decide) ?_
  refine n_goto F 13 dX7_hasBit_9 (by decide) ?_
  exact n_zret F .boolean rfl rfl rfl dX7_hasBit_13
theorem bz_Nt_hasBit (w : Wd) (a1 : Int32) (a2 : Int32) : (Nt_hasBit w a1 a2) &&& (1 : Int32) = (Nt_hasBit w a1 a2) := by
  unfold Nt_hasBit
  first | exact bz_auto | (repeat' split) <;> first | rfl | assumption
theorem dX1_runsOn_0 : decode cX1_runsOn 0 = .ok (.aload_n 0, 1) := by decide +kernel
theorem dX1_runsOn_1 : decode cX1_runsOn 1 = .ok (.iload_n 1, 1) := by decide +kernel
theorem dX1_runsOn_2 : decode cX1_runsOn 2 = .ok (.iconst 2, 1) := by decide +kernel
theorem dX1_runsOn_3 : decode cX1_runsOn 3 = .ok (.invokevirtual 54, 3) := by decide +kernel
theorem dX1_runsOn_6 : decode cX1_runsOn 6 = .ok (.istore_n 3, 1) := by decide +kernel
theorem dX1_runsOn_7 : decode cX1_runsOn 7 = .ok (.iload_n 3, 1) := by decide +kernel
theorem dX1_runsOn_8 : decode cX1_runsOn 8 = .ok (.ifCond .le 19, 3) := by decide +kernel
theorem dX1_runsOn_11 : decode cX1_runsOn 11 = .ok (.iload_n 2, 1) := by decide +kernel
theorem dX1_runsOn_12 : decode cX1_runsOn 12 = .ok (.iload_n 3, 1) := by decide +kernel
theorem dX1_runsOn_13 : decode cX1_runsOn 13 = .ok (.irem, 1) := by decide +kernel
theorem dX1_runsOn_14 : decode cX1_runsOn 14 = .ok (.aload_n 0, 1) := by decide +kernel
theorem dX1_runsOn_15 : decode cX1_runsOn 15 = .ok (.iload_n 1, 1) := by decide +kernel
theorem dX1_runsOn_16 : decode cX1_runsOn 16 = .ok (.iconst 3, 1) := by decide +kernel
theorem dX1_runsOn_17 : decode cX1_runsOn 17 = .ok (.invokevirtual 54, 3) := by decide +kernel
theorem dX1_runsOn_20 : decode cX1_runsOn 20 = .ok (.if_icmp .ne 7, 3) := by decide +kernel
theorem dX1_runsOn_23 : decode cX1_runsOn 23 = .ok (.iconst 1, 1) := by decide +kernel
theorem dX1_runsOn_24 : decode cX1_runsOn 24 = .ok (.goto 4, 3) := by decide +kernel
theorem dX1_runsOn_27 : decode cX1_runsOn 27 = .ok (.iconst 0, 1) := by decide +kernel
theorem dX1_runsOn_28 : decode cX1_runsOn 28 = .ok (.ireturn, 1) := by decide +kernel
def La_runsOn (w : Wd) (a1 : Int32) (a2 : Int32) : Option Int32 := (Option.bind (La_part w a1 (2 : Int32)) (fun q1 => (if q1 ≤ (0 : Int32) then some (0 : Int32) else (if ¬ q1 = (0 : Int32) then (Option.bind (La_part w a1 (3 : Int32)) (fun q4 => (if (a2 - a2 / q1 * q1) = q4 then some (1 : Int32) else some (0 : Int32)))) else none))))
set_option maxRecDepth 100000 in
set_option maxHeartbeats 4000000 in
theorem ct_La_runsOn {l : Launch} {g : GG} {σ : Sd} (hg : OKg g σ) (hb : σ.2.1 = true) (hx : ∀ c ∈ ([3, 4] : List Nat), c ∈ σ.1) (w : Wd) (a1 : Int32) (a2 : Int32) {q : Int32} (hq : La_runsOn w a1 a2 = some q) : CT l g σ yX1_runsOn cX1_runsOn 4 (some .boolean) 1 23 [.ref (gA g 3), .int a1, .int a2] w (some (.int q)) w := by
  refine ct_of (rt := (rtP w)) (res := La_runsOn w a1 a2) (q := q) (own := RX1) (b := true) hg hb hx (by decide) rfl (Nat.le_of_ble_eq_true rfl) hq (fun K e1 e2 e3 F => ?_)
  subst e1 e2 e3
  rw [La_runsOn]
  show N K _ _ w 0 [(0, .ref (gA (cg K) 3)), (1, .int a1), (2, .int a2)] []
  refine n_aload_n F dX1_runsOn_0 rfl 0 rfl ?_
  refine n_iload_n F dX1_runsOn_1 rfl 1 rfl ?_
  refine n_iconst F (2 : Int32) dX1_runsOn_2 (by decide) ?_
  refine n_bind (fun q1 hq1 => ?_)
  refine n_callVi F cb_X1_part lm_RX1_54 ob_3 (by decide) ⟨_, _, rfl⟩ (ct_La_part (fx_ok F) (fx_sd F) (fx_ix F rfl) w a1 (2 : Int32) hq1) rfl rfl (Nat.le_of_ble_eq_true rfl) ⟨Nat.le_of_ble_eq_true rfl, Nat.le_of_ble_eq_true rfl⟩ dX1_runsOn_3 ?_
  refine n_istore_n F (lv' := [(3, .int q1), (0, .ref (gA (cg K) 3)), (1, .int a1), (2, .int a2)]) dX1_runsOn_6 rfl (by decide) rfl ?_
  refine n_iload_n F dX1_runsOn_7 rfl 0 rfl ?_
  refine n_if_le F 27 dX1_runsOn_8 (by decide) (fun e2 => ?_) (fun e2 => ?_)
  · rw [if_pos e2]
    refine n_iconst F (0 : Int32) dX1_runsOn_27 (by decide) ?_
    exact n_zret F .boolean rfl rfl rfl dX1_runsOn_28
  rw [if_neg e2]
  refine n_iload_n F dX1_runsOn_11 rfl 3 rfl ?_
  refine n_iload_n F dX1_runsOn_12 rfl 0 rfl ?_
  refine n_chk (fun e3 => ?_)
  refine n_irem F dX1_runsOn_13 e3 ?_
  refine n_aload_n F dX1_runsOn_14 rfl 1 rfl ?_
  refine n_iload_n F dX1_runsOn_15 rfl 2 rfl ?_
  refine n_iconst F (3 : Int32) dX1_runsOn_16 (by decide) ?_
  refine n_bind (fun q4 hq4 => ?_)
  refine n_callVi F cb_X1_part lm_RX1_54 ob_3 (by decide) ⟨_, _, rfl⟩ (ct_La_part (fx_ok F) (fx_sd F) (fx_ix F rfl) w a1 (3 : Int32) hq4) rfl rfl (Nat.le_of_ble_eq_true rfl) ⟨Nat.le_of_ble_eq_true rfl, Nat.le_of_ble_eq_true rfl⟩ dX1_runsOn_17 ?_
  refine n_icmp_ne F 27 dX1_runsOn_20 (by decide) (fun e5 => ?_) (fun e5 => ?_)
  · rw [if_neg e5]
    refine n_iconst F (0 : Int32) dX1_runsOn_27 (by decide) ?_
    exact n_zret F .boolean rfl rfl rfl dX1_runsOn_28
  rw [if_pos e5]
  refine n_iconst F (1 : Int32) dX1_runsOn_23 (by decide) ?_
  refine n_goto F 28 dX1_runsOn_24 (by decide) ?_
  exact n_zret F .boolean rfl rfl rfl dX1_runsOn_28
theorem dX1_reached_0 : decode cX1_reached 0 = .ok (.iconst 0, 1) := by decide +kernel
theorem dX1_reached_1 : decode cX1_reached 1 = .ok (.istore 5, 2) := by decide +kernel
theorem dX1_reached_3 : decode cX1_reached 3 = .ok (.iconst 0, 1) := by decide +kernel
theorem dX1_reached_4 : decode cX1_reached 4 = .ok (.istore 6, 2) := by decide +kernel
theorem dX1_reached_6 : decode cX1_reached 6 = .ok (.iload 6, 2) := by decide +kernel
theorem dX1_reached_8 : decode cX1_reached 8 = .ok (.aload_n 0, 1) := by decide +kernel
theorem dX1_reached_9 : decode cX1_reached 9 = .ok (.getfield 15, 3) := by decide +kernel
theorem dX1_reached_12 : decode cX1_reached 12 = .ok (.if_icmp .ge 73, 3) := by decide +kernel
theorem dX1_reached_15 : decode cX1_reached 15 = .ok (.aload_n 0, 1) := by decide +kernel
theorem dX1_reached_16 : decode cX1_reached 16 = .ok (.iload 6, 2) := by decide +kernel
theorem dX1_reached_18 : decode cX1_reached 18 = .ok (.iconst 4, 1) := by decide +kernel
theorem dX1_reached_19 : decode cX1_reached 19 = .ok (.invokevirtual 54, 3) := by decide +kernel
theorem dX1_reached_22 : decode cX1_reached 22 = .ok (.iload 4, 2) := by decide +kernel
theorem dX1_reached_24 : decode cX1_reached 24 = .ok (.if_icmp .ne 55, 3) := by decide +kernel
theorem dX1_reached_27 : decode cX1_reached 27 = .ok (.iload_n 3, 1) := by decide +kernel
theorem dX1_reached_28 : decode cX1_reached 28 = .ok (.aload_n 0, 1) := by decide +kernel
theorem dX1_reached_29 : decode cX1_reached 29 = .ok (.iload 6, 2) := by decide +kernel
theorem dX1_reached_31 : decode cX1_reached 31 = .ok (.iconst 5, 1) := by decide +kernel
theorem dX1_reached_32 : decode cX1_reached 32 = .ok (.invokevirtual 54, 3) := by decide +kernel
theorem dX1_reached_35 : decode cX1_reached 35 = .ok (.invokestatic 65, 3) := by decide +kernel
theorem dX1_reached_38 : decode cX1_reached 38 = .ok (.ifCond .eq 41, 3) := by decide +kernel
theorem dX1_reached_41 : decode cX1_reached 41 = .ok (.iload_n 1, 1) := by decide +kernel
theorem dX1_reached_42 : decode cX1_reached 42 = .ok (.aload_n 0, 1) := by decide +kernel
theorem dX1_reached_43 : decode cX1_reached 43 = .ok (.iload 6, 2) := by decide +kernel
theorem dX1_reached_45 : decode cX1_reached 45 = .ok (.iconst 0, 1) := by decide +kernel
theorem dX1_reached_46 : decode cX1_reached 46 = .ok (.invokevirtual 54, 3) := by decide +kernel
theorem dX1_reached_49 : decode cX1_reached 49 = .ok (.invokestatic 65, 3) := by decide +kernel
theorem dX1_reached_52 : decode cX1_reached 52 = .ok (.ifCond .eq 27, 3) := by decide +kernel
theorem dX1_reached_55 : decode cX1_reached 55 = .ok (.aload_n 0, 1) := by decide +kernel
theorem dX1_reached_56 : decode cX1_reached 56 = .ok (.iload 6, 2) := by decide +kernel
theorem dX1_reached_58 : decode cX1_reached 58 = .ok (.iload_n 2, 1) := by decide +kernel
theorem dX1_reached_59 : decode cX1_reached 59 = .ok (.invokevirtual 58, 3) := by decide +kernel
theorem dX1_reached_62 : decode cX1_reached 62 = .ok (.ifCond .eq 17, 3) := by decide +kernel
theorem dX1_reached_65 : decode cX1_reached 65 = .ok (.iload 5, 2) := by decide +kernel
theorem dX1_reached_67 : decode cX1_reached 67 = .ok (.iconst 1, 1) := by decide +kernel
theorem dX1_reached_68 : decode cX1_reached 68 = .ok (.aload_n 0, 1) := by decide +kernel
theorem dX1_reached_69 : decode cX1_reached 69 = .ok (.iload 6, 2) := by decide +kernel
theorem dX1_reached_71 : decode cX1_reached 71 = .ok (.iconst 1, 1) := by decide +kernel
theorem dX1_reached_72 : decode cX1_reached 72 = .ok (.invokevirtual 54, 3) := by decide +kernel
theorem dX1_reached_75 : decode cX1_reached 75 = .ok (.ishl, 1) := by decide +kernel
theorem dX1_reached_76 : decode cX1_reached 76 = .ok (.ior, 1) := by decide +kernel
theorem dX1_reached_77 : decode cX1_reached 77 = .ok (.istore 5, 2) := by decide +kernel
theorem dX1_reached_79 : decode cX1_reached 79 = .ok (.iinc 6 1, 3) := by decide +kernel
theorem dX1_reached_82 : decode cX1_reached 82 = .ok (.goto (-76), 3) := by decide +kernel
theorem dX1_reached_85 : decode cX1_reached 85 = .ok (.iload 5, 2) := by decide +kernel
theorem dX1_reached_87 : decode cX1_reached 87 = .ok (.ireturn, 1) := by decide +kernel
def La_reached_L6 (w : Wd) (k85 : Int32 → Option Int32) : Nat → Int32 → Int32 → Int32 → Int32 → Int32 → Int32 → Option Int32
  | 0, _, _, _, _, _, _ => none
  | n + 1, v1, v2, v3, v4, v5, v6 => (if (w.1 3 1) ≤ v6 then (k85 v5) else (Option.bind (La_part w v6 (4 : Int32)) (fun q2 => (if q2 = v4 then (Option.bind (La_part w v6 (5 : Int32)) (fun q4 => (if (Nt_hasBit w v3 q4) = (0 : Int32) then (La_reached_L6 w k85 n v1 v2 v3 v4 v5 (v6 + (1 : Int32))) else (Option.bind (La_part w v6 (0 : Int32)) (fun q6 => (if (Nt_hasBit w v1 q6) = (0 : Int32) then (La_reached_L6 w k85 n v1 v2 v3 v4 v5 (v6 + (1 : Int32))) else (Option.bind (La_runsOn w v6 v2) (fun q8 => (if q8 = (0 : Int32) then (La_reached_L6 w k85 n v1 v2 v3 v4 v5 (v6 + (1 : Int32))) else (Option.bind (La_part w v6 (1 : Int32)) (fun q10 => (La_reached_L6 w k85 n v1 v2 v3 v4 (v5 ||| ((1 : Int32) <<< (q10 &&& (31 : Int32)))) (v6 + (1 : Int32)))))))))))))) else (La_reached_L6 w k85 n v1 v2 v3 v4 v5 (v6 + (1 : Int32)))))))
set_option maxRecDepth 100000 in
set_option maxHeartbeats 4000000 in
theorem La_reached_L6_ok {K : Ctx} (F : Fx K cX1_reached 7 RX1 (some .int) 2 46 true [3, 4]) (w : Wd) {k85 : Int32 → Option Int32} (h85 : ∀ (v5 : Int32), N K (rtP w) (k85 v5) w 85 [(5, .int v5)] []) : ∀ (n : Nat) (v1 : Int32) (v2 : Int32) (v3 : Int32) (v4 : Int32) (v5 : Int32) (v6 : Int32), N K (rtP w) (La_reached_L6 w k85 n v1 v2 v3 v4 v5 v6) w 6 [(0, .ref (gA (cg K) 3)), (1, .int v1), (2, .int v2), (3, .int v3), (4, .int v4), (5, .int v5), (6, .int v6)] [] := by
  intro n
  induction n with
  | zero => intro _ _ _ _ _ _; exact n_none
  | succ n ih =>
    intro v1 v2 v3 v4 v5 v6
    rw [La_reached_L6]
    refine n_iload F dX1_reached_6 6 rfl ?_
    refine n_aload_n F dX1_reached_8 rfl 0 rfl ?_
    refine n_get F ck_1 lf_RX1_15 (by decide) fg_3_1 (by decide) dX1_reached_9 ?_
    refine n_icmp_ge F 85 dX1_reached_12 (by decide) (fun e1 => ?_) (fun e1 => ?_)
    · rw [if_pos e1]
      exact n_sub [5] rfl (h85 _)
    rw [if_neg e1]
    refine n_aload_n F dX1_reached_15 rfl 0 rfl ?_
    refine n_iload F dX1_reached_16 6 rfl ?_
    refine n_iconst F (4 : Int32) dX1_reached_18 (by decide) ?_
    refine n_bind (fun q2 hq2 => ?_)
    refine n_callVi F cb_X1_part lm_RX1_54 ob_3 (by decide) ⟨_, _, rfl⟩ (ct_La_part (fx_ok F) (fx_sd F) (fx_ix F rfl) w v6 (4 : Int32) hq2) rfl rfl (Nat.le_of_ble_eq_true rfl) ⟨Nat.le_of_ble_eq_true rfl, Nat.le_of_ble_eq_true rfl⟩ dX1_reached_19 ?_
    refine n_iload F dX1_reached_22 4 rfl ?_
    refine n_icmp_ne F 79 dX1_reached_24 (by decide) (fun e3 => ?_) (fun e3 => ?_)
    · rw [if_neg e3]
      refine n_iinc F (v6 + (1 : Int32)) (lv' := [(6, .int (v6 + (1 : Int32))), (0, .ref (gA (cg K) 3)), (1, .int v1), (2, .int v2), (3, .int v3), (4, .int v4), (5, .int v5)]) dX1_reached_79 6 rfl rfl (by decide) rfl ?_
      refine n_goto F 6 dX1_reached_82 (by decide) ?_
      exact n_sub [1, 2, 3, 4, 5, 6, 0] rfl (ih _ _ _ _ _ _)
    rw [if_pos e3]
    refine n_iload_n F dX1_reached_27 rfl 3 rfl ?_
    refine n_aload_n F dX1_reached_28 rfl 0 rfl ?_
    refine n_iload F dX1_reached_29 6 rfl ?_
    refine n_iconst F (5 : Int32) dX1_reached_31 (by decide) ?_
    refine n_bind (fun q4 hq4 => ?_)
    refine n_callVi F cb_X1_part lm_RX1_54 ob_3 (by decide) ⟨_, _, rfl⟩ (ct_La_part (fx_ok F) (fx_sd F) (fx_ix F rfl) w v6 (5 : Int32) hq4) rfl rfl (Nat.le_of_ble_eq_true rfl) ⟨Nat.le_of_ble_eq_true rfl, Nat.le_of_ble_eq_true rfl⟩ dX1_reached_32 ?_
    refine n_callSNi F cb_X7_hasBit lm_RX1_65 (ct_Nt_hasBit (fx_ok F) (fx_sd F) (fx_ix F rfl) w v3 q4) rfl rfl (Nat.le_of_ble_eq_true rfl) ⟨Nat.le_of_ble_eq_true rfl, Nat.le_of_ble_eq_true rfl⟩ dX1_reached_35 ?_
    refine n_if_eq F 79 dX1_reached_38 (by decide) (fun e5 => ?_) (fun e5 => ?_)
    · rw [if_pos e5]
      refine n_iinc F (v6 + (1 : Int32)) (lv' := [(6, .int (v6 + (1 : Int32))), (0, .ref (gA (cg K) 3)), (1, .int v1), (2, .int v2), (3, .int v3), (4, .int v4), (5, .int v5)]) dX1_reached_79 6 rfl rfl (by decide) rfl ?_
      refine n_goto F 6 dX1_reached_82 (by decide) ?_
      exact n_sub [1, 2, 3, 4, 5, 6, 0] rfl (ih _ _ _ _ _ _)
    rw [if_neg e5]
    refine n_iload_n F dX1_reached_41 rfl 1 rfl ?_
    refine n_aload_n F dX1_reached_42 rfl 0 rfl ?_
    refine n_iload F dX1_reached_43 6 rfl ?_
    refine n_iconst F (0 : Int32) dX1_reached_45 (by decide) ?_
    refine n_bind (fun q6 hq6 => ?_)
    refine n_callVi F cb_X1_part lm_RX1_54 ob_3 (by decide) ⟨_, _, rfl⟩ (ct_La_part (fx_ok F) (fx_sd F) (fx_ix F rfl) w v6 (0 : Int32) hq6) rfl rfl (Nat.le_of_ble_eq_true rfl) ⟨Nat.le_of_ble_eq_true rfl, Nat.le_of_ble_eq_true rfl⟩ dX1_reached_46 ?_
    refine n_callSNi F cb_X7_hasBit lm_RX1_65 (ct_Nt_hasBit (fx_ok F) (fx_sd F) (fx_ix F rfl) w v1 q6) rfl rfl (Nat.le_of_ble_eq_true rfl) ⟨Nat.le_of_ble_eq_true rfl, Nat.le_of_ble_eq_true rfl⟩ dX1_reached_49 ?_
    refine n_if_eq F 79 dX1_reached_52 (by decide) (fun e7 => ?_) (fun e7 => ?_)
    · rw [if_pos e7]
      refine n_iinc F (v6 + (1 : Int32)) (lv' := [(6, .int (v6 + (1 : Int32))), (0, .ref (gA (cg K) 3)), (1, .int v1), (2, .int v2), (3, .int v3), (4, .int v4), (5, .int v5)]) dX1_reached_79 6 rfl rfl (by decide) rfl ?_
      refine n_goto F 6 dX1_reached_82 (by decide) ?_
      exact n_sub [1, 2, 3, 4, 5, 6, 0] rfl (ih _ _ _ _ _ _)
    rw [if_neg e7]
    refine n_aload_n F dX1_reached_55 rfl 0 rfl ?_
    refine n_iload F dX1_reached_56 6 rfl ?_
    refine n_iload_n F dX1_reached_58 rfl 2 rfl ?_
    refine n_bind (fun q8 hq8 => ?_)
    refine n_callVi F cb_X1_runsOn lm_RX1_58 ob_3 (by decide) ⟨_, _, rfl⟩ (ct_La_runsOn (fx_ok F) (fx_sd F) (fx_ix F rfl) w v6 v2 hq8) rfl rfl (Nat.le_of_ble_eq_true rfl) ⟨Nat.le_of_ble_eq_true rfl, Nat.le_of_ble_eq_true rfl⟩ dX1_reached_59 ?_
    refine n_if_eq F 79 dX1_reached_62 (by decide) (fun e9 => ?_) (fun e9 => ?_)
    · rw [if_pos e9]
      refine n_iinc F (v6 + (1 : Int32)) (lv' := [(6, .int (v6 + (1 : Int32))), (0, .ref (gA (cg K) 3)), (1, .int v1), (2, .int v2), (3, .int v3), (4, .int v4), (5, .int v5)]) dX1_reached_79 6 rfl rfl (by decide) rfl ?_
      refine n_goto F 6 dX1_reached_82 (by decide) ?_
      exact n_sub [1, 2, 3, 4, 5, 6, 0] rfl (ih _ _ _ _ _ _)
    rw [if_neg e9]
    refine n_iload F dX1_reached_65 5 rfl ?_
    refine n_iconst F (1 : Int32) dX1_reached_67 (by decide) ?_
    refine n_aload_n F dX1_reached_68 rfl 0 rfl ?_
    refine n_iload F dX1_reached_69 6 rfl ?_
    refine n_iconst F (1 : Int32) dX1_reached_71 (by decide) ?_
    refine n_bind (fun q10 hq10 => ?_)
    refine n_callVi F cb_X1_part lm_RX1_54 ob_3 (by decide) ⟨_, _, rfl⟩ (ct_La_part (fx_ok F) (fx_sd F) (fx_ix F rfl) w v6 (1 : Int32) hq10) rfl rfl (Nat.le_of_ble_eq_true rfl) ⟨Nat.le_of_ble_eq_true rfl, Nat.le_of_ble_eq_true rfl⟩ dX1_reached_72 ?_
    refine n_ishl F dX1_reached_75 ?_
    refine n_ior F dX1_reached_76 ?_
    refine n_istore F (lv' := [(5, .int (v5 ||| ((1 : Int32) <<< (q10 &&& (31 : Int32))))), (0, .ref (gA (cg K) 3)), (1, .int v1), (2, .int v2), (3, .int v3), (4, .int v4), (6, .int v6)]) dX1_reached_77 (by decide) rfl ?_
    refine n_iinc F (v6 + (1 : Int32)) (lv' := [(6, .int (v6 + (1 : Int32))), (5, .int (v5 ||| ((1 : Int32) <<< (q10 &&& (31 : Int32))))), (0, .ref (gA (cg K) 3)), (1, .int v1), (2, .int v2), (3, .int v3), (4, .int v4)]) dX1_reached_79 6 rfl rfl (by decide) rfl ?_
    refine n_goto F 6 dX1_reached_82 (by decide) ?_
    exact n_sub [2, 3, 4, 5, 6, 1, 0] rfl (ih _ _ _ _ _ _)
def La_reached_B85 (w : Wd) (v5 : Int32) : Option Int32 := some v5
set_option maxRecDepth 100000 in
set_option maxHeartbeats 4000000 in
theorem La_reached_B85_ok {K : Ctx} (F : Fx K cX1_reached 7 RX1 (some .int) 2 46 true [3, 4]) (w : Wd) (v5 : Int32) : N K (rtP w) (La_reached_B85 w v5) w 85 [(5, .int v5)] [] := by
  rw [La_reached_B85]
  refine n_iload F dX1_reached_85 0 rfl ?_
  exact n_iret F rfl rfl dX1_reached_87
def La_reached (w : Wd) (a1 : Int32) (a2 : Int32) (a3 : Int32) (a4 : Int32) : Option Int32 := (La_reached_L6 w (La_reached_B85 w) FU a1 a2 a3 a4 (0 : Int32) (0 : Int32))
set_option maxRecDepth 100000 in
set_option maxHeartbeats 4000000 in
theorem ct_La_reached {l : Launch} {g : GG} {σ : Sd} (hg : OKg g σ) (hb : σ.2.1 = true) (hx : ∀ c ∈ ([3, 4] : List Nat), c ∈ σ.1) (w : Wd) (a1 : Int32) (a2 : Int32) (a3 : Int32) (a4 : Int32) {q : Int32} (hq : La_reached w a1 a2 a3 a4 = some q) : CT l g σ yX1_reached cX1_reached 7 (some .int) 2 46 [.ref (gA g 3), .int a1, .int a2, .int a3, .int a4] w (some (.int q)) w := by
  refine ct_of (rt := (rtP w)) (res := La_reached w a1 a2 a3 a4) (q := q) (own := RX1) (b := true) hg hb hx (by decide) rfl (Nat.le_of_ble_eq_true rfl) hq (fun K e1 e2 e3 F => ?_)
  subst e1 e2 e3
  rw [La_reached]
  show N K _ _ w 0 [(0, .ref (gA (cg K) 3)), (1, .int a1), (2, .int a2), (3, .int a3), (4, .int a4)] []
  refine n_iconst F (0 : Int32) dX1_reached_0 (by decide) ?_
  refine n_istore F (lv' := [(5, .int (0 : Int32)), (0, .ref (gA (cg K) 3)), (1, .int a1), (2, .int a2), (3, .int a3), (4, .int a4)]) dX1_reached_1 (by decide) rfl ?_
  refine n_iconst F (0 : Int32) dX1_reached_3 (by decide) ?_
  refine n_istore F (lv' := [(6, .int (0 : Int32)), (5, .int (0 : Int32)), (0, .ref (gA (cg K) 3)), (1, .int a1), (2, .int a2), (3, .int a3), (4, .int a4)]) dX1_reached_4 (by decide) rfl ?_
  exact n_sub [2, 3, 4, 5, 6, 1, 0] rfl (La_reached_L6_ok F w (La_reached_B85_ok F w) FU _ _ _ _ _ _)
theorem dX1_stuck_0 : decode cX1_stuck 0 = .ok (.iload_n 1, 1) := by decide +kernel
theorem dX1_stuck_1 : decode cX1_stuck 1 = .ok (.istore 4, 2) := by decide +kernel
theorem dX1_stuck_3 : decode cX1_stuck 3 = .ok (.iconst 0, 1) := by decide +kernel
theorem dX1_stuck_4 : decode cX1_stuck 4 = .ok (.istore 5, 2) := by decide +kernel
theorem dX1_stuck_6 : decode cX1_stuck 6 = .ok (.iload 5, 2) := by decide +kernel
theorem dX1_stuck_8 : decode cX1_stuck 8 = .ok (.aload_n 0, 1) := by decide +kernel
theorem dX1_stuck_9 : decode cX1_stuck 9 = .ok (.getfield 15, 3) := by decide +kernel
theorem dX1_stuck_12 : decode cX1_stuck 12 = .ok (.if_icmp .ge 49, 3) := by decide +kernel
theorem dX1_stuck_15 : decode cX1_stuck 15 = .ok (.aload_n 0, 1) := by decide +kernel
theorem dX1_stuck_16 : decode cX1_stuck 16 = .ok (.iload 5, 2) := by decide +kernel
theorem dX1_stuck_18 : decode cX1_stuck 18 = .ok (.iload_n 2, 1) := by decide +kernel
theorem dX1_stuck_19 : decode cX1_stuck 19 = .ok (.invokevirtual 58, 3) := by decide +kernel
theorem dX1_stuck_22 : decode cX1_stuck 22 = .ok (.ifCond .eq 33, 3) := by decide +kernel
theorem dX1_stuck_25 : decode cX1_stuck 25 = .ok (.iload_n 3, 1) := by decide +kernel
theorem dX1_stuck_26 : decode cX1_stuck 26 = .ok (.aload_n 0, 1) := by decide +kernel
theorem dX1_stuck_27 : decode cX1_stuck 27 = .ok (.iload 5, 2) := by decide +kernel
theorem dX1_stuck_29 : decode cX1_stuck 29 = .ok (.iconst 5, 1) := by decide +kernel
theorem dX1_stuck_30 : decode cX1_stuck 30 = .ok (.invokevirtual 54, 3) := by decide +kernel
theorem dX1_stuck_33 : decode cX1_stuck 33 = .ok (.invokestatic 65, 3) := by decide +kernel
theorem dX1_stuck_36 : decode cX1_stuck 36 = .ok (.ifCond .eq 19, 3) := by decide +kernel
theorem dX1_stuck_39 : decode cX1_stuck 39 = .ok (.iload 4, 2) := by decide +kernel
theorem dX1_stuck_41 : decode cX1_stuck 41 = .ok (.iconst 1, 1) := by decide +kernel
theorem dX1_stuck_42 : decode cX1_stuck 42 = .ok (.aload_n 0, 1) := by decide +kernel
theorem dX1_stuck_43 : decode cX1_stuck 43 = .ok (.iload 5, 2) := by decide +kernel
theorem dX1_stuck_45 : decode cX1_stuck 45 = .ok (.iconst 0, 1) := by decide +kernel
theorem dX1_stuck_46 : decode cX1_stuck 46 = .ok (.invokevirtual 54, 3) := by decide +kernel
theorem dX1_stuck_49 : decode cX1_stuck 49 = .ok (.ishl, 1) := by decide +kernel
theorem dX1_stuck_50 : decode cX1_stuck 50 = .ok (.iconst (-1), 1) := by decide +kernel
theorem dX1_stuck_51 : decode cX1_stuck 51 = .ok (.ixor, 1) := by decide +kernel
theorem dX1_stuck_52 : decode cX1_stuck 52 = .ok (.iand, 1) := by decide +kernel
theorem dX1_stuck_53 : decode cX1_stuck 53 = .ok (.istore 4, 2) := by decide +kernel
theorem dX1_stuck_55 : decode cX1_stuck 55 = .ok (.iinc 5 1, 3) := by decide +kernel
theorem dX1_stuck_58 : decode cX1_stuck 58 = .ok (.goto (-52), 3) := by decide +kernel
theorem dX1_stuck_61 : decode cX1_stuck 61 = .ok (.iload 4, 2) := by decide +kernel
theorem dX1_stuck_63 : decode cX1_stuck 63 = .ok (.ireturn, 1) := by decide +kernel
def La_stuck_L6 (w : Wd) (k61 : Int32 → Option Int32) : Nat → Int32 → Int32 → Int32 → Int32 → Option Int32
  | 0, _, _, _, _ => none
  | n + 1, v2, v3, v4, v5 => (if (w.1 3 1) ≤ v5 then (k61 v4) else (Option.bind (La_runsOn w v5 v2) (fun q2 => (if q2 = (0 : Int32) then (La_stuck_L6 w k61 n v2 v3 v4 (v5 + (1 : Int32))) else (Option.bind (La_part w v5 (5 : Int32)) (fun q4 => (if (Nt_hasBit w v3 q4) = (0 : Int32) then (La_stuck_L6 w k61 n v2 v3 v4 (v5 + (1 : Int32))) else (Option.bind (La_part w v5 (0 : Int32)) (fun q6 => (La_stuck_L6 w k61 n v2 v3 (v4 &&& (((1 : Int32) <<< (q6 &&& (31 : Int32))) ^^^ (-1 : Int32))) (v5 + (1 : Int32))))))))))))
set_option maxRecDepth 100000 in
set_option maxHeartbeats 4000000 in
theorem La_stuck_L6_ok {K : Ctx} (F : Fx K cX1_stuck 6 RX1 (some .int) 2 46 true [3, 4]) (w : Wd) {k61 : Int32 → Option Int32} (h61 : ∀ (v4 : Int32), N K (rtP w) (k61 v4) w 61 [(4, .int v4)] []) : ∀ (n : Nat) (v2 : Int32) (v3 : Int32) (v4 : Int32) (v5 : Int32), N K (rtP w) (La_stuck_L6 w k61 n v2 v3 v4 v5) w 6 [(0, .ref (gA (cg K) 3)), (2, .int v2), (3, .int v3), (4, .int v4), (5, .int v5)] [] := by
  intro n
  induction n with
  | zero => intro _ _ _ _; exact n_none
  | succ n ih =>
    intro v2 v3 v4 v5
    rw [La_stuck_L6]
    refine n_iload F dX1_stuck_6 4 rfl ?_
    refine n_aload_n F dX1_stuck_8 rfl 0 rfl ?_
    refine n_get F ck_1 lf_RX1_15 (by decide) fg_3_1 (by decide) dX1_stuck_9 ?_
    refine n_icmp_ge F 61 dX1_stuck_12 (by decide) (fun e1 => ?_) (fun e1 => ?_)
    · rw [if_pos e1]
      exact n_sub [3] rfl (h61 _)
    rw [if_neg e1]
    refine n_aload_n F dX1_stuck_15 rfl 0 rfl ?_
    refine n_iload F dX1_stuck_16 4 rfl ?_
    refine n_iload_n F dX1_stuck_18 rfl 1 rfl ?_
    refine n_bind (fun q2 hq2 => ?_)
    refine n_callVi F cb_X1_runsOn lm_RX1_58 ob_3 (by decide) ⟨_, _, rfl⟩ (ct_La_runsOn (fx_ok F) (fx_sd F) (fx_ix F rfl) w v5 v2 hq2) rfl rfl (Nat.le_of_ble_eq_true rfl) ⟨Nat.le_of_ble_eq_true rfl, Nat.le_of_ble_eq_true rfl⟩ dX1_stuck_19 ?_
    refine n_if_eq F 55 dX1_stuck_22 (by decide) (fun e3 => ?_) (fun e3 => ?_)
    · rw [if_pos e3]
      refine n_iinc F (v5 + (1 : Int32)) (lv' := [(5, .int (v5 + (1 : Int32))), (0, .ref (gA (cg K) 3)), (2, .int v2), (3, .int v3), (4, .int v4)]) dX1_stuck_55 4 rfl rfl (by decide) rfl ?_
      refine n_goto F 6 dX1_stuck_58 (by decide) ?_
      exact n_sub [1, 2, 3, 4, 0] rfl (ih _ _ _ _)
    rw [if_neg e3]
    refine n_iload_n F dX1_stuck_25 rfl 2 rfl ?_
    refine n_aload_n F dX1_stuck_26 rfl 0 rfl ?_
    refine n_iload F dX1_stuck_27 4 rfl ?_
    refine n_iconst F (5 : Int32) dX1_stuck_29 (by decide) ?_
    refine n_bind (fun q4 hq4 => ?_)
    refine n_callVi F cb_X1_part lm_RX1_54 ob_3 (by decide) ⟨_, _, rfl⟩ (ct_La_part (fx_ok F) (fx_sd F) (fx_ix F rfl) w v5 (5 : Int32) hq4) rfl rfl (Nat.le_of_ble_eq_true rfl) ⟨Nat.le_of_ble_eq_true rfl, Nat.le_of_ble_eq_true rfl⟩ dX1_stuck_30 ?_
    refine n_callSNi F cb_X7_hasBit lm_RX1_65 (ct_Nt_hasBit (fx_ok F) (fx_sd F) (fx_ix F rfl) w v3 q4) rfl rfl (Nat.le_of_ble_eq_true rfl) ⟨Nat.le_of_ble_eq_true rfl, Nat.le_of_ble_eq_true rfl⟩ dX1_stuck_33 ?_
    refine n_if_eq F 55 dX1_stuck_36 (by decide) (fun e5 => ?_) (fun e5 => ?_)
    · rw [if_pos e5]
      refine n_iinc F (v5 + (1 : Int32)) (lv' := [(5, .int (v5 + (1 : Int32))), (0, .ref (gA (cg K) 3)), (2, .int v2), (3, .int v3), (4, .int v4)]) dX1_stuck_55 4 rfl rfl (by decide) rfl ?_
      refine n_goto F 6 dX1_stuck_58 (by decide) ?_
      exact n_sub [1, 2, 3, 4, 0] rfl (ih _ _ _ _)
    rw [if_neg e5]
    refine n_iload F dX1_stuck_39 3 rfl ?_
    refine n_iconst F (1 : Int32) dX1_stuck_41 (by decide) ?_
    refine n_aload_n F dX1_stuck_42 rfl 0 rfl ?_
    refine n_iload F dX1_stuck_43 4 rfl ?_
    refine n_iconst F (0 : Int32) dX1_stuck_45 (by decide) ?_
    refine n_bind (fun q6 hq6 => ?_)
    refine n_callVi F cb_X1_part lm_RX1_54 ob_3 (by decide) ⟨_, _, rfl⟩ (ct_La_part (fx_ok F) (fx_sd F) (fx_ix F rfl) w v5 (0 : Int32) hq6) rfl rfl (Nat.le_of_ble_eq_true rfl) ⟨Nat.le_of_ble_eq_true rfl, Nat.le_of_ble_eq_true rfl⟩ dX1_stuck_46 ?_
    refine n_ishl F dX1_stuck_49 ?_
    refine n_iconst F (-1 : Int32) dX1_stuck_50 (by decide) ?_
    refine n_ixor F dX1_stuck_51 ?_
    refine n_iand F dX1_stuck_52 ?_
    refine n_istore F (lv' := [(4, .int (v4 &&& (((1 : Int32) <<< (q6 &&& (31 : Int32))) ^^^ (-1 : Int32)))), (0, .ref (gA (cg K) 3)), (2, .int v2), (3, .int v3), (5, .int v5)]) dX1_stuck_53 (by decide) rfl ?_
    refine n_iinc F (v5 + (1 : Int32)) (lv' := [(5, .int (v5 + (1 : Int32))), (4, .int (v4 &&& (((1 : Int32) <<< (q6 &&& (31 : Int32))) ^^^ (-1 : Int32)))), (0, .ref (gA (cg K) 3)), (2, .int v2), (3, .int v3)]) dX1_stuck_55 4 rfl rfl (by decide) rfl ?_
    refine n_goto F 6 dX1_stuck_58 (by decide) ?_
    exact n_sub [2, 3, 4, 1, 0] rfl (ih _ _ _ _)
def La_stuck_B61 (w : Wd) (v4 : Int32) : Option Int32 := some v4
set_option maxRecDepth 100000 in
set_option maxHeartbeats 4000000 in
theorem La_stuck_B61_ok {K : Ctx} (F : Fx K cX1_stuck 6 RX1 (some .int) 2 46 true [3, 4]) (w : Wd) (v4 : Int32) : N K (rtP w) (La_stuck_B61 w v4) w 61 [(4, .int v4)] [] := by
  rw [La_stuck_B61]
  refine n_iload F dX1_stuck_61 0 rfl ?_
  exact n_iret F rfl rfl dX1_stuck_63
def La_stuck (w : Wd) (a1 : Int32) (a2 : Int32) (a3 : Int32) : Option Int32 := (La_stuck_L6 w (La_stuck_B61 w) FU a2 a3 a1 (0 : Int32))
set_option maxRecDepth 100000 in
set_option maxHeartbeats 4000000 in
theorem ct_La_stuck {l : Launch} {g : GG} {σ : Sd} (hg : OKg g σ) (hb : σ.2.1 = true) (hx : ∀ c ∈ ([3, 4] : List Nat), c ∈ σ.1) (w : Wd) (a1 : Int32) (a2 : Int32) (a3 : Int32) {q : Int32} (hq : La_stuck w a1 a2 a3 = some q) : CT l g σ yX1_stuck cX1_stuck 6 (some .int) 2 46 [.ref (gA g 3), .int a1, .int a2, .int a3] w (some (.int q)) w := by
  refine ct_of (rt := (rtP w)) (res := La_stuck w a1 a2 a3) (q := q) (own := RX1) (b := true) hg hb hx (by decide) rfl (Nat.le_of_ble_eq_true rfl) hq (fun K e1 e2 e3 F => ?_)
  subst e1 e2 e3
  rw [La_stuck]
  show N K _ _ w 0 [(0, .ref (gA (cg K) 3)), (1, .int a1), (2, .int a2), (3, .int a3)] []
  refine n_iload_n F dX1_stuck_0 rfl 1 rfl ?_
  refine n_istore F (lv' := [(4, .int a1), (0, .ref (gA (cg K) 3)), (1, .int a1), (2, .int a2), (3, .int a3)]) dX1_stuck_1 (by decide) rfl ?_
  refine n_iconst F (0 : Int32) dX1_stuck_3 (by decide) ?_
  refine n_istore F (lv' := [(5, .int (0 : Int32)), (4, .int a1), (0, .ref (gA (cg K) 3)), (1, .int a1), (2, .int a2), (3, .int a3)]) dX1_stuck_4 (by decide) rfl ?_
  exact n_sub [2, 4, 5, 1, 0] rfl (La_stuck_L6_ok F w (La_stuck_B61_ok F w) FU _ _ _ _)
theorem dX5_nextBits_0 : decode cX5_nextBits 0 = .ok (.aload_n 0, 1) := by decide +kernel
theorem dX5_nextBits_1 : decode cX5_nextBits 1 = .ok (.invokevirtual 88, 3) := by decide +kernel
theorem dX5_nextBits_4 : decode cX5_nextBits 4 = .ok (.istore_n 1, 1) := by decide +kernel
theorem dX5_nextBits_5 : decode cX5_nextBits 5 = .ok (.aload_n 0, 1) := by decide +kernel
theorem dX5_nextBits_6 : decode cX5_nextBits 6 = .ok (.getfield 21, 3) := by decide +kernel
theorem dX5_nextBits_9 : decode cX5_nextBits 9 = .ok (.aload_n 0, 1) := by decide +kernel
theorem dX5_nextBits_10 : decode cX5_nextBits 10 = .ok (.getfield 62, 3) := by decide +kernel
theorem dX5_nextBits_13 : decode cX5_nextBits 13 = .ok (.aload_n 0, 1) := by decide +kernel
theorem dX5_nextBits_14 : decode cX5_nextBits 14 = .ok (.getfield 28, 3) := by decide +kernel
theorem dX5_nextBits_17 : decode cX5_nextBits 17 = .ok (.iload_n 1, 1) := by decide +kernel
theorem dX5_nextBits_18 : decode cX5_nextBits 18 = .ok (.iconst 1, 1) := by decide +kernel
theorem dX5_nextBits_19 : decode cX5_nextBits 19 = .ok (.invokevirtual 106, 3) := by decide +kernel
theorem dX5_nextBits_22 : decode cX5_nextBits 22 = .ok (.aload_n 0, 1) := by decide +kernel
theorem dX5_nextBits_23 : decode cX5_nextBits 23 = .ok (.getfield 21, 3) := by decide +kernel
theorem dX5_nextBits_26 : decode cX5_nextBits 26 = .ok (.aload_n 0, 1) := by decide +kernel
theorem dX5_nextBits_27 : decode cX5_nextBits 27 = .ok (.getfield 62, 3) := by decide +kernel
theorem dX5_nextBits_30 : decode cX5_nextBits 30 = .ok (.aload_n 0, 1) := by decide +kernel
theorem dX5_nextBits_31 : decode cX5_nextBits 31 = .ok (.getfield 28, 3) := by decide +kernel
theorem dX5_nextBits_34 : decode cX5_nextBits 34 = .ok (.iload_n 1, 1) := by decide +kernel
theorem dX5_nextBits_35 : decode cX5_nextBits 35 = .ok (.invokevirtual 110, 3) := by decide +kernel
theorem dX5_nextBits_38 : decode cX5_nextBits 38 = .ok (.ior, 1) := by decide +kernel
theorem dX5_nextBits_39 : decode cX5_nextBits 39 = .ok (.aload_n 0, 1) := by decide +kernel
theorem dX5_nextBits_40 : decode cX5_nextBits 40 = .ok (.getfield 65, 3) := by decide +kernel
theorem dX5_nextBits_43 : decode cX5_nextBits 43 = .ok (.ior, 1) := by decide +kernel
theorem dX5_nextBits_44 : decode cX5_nextBits 44 = .ok (.ireturn, 1) := by decide +kernel
def Sc_nextBits (w : Wd) : Option Int32 := (Option.bind (Sc_kindsLeft w) (fun q1 => (Option.bind (La_reached w (w.1 13 9) (w.1 13 1) q1 (1 : Int32)) (fun q2 => (Option.bind (La_stuck w (w.1 13 9) (w.1 13 1) q1) (fun q3 => some ((q2 ||| q3) ||| (w.1 13 10))))))))
set_option maxRecDepth 100000 in
set_option maxHeartbeats 4000000 in
theorem ct_Sc_nextBits {l : Launch} {g : GG} {σ : Sd} (hg : OKg g σ) (hb : σ.2.1 = true) (hx : ∀ c ∈ ([3, 4, 13, 14] : List Nat), c ∈ σ.1) (w : Wd) {q : Int32} (hq : Sc_nextBits w = some q) : CT l g σ yX5_nextBits cX5_nextBits 2 (some .int) 3 72 [.ref (gA g 13)] w (some (.int q)) w := by
  refine ct_of (rt := (rtP w)) (res := Sc_nextBits w) (q := q) (own := RX5) (b := true) hg hb hx (by decide) rfl (Nat.le_of_ble_eq_true rfl) hq (fun K e1 e2 e3 F => ?_)
  subst e1 e2 e3
  rw [Sc_nextBits]
  show N K _ _ w 0 [(0, .ref (gA (cg K) 13))] []
  refine n_aload_n F dX5_nextBits_0 rfl 0 rfl ?_
  refine n_bind (fun q1 hq1 => ?_)
  refine n_callVi F cb_X5_kindsLeft lm_RX5_88 ob_13 (by decide) ⟨_, _, rfl⟩ (ct_Sc_kindsLeft (fx_ok F) (fx_sd F) (fx_ix F rfl) w hq1) rfl rfl (Nat.le_of_ble_eq_true rfl) ⟨Nat.le_of_ble_eq_true rfl, Nat.le_of_ble_eq_true rfl⟩ dX5_nextBits_1 ?_
  refine n_istore_n F (lv' := [(1, .int q1), (0, .ref (gA (cg K) 13))]) dX5_nextBits_4 rfl (by decide) rfl ?_
  refine n_aload_n F dX5_nextBits_5 rfl 1 rfl ?_
  refine n_get F ck_5 lf_RX5_21 (by decide) fg_13_0 (by decide) dX5_nextBits_6 ?_
  refine n_aload_n F dX5_nextBits_9 rfl 1 rfl ?_
  refine n_get F ck_5 lf_RX5_62 (by decide) fg_13_9 (by decide) dX5_nextBits_10 ?_
  refine n_aload_n F dX5_nextBits_13 rfl 1 rfl ?_
  refine n_get F ck_5 lf_RX5_28 (by decide) fg_13_1 (by decide) dX5_nextBits_14 ?_
  refine n_iload_n F dX5_nextBits_17 rfl 0 rfl ?_
  refine n_iconst F (1 : Int32) dX5_nextBits_18 (by decide) ?_
  refine n_bind (fun q2 hq2 => ?_)
  refine n_callVi F cb_X1_reached lm_RX5_106 ob_3 (by decide) ⟨_, _, rfl⟩ (ct_La_reached (fx_ok F) (fx_sd F) (fx_ix F rfl) w (w.1 13 9) (w.1 13 1) q1 (1 : Int32) hq2) rfl rfl (Nat.le_of_ble_eq_true rfl) ⟨Nat.le_of_ble_eq_true rfl, Nat.le_of_ble_eq_true rfl⟩ dX5_nextBits_19 ?_
  refine n_aload_n F dX5_nextBits_22 rfl 1 rfl ?_
  refine n_get F ck_5 lf_RX5_21 (by decide) fg_13_0 (by decide) dX5_nextBits_23 ?_
  refine n_aload_n F dX5_nextBits_26 rfl 1 rfl ?_
  refine n_get F ck_5 lf_RX5_62 (by decide) fg_13_9 (by decide) dX5_nextBits_27 ?_
  refine n_aload_n F dX5_nextBits_30 rfl 1 rfl ?_
  refine n_get F ck_5 lf_RX5_28 (by decide) fg_13_1 (by decide) dX5_nextBits_31 ?_
  refine n_iload_n F dX5_nextBits_34 rfl 0 rfl ?_
  refine n_bind (fun q3 hq3 => ?_)
  refine n_callVi F cb_X1_stuck lm_RX5_110 ob_3 (by decide) ⟨_, _, rfl⟩ (ct_La_stuck (fx_ok F) (fx_sd F) (fx_ix F rfl) w (w.1 13 9) (w.1 13 1) q1 hq3) rfl rfl (Nat.le_of_ble_eq_true rfl) ⟨Nat.le_of_ble_eq_true rfl, Nat.le_of_ble_eq_true rfl⟩ dX5_nextBits_35 ?_
  refine n_ior F dX5_nextBits_38 ?_
  refine n_aload_n F dX5_nextBits_39 rfl 1 rfl ?_
  refine n_get F ck_5 lf_RX5_65 (by decide) fg_13_10 (by decide) dX5_nextBits_40 ?_
  refine n_ior F dX5_nextBits_43 ?_
  exact n_iret F rfl rfl dX5_nextBits_44
theorem dX0_choices_0 : decode cX0_choices 0 = .ok (.iload_n 1, 1) := by decide +kernel
theorem dX0_choices_1 : decode cX0_choices 1 = .ok (.iconst (-1), 1) := by decide +kernel
theorem dX0_choices_2 : decode cX0_choices 2 = .ok (.if_icmp .ne 7, 3) := by decide +kernel
theorem dX0_choices_5 : decode cX0_choices 5 = .ok (.sipush 128, 3) := by decide +kernel
theorem dX0_choices_8 : decode cX0_choices 8 = .ok (.ireturn, 1) := by decide +kernel
theorem dX0_choices_9 : decode cX0_choices 9 = .ok (.iconst 1, 1) := by decide +kernel
theorem dX0_choices_10 : decode cX0_choices 10 = .ok (.iload_n 1, 1) := by decide +kernel
theorem dX0_choices_11 : decode cX0_choices 11 = .ok (.ishl, 1) := by decide +kernel
theorem dX0_choices_12 : decode cX0_choices 12 = .ok (.istore_n 2, 1) := by decide +kernel
theorem dX0_choices_13 : decode cX0_choices 13 = .ok (.iload_n 2, 1) := by decide +kernel
theorem dX0_choices_14 : decode cX0_choices 14 = .ok (.aload_n 0, 1) := by decide +kernel
theorem dX0_choices_15 : decode cX0_choices 15 = .ok (.getfield 9, 3) := by decide +kernel
theorem dX0_choices_18 : decode cX0_choices 18 = .ok (.iload_n 2, 1) := by decide +kernel
theorem dX0_choices_19 : decode cX0_choices 19 = .ok (.aload_n 0, 1) := by decide +kernel
theorem dX0_choices_20 : decode cX0_choices 20 = .ok (.getfield 15, 3) := by decide +kernel
theorem dX0_choices_23 : decode cX0_choices 23 = .ok (.getfield 52, 3) := by decide +kernel
theorem dX0_choices_26 : decode cX0_choices 26 = .ok (.bipush 7, 2) := by decide +kernel
theorem dX0_choices_28 : decode cX0_choices 28 = .ok (.iconst 1, 1) := by decide +kernel
theorem dX0_choices_29 : decode cX0_choices 29 = .ok (.invokevirtual 55, 3) := by decide +kernel
theorem dX0_choices_32 : decode cX0_choices 32 = .ok (.ior, 1) := by decide +kernel
theorem dX0_choices_33 : decode cX0_choices 33 = .ok (.ireturn, 1) := by decide +kernel
def Fs_choices (w : Wd) (a1 : Int32) : Option Int32 := (if a1 = (-1 : Int32) then some (128 : Int32) else (Option.bind (La_reached w ((1 : Int32) <<< (a1 &&& (31 : Int32))) (w.1 13 1) (7 : Int32) (1 : Int32)) (fun q2 => some (((1 : Int32) <<< (a1 &&& (31 : Int32))) ||| q2))))
set_option maxRecDepth 100000 in
set_option maxHeartbeats 4000000 in
theorem ct_Fs_choices {l : Launch} {g : GG} {σ : Sd} (hg : OKg g σ) (hb : σ.2.1 = true) (hx : ∀ c ∈ ([3, 4, 13, 25] : List Nat), c ∈ σ.1) (w : Wd) (a1 : Int32) {q : Int32} (hq : Fs_choices w a1 = some q) : CT l g σ yX0_choices cX0_choices 3 (some .int) 3 72 [.ref (gA g 25), .int a1] w (some (.int q)) w := by
  refine ct_of (rt := (rtP w)) (res := Fs_choices w a1) (q := q) (own := RX0) (b := true) hg hb hx (by decide) rfl (Nat.le_of_ble_eq_true rfl) hq (fun K e1 e2 e3 F => ?_)
  subst e1 e2 e3
  rw [Fs_choices]
  show N K _ _ w 0 [(0, .ref (gA (cg K) 25)), (1, .int a1)] []
  refine n_iload_n F dX0_choices_0 rfl 1 rfl ?_
  refine n_iconst F (-1 : Int32) dX0_choices_1 (by decide) ?_
  refine n_icmp_ne F 9 dX0_choices_2 (by decide) (fun e1 => ?_) (fun e1 => ?_)
  · rw [if_neg e1]
    refine n_iconst F (1 : Int32) dX0_choices_9 (by decide) ?_
    refine n_iload_n F dX0_choices_10 rfl 1 rfl ?_
    refine n_ishl F dX0_choices_11 ?_
    refine n_istore_n F (lv' := [(2, .int ((1 : Int32) <<< (a1 &&& (31 : Int32)))), (0, .ref (gA (cg K) 25)), (1, .int a1)]) dX0_choices_12 rfl (by decide) rfl ?_
    refine n_iload_n F dX0_choices_13 rfl 0 rfl ?_
    refine n_aload_n F dX0_choices_14 rfl 1 rfl ?_
    refine n_get F ck_0 lf_RX0_9 (by decide) fg_25_0 (by decide) dX0_choices_15 ?_
    refine n_iload_n F dX0_choices_18 rfl 0 rfl ?_
    refine n_aload_n F dX0_choices_19 rfl 1 rfl ?_
    refine n_get F ck_0 lf_RX0_15 (by decide) fg_25_1 (by decide) dX0_choices_20 ?_
    refine n_get F ck_5 lf_RX0_52 (by decide) fg_13_1 (by decide) dX0_choices_23 ?_
    refine n_bipush F (7 : Int32) dX0_choices_26 (by decide) ?_
    refine n_iconst F (1 : Int32) dX0_choices_28 (by decide) ?_
    refine n_bind (fun q2 hq2 => ?_)
    refine n_callVi F cb_X1_reached lm_RX0_55 ob_3 (by decide) ⟨_, _, rfl⟩ (ct_La_reached (fx_ok F) (fx_sd F) (fx_ix F rfl) w ((1 : Int32) <<< (a1 &&& (31 : Int32))) (w.1 13 1) (7 : Int32) (1 : Int32) hq2) rfl rfl (Nat.le_of_ble_eq_true rfl) ⟨Nat.le_of_ble_eq_true rfl, Nat.le_of_ble_eq_true rfl⟩ dX0_choices_29 ?_
    refine n_ior F dX0_choices_32 ?_
    exact n_iret F rfl rfl dX0_choices_33
  rw [if_pos e1]
  refine n_sipush F (128 : Int32) dX0_choices_5 (by decide) ?_
  exact n_iret F rfl rfl dX0_choices_8
theorem dJ6_bitCount_0f7a4_0 : decode cJ6_bitCount_0f7a4 0 = .ok (.iload_n 0, 1) := by decide +kernel
theorem dJ6_bitCount_0f7a4_1 : decode cJ6_bitCount_0f7a4 1 = .ok (.iload_n 0, 1) := by decide +kernel
theorem dJ6_bitCount_0f7a4_2 : decode cJ6_bitCount_0f7a4 2 = .ok (.iconst 1, 1) := by decide +kernel
theorem dJ6_bitCount_0f7a4_3 : decode cJ6_bitCount_0f7a4 3 = .ok (.iushr, 1) := by decide +kernel
theorem dJ6_bitCount_0f7a4_4 : decode cJ6_bitCount_0f7a4 4 = .ok (.ldc_w 265, 3) := by decide +kernel
theorem dJ6_bitCount_0f7a4_7 : decode cJ6_bitCount_0f7a4 7 = .ok (.iand, 1) := by decide +kernel
theorem dJ6_bitCount_0f7a4_8 : decode cJ6_bitCount_0f7a4 8 = .ok (.isub, 1) := by decide +kernel
theorem dJ6_bitCount_0f7a4_9 : decode cJ6_bitCount_0f7a4 9 = .ok (.istore_n 0, 1) := by decide +kernel
theorem dJ6_bitCount_0f7a4_10 : decode cJ6_bitCount_0f7a4 10 = .ok (.iload_n 0, 1) := by decide +kernel
theorem dJ6_bitCount_0f7a4_11 : decode cJ6_bitCount_0f7a4 11 = .ok (.ldc_w 266, 3) := by decide +kernel
theorem dJ6_bitCount_0f7a4_14 : decode cJ6_bitCount_0f7a4 14 = .ok (.iand, 1) := by decide +kernel
theorem dJ6_bitCount_0f7a4_15 : decode cJ6_bitCount_0f7a4 15 = .ok (.iload_n 0, 1) := by decide +kernel
theorem dJ6_bitCount_0f7a4_16 : decode cJ6_bitCount_0f7a4 16 = .ok (.iconst 2, 1) := by decide +kernel
theorem dJ6_bitCount_0f7a4_17 : decode cJ6_bitCount_0f7a4 17 = .ok (.iushr, 1) := by decide +kernel
theorem dJ6_bitCount_0f7a4_18 : decode cJ6_bitCount_0f7a4 18 = .ok (.ldc_w 266, 3) := by decide +kernel
theorem dJ6_bitCount_0f7a4_21 : decode cJ6_bitCount_0f7a4 21 = .ok (.iand, 1) := by decide +kernel
theorem dJ6_bitCount_0f7a4_22 : decode cJ6_bitCount_0f7a4 22 = .ok (.iadd, 1) := by decide +kernel
theorem dJ6_bitCount_0f7a4_23 : decode cJ6_bitCount_0f7a4 23 = .ok (.istore_n 0, 1) := by decide +kernel
theorem dJ6_bitCount_0f7a4_24 : decode cJ6_bitCount_0f7a4 24 = .ok (.iload_n 0, 1) := by decide +kernel
theorem dJ6_bitCount_0f7a4_25 : decode cJ6_bitCount_0f7a4 25 = .ok (.iload_n 0, 1) := by decide +kernel
theorem dJ6_bitCount_0f7a4_26 : decode cJ6_bitCount_0f7a4 26 = .ok (.iconst 4, 1) := by decide +kernel
theorem dJ6_bitCount_0f7a4_27 : decode cJ6_bitCount_0f7a4 27 = .ok (.iushr, 1) := by decide +kernel
theorem dJ6_bitCount_0f7a4_28 : decode cJ6_bitCount_0f7a4 28 = .ok (.iadd, 1) := by decide +kernel
theorem dJ6_bitCount_0f7a4_29 : decode cJ6_bitCount_0f7a4 29 = .ok (.ldc_w 267, 3) := by decide +kernel
theorem dJ6_bitCount_0f7a4_32 : decode cJ6_bitCount_0f7a4 32 = .ok (.iand, 1) := by decide +kernel
theorem dJ6_bitCount_0f7a4_33 : decode cJ6_bitCount_0f7a4 33 = .ok (.istore_n 0, 1) := by decide +kernel
theorem dJ6_bitCount_0f7a4_34 : decode cJ6_bitCount_0f7a4 34 = .ok (.iload_n 0, 1) := by decide +kernel
theorem dJ6_bitCount_0f7a4_35 : decode cJ6_bitCount_0f7a4 35 = .ok (.iload_n 0, 1) := by decide +kernel
theorem dJ6_bitCount_0f7a4_36 : decode cJ6_bitCount_0f7a4 36 = .ok (.bipush 8, 2) := by decide +kernel
theorem dJ6_bitCount_0f7a4_38 : decode cJ6_bitCount_0f7a4 38 = .ok (.iushr, 1) := by decide +kernel
theorem dJ6_bitCount_0f7a4_39 : decode cJ6_bitCount_0f7a4 39 = .ok (.iadd, 1) := by decide +kernel
theorem dJ6_bitCount_0f7a4_40 : decode cJ6_bitCount_0f7a4 40 = .ok (.istore_n 0, 1) := by decide +kernel
theorem dJ6_bitCount_0f7a4_41 : decode cJ6_bitCount_0f7a4 41 = .ok (.iload_n 0, 1) := by decide +kernel
theorem dJ6_bitCount_0f7a4_42 : decode cJ6_bitCount_0f7a4 42 = .ok (.iload_n 0, 1) := by decide +kernel
theorem dJ6_bitCount_0f7a4_43 : decode cJ6_bitCount_0f7a4 43 = .ok (.bipush 16, 2) := by decide +kernel
theorem dJ6_bitCount_0f7a4_45 : decode cJ6_bitCount_0f7a4 45 = .ok (.iushr, 1) := by decide +kernel
theorem dJ6_bitCount_0f7a4_46 : decode cJ6_bitCount_0f7a4 46 = .ok (.iadd, 1) := by decide +kernel
theorem dJ6_bitCount_0f7a4_47 : decode cJ6_bitCount_0f7a4 47 = .ok (.istore_n 0, 1) := by decide +kernel
theorem dJ6_bitCount_0f7a4_48 : decode cJ6_bitCount_0f7a4 48 = .ok (.iload_n 0, 1) := by decide +kernel
theorem dJ6_bitCount_0f7a4_49 : decode cJ6_bitCount_0f7a4 49 = .ok (.bipush 63, 2) := by decide +kernel
theorem dJ6_bitCount_0f7a4_51 : decode cJ6_bitCount_0f7a4 51 = .ok (.iand, 1) := by decide +kernel
theorem dJ6_bitCount_0f7a4_52 : decode cJ6_bitCount_0f7a4 52 = .ok (.ireturn, 1) := by decide +kernel
def Jd_bitCount (w : Wd) (a1 : Int32) : Int32 := ((((((((a1 - ((UInt32.toInt32 (Int32.toUInt32 a1 >>> (Int32.toUInt32 (1 : Int32) &&& Int32.toUInt32 (31 : Int32)))) &&& (1431655765 : Int32))) &&& (858993459 : Int32)) + ((UInt32.toInt32 (Int32.toUInt32 (a1 - ((UInt32.toInt32 (Int32.toUInt32 a1 >>> (Int32.toUInt32 (1 : Int32) &&& Int32.toUInt32 (31 : Int32)))) &&& (1431655765 : Int32))) >>> (Int32.toUInt32 (2 : Int32) &&& Int32.toUInt32 (31 : Int32)))) &&& (858993459 : Int32))) + (UInt32.toInt32 (Int32.toUInt32 (((a1 - ((UInt32.toInt32 (Int32.toUInt32 a1 >>> (Int32.toUInt32 (1 : Int32) &&& Int32.toUInt32 (31 : Int32)))) &&& (1431655765 : Int32))) &&& (858993459 : Int32)) + ((UInt32.toInt32 (Int32.toUInt32 (a1 - ((UInt32.toInt32 (Int32.toUInt32 a1 >>> (Int32.toUInt32 (1 : Int32) &&& Int32.toUInt32 (31 : Int32)))) &&& (1431655765 : Int32))) >>> (Int32.toUInt32 (2 : Int32) &&& Int32.toUInt32 (31 : Int32)))) &&& (858993459 : Int32))) >>> (Int32.toUInt32 (4 : Int32) &&& Int32.toUInt32 (31 : Int32))))) &&& (252645135 : Int32)) + (UInt32.toInt32 (Int32.toUInt32 (((((a1 - ((UInt32.toInt32 (Int32.toUInt32 a1 >>> (Int32.toUInt32 (1 : Int32) &&& Int32.toUInt32 (31 : Int32)))) &&& (1431655765 : Int32))) &&& (858993459 : Int32)) + ((UInt32.toInt32 (Int32.toUInt32 (a1 - ((UInt32.toInt32 (Int32.toUInt32 a1 >>> (Int32.toUInt32 (1 : Int32) &&& Int32.toUInt32 (31 : Int32)))) &&& (1431655765 : Int32))) >>> (Int32.toUInt32 (2 : Int32) &&& Int32.toUInt32 (31 : Int32)))) &&& (858993459 : Int32))) + (UInt32.toInt32 (Int32.toUInt32 (((a1 - ((UInt32.toInt32 (Int32.toUInt32 a1 >>> (Int32.toUInt32 (1 : Int32) &&& Int32.toUInt32 (31 : Int32)))) &&& (1431655765 : Int32))) &&& (858993459 : Int32)) + ((UInt32.toInt32 (Int32.toUInt32 (a1 - ((UInt32.toInt32 (Int32.toUInt32 a1 >>> (Int32.toUInt32 (1 : Int32) &&& Int32.toUInt32 (31 : Int32)))) &&& (1431655765 : Int32))) >>> (Int32.toUInt32 (2 : Int32) &&& Int32.toUInt32 (31 : Int32)))) &&& (858993459 : Int32))) >>> (Int32.toUInt32 (4 : Int32) &&& Int32.toUInt32 (31 : Int32))))) &&& (252645135 : Int32)) >>> (Int32.toUInt32 (8 : Int32) &&& Int32.toUInt32 (31 : Int32))))) + (UInt32.toInt32 (Int32.toUInt32 ((((((a1 - ((UInt32.toInt32 (Int32.toUInt32 a1 >>> (Int32.toUInt32 (1 : Int32) &&& Int32.toUInt32 (31 : Int32)))) &&& (1431655765 : Int32))) &&& (858993459 : Int32)) + ((UInt32.toInt32 (Int32.toUInt32 (a1 - ((UInt32.toInt32 (Int32.toUInt32 a1 >>> (Int32.toUInt32 (1 : Int32) &&& Int32.toUInt32 (31 : Int32)))) &&& (1431655765 : Int32))) >>> (Int32.toUInt32 (2 : Int32) &&& Int32.toUInt32 (31 : Int32)))) &&& (858993459 : Int32))) + (UInt32.toInt32 (Int32.toUInt32 (((a1 - ((UInt32.toInt32 (Int32.toUInt32 a1 >>> (Int32.toUInt32 (1 : Int32) &&& Int32.toUInt32 (31 : Int32)))) &&& (1431655765 : Int32))) &&& (858993459 : Int32)) + ((UInt32.toInt32 (Int32.toUInt32 (a1 - ((UInt32.toInt32 (Int32.toUInt32 a1 >>> (Int32.toUInt32 (1 : Int32) &&& Int32.toUInt32 (31 : Int32)))) &&& (1431655765 : Int32))) >>> (Int32.toUInt32 (2 : Int32) &&& Int32.toUInt32 (31 : Int32)))) &&& (858993459 : Int32))) >>> (Int32.toUInt32 (4 : Int32) &&& Int32.toUInt32 (31 : Int32))))) &&& (252645135 : Int32)) + (UInt32.toInt32 (Int32.toUInt32 (((((a1 - ((UInt32.toInt32 (Int32.toUInt32 a1 >>> (Int32.toUInt32 (1 : Int32) &&& Int32.toUInt32 (31 : Int32)))) &&& (1431655765 : Int32))) &&& (858993459 : Int32)) + ((UInt32.toInt32 (Int32.toUInt32 (a1 - ((UInt32.toInt32 (Int32.toUInt32 a1 >>> (Int32.toUInt32 (1 : Int32) &&& Int32.toUInt32 (31 : Int32)))) &&& (1431655765 : Int32))) >>> (Int32.toUInt32 (2 : Int32) &&& Int32.toUInt32 (31 : Int32)))) &&& (858993459 : Int32))) + (UInt32.toInt32 (Int32.toUInt32 (((a1 - ((UInt32.toInt32 (Int32.toUInt32 a1 >>> (Int32.toUInt32 (1 : Int32) &&& Int32.toUInt32 (31 : Int32)))) &&& (1431655765 : Int32))) &&& (858993459 : Int32)) + ((UInt32.toInt32 (Int32.toUInt32 (a1 - ((UInt32.toInt32 (Int32.toUInt32 a1 >>> (Int32.toUInt32 (1 : Int32) &&& Int32.toUInt32 (31 : Int32)))) &&& (1431655765 : Int32))) >>> (Int32.toUInt32 (2 : Int32) &&& Int32.toUInt32 (31 : Int32)))) &&& (858993459 : Int32))) >>> (Int32.toUInt32 (4 : Int32) &&& Int32.toUInt32 (31 : Int32))))) &&& (252645135 : Int32)) >>> (Int32.toUInt32 (8 : Int32) &&& Int32.toUInt32 (31 : Int32))))) >>> (Int32.toUInt32 (16 : Int32) &&& Int32.toUInt32 (31 : Int32))))) &&& (63 : Int32))
set_option maxRecDepth 100000 in
set_option maxHeartbeats 4000000 in
theorem ct_Jd_bitCount {l : Launch} {g : GG} {σ : Sd} (hg : OKg g σ) (hb : σ.2.1 = true) (hx : ∀ c ∈ ([] : List Nat), c ∈ σ.1) (w : Wd) (a1 : Int32) : CT l g σ yJ6_bitCount_0f7a4 cJ6_bitCount_0f7a4 1 (some .int) 0 0 [.int a1] w (some (.int (Jd_bitCount w a1))) w := by
  refine ct_of (rt := (rtP w)) (res := some (Jd_bitCount w a1)) (q := (Jd_bitCount w a1)) (own := RJ6) (b := true) hg hb hx (by decide) rfl (Nat.le_of_ble_eq_true rfl) rfl (fun K e1 e2 e3 F => ?_)
  subst e1 e2 e3
  rw [Jd_bitCount]
  show N K _ _ w 0 [(0, .int a1)] []
  refine n_iload_n F dJ6_bitCount_0f7a4_0 rfl 0 rfl ?_
  refine n_iload_n F dJ6_bitCount_0f7a4_1 rfl 0 rfl ?_
  refine n_iconst F (1 : Int32) dJ6_bitCount_0f7a4_2 (by decide) ?_
  refine n_iushr F dJ6_bitCount_0f7a4_3 ?_
  refine n_ldcw F (1431655765 : Int32) dJ6_bitCount_0f7a4_4 kc_RJ6_265 ?_
  refine n_iand F dJ6_bitCount_0f7a4_7 ?_
  refine n_isub F dJ6_bitCount_0f7a4_8 ?_
  refine n_istore_n F (lv' := [(0, .int (a1 - ((UInt32.toInt32 (Int32.toUInt32 a1 >>> (Int32.toUInt32 (1 : Int32) &&& Int32.toUInt32 (31 : Int32)))) &&& (1431655765 : Int32))))]) dJ6_bitCount_0f7a4_9 rfl (by decide) rfl ?_
  refine n_iload_n F dJ6_bitCount_0f7a4_10 rfl 0 rfl ?_
  refine n_ldcw F (858993459 : Int32) dJ6_bitCount_0f7a4_11 kc_RJ6_266 ?_
  refine n_iand F dJ6_bitCount_0f7a4_14 ?_
  refine n_iload_n F dJ6_bitCount_0f7a4_15 rfl 0 rfl ?_
  refine n_iconst F (2 : Int32) dJ6_bitCount_0f7a4_16 (by decide) ?_
  refine n_iushr F dJ6_bitCount_0f7a4_17 ?_
  refine n_ldcw F (858993459 : Int32) dJ6_bitCount_0f7a4_18 kc_RJ6_266 ?_
  refine n_iand F dJ6_bitCount_0f7a4_21 ?_
  refine n_iadd F dJ6_bitCount_0f7a4_22 ?_
  refine n_istore_n F (lv' := [(0, .int (((a1 - ((UInt32.toInt32 (Int32.toUInt32 a1 >>> (Int32.toUInt32 (1 : Int32) &&& Int32.toUInt32 (31 : Int32)))) &&& (1431655765 : Int32))) &&& (858993459 : Int32)) + ((UInt32.toInt32 (Int32.toUInt32 (a1 - ((UInt32.toInt32 (Int32.toUInt32 a1 >>> (Int32.toUInt32 (1 : Int32) &&& Int32.toUInt32 (31 : Int32)))) &&& (1431655765 : Int32))) >>> (Int32.toUInt32 (2 : Int32) &&& Int32.toUInt32 (31 : Int32)))) &&& (858993459 : Int32))))]) dJ6_bitCount_0f7a4_23 rfl (by decide) rfl ?_
  refine n_iload_n F dJ6_bitCount_0f7a4_24 rfl 0 rfl ?_
  refine n_iload_n F dJ6_bitCount_0f7a4_25 rfl 0 rfl ?_
  refine n_iconst F (4 : Int32) dJ6_bitCount_0f7a4_26 (by decide) ?_
  refine n_iushr F dJ6_bitCount_0f7a4_27 ?_
  refine n_iadd F dJ6_bitCount_0f7a4_28 ?_
  refine n_ldcw F (252645135 : Int32) dJ6_bitCount_0f7a4_29 kc_RJ6_267 ?_
  refine n_iand F dJ6_bitCount_0f7a4_32 ?_
  refine n_istore_n F (lv' := [(0, .int (((((a1 - ((UInt32.toInt32 (Int32.toUInt32 a1 >>> (Int32.toUInt32 (1 : Int32) &&& Int32.toUInt32 (31 : Int32)))) &&& (1431655765 : Int32))) &&& (858993459 : Int32)) + ((UInt32.toInt32 (Int32.toUInt32 (a1 - ((UInt32.toInt32 (Int32.toUInt32 a1 >>> (Int32.toUInt32 (1 : Int32) &&& Int32.toUInt32 (31 : Int32)))) &&& (1431655765 : Int32))) >>> (Int32.toUInt32 (2 : Int32) &&& Int32.toUInt32 (31 : Int32)))) &&& (858993459 : Int32))) + (UInt32.toInt32 (Int32.toUInt32 (((a1 - ((UInt32.toInt32 (Int32.toUInt32 a1 >>> (Int32.toUInt32 (1 : Int32) &&& Int32.toUInt32 (31 : Int32)))) &&& (1431655765 : Int32))) &&& (858993459 : Int32)) + ((UInt32.toInt32 (Int32.toUInt32 (a1 - ((UInt32.toInt32 (Int32.toUInt32 a1 >>> (Int32.toUInt32 (1 : Int32) &&& Int32.toUInt32 (31 : Int32)))) &&& (1431655765 : Int32))) >>> (Int32.toUInt32 (2 : Int32) &&& Int32.toUInt32 (31 : Int32)))) &&& (858993459 : Int32))) >>> (Int32.toUInt32 (4 : Int32) &&& Int32.toUInt32 (31 : Int32))))) &&& (252645135 : Int32)))]) dJ6_bitCount_0f7a4_33 rfl (by decide) rfl ?_
  refine n_iload_n F dJ6_bitCount_0f7a4_34 rfl 0 rfl ?_
  refine n_iload_n F dJ6_bitCount_0f7a4_35 rfl 0 rfl ?_
  refine n_bipush F (8 : Int32) dJ6_bitCount_0f7a4_36 (by decide) ?_
  refine n_iushr F dJ6_bitCount_0f7a4_38 ?_
  refine n_iadd F dJ6_bitCount_0f7a4_39 ?_
  refine n_istore_n F (lv' := [(0, .int ((((((a1 - ((UInt32.toInt32 (Int32.toUInt32 a1 >>> (Int32.toUInt32 (1 : Int32) &&& Int32.toUInt32 (31 : Int32)))) &&& (1431655765 : Int32))) &&& (858993459 : Int32)) + ((UInt32.toInt32 (Int32.toUInt32 (a1 - ((UInt32.toInt32 (Int32.toUInt32 a1 >>> (Int32.toUInt32 (1 : Int32) &&& Int32.toUInt32 (31 : Int32)))) &&& (1431655765 : Int32))) >>> (Int32.toUInt32 (2 : Int32) &&& Int32.toUInt32 (31 : Int32)))) &&& (858993459 : Int32))) + (UInt32.toInt32 (Int32.toUInt32 (((a1 - ((UInt32.toInt32 (Int32.toUInt32 a1 >>> (Int32.toUInt32 (1 : Int32) &&& Int32.toUInt32 (31 : Int32)))) &&& (1431655765 : Int32))) &&& (858993459 : Int32)) + ((UInt32.toInt32 (Int32.toUInt32 (a1 - ((UInt32.toInt32 (Int32.toUInt32 a1 >>> (Int32.toUInt32 (1 : Int32) &&& Int32.toUInt32 (31 : Int32)))) &&& (1431655765 : Int32))) >>> (Int32.toUInt32 (2 : Int32) &&& Int32.toUInt32 (31 : Int32)))) &&& (858993459 : Int32))) >>> (Int32.toUInt32 (4 : Int32) &&& Int32.toUInt32 (31 : Int32))))) &&& (252645135 : Int32)) + (UInt32.toInt32 (Int32.toUInt32 (((((a1 - ((UInt32.toInt32 (Int32.toUInt32 a1 >>> (Int32.toUInt32 (1 : Int32) &&& Int32.toUInt32 (31 : Int32)))) &&& (1431655765 : Int32))) &&& (858993459 : Int32)) + ((UInt32.toInt32 (Int32.toUInt32 (a1 - ((UInt32.toInt32 (Int32.toUInt32 a1 >>> (Int32.toUInt32 (1 : Int32) &&& Int32.toUInt32 (31 : Int32)))) &&& (1431655765 : Int32))) >>> (Int32.toUInt32 (2 : Int32) &&& Int32.toUInt32 (31 : Int32)))) &&& (858993459 : Int32))) + (UInt32.toInt32 (Int32.toUInt32 (((a1 - ((UInt32.toInt32 (Int32.toUInt32 a1 >>> (Int32.toUInt32 (1 : Int32) &&& Int32.toUInt32 (31 : Int32)))) &&& (1431655765 : Int32))) &&& (858993459 : Int32)) + ((UInt32.toInt32 (Int32.toUInt32 (a1 - ((UInt32.toInt32 (Int32.toUInt32 a1 >>> (Int32.toUInt32 (1 : Int32) &&& Int32.toUInt32 (31 : Int32)))) &&& (1431655765 : Int32))) >>> (Int32.toUInt32 (2 : Int32) &&& Int32.toUInt32 (31 : Int32)))) &&& (858993459 : Int32))) >>> (Int32.toUInt32 (4 : Int32) &&& Int32.toUInt32 (31 : Int32))))) &&& (252645135 : Int32)) >>> (Int32.toUInt32 (8 : Int32) &&& Int32.toUInt32 (31 : Int32))))))]) dJ6_bitCount_0f7a4_40 rfl (by decide) rfl ?_
  refine n_iload_n F dJ6_bitCount_0f7a4_41 rfl 0 rfl ?_
  refine n_iload_n F dJ6_bitCount_0f7a4_42 rfl 0 rfl ?_
  refine n_bipush F (16 : Int32) dJ6_bitCount_0f7a4_43 (by decide) ?_
  refine n_iushr F dJ6_bitCount_0f7a4_45 ?_
  refine n_iadd F dJ6_bitCount_0f7a4_46 ?_
  refine n_istore_n F (lv' := [(0, .int (((((((a1 - ((UInt32.toInt32 (Int32.toUInt32 a1 >>> (Int32.toUInt32 (1 : Int32) &&& Int32.toUInt32 (31 : Int32)))) &&& (1431655765 : Int32))) &&& (858993459 : Int32)) + ((UInt32.toInt32 (Int32.toUInt32 (a1 - ((UInt32.toInt32 (Int32.toUInt32 a1 >>> (Int32.toUInt32 (1 : Int32) &&& Int32.toUInt32 (31 : Int32)))) &&& (1431655765 : Int32))) >>> (Int32.toUInt32 (2 : Int32) &&& Int32.toUInt32 (31 : Int32)))) &&& (858993459 : Int32))) + (UInt32.toInt32 (Int32.toUInt32 (((a1 - ((UInt32.toInt32 (Int32.toUInt32 a1 >>> (Int32.toUInt32 (1 : Int32) &&& Int32.toUInt32 (31 : Int32)))) &&& (1431655765 : Int32))) &&& (858993459 : Int32)) + ((UInt32.toInt32 (Int32.toUInt32 (a1 - ((UInt32.toInt32 (Int32.toUInt32 a1 >>> (Int32.toUInt32 (1 : Int32) &&& Int32.toUInt32 (31 : Int32)))) &&& (1431655765 : Int32))) >>> (Int32.toUInt32 (2 : Int32) &&& Int32.toUInt32 (31 : Int32)))) &&& (858993459 : Int32))) >>> (Int32.toUInt32 (4 : Int32) &&& Int32.toUInt32 (31 : Int32))))) &&& (252645135 : Int32)) + (UInt32.toInt32 (Int32.toUInt32 (((((a1 - ((UInt32.toInt32 (Int32.toUInt32 a1 >>> (Int32.toUInt32 (1 : Int32) &&& Int32.toUInt32 (31 : Int32)))) &&& (1431655765 : Int32))) &&& (858993459 : Int32)) + ((UInt32.toInt32 (Int32.toUInt32 (a1 - ((UInt32.toInt32 (Int32.toUInt32 a1 >>> (Int32.toUInt32 (1 : Int32) &&& Int32.toUInt32 (31 : Int32)))) &&& (1431655765 : Int32))) >>> (Int32.toUInt32 (2 : Int32) &&& Int32.toUInt32 (31 : Int32)))) &&& (858993459 : Int32))) + (UInt32.toInt32 (Int32.toUInt32 (((a1 - ((UInt32.toInt32 (Int32.toUInt32 a1 >>> (Int32.toUInt32 (1 : Int32) &&& Int32.toUInt32 (31 : Int32)))) &&& (1431655765 : Int32))) &&& (858993459 : Int32)) + ((UInt32.toInt32 (Int32.toUInt32 (a1 - ((UInt32.toInt32 (Int32.toUInt32 a1 >>> (Int32.toUInt32 (1 : Int32) &&& Int32.toUInt32 (31 : Int32)))) &&& (1431655765 : Int32))) >>> (Int32.toUInt32 (2 : Int32) &&& Int32.toUInt32 (31 : Int32)))) &&& (858993459 : Int32))) >>> (Int32.toUInt32 (4 : Int32) &&& Int32.toUInt32 (31 : Int32))))) &&& (252645135 : Int32)) >>> (Int32.toUInt32 (8 : Int32) &&& Int32.toUInt32 (31 : Int32))))) + (UInt32.toInt32 (Int32.toUInt32 ((((((a1 - ((UInt32.toInt32 (Int32.toUInt32 a1 >>> (Int32.toUInt32 (1 : Int32) &&& Int32.toUInt32 (31 : Int32)))) &&& (1431655765 : Int32))) &&& (858993459 : Int32)) + ((UInt32.toInt32 (Int32.toUInt32 (a1 - ((UInt32.toInt32 (Int32.toUInt32 a1 >>> (Int32.toUInt32 (1 : Int32) &&& Int32.toUInt32 (31 : Int32)))) &&& (1431655765 : Int32))) >>> (Int32.toUInt32 (2 : Int32) &&& Int32.toUInt32 (31 : Int32)))) &&& (858993459 : Int32))) + (UInt32.toInt32 (Int32.toUInt32 (((a1 - ((UInt32.toInt32 (Int32.toUInt32 a1 >>> (Int32.toUInt32 (1 : Int32) &&& Int32.toUInt32 (31 : Int32)))) &&& (1431655765 : Int32))) &&& (858993459 : Int32)) + ((UInt32.toInt32 (Int32.toUInt32 (a1 - ((UInt32.toInt32 (Int32.toUInt32 a1 >>> (Int32.toUInt32 (1 : Int32) &&& Int32.toUInt32 (31 : Int32)))) &&& (1431655765 : Int32))) >>> (Int32.toUInt32 (2 : Int32) &&& Int32.toUInt32 (31 : Int32)))) &&& (858993459 : Int32))) >>> (Int32.toUInt32 (4 : Int32) &&& Int32.toUInt32 (31 : Int32))))) &&& (252645135 : Int32)) + (UInt32.toInt32 (Int32.toUInt32 (((((a1 - ((UInt32.toInt32 (Int32.toUInt32 a1 >>> (Int32.toUInt32 (1 : Int32) &&& Int32.toUInt32 (31 : Int32)))) &&& (1431655765 : Int32))) &&& (858993459 : Int32)) + ((UInt32.toInt32 (Int32.toUInt32 (a1 - ((UInt32.toInt32 (Int32.toUInt32 a1 >>> (Int32.toUInt32 (1 : Int32) &&& Int32.toUInt32 (31 : Int32)))) &&& (1431655765 : Int32))) >>> (Int32.toUInt32 (2 : Int32) &&& Int32.toUInt32 (31 : Int32)))) &&& (858993459 : Int32))) + (UInt32.toInt32 (Int32.toUInt32 (((a1 - ((UInt32.toInt32 (Int32.toUInt32 a1 >>> (Int32.toUInt32 (1 : Int32) &&& Int32.toUInt32 (31 : Int32)))) &&& (1431655765 : Int32))) &&& (858993459 : Int32)) + ((UInt32.toInt32 (Int32.toUInt32 (a1 - ((UInt32.toInt32 (Int32.toUInt32 a1 >>> (Int32.toUInt32 (1 : Int32) &&& Int32.toUInt32 (31 : Int32)))) &&& (1431655765 : Int32))) >>> (Int32.toUInt32 (2 : Int32) &&& Int32.toUInt32 (31 : Int32)))) &&& (858993459 : Int32))) >>> (Int32.toUInt32 (4 : Int32) &&& Int32.toUInt32 (31 : Int32))))) &&& (252645135 : Int32)) >>> (Int32.toUInt32 (8 : Int32) &&& Int32.toUInt32 (31 : Int32))))) >>> (Int32.toUInt32 (16 : Int32) &&& Int32.toUInt32 (31 : Int32))))))]) dJ6_bitCount_0f7a4_47 rfl (by decide) rfl ?_
  refine n_iload_n F dJ6_bitCount_0f7a4_48 rfl 0 rfl ?_
  refine n_bipush F (63 : Int32) dJ6_bitCount_0f7a4_49 (by decide) ?_
  refine n_iand F dJ6_bitCount_0f7a4_51 ?_
  exact n_iret F rfl rfl dJ6_bitCount_0f7a4_52
theorem dX0_stand_0 : decode cX0_stand 0 = .ok (.aload_n 0, 1) := by decide +kernel
theorem dX0_stand_1 : decode cX0_stand 1 = .ok (.getfield 15, 3) := by decide +kernel
theorem dX0_stand_4 : decode cX0_stand 4 = .ok (.invokevirtual 19, 3) := by decide +kernel
theorem dX0_stand_7 : decode cX0_stand 7 = .ok (.istore_n 1, 1) := by decide +kernel
theorem dX0_stand_8 : decode cX0_stand 8 = .ok (.aload_n 0, 1) := by decide +kernel
theorem dX0_stand_9 : decode cX0_stand 9 = .ok (.aload_n 0, 1) := by decide +kernel
theorem dX0_stand_10 : decode cX0_stand 10 = .ok (.getfield 15, 3) := by decide +kernel
theorem dX0_stand_13 : decode cX0_stand 13 = .ok (.getfield 25, 3) := by decide +kernel
theorem dX0_stand_16 : decode cX0_stand 16 = .ok (.iconst 0, 1) := by decide +kernel
theorem dX0_stand_17 : decode cX0_stand 17 = .ok (.iaload, 1) := by decide +kernel
theorem dX0_stand_18 : decode cX0_stand 18 = .ok (.invokevirtual 29, 3) := by decide +kernel
theorem dX0_stand_21 : decode cX0_stand 21 = .ok (.istore_n 2, 1) := by decide +kernel
theorem dX0_stand_22 : decode cX0_stand 22 = .ok (.aload_n 0, 1) := by decide +kernel
theorem dX0_stand_23 : decode cX0_stand 23 = .ok (.aload_n 0, 1) := by decide +kernel
theorem dX0_stand_24 : decode cX0_stand 24 = .ok (.getfield 15, 3) := by decide +kernel
theorem dX0_stand_27 : decode cX0_stand 27 = .ok (.getfield 25, 3) := by decide +kernel
theorem dX0_stand_30 : decode cX0_stand 30 = .ok (.iconst 1, 1) := by decide +kernel
theorem dX0_stand_31 : decode cX0_stand 31 = .ok (.iaload, 1) := by decide +kernel
theorem dX0_stand_32 : decode cX0_stand 32 = .ok (.invokevirtual 29, 3) := by decide +kernel
theorem dX0_stand_35 : decode cX0_stand 35 = .ok (.istore_n 3, 1) := by decide +kernel
theorem dX0_stand_36 : decode cX0_stand 36 = .ok (.aload_n 0, 1) := by decide +kernel
theorem dX0_stand_37 : decode cX0_stand 37 = .ok (.iconst (-1), 1) := by decide +kernel
theorem dX0_stand_38 : decode cX0_stand 38 = .ok (.putfield 33, 3) := by decide +kernel
theorem dX0_stand_41 : decode cX0_stand 41 = .ok (.iconst 0, 1) := by decide +kernel
theorem dX0_stand_42 : decode cX0_stand 42 = .ok (.istore 4, 2) := by decide +kernel
theorem dX0_stand_44 : decode cX0_stand 44 = .ok (.iload 4, 2) := by decide +kernel
theorem dX0_stand_46 : decode cX0_stand 46 = .ok (.bipush 8, 2) := by decide +kernel
theorem dX0_stand_48 : decode cX0_stand 48 = .ok (.if_icmp .ge 86, 3) := by decide +kernel
theorem dX0_stand_51 : decode cX0_stand 51 = .ok (.iconst 0, 1) := by decide +kernel
theorem dX0_stand_52 : decode cX0_stand 52 = .ok (.istore 5, 2) := by decide +kernel
theorem dX0_stand_54 : decode cX0_stand 54 = .ok (.iload 5, 2) := by decide +kernel
theorem dX0_stand_56 : decode cX0_stand 56 = .ok (.bipush 8, 2) := by decide +kernel
theorem dX0_stand_58 : decode cX0_stand 58 = .ok (.if_icmp .ge 70, 3) := by decide +kernel
theorem dX0_stand_61 : decode cX0_stand 61 = .ok (.iload_n 1, 1) := by decide +kernel
theorem dX0_stand_62 : decode cX0_stand 62 = .ok (.iconst 1, 1) := by decide +kernel
theorem dX0_stand_63 : decode cX0_stand 63 = .ok (.iload 4, 2) := by decide +kernel
theorem dX0_stand_65 : decode cX0_stand 65 = .ok (.ishl, 1) := by decide +kernel
theorem dX0_stand_66 : decode cX0_stand 66 = .ok (.iconst 1, 1) := by decide +kernel
theorem dX0_stand_67 : decode cX0_stand 67 = .ok (.iload 5, 2) := by decide +kernel
theorem dX0_stand_69 : decode cX0_stand 69 = .ok (.ishl, 1) := by decide +kernel
theorem dX0_stand_70 : decode cX0_stand 70 = .ok (.ior, 1) := by decide +kernel
theorem dX0_stand_71 : decode cX0_stand 71 = .ok (.iand, 1) := by decide +kernel
theorem dX0_stand_72 : decode cX0_stand 72 = .ok (.invokestatic 37, 3) := by decide +kernel
theorem dX0_stand_75 : decode cX0_stand 75 = .ok (.istore 6, 2) := by decide +kernel
theorem dX0_stand_77 : decode cX0_stand 77 = .ok (.iload_n 2, 1) := by decide +kernel
theorem dX0_stand_78 : decode cX0_stand 78 = .ok (.iload 4, 2) := by decide +kernel
theorem dX0_stand_80 : decode cX0_stand 80 = .ok (.invokestatic 42, 3) := by decide +kernel
theorem dX0_stand_83 : decode cX0_stand 83 = .ok (.ifCond .eq 39, 3) := by decide +kernel
theorem dX0_stand_86 : decode cX0_stand 86 = .ok (.iload_n 3, 1) := by decide +kernel
theorem dX0_stand_87 : decode cX0_stand 87 = .ok (.iload 5, 2) := by decide +kernel
theorem dX0_stand_89 : decode cX0_stand 89 = .ok (.invokestatic 42, 3) := by decide +kernel
theorem dX0_stand_92 : decode cX0_stand 92 = .ok (.ifCond .eq 30, 3) := by decide +kernel
theorem dX0_stand_95 : decode cX0_stand 95 = .ok (.iload 6, 2) := by decide +kernel
theorem dX0_stand_97 : decode cX0_stand 97 = .ok (.aload_n 0, 1) := by decide +kernel
theorem dX0_stand_98 : decode cX0_stand 98 = .ok (.getfield 33, 3) := by decide +kernel
theorem dX0_stand_101 : decode cX0_stand 101 = .ok (.if_icmp .le 21, 3) := by decide +kernel
theorem dX0_stand_104 : decode cX0_stand 104 = .ok (.aload_n 0, 1) := by decide +kernel
theorem dX0_stand_105 : decode cX0_stand 105 = .ok (.iload 6, 2) := by decide +kernel
theorem dX0_stand_107 : decode cX0_stand 107 = .ok (.putfield 33, 3) := by decide +kernel
theorem dX0_stand_110 : decode cX0_stand 110 = .ok (.aload_n 0, 1) := by decide +kernel
theorem dX0_stand_111 : decode cX0_stand 111 = .ok (.iload 4, 2) := by decide +kernel
theorem dX0_stand_113 : decode cX0_stand 113 = .ok (.putfield 46, 3) := by decide +kernel
theorem dX0_stand_116 : decode cX0_stand 116 = .ok (.aload_n 0, 1) := by decide +kernel
theorem dX0_stand_117 : decode cX0_stand 117 = .ok (.iload 5, 2) := by decide +kernel
theorem dX0_stand_119 : decode cX0_stand 119 = .ok (.putfield 49, 3) := by decide +kernel
theorem dX0_stand_122 : decode cX0_stand 122 = .ok (.iinc 5 1, 3) := by decide +kernel
theorem dX0_stand_125 : decode cX0_stand 125 = .ok (.goto (-71), 3) := by decide +kernel
theorem dX0_stand_128 : decode cX0_stand 128 = .ok (.iinc 4 1, 3) := by decide +kernel
theorem dX0_stand_131 : decode cX0_stand 131 = .ok (.goto (-87), 3) := by decide +kernel
theorem dX0_stand_134 : decode cX0_stand 134 = .ok (.return_, 1) := by decide +kernel
def Fs_stand_L54 (k128 : Wd → Int32 → Int32 → Int32 → Int32 → Option Wd) : Nat → Wd → Int32 → Int32 → Int32 → Int32 → Int32 → Option Wd
  | 0, _, _, _, _, _, _ => none
  | n + 1, w, v1, v2, v3, v4, v5 => (if (8 : Int32) ≤ v5 then (k128 w v1 v2 v3 v4) else (Fs_stand_L54 k128 n (if (Nt_hasBit w v2 v4) = (0 : Int32) then w else (if (Nt_hasBit w v3 v5) = (0 : Int32) then w else (if (Jd_bitCount w (v1 &&& (((1 : Int32) <<< (v4 &&& (31 : Int32))) ||| ((1 : Int32) <<< (v5 &&& (31 : Int32)))))) ≤ (w.1 25 2) then w else (sI (sI (sI w 25 2 (Jd_bitCount w (v1 &&& (((1 : Int32) <<< (v4 &&& (31 : Int32))) ||| ((1 : Int32) <<< (v5 &&& (31 : Int32))))))) 25 3 v4) 25 4 v5)))) v1 v2 v3 v4 (v5 + (1 : Int32))))
set_option maxRecDepth 100000 in
set_option maxHeartbeats 4000000 in
theorem Fs_stand_L54_ok {K : Ctx} (F : Fx K cX0_stand 7 RX0 none 4 94 true [3, 4, 13, 14, 15, 25]) {k128 : Wd → Int32 → Int32 → Int32 → Int32 → Option Wd} (h128 : ∀ (w : Wd) (v1 : Int32) (v2 : Int32) (v3 : Int32) (v4 : Int32), N K rtV (k128 w v1 v2 v3 v4) w 128 [(0, .ref (gA (cg K) 25)), (1, .int v1), (2, .int v2), (3, .int v3), (4, .int v4)] []) : ∀ (n : Nat) (w : Wd) (v1 : Int32) (v2 : Int32) (v3 : Int32) (v4 : Int32) (v5 : Int32), N K rtV (Fs_stand_L54 k128 n w v1 v2 v3 v4 v5) w 54 [(0, .ref (gA (cg K) 25)), (1, .int v1), (2, .int v2), (3, .int v3), (4, .int v4), (5, .int v5)] [] := by
  intro n
  induction n with
  | zero => intro _ _ _ _ _ _; exact n_none
  | succ n ih =>
    intro w v1 v2 v3 v4 v5
    rw [Fs_stand_L54]
    refine n_iload F dX0_stand_54 5 rfl ?_
    refine n_bipush F (8 : Int32) dX0_stand_56 (by decide) ?_
    refine n_icmp_ge F 128 dX0_stand_58 (by decide) (fun e5 => ?_) (fun e5 => ?_)
    · rw [if_pos e5]
      exact n_sub [0, 1, 2, 3, 4] rfl (h128 _ _ _ _ _)
    rw [if_neg e5]
    refine n_iload_n F dX0_stand_61 rfl 1 rfl ?_
    refine n_iconst F (1 : Int32) dX0_stand_62 (by decide) ?_
    refine n_iload F dX0_stand_63 4 rfl ?_
    refine n_ishl F dX0_stand_65 ?_
    refine n_iconst F (1 : Int32) dX0_stand_66 (by decide) ?_
    refine n_iload F dX0_stand_67 5 rfl ?_
    refine n_ishl F dX0_stand_69 ?_
    refine n_ior F dX0_stand_70 ?_
    refine n_iand F dX0_stand_71 ?_
    refine n_callSi F cb_J6_bitCount_0f7a4 lm_RX0_37 (ct_Jd_bitCount (fx_ok F) (fx_sd F) (fx_ix F rfl) w (v1 &&& (((1 : Int32) <<< (v4 &&& (31 : Int32))) ||| ((1 : Int32) <<< (v5 &&& (31 : Int32)))))) rfl rfl (Nat.le_of_ble_eq_true rfl) ⟨Nat.le_of_ble_eq_true rfl, Nat.le_of_ble_eq_true rfl⟩ dX0_stand_72 ?_
    refine n_istore F (lv' := [(6, .int (Jd_bitCount w (v1 &&& (((1 : Int32) <<< (v4 &&& (31 : Int32))) ||| ((1 : Int32) <<< (v5 &&& (31 : Int32))))))), (0, .ref (gA (cg K) 25)), (1, .int v1), (2, .int v2), (3, .int v3), (4, .int v4), (5, .int v5)]) dX0_stand_75 (by decide) rfl ?_
    refine n_iload_n F dX0_stand_77 rfl 3 rfl ?_
    refine n_iload F dX0_stand_78 5 rfl ?_
    refine n_callSNi F cb_X7_hasBit lm_RX0_42 (ct_Nt_hasBit (fx_ok F) (fx_sd F) (fx_ix F rfl) w v2 v4) rfl rfl (Nat.le_of_ble_eq_true rfl) ⟨Nat.le_of_ble_eq_true rfl, Nat.le_of_ble_eq_true rfl⟩ dX0_stand_80 ?_
    refine n_if_eq F 122 dX0_stand_83 (by decide) (fun e6 => ?_) (fun e6 => ?_)
    · rw [if_pos e6]
      refine n_iinc F (v5 + (1 : Int32)) (lv' := [(5, .int (v5 + (1 : Int32))), (6, .int (Jd_bitCount w (v1 &&& (((1 : Int32) <<< (v4 &&& (31 : Int32))) ||| ((1 : Int32) <<< (v5 &&& (31 : Int32))))))), (0, .ref (gA (cg K) 25)), (1, .int v1), (2, .int v2), (3, .int v3), (4, .int v4)]) dX0_stand_122 6 rfl rfl (by decide) rfl ?_
      refine n_goto F 54 dX0_stand_125 (by decide) ?_
      exact n_sub [2, 3, 4, 5, 6, 0] rfl (ih _ _ _ _ _ _)
    rw [if_neg e6]
    refine n_iload_n F dX0_stand_86 rfl 4 rfl ?_
    refine n_iload F dX0_stand_87 6 rfl ?_
    refine n_callSNi F cb_X7_hasBit lm_RX0_42 (ct_Nt_hasBit (fx_ok F) (fx_sd F) (fx_ix F rfl) w v3 v5) rfl rfl (Nat.le_of_ble_eq_true rfl) ⟨Nat.le_of_ble_eq_true rfl, Nat.le_of_ble_eq_true rfl⟩ dX0_stand_89 ?_
    refine n_if_eq F 122 dX0_stand_92 (by decide) (fun e7 => ?_) (fun e7 => ?_)
    · rw [if_pos e7]
      refine n_iinc F (v5 + (1 : Int32)) (lv' := [(5, .int (v5 + (1 : Int32))), (6, .int (Jd_bitCount w (v1 &&& (((1 : Int32) <<< (v4 &&& (31 : Int32))) ||| ((1 : Int32) <<< (v5 &&& (31 : Int32))))))), (0, .ref (gA (cg K) 25)), (1, .int v1), (2, .int v2), (3, .int v3), (4, .int v4)]) dX0_stand_122 6 rfl rfl (by decide) rfl ?_
      refine n_goto F 54 dX0_stand_125 (by decide) ?_
      exact n_sub [2, 3, 4, 5, 6, 0] rfl (ih _ _ _ _ _ _)
    rw [if_neg e7]
    refine n_iload F dX0_stand_95 0 rfl ?_
    refine n_aload_n F dX0_stand_97 rfl 1 rfl ?_
    refine n_get F ck_0 lf_RX0_33 (by decide) fg_25_2 (by decide) dX0_stand_98 ?_
    refine n_icmp_le F 122 dX0_stand_101 (by decide) (fun e8 => ?_) (fun e8 => ?_)
    · rw [if_pos e8]
      refine n_iinc F (v5 + (1 : Int32)) (lv' := [(5, .int (v5 + (1 : Int32))), (6, .int (Jd_bitCount w (v1 &&& (((1 : Int32) <<< (v4 &&& (31 : Int32))) ||| ((1 : Int32) <<< (v5 &&& (31 : Int32))))))), (0, .ref (gA (cg K) 25)), (1, .int v1), (2, .int v2), (3, .int v3), (4, .int v4)]) dX0_stand_122 6 rfl rfl (by decide) rfl ?_
      refine n_goto F 54 dX0_stand_125 (by decide) ?_
      exact n_sub [2, 3, 4, 5, 6, 0] rfl (ih _ _ _ _ _ _)
    rw [if_neg e8]
    refine n_aload_n F dX0_stand_104 rfl 1 rfl ?_
    refine n_iload F dX0_stand_105 0 rfl ?_
    refine n_put F ck_0 lf_RX0_33 (by decide) rfl fp_25_2 (by decide) rfl rfl dX0_stand_107 ?_
    refine n_aload_n F dX0_stand_110 rfl 1 rfl ?_
    refine n_iload F dX0_stand_111 5 rfl ?_
    refine n_put F ck_0 lf_RX0_46 (by decide) rfl fp_25_3 (by decide) rfl rfl dX0_stand_113 ?_
    refine n_aload_n F dX0_stand_116 rfl 1 rfl ?_
    refine n_iload F dX0_stand_117 6 rfl ?_
    refine n_put F ck_0 lf_RX0_49 (by decide) rfl fp_25_4 (by decide) rfl rfl dX0_stand_119 ?_
    refine n_iinc F (v5 + (1 : Int32)) (lv' := [(5, .int (v5 + (1 : Int32))), (6, .int (Jd_bitCount w (v1 &&& (((1 : Int32) <<< (v4 &&& (31 : Int32))) ||| ((1 : Int32) <<< (v5 &&& (31 : Int32))))))), (0, .ref (gA (cg K) 25)), (1, .int v1), (2, .int v2), (3, .int v3), (4, .int v4)]) dX0_stand_122 6 rfl rfl (by decide) rfl ?_
    refine n_goto F 54 dX0_stand_125 (by decide) ?_
    exact n_sub [2, 3, 4, 5, 6, 0] rfl (ih _ _ _ _ _ _)
def Fs_stand_B128 (k44 : Wd → Int32 → Int32 → Int32 → Int32 → Option Wd) (w : Wd) (v1 : Int32) (v2 : Int32) (v3 : Int32) (v4 : Int32) : Option Wd := (k44 w v1 v2 v3 (v4 + (1 : Int32)))
set_option maxRecDepth 100000 in
set_option maxHeartbeats 4000000 in
theorem Fs_stand_B128_ok {K : Ctx} (F : Fx K cX0_stand 7 RX0 none 4 94 true [3, 4, 13, 14, 15, 25]) {k44 : Wd → Int32 → Int32 → Int32 → Int32 → Option Wd} (h44 : ∀ (w : Wd) (v1 : Int32) (v2 : Int32) (v3 : Int32) (v4 : Int32), N K rtV (k44 w v1 v2 v3 v4) w 44 [(0, .ref (gA (cg K) 25)), (1, .int v1), (2, .int v2), (3, .int v3), (4, .int v4)] []) (w : Wd) (v1 : Int32) (v2 : Int32) (v3 : Int32) (v4 : Int32) : N K rtV (Fs_stand_B128 k44 w v1 v2 v3 v4) w 128 [(0, .ref (gA (cg K) 25)), (1, .int v1), (2, .int v2), (3, .int v3), (4, .int v4)] [] := by
  rw [Fs_stand_B128]
  refine n_iinc F (v4 + (1 : Int32)) (lv' := [(4, .int (v4 + (1 : Int32))), (0, .ref (gA (cg K) 25)), (1, .int v1), (2, .int v2), (3, .int v3)]) dX0_stand_128 4 rfl rfl (by decide) rfl ?_
  refine n_goto F 44 dX0_stand_131 (by decide) ?_
  exact n_sub [1, 2, 3, 4, 0] rfl (h44 _ _ _ _ _)
def Fs_stand_L44 (k134 : Wd → Option Wd) : Nat → Wd → Int32 → Int32 → Int32 → Int32 → Option Wd
  | 0, _, _, _, _, _ => none
  | n + 1, w, v1, v2, v3, v4 => (if (8 : Int32) ≤ v4 then (k134 w) else (Fs_stand_L54 (Fs_stand_B128 (Fs_stand_L44 k134 n)) FU w v1 v2 v3 v4 (0 : Int32)))
set_option maxRecDepth 100000 in
set_option maxHeartbeats 4000000 in
theorem Fs_stand_L44_ok {K : Ctx} (F : Fx K cX0_stand 7 RX0 none 4 94 true [3, 4, 13, 14, 15, 25]) {k134 : Wd → Option Wd} (h134 : ∀ (w : Wd), N K rtV (k134 w) w 134 [] []) : ∀ (n : Nat) (w : Wd) (v1 : Int32) (v2 : Int32) (v3 : Int32) (v4 : Int32), N K rtV (Fs_stand_L44 k134 n w v1 v2 v3 v4) w 44 [(0, .ref (gA (cg K) 25)), (1, .int v1), (2, .int v2), (3, .int v3), (4, .int v4)] [] := by
  intro n
  induction n with
  | zero => intro _ _ _ _ _; exact n_none
  | succ n ih =>
    intro w v1 v2 v3 v4
    rw [Fs_stand_L44]
    refine n_iload F dX0_stand_44 4 rfl ?_
    refine n_bipush F (8 : Int32) dX0_stand_46 (by decide) ?_
    refine n_icmp_ge F 134 dX0_stand_48 (by decide) (fun e4 => ?_) (fun e4 => ?_)
    · rw [if_pos e4]
      exact n_sub [] rfl (h134 _)
    rw [if_neg e4]
    refine n_iconst F (0 : Int32) dX0_stand_51 (by decide) ?_
    refine n_istore F (lv' := [(5, .int (0 : Int32)), (0, .ref (gA (cg K) 25)), (1, .int v1), (2, .int v2), (3, .int v3), (4, .int v4)]) dX0_stand_52 (by decide) rfl ?_
    exact n_sub [1, 2, 3, 4, 5, 0] rfl (Fs_stand_L54_ok F (Fs_stand_B128_ok F ih) FU _ _ _ _ _ _)
def Fs_stand_B134 (w : Wd) : Option Wd := some w
set_option maxRecDepth 100000 in
set_option maxHeartbeats 4000000 in
theorem Fs_stand_B134_ok {K : Ctx} (F : Fx K cX0_stand 7 RX0 none 4 94 true [3, 4, 13, 14, 15, 25]) (w : Wd) : N K rtV (Fs_stand_B134 w) w 134 [] [] := by
  rw [Fs_stand_B134]
  exact n_vret F rfl rfl dX0_stand_134
def Fs_stand (w : Wd) : Option Wd := (Option.bind (Sc_nextBits w) (fun q1 => (Option.bind (Fs_choices w (w.1 15 0)) (fun q2 => (Option.bind (Fs_choices w (w.1 15 1)) (fun q3 => (Fs_stand_L44 Fs_stand_B134 FU (sI w 25 2 (-1 : Int32)) q1 q2 q3 (0 : Int32))))))))
set_option maxRecDepth 100000 in
set_option maxHeartbeats 4000000 in
theorem ct_Fs_stand {l : Launch} {g : GG} {σ : Sd} (hg : OKg g σ) (hb : σ.2.1 = true) (hx : ∀ c ∈ ([3, 4, 13, 14, 15, 25] : List Nat), c ∈ σ.1) (w : Wd) {q : Wd} (hq : Fs_stand w = some q) : CT l g σ yX0_stand cX0_stand 7 none 4 94 [.ref (gA g 25)] w none q := by
  refine ct_of (rt := rtV) (res := Fs_stand w) (q := q) (own := RX0) (b := true) hg hb hx (by decide) rfl (Nat.le_of_ble_eq_true rfl) hq (fun K e1 e2 e3 F => ?_)
  subst e1 e2 e3
  rw [Fs_stand]
  show N K _ _ w 0 [(0, .ref (gA (cg K) 25))] []
  refine n_aload_n F dX0_stand_0 rfl 0 rfl ?_
  refine n_get F ck_0 lf_RX0_15 (by decide) fg_25_1 (by decide) dX0_stand_1 ?_
  refine n_bind (fun q1 hq1 => ?_)
  refine n_callVi F cb_X5_nextBits lm_RX0_19 ob_13 (by decide) ⟨_, _, rfl⟩ (ct_Sc_nextBits (fx_ok F) (fx_sd F) (fx_ix F rfl) w hq1) rfl rfl (Nat.le_of_ble_eq_true rfl) ⟨Nat.le_of_ble_eq_true rfl, Nat.le_of_ble_eq_true rfl⟩ dX0_stand_4 ?_
  refine n_istore_n F (lv' := [(1, .int q1), (0, .ref (gA (cg K) 25))]) dX0_stand_7 rfl (by decide) rfl ?_
  refine n_aload_n F dX0_stand_8 rfl 1 rfl ?_
  refine n_aload_n F dX0_stand_9 rfl 1 rfl ?_
  refine n_get F ck_0 lf_RX0_15 (by decide) fg_25_1 (by decide) dX0_stand_10 ?_
  refine n_get F ck_5 lf_RX0_25 (by decide) fg_13_7 (by decide) dX0_stand_13 ?_
  refine n_iconst F (0 : Int32) dX0_stand_16 (by decide) ?_
  refine n_iald F ar_15 (by decide) (ib_c (n := 2) (by decide)) (j := 0) (by decide) dX0_stand_17 ?_
  refine n_bind (fun q2 hq2 => ?_)
  refine n_callVi F cb_X0_choices lm_RX0_29 ob_25 (by decide) ⟨_, _, rfl⟩ (ct_Fs_choices (fx_ok F) (fx_sd F) (fx_ix F rfl) w (w.1 15 0) hq2) rfl rfl (Nat.le_of_ble_eq_true rfl) ⟨Nat.le_of_ble_eq_true rfl, Nat.le_of_ble_eq_true rfl⟩ dX0_stand_18 ?_
  refine n_istore_n F (lv' := [(2, .int q2), (1, .int q1), (0, .ref (gA (cg K) 25))]) dX0_stand_21 rfl (by decide) rfl ?_
  refine n_aload_n F dX0_stand_22 rfl 2 rfl ?_
  refine n_aload_n F dX0_stand_23 rfl 2 rfl ?_
  refine n_get F ck_0 lf_RX0_15 (by decide) fg_25_1 (by decide) dX0_stand_24 ?_
  refine n_get F ck_5 lf_RX0_25 (by decide) fg_13_7 (by decide) dX0_stand_27 ?_
  refine n_iconst F (1 : Int32) dX0_stand_30 (by decide) ?_
  refine n_iald F ar_15 (by decide) (ib_c (n := 2) (by decide)) (j := 1) (by decide) dX0_stand_31 ?_
  refine n_bind (fun q3 hq3 => ?_)
  refine n_callVi F cb_X0_choices lm_RX0_29 ob_25 (by decide) ⟨_, _, rfl⟩ (ct_Fs_choices (fx_ok F) (fx_sd F) (fx_ix F rfl) w (w.1 15 1) hq3) rfl rfl (Nat.le_of_ble_eq_true rfl) ⟨Nat.le_of_ble_eq_true rfl, Nat.le_of_ble_eq_true rfl⟩ dX0_stand_32 ?_
  refine n_istore_n F (lv' := [(3, .int q3), (2, .int q2), (1, .int q1), (0, .ref (gA (cg K) 25))]) dX0_stand_35 rfl (by decide) rfl ?_
  refine n_aload_n F dX0_stand_36 rfl 3 rfl ?_
  refine n_iconst F (-1 : Int32) dX0_stand_37 (by decide) ?_
  refine n_put F ck_0 lf_RX0_33 (by decide) rfl fp_25_2 (by decide) rfl rfl dX0_stand_38 ?_
  refine n_iconst F (0 : Int32) dX0_stand_41 (by decide) ?_
  refine n_istore F (lv' := [(4, .int (0 : Int32)), (3, .int q3), (2, .int q2), (1, .int q1), (0, .ref (gA (cg K) 25))]) dX0_stand_42 (by decide) rfl ?_
  exact n_sub [4, 3, 2, 1, 0] rfl (Fs_stand_L44_ok F (Fs_stand_B134_ok F) FU _ _ _ _ _)
theorem dX1_leaves_0 : decode cX1_leaves 0 = .ok (.aload_n 0, 1) := by decide +kernel
theorem dX1_leaves_1 : decode cX1_leaves 1 = .ok (.iload_n 1, 1) := by decide +kernel
theorem dX1_leaves_2 : decode cX1_leaves 2 = .ok (.iconst 0, 1) := by decide +kernel
theorem dX1_leaves_3 : decode cX1_leaves 3 = .ok (.invokevirtual 54, 3) := by decide +kernel
theorem dX1_leaves_6 : decode cX1_leaves 6 = .ok (.iload_n 2, 1) := by decide +kernel
theorem dX1_leaves_7 : decode cX1_leaves 7 = .ok (.if_icmp .ne 16, 3) := by decide +kernel
theorem dX1_leaves_10 : decode cX1_leaves 10 = .ok (.aload_n 0, 1) := by decide +kernel
theorem dX1_leaves_11 : decode cX1_leaves 11 = .ok (.iload_n 1, 1) := by decide +kernel
theorem dX1_leaves_12 : decode cX1_leaves 12 = .ok (.iload_n 3, 1) := by decide +kernel
theorem dX1_leaves_13 : decode cX1_leaves 13 = .ok (.invokevirtual 58, 3) := by decide +kernel
theorem dX1_leaves_16 : decode cX1_leaves 16 = .ok (.ifCond .eq 7, 3) := by decide +kernel
theorem dX1_leaves_19 : decode cX1_leaves 19 = .ok (.iconst 1, 1) := by decide +kernel
theorem dX1_leaves_20 : decode cX1_leaves 20 = .ok (.goto 4, 3) := by decide +kernel
theorem dX1_leaves_23 : decode cX1_leaves 23 = .ok (.iconst 0, 1) := by decide +kernel
theorem dX1_leaves_24 : decode cX1_leaves 24 = .ok (.ireturn, 1) := by decide +kernel
def La_leaves (w : Wd) (a1 : Int32) (a2 : Int32) (a3 : Int32) : Option Int32 := (Option.bind (La_part w a1 (0 : Int32)) (fun q1 => (if q1 = a2 then (Option.bind (La_runsOn w a1 a3) (fun q3 => (if q3 = (0 : Int32) then some (0 : Int32) else some (1 : Int32)))) else some (0 : Int32))))
set_option maxRecDepth 100000 in
set_option maxHeartbeats 4000000 in
theorem ct_La_leaves {l : Launch} {g : GG} {σ : Sd} (hg : OKg g σ) (hb : σ.2.1 = true) (hx : ∀ c ∈ ([3, 4] : List Nat), c ∈ σ.1) (w : Wd) (a1 : Int32) (a2 : Int32) (a3 : Int32) {q : Int32} (hq : La_leaves w a1 a2 a3 = some q) : CT l g σ yX1_leaves cX1_leaves 4 (some .boolean) 2 46 [.ref (gA g 3), .int a1, .int a2, .int a3] w (some (.int q)) w := by
  refine ct_of (rt := (rtP w)) (res := La_leaves w a1 a2 a3) (q := q) (own := RX1) (b := true) hg hb hx (by decide) rfl (Nat.le_of_ble_eq_true rfl) hq (fun K e1 e2 e3 F => ?_)
  subst e1 e2 e3
  rw [La_leaves]
  show N K _ _ w 0 [(0, .ref (gA (cg K) 3)), (1, .int a1), (2, .int a2), (3, .int a3)] []
  refine n_aload_n F dX1_leaves_0 rfl 0 rfl ?_
  refine n_iload_n F dX1_leaves_1 rfl 1 rfl ?_
  refine n_iconst F (0 : Int32) dX1_leaves_2 (by decide) ?_
  refine n_bind (fun q1 hq1 => ?_)
  refine n_callVi F cb_X1_part lm_RX1_54 ob_3 (by decide) ⟨_, _, rfl⟩ (ct_La_part (fx_ok F) (fx_sd F) (fx_ix F rfl) w a1 (0 : Int32) hq1) rfl rfl (Nat.le_of_ble_eq_true rfl) ⟨Nat.le_of_ble_eq_true rfl, Nat.le_of_ble_eq_true rfl⟩ dX1_leaves_3 ?_
  refine n_iload_n F dX1_leaves_6 rfl 2 rfl ?_
  refine n_icmp_ne F 23 dX1_leaves_7 (by decide) (fun e2 => ?_) (fun e2 => ?_)
  · rw [if_neg e2]
    refine n_iconst F (0 : Int32) dX1_leaves_23 (by decide) ?_
    exact n_zret F .boolean rfl rfl rfl dX1_leaves_24
  rw [if_pos e2]
  refine n_aload_n F dX1_leaves_10 rfl 0 rfl ?_
  refine n_iload_n F dX1_leaves_11 rfl 1 rfl ?_
  refine n_iload_n F dX1_leaves_12 rfl 3 rfl ?_
  refine n_bind (fun q3 hq3 => ?_)
  refine n_callVi F cb_X1_runsOn lm_RX1_58 ob_3 (by decide) ⟨_, _, rfl⟩ (ct_La_runsOn (fx_ok F) (fx_sd F) (fx_ix F rfl) w a1 a3 hq3) rfl rfl (Nat.le_of_ble_eq_true rfl) ⟨Nat.le_of_ble_eq_true rfl, Nat.le_of_ble_eq_true rfl⟩ dX1_leaves_13 ?_
  refine n_if_eq F 23 dX1_leaves_16 (by decide) (fun e4 => ?_) (fun e4 => ?_)
  · rw [if_pos e4]
    refine n_iconst F (0 : Int32) dX1_leaves_23 (by decide) ?_
    exact n_zret F .boolean rfl rfl rfl dX1_leaves_24
  rw [if_neg e4]
  refine n_iconst F (1 : Int32) dX1_leaves_19 (by decide) ?_
  refine n_goto F 24 dX1_leaves_20 (by decide) ?_
  exact n_zret F .boolean rfl rfl rfl dX1_leaves_24
theorem dX1_rideable_0 : decode cX1_rideable 0 = .ok (.iconst 0, 1) := by decide +kernel
theorem dX1_rideable_1 : decode cX1_rideable 1 = .ok (.istore 4, 2) := by decide +kernel
theorem dX1_rideable_3 : decode cX1_rideable 3 = .ok (.iconst 0, 1) := by decide +kernel
theorem dX1_rideable_4 : decode cX1_rideable 4 = .ok (.istore 5, 2) := by decide +kernel
theorem dX1_rideable_6 : decode cX1_rideable 6 = .ok (.iload 5, 2) := by decide +kernel
theorem dX1_rideable_8 : decode cX1_rideable 8 = .ok (.aload_n 0, 1) := by decide +kernel
theorem dX1_rideable_9 : decode cX1_rideable 9 = .ok (.getfield 15, 3) := by decide +kernel
theorem dX1_rideable_12 : decode cX1_rideable 12 = .ok (.if_icmp .ge 43, 3) := by decide +kernel
theorem dX1_rideable_15 : decode cX1_rideable 15 = .ok (.aload_n 0, 1) := by decide +kernel
theorem dX1_rideable_16 : decode cX1_rideable 16 = .ok (.iload 5, 2) := by decide +kernel
theorem dX1_rideable_18 : decode cX1_rideable 18 = .ok (.iload_n 1, 1) := by decide +kernel
theorem dX1_rideable_19 : decode cX1_rideable 19 = .ok (.iload_n 2, 1) := by decide +kernel
theorem dX1_rideable_20 : decode cX1_rideable 20 = .ok (.invokevirtual 62, 3) := by decide +kernel
theorem dX1_rideable_23 : decode cX1_rideable 23 = .ok (.ifCond .eq 26, 3) := by decide +kernel
theorem dX1_rideable_26 : decode cX1_rideable 26 = .ok (.iload_n 3, 1) := by decide +kernel
theorem dX1_rideable_27 : decode cX1_rideable 27 = .ok (.aload_n 0, 1) := by decide +kernel
theorem dX1_rideable_28 : decode cX1_rideable 28 = .ok (.iload 5, 2) := by decide +kernel
theorem dX1_rideable_30 : decode cX1_rideable 30 = .ok (.iconst 5, 1) := by decide +kernel
theorem dX1_rideable_31 : decode cX1_rideable 31 = .ok (.invokevirtual 54, 3) := by decide +kernel
theorem dX1_rideable_34 : decode cX1_rideable 34 = .ok (.invokestatic 65, 3) := by decide +kernel
theorem dX1_rideable_37 : decode cX1_rideable 37 = .ok (.ifCond .eq 12, 3) := by decide +kernel
theorem dX1_rideable_40 : decode cX1_rideable 40 = .ok (.iload 4, 2) := by decide +kernel
theorem dX1_rideable_42 : decode cX1_rideable 42 = .ok (.iconst 1, 1) := by decide +kernel
theorem dX1_rideable_43 : decode cX1_rideable 43 = .ok (.iload 5, 2) := by decide +kernel
theorem dX1_rideable_45 : decode cX1_rideable 45 = .ok (.ishl, 1) := by decide +kernel
theorem dX1_rideable_46 : decode cX1_rideable 46 = .ok (.ior, 1) := by decide +kernel
theorem dX1_rideable_47 : decode cX1_rideable 47 = .ok (.istore 4, 2) := by decide +kernel
theorem dX1_rideable_49 : decode cX1_rideable 49 = .ok (.iinc 5 1, 3) := by decide +kernel
theorem dX1_rideable_52 : decode cX1_rideable 52 = .ok (.goto (-46), 3) := by decide +kernel
theorem dX1_rideable_55 : decode cX1_rideable 55 = .ok (.iload 4, 2) := by decide +kernel
theorem dX1_rideable_57 : decode cX1_rideable 57 = .ok (.ireturn, 1) := by decide +kernel
def La_rideable_L6 (w : Wd) (k55 : Int32 → Option Int32) : Nat → Int32 → Int32 → Int32 → Int32 → Int32 → Option Int32
  | 0, _, _, _, _, _ => none
  | n + 1, v1, v2, v3, v4, v5 => (if (w.1 3 1) ≤ v5 then (k55 v4) else (Option.bind (La_leaves w v5 v1 v2) (fun q2 => (if q2 = (0 : Int32) then (La_rideable_L6 w k55 n v1 v2 v3 v4 (v5 + (1 : Int32))) else (Option.bind (La_part w v5 (5 : Int32)) (fun q4 => (La_rideable_L6 w k55 n v1 v2 v3 (if (Nt_hasBit w v3 q4) = (0 : Int32) then v4 else (v4 ||| ((1 : Int32) <<< (v5 &&& (31 : Int32))))) (v5 + (1 : Int32)))))))))
set_option maxRecDepth 100000 in
set_option maxHeartbeats 4000000 in
theorem La_rideable_L6_ok {K : Ctx} (F : Fx K cX1_rideable 6 RX1 (some .int) 3 69 true [3, 4]) (w : Wd) {k55 : Int32 → Option Int32} (h55 : ∀ (v4 : Int32), N K (rtP w) (k55 v4) w 55 [(4, .int v4)] []) : ∀ (n : Nat) (v1 : Int32) (v2 : Int32) (v3 : Int32) (v4 : Int32) (v5 : Int32), N K (rtP w) (La_rideable_L6 w k55 n v1 v2 v3 v4 v5) w 6 [(0, .ref (gA (cg K) 3)), (1, .int v1), (2, .int v2), (3, .int v3), (4, .int v4), (5, .int v5)] [] := by
  intro n
  induction n with
  | zero => intro _ _ _ _ _; exact n_none
  | succ n ih =>
    intro v1 v2 v3 v4 v5
    rw [La_rideable_L6]
    refine n_iload F dX1_rideable_6 5 rfl ?_
    refine n_aload_n F dX1_rideable_8 rfl 0 rfl ?_
    refine n_get F ck_1 lf_RX1_15 (by decide) fg_3_1 (by decide) dX1_rideable_9 ?_
    refine n_icmp_ge F 55 dX1_rideable_12 (by decide) (fun e1 => ?_) (fun e1 => ?_)
    · rw [if_pos e1]
      exact n_sub [4] rfl (h55 _)
    rw [if_neg e1]
    refine n_aload_n F dX1_rideable_15 rfl 0 rfl ?_
    refine n_iload F dX1_rideable_16 5 rfl ?_
    refine n_iload_n F dX1_rideable_18 rfl 1 rfl ?_
    refine n_iload_n F dX1_rideable_19 rfl 2 rfl ?_
    refine n_bind (fun q2 hq2 => ?_)
    refine n_callVi F cb_X1_leaves lm_RX1_62 ob_3 (by decide) ⟨_, _, rfl⟩ (ct_La_leaves (fx_ok F) (fx_sd F) (fx_ix F rfl) w v5 v1 v2 hq2) rfl rfl (Nat.le_of_ble_eq_true rfl) ⟨Nat.le_of_ble_eq_true rfl, Nat.le_of_ble_eq_true rfl⟩ dX1_rideable_20 ?_
    refine n_if_eq F 49 dX1_rideable_23 (by decide) (fun e3 => ?_) (fun e3 => ?_)
    · rw [if_pos e3]
      refine n_iinc F (v5 + (1 : Int32)) (lv' := [(5, .int (v5 + (1 : Int32))), (0, .ref (gA (cg K) 3)), (1, .int v1), (2, .int v2), (3, .int v3), (4, .int v4)]) dX1_rideable_49 5 rfl rfl (by decide) rfl ?_
      refine n_goto F 6 dX1_rideable_52 (by decide) ?_
      exact n_sub [1, 2, 3, 4, 5, 0] rfl (ih _ _ _ _ _)
    rw [if_neg e3]
    refine n_iload_n F dX1_rideable_26 rfl 3 rfl ?_
    refine n_aload_n F dX1_rideable_27 rfl 0 rfl ?_
    refine n_iload F dX1_rideable_28 5 rfl ?_
    refine n_iconst F (5 : Int32) dX1_rideable_30 (by decide) ?_
    refine n_bind (fun q4 hq4 => ?_)
    refine n_callVi F cb_X1_part lm_RX1_54 ob_3 (by decide) ⟨_, _, rfl⟩ (ct_La_part (fx_ok F) (fx_sd F) (fx_ix F rfl) w v5 (5 : Int32) hq4) rfl rfl (Nat.le_of_ble_eq_true rfl) ⟨Nat.le_of_ble_eq_true rfl, Nat.le_of_ble_eq_true rfl⟩ dX1_rideable_31 ?_
    refine n_callSNi F cb_X7_hasBit lm_RX1_65 (ct_Nt_hasBit (fx_ok F) (fx_sd F) (fx_ix F rfl) w v3 q4) rfl rfl (Nat.le_of_ble_eq_true rfl) ⟨Nat.le_of_ble_eq_true rfl, Nat.le_of_ble_eq_true rfl⟩ dX1_rideable_34 ?_
    refine n_if_eq F 49 dX1_rideable_37 (by decide) (fun e5 => ?_) (fun e5 => ?_)
    · rw [if_pos e5]
      refine n_iinc F (v5 + (1 : Int32)) (lv' := [(5, .int (v5 + (1 : Int32))), (0, .ref (gA (cg K) 3)), (1, .int v1), (2, .int v2), (3, .int v3), (4, .int v4)]) dX1_rideable_49 5 rfl rfl (by decide) rfl ?_
      refine n_goto F 6 dX1_rideable_52 (by decide) ?_
      exact n_sub [1, 2, 3, 4, 5, 0] rfl (ih _ _ _ _ _)
    rw [if_neg e5]
    refine n_iload F dX1_rideable_40 4 rfl ?_
    refine n_iconst F (1 : Int32) dX1_rideable_42 (by decide) ?_
    refine n_iload F dX1_rideable_43 5 rfl ?_
    refine n_ishl F dX1_rideable_45 ?_
    refine n_ior F dX1_rideable_46 ?_
    refine n_istore F (lv' := [(4, .int (v4 ||| ((1 : Int32) <<< (v5 &&& (31 : Int32))))), (0, .ref (gA (cg K) 3)), (1, .int v1), (2, .int v2), (3, .int v3), (5, .int v5)]) dX1_rideable_47 (by decide) rfl ?_
    refine n_iinc F (v5 + (1 : Int32)) (lv' := [(5, .int (v5 + (1 : Int32))), (4, .int (v4 ||| ((1 : Int32) <<< (v5 &&& (31 : Int32))))), (0, .ref (gA (cg K) 3)), (1, .int v1), (2, .int v2), (3, .int v3)]) dX1_rideable_49 5 rfl rfl (by decide) rfl ?_
    refine n_goto F 6 dX1_rideable_52 (by decide) ?_
    exact n_sub [2, 3, 4, 5, 1, 0] rfl (ih _ _ _ _ _)
def La_rideable_B55 (w : Wd) (v4 : Int32) : Option Int32 := some v4
set_option maxRecDepth 100000 in
set_option maxHeartbeats 4000000 in
theorem La_rideable_B55_ok {K : Ctx} (F : Fx K cX1_rideable 6 RX1 (some .int) 3 69 true [3, 4]) (w : Wd) (v4 : Int32) : N K (rtP w) (La_rideable_B55 w v4) w 55 [(4, .int v4)] [] := by
  rw [La_rideable_B55]
  refine n_iload F dX1_rideable_55 0 rfl ?_
  exact n_iret F rfl rfl dX1_rideable_57
def La_rideable (w : Wd) (a1 : Int32) (a2 : Int32) (a3 : Int32) : Option Int32 := (La_rideable_L6 w (La_rideable_B55 w) FU a1 a2 a3 (0 : Int32) (0 : Int32))
set_option maxRecDepth 100000 in
set_option maxHeartbeats 4000000 in
theorem ct_La_rideable {l : Launch} {g : GG} {σ : Sd} (hg : OKg g σ) (hb : σ.2.1 = true) (hx : ∀ c ∈ ([3, 4] : List Nat), c ∈ σ.1) (w : Wd) (a1 : Int32) (a2 : Int32) (a3 : Int32) {q : Int32} (hq : La_rideable w a1 a2 a3 = some q) : CT l g σ yX1_rideable cX1_rideable 6 (some .int) 3 69 [.ref (gA g 3), .int a1, .int a2, .int a3] w (some (.int q)) w := by
  refine ct_of (rt := (rtP w)) (res := La_rideable w a1 a2 a3) (q := q) (own := RX1) (b := true) hg hb hx (by decide) rfl (Nat.le_of_ble_eq_true rfl) hq (fun K e1 e2 e3 F => ?_)
  subst e1 e2 e3
  rw [La_rideable]
  show N K _ _ w 0 [(0, .ref (gA (cg K) 3)), (1, .int a1), (2, .int a2), (3, .int a3)] []
  refine n_iconst F (0 : Int32) dX1_rideable_0 (by decide) ?_
  refine n_istore F (lv' := [(4, .int (0 : Int32)), (0, .ref (gA (cg K) 3)), (1, .int a1), (2, .int a2), (3, .int a3)]) dX1_rideable_1 (by decide) rfl ?_
  refine n_iconst F (0 : Int32) dX1_rideable_3 (by decide) ?_
  refine n_istore F (lv' := [(5, .int (0 : Int32)), (4, .int (0 : Int32)), (0, .ref (gA (cg K) 3)), (1, .int a1), (2, .int a2), (3, .int a3)]) dX1_rideable_4 (by decide) rfl ?_
  exact n_sub [2, 3, 4, 5, 1, 0] rfl (La_rideable_L6_ok F w (La_rideable_B55_ok F w) FU _ _ _ _ _)
theorem dX5_rideable_0 : decode cX5_rideable 0 = .ok (.aload_n 0, 1) := by decide +kernel
theorem dX5_rideable_1 : decode cX5_rideable 1 = .ok (.getfield 40, 3) := by decide +kernel
theorem dX5_rideable_4 : decode cX5_rideable 4 = .ok (.ifCond .ne 10, 3) := by decide +kernel
theorem dX5_rideable_7 : decode cX5_rideable 7 = .ok (.aload_n 0, 1) := by decide +kernel
theorem dX5_rideable_8 : decode cX5_rideable 8 = .ok (.getfield 59, 3) := by decide +kernel
theorem dX5_rideable_11 : decode cX5_rideable 11 = .ok (.ifCond .eq 7, 3) := by decide +kernel
theorem dX5_rideable_14 : decode cX5_rideable 14 = .ok (.iconst 0, 1) := by decide +kernel
theorem dX5_rideable_15 : decode cX5_rideable 15 = .ok (.goto 22, 3) := by decide +kernel
theorem dX5_rideable_18 : decode cX5_rideable 18 = .ok (.aload_n 0, 1) := by decide +kernel
theorem dX5_rideable_19 : decode cX5_rideable 19 = .ok (.getfield 21, 3) := by decide +kernel
theorem dX5_rideable_22 : decode cX5_rideable 22 = .ok (.aload_n 0, 1) := by decide +kernel
theorem dX5_rideable_23 : decode cX5_rideable 23 = .ok (.getfield 37, 3) := by decide +kernel
theorem dX5_rideable_26 : decode cX5_rideable 26 = .ok (.aload_n 0, 1) := by decide +kernel
theorem dX5_rideable_27 : decode cX5_rideable 27 = .ok (.getfield 28, 3) := by decide +kernel
theorem dX5_rideable_30 : decode cX5_rideable 30 = .ok (.aload_n 0, 1) := by decide +kernel
theorem dX5_rideable_31 : decode cX5_rideable 31 = .ok (.invokevirtual 88, 3) := by decide +kernel
theorem dX5_rideable_34 : decode cX5_rideable 34 = .ok (.invokevirtual 91, 3) := by decide +kernel
theorem dX5_rideable_37 : decode cX5_rideable 37 = .ok (.ireturn, 1) := by decide +kernel
def Sc_rideable (w : Wd) : Option Int32 := (if (w.1 13 3) = (0 : Int32) then (if (w.1 13 4) = (0 : Int32) then (Option.bind (Sc_kindsLeft w) (fun q3 => (Option.bind (La_rideable w (w.1 13 2) (w.1 13 1) q3) (fun q4 => some q4)))) else some (0 : Int32)) else some (0 : Int32))
set_option maxRecDepth 100000 in
set_option maxHeartbeats 4000000 in
theorem ct_Sc_rideable {l : Launch} {g : GG} {σ : Sd} (hg : OKg g σ) (hb : σ.2.1 = true) (hx : ∀ c ∈ ([3, 4, 13, 14] : List Nat), c ∈ σ.1) (w : Wd) {q : Int32} (hq : Sc_rideable w = some q) : CT l g σ yX5_rideable cX5_rideable 1 (some .int) 4 94 [.ref (gA g 13)] w (some (.int q)) w := by
  refine ct_of (rt := (rtP w)) (res := Sc_rideable w) (q := q) (own := RX5) (b := true) hg hb hx (by decide) rfl (Nat.le_of_ble_eq_true rfl) hq (fun K e1 e2 e3 F => ?_)
  subst e1 e2 e3
  rw [Sc_rideable]
  show N K _ _ w 0 [(0, .ref (gA (cg K) 13))] []
  refine n_aload_n F dX5_rideable_0 rfl 0 rfl ?_
  refine n_get F ck_5 lf_RX5_40 (by decide) fg_13_3 (by decide) dX5_rideable_1 ?_
  refine n_if_ne F 14 dX5_rideable_4 (by decide) (fun e1 => ?_) (fun e1 => ?_)
  · rw [if_neg e1]
    refine n_iconst F (0 : Int32) dX5_rideable_14 (by decide) ?_
    refine n_goto F 37 dX5_rideable_15 (by decide) ?_
    exact n_iret F rfl rfl dX5_rideable_37
  rw [if_pos e1]
  refine n_aload_n F dX5_rideable_7 rfl 0 rfl ?_
  refine n_get F ck_5 lf_RX5_59 (by decide) fg_13_4 (by decide) dX5_rideable_8 ?_
  refine n_if_eq F 18 dX5_rideable_11 (by decide) (fun e2 => ?_) (fun e2 => ?_)
  · rw [if_pos e2]
    refine n_aload_n F dX5_rideable_18 rfl 0 rfl ?_
    refine n_get F ck_5 lf_RX5_21 (by decide) fg_13_0 (by decide) dX5_rideable_19 ?_
    refine n_aload_n F dX5_rideable_22 rfl 0 rfl ?_
    refine n_get F ck_5 lf_RX5_37 (by decide) fg_13_2 (by decide) dX5_rideable_23 ?_
    refine n_aload_n F dX5_rideable_26 rfl 0 rfl ?_
    refine n_get F ck_5 lf_RX5_28 (by decide) fg_13_1 (by decide) dX5_rideable_27 ?_
    refine n_aload_n F dX5_rideable_30 rfl 0 rfl ?_
    refine n_bind (fun q3 hq3 => ?_)
    refine n_callVi F cb_X5_kindsLeft lm_RX5_88 ob_13 (by decide) ⟨_, _, rfl⟩ (ct_Sc_kindsLeft (fx_ok F) (fx_sd F) (fx_ix F rfl) w hq3) rfl rfl (Nat.le_of_ble_eq_true rfl) ⟨Nat.le_of_ble_eq_true rfl, Nat.le_of_ble_eq_true rfl⟩ dX5_rideable_31 ?_
    refine n_bind (fun q4 hq4 => ?_)
    refine n_callVi F cb_X1_rideable lm_RX5_91 ob_3 (by decide) ⟨_, _, rfl⟩ (ct_La_rideable (fx_ok F) (fx_sd F) (fx_ix F rfl) w (w.1 13 2) (w.1 13 1) q3 hq4) rfl rfl (Nat.le_of_ble_eq_true rfl) ⟨Nat.le_of_ble_eq_true rfl, Nat.le_of_ble_eq_true rfl⟩ dX5_rideable_34 ?_
    exact n_iret F rfl rfl dX5_rideable_37
  rw [if_neg e2]
  refine n_iconst F (0 : Int32) dX5_rideable_14 (by decide) ?_
  refine n_goto F 37 dX5_rideable_15 (by decide) ?_
  exact n_iret F rfl rfl dX5_rideable_37
theorem dX0_leftBy_0 : decode cX0_leftBy 0 = .ok (.aload_n 0, 1) := by decide +kernel
theorem dX0_leftBy_1 : decode cX0_leftBy 1 = .ok (.getfield 9, 3) := by decide +kernel
theorem dX0_leftBy_4 : decode cX0_leftBy 4 = .ok (.aload_n 0, 1) := by decide +kernel
theorem dX0_leftBy_5 : decode cX0_leftBy 5 = .ok (.getfield 15, 3) := by decide +kernel
theorem dX0_leftBy_8 : decode cX0_leftBy 8 = .ok (.getfield 77, 3) := by decide +kernel
theorem dX0_leftBy_11 : decode cX0_leftBy 11 = .ok (.aload_n 0, 1) := by decide +kernel
theorem dX0_leftBy_12 : decode cX0_leftBy 12 = .ok (.getfield 15, 3) := by decide +kernel
theorem dX0_leftBy_15 : decode cX0_leftBy 15 = .ok (.getfield 52, 3) := by decide +kernel
theorem dX0_leftBy_18 : decode cX0_leftBy 18 = .ok (.iload_n 1, 1) := by decide +kernel
theorem dX0_leftBy_19 : decode cX0_leftBy 19 = .ok (.iconst 1, 1) := by decide +kernel
theorem dX0_leftBy_20 : decode cX0_leftBy 20 = .ok (.invokevirtual 55, 3) := by decide +kernel
theorem dX0_leftBy_23 : decode cX0_leftBy 23 = .ok (.invokestatic 37, 3) := by decide +kernel
theorem dX0_leftBy_26 : decode cX0_leftBy 26 = .ok (.aload_n 0, 1) := by decide +kernel
theorem dX0_leftBy_27 : decode cX0_leftBy 27 = .ok (.getfield 9, 3) := by decide +kernel
theorem dX0_leftBy_30 : decode cX0_leftBy 30 = .ok (.aload_n 0, 1) := by decide +kernel
theorem dX0_leftBy_31 : decode cX0_leftBy 31 = .ok (.getfield 15, 3) := by decide +kernel
theorem dX0_leftBy_34 : decode cX0_leftBy 34 = .ok (.getfield 77, 3) := by decide +kernel
theorem dX0_leftBy_37 : decode cX0_leftBy 37 = .ok (.aload_n 0, 1) := by decide +kernel
theorem dX0_leftBy_38 : decode cX0_leftBy 38 = .ok (.getfield 15, 3) := by decide +kernel
theorem dX0_leftBy_41 : decode cX0_leftBy 41 = .ok (.getfield 52, 3) := by decide +kernel
theorem dX0_leftBy_44 : decode cX0_leftBy 44 = .ok (.iload_n 1, 1) := by decide +kernel
theorem dX0_leftBy_45 : decode cX0_leftBy 45 = .ok (.iconst 2, 1) := by decide +kernel
theorem dX0_leftBy_46 : decode cX0_leftBy 46 = .ok (.invokevirtual 55, 3) := by decide +kernel
theorem dX0_leftBy_49 : decode cX0_leftBy 49 = .ok (.invokestatic 37, 3) := by decide +kernel
theorem dX0_leftBy_52 : decode cX0_leftBy 52 = .ok (.iadd, 1) := by decide +kernel
theorem dX0_leftBy_53 : decode cX0_leftBy 53 = .ok (.ireturn, 1) := by decide +kernel
def Fs_leftBy (w : Wd) (a1 : Int32) : Option Int32 := (Option.bind (La_reached w (w.1 13 9) (w.1 13 1) a1 (1 : Int32)) (fun q1 => (Option.bind (La_reached w (w.1 13 9) (w.1 13 1) a1 (2 : Int32)) (fun q2 => some ((Jd_bitCount w q1) + (Jd_bitCount w q2))))))
set_option maxRecDepth 100000 in
set_option maxHeartbeats 4000000 in
theorem ct_Fs_leftBy {l : Launch} {g : GG} {σ : Sd} (hg : OKg g σ) (hb : σ.2.1 = true) (hx : ∀ c ∈ ([3, 4, 13, 25] : List Nat), c ∈ σ.1) (w : Wd) (a1 : Int32) {q : Int32} (hq : Fs_leftBy w a1 = some q) : CT l g σ yX0_leftBy cX0_leftBy 2 (some .int) 3 72 [.ref (gA g 25), .int a1] w (some (.int q)) w := by
  refine ct_of (rt := (rtP w)) (res := Fs_leftBy w a1) (q := q) (own := RX0) (b := true) hg hb hx (by decide) rfl (Nat.le_of_ble_eq_true rfl) hq (fun K e1 e2 e3 F => ?_)
  subst e1 e2 e3
  rw [Fs_leftBy]
  show N K _ _ w 0 [(0, .ref (gA (cg K) 25)), (1, .int a1)] []
  refine n_aload_n F dX0_leftBy_0 rfl 0 rfl ?_
  refine n_get F ck_0 lf_RX0_9 (by decide) fg_25_0 (by decide) dX0_leftBy_1 ?_
  refine n_aload_n F dX0_leftBy_4 rfl 0 rfl ?_
  refine n_get F ck_0 lf_RX0_15 (by decide) fg_25_1 (by decide) dX0_leftBy_5 ?_
  refine n_get F ck_5 lf_RX0_77 (by decide) fg_13_9 (by decide) dX0_leftBy_8 ?_
  refine n_aload_n F dX0_leftBy_11 rfl 0 rfl ?_
  refine n_get F ck_0 lf_RX0_15 (by decide) fg_25_1 (by decide) dX0_leftBy_12 ?_
  refine n_get F ck_5 lf_RX0_52 (by decide) fg_13_1 (by decide) dX0_leftBy_15 ?_
  refine n_iload_n F dX0_leftBy_18 rfl 1 rfl ?_
  refine n_iconst F (1 : Int32) dX0_leftBy_19 (by decide) ?_
  refine n_bind (fun q1 hq1 => ?_)
  refine n_callVi F cb_X1_reached lm_RX0_55 ob_3 (by decide) ⟨_, _, rfl⟩ (ct_La_reached (fx_ok F) (fx_sd F) (fx_ix F rfl) w (w.1 13 9) (w.1 13 1) a1 (1 : Int32) hq1) rfl rfl (Nat.le_of_ble_eq_true rfl) ⟨Nat.le_of_ble_eq_true rfl, Nat.le_of_ble_eq_true rfl⟩ dX0_leftBy_20 ?_
  refine n_callSi F cb_J6_bitCount_0f7a4 lm_RX0_37 (ct_Jd_bitCount (fx_ok F) (fx_sd F) (fx_ix F rfl) w q1) rfl rfl (Nat.le_of_ble_eq_true rfl) ⟨Nat.le_of_ble_eq_true rfl, Nat.le_of_ble_eq_true rfl⟩ dX0_leftBy_23 ?_
  refine n_aload_n F dX0_leftBy_26 rfl 0 rfl ?_
  refine n_get F ck_0 lf_RX0_9 (by decide) fg_25_0 (by decide) dX0_leftBy_27 ?_
  refine n_aload_n F dX0_leftBy_30 rfl 0 rfl ?_
  refine n_get F ck_0 lf_RX0_15 (by decide) fg_25_1 (by decide) dX0_leftBy_31 ?_
  refine n_get F ck_5 lf_RX0_77 (by decide) fg_13_9 (by decide) dX0_leftBy_34 ?_
  refine n_aload_n F dX0_leftBy_37 rfl 0 rfl ?_
  refine n_get F ck_0 lf_RX0_15 (by decide) fg_25_1 (by decide) dX0_leftBy_38 ?_
  refine n_get F ck_5 lf_RX0_52 (by decide) fg_13_1 (by decide) dX0_leftBy_41 ?_
  refine n_iload_n F dX0_leftBy_44 rfl 1 rfl ?_
  refine n_iconst F (2 : Int32) dX0_leftBy_45 (by decide) ?_
  refine n_bind (fun q2 hq2 => ?_)
  refine n_callVi F cb_X1_reached lm_RX0_55 ob_3 (by decide) ⟨_, _, rfl⟩ (ct_La_reached (fx_ok F) (fx_sd F) (fx_ix F rfl) w (w.1 13 9) (w.1 13 1) a1 (2 : Int32) hq2) rfl rfl (Nat.le_of_ble_eq_true rfl) ⟨Nat.le_of_ble_eq_true rfl, Nat.le_of_ble_eq_true rfl⟩ dX0_leftBy_46 ?_
  refine n_callSi F cb_J6_bitCount_0f7a4 lm_RX0_37 (ct_Jd_bitCount (fx_ok F) (fx_sd F) (fx_ix F rfl) w q2) rfl rfl (Nat.le_of_ble_eq_true rfl) ⟨Nat.le_of_ble_eq_true rfl, Nat.le_of_ble_eq_true rfl⟩ dX0_leftBy_49 ?_
  refine n_iadd F dX0_leftBy_52 ?_
  exact n_iret F rfl rfl dX0_leftBy_53
theorem dX0_hide_0 : decode cX0_hide 0 = .ok (.aload_n 0, 1) := by decide +kernel
theorem dX0_hide_1 : decode cX0_hide 1 = .ok (.getfield 15, 3) := by decide +kernel
theorem dX0_hide_4 : decode cX0_hide 4 = .ok (.invokevirtual 61, 3) := by decide +kernel
theorem dX0_hide_7 : decode cX0_hide 7 = .ok (.istore_n 1, 1) := by decide +kernel
theorem dX0_hide_8 : decode cX0_hide 8 = .ok (.aload_n 0, 1) := by decide +kernel
theorem dX0_hide_9 : decode cX0_hide 9 = .ok (.iconst (-1), 1) := by decide +kernel
theorem dX0_hide_10 : decode cX0_hide 10 = .ok (.putfield 33, 3) := by decide +kernel
theorem dX0_hide_13 : decode cX0_hide 13 = .ok (.aload_n 0, 1) := by decide +kernel
theorem dX0_hide_14 : decode cX0_hide 14 = .ok (.iconst (-1), 1) := by decide +kernel
theorem dX0_hide_15 : decode cX0_hide 15 = .ok (.putfield 64, 3) := by decide +kernel
theorem dX0_hide_18 : decode cX0_hide 18 = .ok (.iconst 0, 1) := by decide +kernel
theorem dX0_hide_19 : decode cX0_hide 19 = .ok (.istore_n 2, 1) := by decide +kernel
theorem dX0_hide_20 : decode cX0_hide 20 = .ok (.iload_n 2, 1) := by decide +kernel
theorem dX0_hide_21 : decode cX0_hide 21 = .ok (.aload_n 0, 1) := by decide +kernel
theorem dX0_hide_22 : decode cX0_hide 22 = .ok (.getfield 9, 3) := by decide +kernel
theorem dX0_hide_25 : decode cX0_hide 25 = .ok (.getfield 67, 3) := by decide +kernel
theorem dX0_hide_28 : decode cX0_hide 28 = .ok (.if_icmp .ge 51, 3) := by decide +kernel
theorem dX0_hide_31 : decode cX0_hide 31 = .ok (.aload_n 0, 1) := by decide +kernel
theorem dX0_hide_32 : decode cX0_hide 32 = .ok (.iconst 1, 1) := by decide +kernel
theorem dX0_hide_33 : decode cX0_hide 33 = .ok (.aload_n 0, 1) := by decide +kernel
theorem dX0_hide_34 : decode cX0_hide 34 = .ok (.getfield 9, 3) := by decide +kernel
theorem dX0_hide_37 : decode cX0_hide 37 = .ok (.iload_n 2, 1) := by decide +kernel
theorem dX0_hide_38 : decode cX0_hide 38 = .ok (.iconst 5, 1) := by decide +kernel
theorem dX0_hide_39 : decode cX0_hide 39 = .ok (.invokevirtual 70, 3) := by decide +kernel
theorem dX0_hide_42 : decode cX0_hide 42 = .ok (.ishl, 1) := by decide +kernel
theorem dX0_hide_43 : decode cX0_hide 43 = .ok (.invokevirtual 74, 3) := by decide +kernel
theorem dX0_hide_46 : decode cX0_hide 46 = .ok (.istore_n 3, 1) := by decide +kernel
theorem dX0_hide_47 : decode cX0_hide 47 = .ok (.iload_n 1, 1) := by decide +kernel
theorem dX0_hide_48 : decode cX0_hide 48 = .ok (.iload_n 2, 1) := by decide +kernel
theorem dX0_hide_49 : decode cX0_hide 49 = .ok (.invokestatic 42, 3) := by decide +kernel
theorem dX0_hide_52 : decode cX0_hide 52 = .ok (.ifCond .eq 21, 3) := by decide +kernel
theorem dX0_hide_55 : decode cX0_hide 55 = .ok (.iload_n 3, 1) := by decide +kernel
theorem dX0_hide_56 : decode cX0_hide 56 = .ok (.aload_n 0, 1) := by decide +kernel
theorem dX0_hide_57 : decode cX0_hide 57 = .ok (.getfield 33, 3) := by decide +kernel
theorem dX0_hide_60 : decode cX0_hide 60 = .ok (.if_icmp .le 13, 3) := by decide +kernel
theorem dX0_hide_63 : decode cX0_hide 63 = .ok (.aload_n 0, 1) := by decide +kernel
theorem dX0_hide_64 : decode cX0_hide 64 = .ok (.iload_n 3, 1) := by decide +kernel
theorem dX0_hide_65 : decode cX0_hide 65 = .ok (.putfield 33, 3) := by decide +kernel
theorem dX0_hide_68 : decode cX0_hide 68 = .ok (.aload_n 0, 1) := by decide +kernel
theorem dX0_hide_69 : decode cX0_hide 69 = .ok (.iload_n 2, 1) := by decide +kernel
theorem dX0_hide_70 : decode cX0_hide 70 = .ok (.putfield 64, 3) := by decide +kernel
theorem dX0_hide_73 : decode cX0_hide 73 = .ok (.iinc 2 1, 3) := by decide +kernel
theorem dX0_hide_76 : decode cX0_hide 76 = .ok (.goto (-56), 3) := by decide +kernel
theorem dX0_hide_79 : decode cX0_hide 79 = .ok (.return_, 1) := by decide +kernel
def Fs_hide_L20 (k79 : Wd → Option Wd) : Nat → Wd → Int32 → Int32 → Option Wd
  | 0, _, _, _ => none
  | n + 1, w, v1, v2 => (if (w.1 3 1) ≤ v2 then (k79 w) else (Option.bind (La_part w v2 (5 : Int32)) (fun q3 => (Option.bind (Fs_leftBy w ((1 : Int32) <<< (q3 &&& (31 : Int32)))) (fun q4 => (Fs_hide_L20 k79 n (if (Nt_hasBit w v1 v2) = (0 : Int32) then w else (if q4 ≤ (w.1 25 2) then w else (sI (sI w 25 2 q4) 25 5 v2))) v1 (v2 + (1 : Int32))))))))
set_option maxRecDepth 100000 in
set_option maxHeartbeats 4000000 in
theorem Fs_hide_L20_ok {K : Ctx} (F : Fx K cX0_hide 4 RX0 none 5 114 true [3, 4, 13, 14, 25]) {k79 : Wd → Option Wd} (h79 : ∀ (w : Wd), N K rtV (k79 w) w 79 [] []) : ∀ (n : Nat) (w : Wd) (v1 : Int32) (v2 : Int32), N K rtV (Fs_hide_L20 k79 n w v1 v2) w 20 [(0, .ref (gA (cg K) 25)), (1, .int v1), (2, .int v2)] [] := by
  intro n
  induction n with
  | zero => intro _ _ _; exact n_none
  | succ n ih =>
    intro w v1 v2
    rw [Fs_hide_L20]
    refine n_iload_n F dX0_hide_20 rfl 2 rfl ?_
    refine n_aload_n F dX0_hide_21 rfl 0 rfl ?_
    refine n_get F ck_0 lf_RX0_9 (by decide) fg_25_0 (by decide) dX0_hide_22 ?_
    refine n_get F ck_1 lf_RX0_67 (by decide) fg_3_1 (by decide) dX0_hide_25 ?_
    refine n_icmp_ge F 79 dX0_hide_28 (by decide) (fun e2 => ?_) (fun e2 => ?_)
    · rw [if_pos e2]
      exact n_sub [] rfl (h79 _)
    rw [if_neg e2]
    refine n_aload_n F dX0_hide_31 rfl 0 rfl ?_
    refine n_iconst F (1 : Int32) dX0_hide_32 (by decide) ?_
    refine n_aload_n F dX0_hide_33 rfl 0 rfl ?_
    refine n_get F ck_0 lf_RX0_9 (by decide) fg_25_0 (by decide) dX0_hide_34 ?_
    refine n_iload_n F dX0_hide_37 rfl 2 rfl ?_
    refine n_iconst F (5 : Int32) dX0_hide_38 (by decide) ?_
    refine n_bind (fun q3 hq3 => ?_)
    refine n_callVi F cb_X1_part lm_RX0_70 ob_3 (by decide) ⟨_, _, rfl⟩ (ct_La_part (fx_ok F) (fx_sd F) (fx_ix F rfl) w v2 (5 : Int32) hq3) rfl rfl (Nat.le_of_ble_eq_true rfl) ⟨Nat.le_of_ble_eq_true rfl, Nat.le_of_ble_eq_true rfl⟩ dX0_hide_39 ?_
    refine n_ishl F dX0_hide_42 ?_
    refine n_bind (fun q4 hq4 => ?_)
    refine n_callVi F cb_X0_leftBy lm_RX0_74 ob_25 (by decide) ⟨_, _, rfl⟩ (ct_Fs_leftBy (fx_ok F) (fx_sd F) (fx_ix F rfl) w ((1 : Int32) <<< (q3 &&& (31 : Int32))) hq4) rfl rfl (Nat.le_of_ble_eq_true rfl) ⟨Nat.le_of_ble_eq_true rfl, Nat.le_of_ble_eq_true rfl⟩ dX0_hide_43 ?_
    refine n_istore_n F (lv' := [(3, .int q4), (0, .ref (gA (cg K) 25)), (1, .int v1), (2, .int v2)]) dX0_hide_46 rfl (by decide) rfl ?_
    refine n_iload_n F dX0_hide_47 rfl 2 rfl ?_
    refine n_iload_n F dX0_hide_48 rfl 3 rfl ?_
    refine n_callSNi F cb_X7_hasBit lm_RX0_42 (ct_Nt_hasBit (fx_ok F) (fx_sd F) (fx_ix F rfl) w v1 v2) rfl rfl (Nat.le_of_ble_eq_true rfl) ⟨Nat.le_of_ble_eq_true rfl, Nat.le_of_ble_eq_true rfl⟩ dX0_hide_49 ?_
    refine n_if_eq F 73 dX0_hide_52 (by decide) (fun e5 => ?_) (fun e5 => ?_)
    · rw [if_pos e5]
      refine n_iinc F (v2 + (1 : Int32)) (lv' := [(2, .int (v2 + (1 : Int32))), (3, .int q4), (0, .ref (gA (cg K) 25)), (1, .int v1)]) dX0_hide_73 3 rfl rfl (by decide) rfl ?_
      refine n_goto F 20 dX0_hide_76 (by decide) ?_
      exact n_sub [2, 3, 0] rfl (ih _ _ _)
    rw [if_neg e5]
    refine n_iload_n F dX0_hide_55 rfl 0 rfl ?_
    refine n_aload_n F dX0_hide_56 rfl 1 rfl ?_
    refine n_get F ck_0 lf_RX0_33 (by decide) fg_25_2 (by decide) dX0_hide_57 ?_
    refine n_icmp_le F 73 dX0_hide_60 (by decide) (fun e6 => ?_) (fun e6 => ?_)
    · rw [if_pos e6]
      refine n_iinc F (v2 + (1 : Int32)) (lv' := [(2, .int (v2 + (1 : Int32))), (3, .int q4), (0, .ref (gA (cg K) 25)), (1, .int v1)]) dX0_hide_73 3 rfl rfl (by decide) rfl ?_
      refine n_goto F 20 dX0_hide_76 (by decide) ?_
      exact n_sub [2, 3, 0] rfl (ih _ _ _)
    rw [if_neg e6]
    refine n_aload_n F dX0_hide_63 rfl 1 rfl ?_
    refine n_iload_n F dX0_hide_64 rfl 0 rfl ?_
    refine n_put F ck_0 lf_RX0_33 (by decide) rfl fp_25_2 (by decide) rfl rfl dX0_hide_65 ?_
    refine n_aload_n F dX0_hide_68 rfl 1 rfl ?_
    refine n_iload_n F dX0_hide_69 rfl 3 rfl ?_
    refine n_put F ck_0 lf_RX0_64 (by decide) rfl fp_25_5 (by decide) rfl rfl dX0_hide_70 ?_
    refine n_iinc F (v2 + (1 : Int32)) (lv' := [(2, .int (v2 + (1 : Int32))), (3, .int q4), (0, .ref (gA (cg K) 25)), (1, .int v1)]) dX0_hide_73 3 rfl rfl (by decide) rfl ?_
    refine n_goto F 20 dX0_hide_76 (by decide) ?_
    exact n_sub [2, 3, 0] rfl (ih _ _ _)
def Fs_hide_B79 (w : Wd) : Option Wd := some w
set_option maxRecDepth 100000 in
set_option maxHeartbeats 4000000 in
theorem Fs_hide_B79_ok {K : Ctx} (F : Fx K cX0_hide 4 RX0 none 5 114 true [3, 4, 13, 14, 25]) (w : Wd) : N K rtV (Fs_hide_B79 w) w 79 [] [] := by
  rw [Fs_hide_B79]
  exact n_vret F rfl rfl dX0_hide_79
def Fs_hide (w : Wd) : Option Wd := (Option.bind (Sc_rideable w) (fun q1 => (Fs_hide_L20 Fs_hide_B79 FU (sI (sI w 25 2 (-1 : Int32)) 25 5 (-1 : Int32)) q1 (0 : Int32))))
set_option maxRecDepth 100000 in
set_option maxHeartbeats 4000000 in
theorem ct_Fs_hide {l : Launch} {g : GG} {σ : Sd} (hg : OKg g σ) (hb : σ.2.1 = true) (hx : ∀ c ∈ ([3, 4, 13, 14, 25] : List Nat), c ∈ σ.1) (w : Wd) {q : Wd} (hq : Fs_hide w = some q) : CT l g σ yX0_hide cX0_hide 4 none 5 114 [.ref (gA g 25)] w none q := by
  refine ct_of (rt := rtV) (res := Fs_hide w) (q := q) (own := RX0) (b := true) hg hb hx (by decide) rfl (Nat.le_of_ble_eq_true rfl) hq (fun K e1 e2 e3 F => ?_)
  subst e1 e2 e3
  rw [Fs_hide]
  show N K _ _ w 0 [(0, .ref (gA (cg K) 25))] []
  refine n_aload_n F dX0_hide_0 rfl 0 rfl ?_
  refine n_get F ck_0 lf_RX0_15 (by decide) fg_25_1 (by decide) dX0_hide_1 ?_
  refine n_bind (fun q1 hq1 => ?_)
  refine n_callVi F cb_X5_rideable lm_RX0_61 ob_13 (by decide) ⟨_, _, rfl⟩ (ct_Sc_rideable (fx_ok F) (fx_sd F) (fx_ix F rfl) w hq1) rfl rfl (Nat.le_of_ble_eq_true rfl) ⟨Nat.le_of_ble_eq_true rfl, Nat.le_of_ble_eq_true rfl⟩ dX0_hide_4 ?_
  refine n_istore_n F (lv' := [(1, .int q1), (0, .ref (gA (cg K) 25))]) dX0_hide_7 rfl (by decide) rfl ?_
  refine n_aload_n F dX0_hide_8 rfl 1 rfl ?_
  refine n_iconst F (-1 : Int32) dX0_hide_9 (by decide) ?_
  refine n_put F ck_0 lf_RX0_33 (by decide) rfl fp_25_2 (by decide) rfl rfl dX0_hide_10 ?_
  refine n_aload_n F dX0_hide_13 rfl 1 rfl ?_
  refine n_iconst F (-1 : Int32) dX0_hide_14 (by decide) ?_
  refine n_put F ck_0 lf_RX0_64 (by decide) rfl fp_25_5 (by decide) rfl rfl dX0_hide_15 ?_
  refine n_iconst F (0 : Int32) dX0_hide_18 (by decide) ?_
  refine n_istore_n F (lv' := [(2, .int (0 : Int32)), (1, .int q1), (0, .ref (gA (cg K) 25))]) dX0_hide_19 rfl (by decide) rfl ?_
  exact n_sub [2, 1, 0] rfl (Fs_hide_L20_ok F (Fs_hide_B79_ok F) FU _ _ _)
