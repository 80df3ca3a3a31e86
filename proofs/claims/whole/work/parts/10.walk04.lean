theorem dX4_waysInAll_0 : decode cX4_waysInAll 0 = .ok (.lconst 1, 1) := by decide +kernel
theorem dX4_waysInAll_1 : decode cX4_waysInAll 1 = .ok (.lstore_n 1, 1) := by decide +kernel
theorem dX4_waysInAll_2 : decode cX4_waysInAll 2 = .ok (.iconst 0, 1) := by decide +kernel
theorem dX4_waysInAll_3 : decode cX4_waysInAll 3 = .ok (.istore_n 3, 1) := by decide +kernel
theorem dX4_waysInAll_4 : decode cX4_waysInAll 4 = .ok (.iload_n 3, 1) := by decide +kernel
theorem dX4_waysInAll_5 : decode cX4_waysInAll 5 = .ok (.aload_n 0, 1) := by decide +kernel
theorem dX4_waysInAll_6 : decode cX4_waysInAll 6 = .ok (.getfield 15, 3) := by decide +kernel
theorem dX4_waysInAll_9 : decode cX4_waysInAll 9 = .ok (.if_icmp .ge 21, 3) := by decide +kernel
theorem dX4_waysInAll_12 : decode cX4_waysInAll 12 = .ok (.iload_n 3, 1) := by decide +kernel
theorem dX4_waysInAll_13 : decode cX4_waysInAll 13 = .ok (.bipush 12, 2) := by decide +kernel
theorem dX4_waysInAll_15 : decode cX4_waysInAll 15 = .ok (.if_icmp .ge 15, 3) := by decide +kernel
theorem dX4_waysInAll_18 : decode cX4_waysInAll 18 = .ok (.lload_n 1, 1) := by decide +kernel
theorem dX4_waysInAll_19 : decode cX4_waysInAll 19 = .ok (.ldc2_w 72, 3) := by decide +kernel
theorem dX4_waysInAll_22 : decode cX4_waysInAll 22 = .ok (.lmul, 1) := by decide +kernel
theorem dX4_waysInAll_23 : decode cX4_waysInAll 23 = .ok (.lstore_n 1, 1) := by decide +kernel
theorem dX4_waysInAll_24 : decode cX4_waysInAll 24 = .ok (.iinc 3 1, 3) := by decide +kernel
theorem dX4_waysInAll_27 : decode cX4_waysInAll 27 = .ok (.goto (-23), 3) := by decide +kernel
theorem dX4_waysInAll_30 : decode cX4_waysInAll 30 = .ok (.lload_n 1, 1) := by decide +kernel
theorem dX4_waysInAll_31 : decode cX4_waysInAll 31 = .ok (.lreturn, 1) := by decide +kernel
def Ri_waysInAll_L4 (w : Wd) (k30 : Int64 → Option Int64) : Nat → Int64 → Int32 → Option Int64
  | 0, _, _ => none
  | n + 1, v1, v3 => (if (w.1 32 2) ≤ v3 then (k30 v1) else (if (12 : Int32) ≤ v3 then (k30 v1) else (Ri_waysInAll_L4 w k30 n (v1 * (10 : Int64)) (v3 + (1 : Int32)))))
set_option maxRecDepth 100000 in
set_option maxHeartbeats 4000000 in
theorem Ri_waysInAll_L4_ok {K : Ctx} (F : Fx K cX4_waysInAll 4 RX4 (some .long) 0 0 true [32]) (w : Wd) {k30 : Int64 → Option Int64} (h30 : ∀ (v1 : Int64), N K (rtQ w) (k30 v1) w 30 [(1, .long v1)] []) : ∀ (n : Nat) (v1 : Int64) (v3 : Int32), N K (rtQ w) (Ri_waysInAll_L4 w k30 n v1 v3) w 4 [(0, .ref (gA (cg K) 32)), (1, .long v1), (3, .int v3)] [] := by
  intro n
  induction n with
  | zero => intro _ _; exact n_none
  | succ n ih =>
    intro v1 v3
    rw [Ri_waysInAll_L4]
    refine n_iload_n F dX4_waysInAll_4 rfl 2 rfl ?_
    refine n_aload_n F dX4_waysInAll_5 rfl 0 rfl ?_
    refine n_get F ck_4 lf_RX4_15 (by decide) fg_32_2 (by decide) dX4_waysInAll_6 ?_
    refine n_icmp_ge F 30 dX4_waysInAll_9 (by decide) (fun e1 => ?_) (fun e1 => ?_)
    · rw [if_pos e1]
      exact n_sub [1] rfl (h30 _)
    rw [if_neg e1]
    refine n_iload_n F dX4_waysInAll_12 rfl 2 rfl ?_
    refine n_bipush F (12 : Int32) dX4_waysInAll_13 (by decide) ?_
    refine n_icmp_ge F 30 dX4_waysInAll_15 (by decide) (fun e2 => ?_) (fun e2 => ?_)
    · rw [if_pos e2]
      exact n_sub [1] rfl (h30 _)
    rw [if_neg e2]
    refine n_lload_n F dX4_waysInAll_18 rfl 1 rfl ?_
    refine n_ldc2 F (10 : Int64) dX4_waysInAll_19 kc_RX4_72 ?_
    refine n_lmul F dX4_waysInAll_22 ?_
    refine n_lstore_n F (lv' := [(1, .long (v1 * (10 : Int64))), (0, .ref (gA (cg K) 32)), (3, .int v3)]) dX4_waysInAll_23 rfl (by decide) rfl ?_
    refine n_iinc F (v3 + (1 : Int32)) (lv' := [(3, .int (v3 + (1 : Int32))), (1, .long (v1 * (10 : Int64))), (0, .ref (gA (cg K) 32))]) dX4_waysInAll_24 2 rfl rfl (by decide) rfl ?_
    refine n_goto F 4 dX4_waysInAll_27 (by decide) ?_
    exact n_sub [2, 1, 0] rfl (ih _ _)
def Ri_waysInAll_B30 (w : Wd) (v1 : Int64) : Option Int64 := some v1
set_option maxRecDepth 100000 in
set_option maxHeartbeats 4000000 in
theorem Ri_waysInAll_B30_ok {K : Ctx} (F : Fx K cX4_waysInAll 4 RX4 (some .long) 0 0 true [32]) (w : Wd) (v1 : Int64) : N K (rtQ w) (Ri_waysInAll_B30 w v1) w 30 [(1, .long v1)] [] := by
  rw [Ri_waysInAll_B30]
  refine n_lload_n F dX4_waysInAll_30 rfl 0 rfl ?_
  exact n_lret F rfl rfl dX4_waysInAll_31
def Ri_waysInAll (w : Wd) : Option Int64 := (Ri_waysInAll_L4 w (Ri_waysInAll_B30 w) FU (1 : Int64) (0 : Int32))
set_option maxRecDepth 100000 in
set_option maxHeartbeats 4000000 in
theorem ct_Ri_waysInAll {l : Launch} {g : GG} {σ : Sd} (hg : OKg g σ) (hb : σ.2.1 = true) (hx : ∀ c ∈ ([32] : List Nat), c ∈ σ.1) (w : Wd) {q : Int64} (hq : Ri_waysInAll w = some q) : CT l g σ yX4_waysInAll cX4_waysInAll 4 (some .long) 0 0 [.ref (gA g 32)] w (some (.long q)) w := by
  refine ct_of (rt := (rtQ w)) (res := Ri_waysInAll w) (q := q) (own := RX4) (b := true) hg hb hx (by decide) rfl (Nat.le_of_ble_eq_true rfl) hq (fun K e1 e2 e3 F => ?_)
  subst e1 e2 e3
  rw [Ri_waysInAll]
  show N K _ _ w 0 [(0, .ref (gA (cg K) 32))] []
  refine n_lconst F (1 : Int64) dX4_waysInAll_0 (by decide) ?_
  refine n_lstore_n F (lv' := [(1, .long (1 : Int64)), (0, .ref (gA (cg K) 32))]) dX4_waysInAll_1 rfl (by decide) rfl ?_
  refine n_iconst F (0 : Int32) dX4_waysInAll_2 (by decide) ?_
  refine n_istore_n F (lv' := [(3, .int (0 : Int32)), (1, .long (1 : Int64)), (0, .ref (gA (cg K) 32))]) dX4_waysInAll_3 rfl (by decide) rfl ?_
  exact n_sub [2, 1, 0] rfl (Ri_waysInAll_L4_ok F w (Ri_waysInAll_B30_ok F w) FU _ _)
def Jd_fillI_16_L5 (k20 : Wd → Option Wd) : Nat → Wd → Int32 → Int32 → Int32 → Option Wd
  | 0, _, _, _, _ => none
  | n + 1, w, v1, v2, v3 => (if v3 ≤ v2 then (k20 w) else (if ib v2 2 = true then (Jd_fillI_16_L5 k20 n (sI w 16 (Int32.toNatClampNeg v2) v1) v1 (v2 + (1 : Int32)) v3) else none))
set_option maxRecDepth 100000 in
set_option maxHeartbeats 4000000 in
theorem Jd_fillI_16_L5_ok {K : Ctx} (F : Fx K cJ7_fill_53178 4 RJ7 none 0 0 true [16]) {k20 : Wd → Option Wd} (h20 : ∀ (w : Wd), N K rtV (k20 w) w 20 [] []) : ∀ (n : Nat) (w : Wd) (v1 : Int32) (v2 : Int32) (v3 : Int32), N K rtV (Jd_fillI_16_L5 k20 n w v1 v2 v3) w 5 [(0, .ref (gA (cg K) 16)), (1, .int v1), (2, .int v2), (3, .int v3)] [] := by
  intro n
  induction n with
  | zero => intro _ _ _ _; exact n_none
  | succ n ih =>
    intro w v1 v2 v3
    rw [Jd_fillI_16_L5]
    refine n_iload_n F dJ7_fill_53178_5 rfl 2 rfl ?_
    refine n_iload_n F dJ7_fill_53178_6 rfl 3 rfl ?_
    refine n_icmp_ge F 20 dJ7_fill_53178_7 (by decide) (fun e1 => ?_) (fun e1 => ?_)
    · rw [if_pos e1]
      exact n_sub [] rfl (h20 _)
    rw [if_neg e1]
    refine n_aload_n F dJ7_fill_53178_10 rfl 0 rfl ?_
    refine n_iload_n F dJ7_fill_53178_11 rfl 2 rfl ?_
    refine n_iload_n F dJ7_fill_53178_12 rfl 1 rfl ?_
    refine n_chk (fun e2 => ?_)
    refine n_iast F ar_16 (by decide) (ib_in e2) rfl dJ7_fill_53178_13 ?_
    refine n_iinc F (v2 + (1 : Int32)) (lv' := [(2, .int (v2 + (1 : Int32))), (0, .ref (gA (cg K) 16)), (1, .int v1), (3, .int v3)]) dJ7_fill_53178_14 2 rfl rfl (by decide) rfl ?_
    refine n_goto F 5 dJ7_fill_53178_17 (by decide) ?_
    exact n_sub [1, 2, 0, 3] rfl (ih _ _ _ _)
def Jd_fillI_16_B20 (w : Wd) : Option Wd := some w
set_option maxRecDepth 100000 in
set_option maxHeartbeats 4000000 in
theorem Jd_fillI_16_B20_ok {K : Ctx} (F : Fx K cJ7_fill_53178 4 RJ7 none 0 0 true [16]) (w : Wd) : N K rtV (Jd_fillI_16_B20 w) w 20 [] [] := by
  rw [Jd_fillI_16_B20]
  exact n_vret F rfl rfl dJ7_fill_53178_20
def Jd_fillI_16 (w : Wd) (a2 : Int32) : Option Wd := (Jd_fillI_16_L5 Jd_fillI_16_B20 FU w a2 (0 : Int32) (2 : Int32))
set_option maxRecDepth 100000 in
set_option maxHeartbeats 4000000 in
theorem ct_Jd_fillI_16 {l : Launch} {g : GG} {σ : Sd} (hg : OKg g σ) (hb : σ.2.1 = true) (hx : ∀ c ∈ ([16] : List Nat), c ∈ σ.1) (w : Wd) (a2 : Int32) {q : Wd} (hq : Jd_fillI_16 w a2 = some q) : CT l g σ yJ7_fill_53178 cJ7_fill_53178 4 none 0 0 [.ref (gA g 16), .int a2] w none q := by
  refine ct_of (rt := rtV) (res := Jd_fillI_16 w a2) (q := q) (own := RJ7) (b := true) hg hb hx (by decide) rfl (Nat.le_of_ble_eq_true rfl) hq (fun K e1 e2 e3 F => ?_)
  subst e1 e2 e3
  rw [Jd_fillI_16]
  show N K _ _ w 0 [(0, .ref (gA (cg K) 16)), (1, .int a2)] []
  refine n_iconst F (0 : Int32) dJ7_fill_53178_0 (by decide) ?_
  refine n_istore_n F (lv' := [(2, .int (0 : Int32)), (0, .ref (gA (cg K) 16)), (1, .int a2)]) dJ7_fill_53178_1 rfl (by decide) rfl ?_
  refine n_aload_n F dJ7_fill_53178_2 rfl 1 rfl ?_
  refine n_alenI F ar_16 (by decide) (v := (2 : Int32)) (by decide) dJ7_fill_53178_3 ?_
  refine n_istore_n F (lv' := [(3, .int (2 : Int32)), (2, .int (0 : Int32)), (0, .ref (gA (cg K) 16)), (1, .int a2)]) dJ7_fill_53178_4 rfl (by decide) rfl ?_
  exact n_sub [2, 3, 1, 0] rfl (Jd_fillI_16_L5_ok F (Jd_fillI_16_B20_ok F) FU _ _ _ _)
theorem dX5_forgetToday_0 : decode cX5_forgetToday 0 = .ok (.aload_n 0, 1) := by decide +kernel
theorem dX5_forgetToday_1 : decode cX5_forgetToday 1 = .ok (.iconst (-1), 1) := by decide +kernel
theorem dX5_forgetToday_2 : decode cX5_forgetToday 2 = .ok (.putfield 71, 3) := by decide +kernel
theorem dX5_forgetToday_5 : decode cX5_forgetToday 5 = .ok (.aload_n 0, 1) := by decide +kernel
theorem dX5_forgetToday_6 : decode cX5_forgetToday 6 = .ok (.getfield 18, 3) := by decide +kernel
theorem dX5_forgetToday_9 : decode cX5_forgetToday 9 = .ok (.iconst (-1), 1) := by decide +kernel
theorem dX5_forgetToday_10 : decode cX5_forgetToday 10 = .ok (.invokestatic 74, 3) := by decide +kernel
theorem dX5_forgetToday_13 : decode cX5_forgetToday 13 = .ok (.return_, 1) := by decide +kernel
def Sc_forgetToday (w : Wd) : Option Wd := (Option.bind (Jd_fillI_16 (sI w 13 5 (-1 : Int32)) (-1 : Int32)) (fun q1 => some q1))
set_option maxRecDepth 100000 in
set_option maxHeartbeats 4000000 in
theorem ct_Sc_forgetToday {l : Launch} {g : GG} {σ : Sd} (hg : OKg g σ) (hb : σ.2.1 = true) (hx : ∀ c ∈ ([13, 16] : List Nat), c ∈ σ.1) (w : Wd) {q : Wd} (hq : Sc_forgetToday w = some q) : CT l g σ yX5_forgetToday cX5_forgetToday 1 none 1 23 [.ref (gA g 13)] w none q := by
  refine ct_of (rt := rtV) (res := Sc_forgetToday w) (q := q) (own := RX5) (b := true) hg hb hx (by decide) rfl (Nat.le_of_ble_eq_true rfl) hq (fun K e1 e2 e3 F => ?_)
  subst e1 e2 e3
  rw [Sc_forgetToday]
  show N K _ _ w 0 [(0, .ref (gA (cg K) 13))] []
  refine n_aload_n F dX5_forgetToday_0 rfl 0 rfl ?_
  refine n_iconst F (-1 : Int32) dX5_forgetToday_1 (by decide) ?_
  refine n_put F ck_5 lf_RX5_71 (by decide) rfl fp_13_5 (by decide) rfl rfl dX5_forgetToday_2 ?_
  refine n_aload_n F dX5_forgetToday_5 rfl 0 rfl ?_
  refine n_get F ck_5 lf_RX5_18 (by decide) fg_13_8 (by decide) dX5_forgetToday_6 ?_
  refine n_iconst F (-1 : Int32) dX5_forgetToday_9 (by decide) ?_
  refine n_bind (fun q1 hq1 => ?_)
  refine n_callSv F cb_J7_fill_53178 lm_RX5_74 (ct_Jd_fillI_16 (fx_ok F) (fx_sd F) (fx_ix F rfl) (sI w 13 5 (-1 : Int32)) (-1 : Int32) hq1) rfl rfl (Nat.le_of_ble_eq_true rfl) ⟨Nat.le_of_ble_eq_true rfl, Nat.le_of_ble_eq_true rfl⟩ dX5_forgetToday_10 ?_
  exact n_vret F rfl rfl dX5_forgetToday_13
theorem dX5_isWithSeeker_0 : decode cX5_isWithSeeker 0 = .ok (.iconst 0, 1) := by decide +kernel
theorem dX5_isWithSeeker_1 : decode cX5_isWithSeeker 1 = .ok (.istore_n 1, 1) := by decide +kernel
theorem dX5_isWithSeeker_2 : decode cX5_isWithSeeker 2 = .ok (.iconst 0, 1) := by decide +kernel
theorem dX5_isWithSeeker_3 : decode cX5_isWithSeeker 3 = .ok (.istore_n 2, 1) := by decide +kernel
theorem dX5_isWithSeeker_4 : decode cX5_isWithSeeker 4 = .ok (.iload_n 2, 1) := by decide +kernel
theorem dX5_isWithSeeker_5 : decode cX5_isWithSeeker 5 = .ok (.iconst 2, 1) := by decide +kernel
theorem dX5_isWithSeeker_6 : decode cX5_isWithSeeker 6 = .ok (.if_icmp .ge 32, 3) := by decide +kernel
theorem dX5_isWithSeeker_9 : decode cX5_isWithSeeker 9 = .ok (.iload_n 1, 1) := by decide +kernel
theorem dX5_isWithSeeker_10 : decode cX5_isWithSeeker 10 = .ok (.ifCond .ne 16, 3) := by decide +kernel
theorem dX5_isWithSeeker_13 : decode cX5_isWithSeeker 13 = .ok (.aload_n 0, 1) := by decide +kernel
theorem dX5_isWithSeeker_14 : decode cX5_isWithSeeker 14 = .ok (.getfield 15, 3) := by decide +kernel
theorem dX5_isWithSeeker_17 : decode cX5_isWithSeeker 17 = .ok (.iload_n 2, 1) := by decide +kernel
theorem dX5_isWithSeeker_18 : decode cX5_isWithSeeker 18 = .ok (.iaload, 1) := by decide +kernel
theorem dX5_isWithSeeker_19 : decode cX5_isWithSeeker 19 = .ok (.aload_n 0, 1) := by decide +kernel
theorem dX5_isWithSeeker_20 : decode cX5_isWithSeeker 20 = .ok (.getfield 37, 3) := by decide +kernel
theorem dX5_isWithSeeker_23 : decode cX5_isWithSeeker 23 = .ok (.if_icmp .ne 7, 3) := by decide +kernel
theorem dX5_isWithSeeker_26 : decode cX5_isWithSeeker 26 = .ok (.iconst 1, 1) := by decide +kernel
theorem dX5_isWithSeeker_27 : decode cX5_isWithSeeker 27 = .ok (.goto 4, 3) := by decide +kernel
theorem dX5_isWithSeeker_30 : decode cX5_isWithSeeker 30 = .ok (.iconst 0, 1) := by decide +kernel
theorem dX5_isWithSeeker_31 : decode cX5_isWithSeeker 31 = .ok (.istore_n 1, 1) := by decide +kernel
theorem dX5_isWithSeeker_32 : decode cX5_isWithSeeker 32 = .ok (.iinc 2 1, 3) := by decide +kernel
theorem dX5_isWithSeeker_35 : decode cX5_isWithSeeker 35 = .ok (.goto (-31), 3) := by decide +kernel
theorem dX5_isWithSeeker_38 : decode cX5_isWithSeeker 38 = .ok (.iload_n 1, 1) := by decide +kernel
theorem dX5_isWithSeeker_39 : decode cX5_isWithSeeker 39 = .ok (.ifCond .eq 14, 3) := by decide +kernel
theorem dX5_isWithSeeker_42 : decode cX5_isWithSeeker 42 = .ok (.aload_n 0, 1) := by decide +kernel
theorem dX5_isWithSeeker_43 : decode cX5_isWithSeeker 43 = .ok (.getfield 40, 3) := by decide +kernel
theorem dX5_isWithSeeker_46 : decode cX5_isWithSeeker 46 = .ok (.ifCond .ne 7, 3) := by decide +kernel
theorem dX5_isWithSeeker_49 : decode cX5_isWithSeeker 49 = .ok (.iconst 1, 1) := by decide +kernel
theorem dX5_isWithSeeker_50 : decode cX5_isWithSeeker 50 = .ok (.goto 4, 3) := by decide +kernel
theorem dX5_isWithSeeker_53 : decode cX5_isWithSeeker 53 = .ok (.iconst 0, 1) := by decide +kernel
theorem dX5_isWithSeeker_54 : decode cX5_isWithSeeker 54 = .ok (.ireturn, 1) := by decide +kernel
def Sc_isWithSeeker_L4 (w : Wd) (k38 : Int32 → Option Int32) : Nat → Int32 → Int32 → Option Int32
  | 0, _, _ => none
  | n + 1, v1, v2 => (if (2 : Int32) ≤ v2 then (k38 v1) else (if v1 = (0 : Int32) then (if ib v2 2 = true then (Sc_isWithSeeker_L4 w k38 n (if (w.1 15 (Int32.toNatClampNeg v2)) = (w.1 13 2) then (1 : Int32) else (0 : Int32)) (v2 + (1 : Int32))) else none) else (Sc_isWithSeeker_L4 w k38 n (1 : Int32) (v2 + (1 : Int32)))))
set_option maxRecDepth 100000 in
set_option maxHeartbeats 4000000 in
theorem Sc_isWithSeeker_L4_ok {K : Ctx} (F : Fx K cX5_isWithSeeker 3 RX5 (some .boolean) 0 0 true [13, 15]) (w : Wd) {k38 : Int32 → Option Int32} (h38 : ∀ (v1 : Int32), N K (rtP w) (k38 v1) w 38 [(0, .ref (gA (cg K) 13)), (1, .int v1)] []) : ∀ (n : Nat) (v1 : Int32) (v2 : Int32), N K (rtP w) (Sc_isWithSeeker_L4 w k38 n v1 v2) w 4 [(0, .ref (gA (cg K) 13)), (1, .int v1), (2, .int v2)] [] := by
  intro n
  induction n with
  | zero => intro _ _; exact n_none
  | succ n ih =>
    intro v1 v2
    rw [Sc_isWithSeeker_L4]
    refine n_iload_n F dX5_isWithSeeker_4 rfl 2 rfl ?_
    refine n_iconst F (2 : Int32) dX5_isWithSeeker_5 (by decide) ?_
    refine n_icmp_ge F 38 dX5_isWithSeeker_6 (by decide) (fun e1 => ?_) (fun e1 => ?_)
    · rw [if_pos e1]
      exact n_sub [0, 1] rfl (h38 _)
    rw [if_neg e1]
    refine n_iload_n F dX5_isWithSeeker_9 rfl 1 rfl ?_
    refine n_if_ne F 26 dX5_isWithSeeker_10 (by decide) (fun e2 => ?_) (fun e2 => ?_)
    · rw [if_neg e2]
      refine n_iconst F (1 : Int32) dX5_isWithSeeker_26 (by decide) ?_
      refine n_goto F 31 dX5_isWithSeeker_27 (by decide) ?_
      refine n_istore_n F (lv' := [(1, .int (1 : Int32)), (0, .ref (gA (cg K) 13)), (2, .int v2)]) dX5_isWithSeeker_31 rfl (by decide) rfl ?_
      refine n_iinc F (v2 + (1 : Int32)) (lv' := [(2, .int (v2 + (1 : Int32))), (1, .int (1 : Int32)), (0, .ref (gA (cg K) 13))]) dX5_isWithSeeker_32 2 rfl rfl (by decide) rfl ?_
      refine n_goto F 4 dX5_isWithSeeker_35 (by decide) ?_
      exact n_sub [2, 1, 0] rfl (ih _ _)
    rw [if_pos e2]
    refine n_aload_n F dX5_isWithSeeker_13 rfl 0 rfl ?_
    refine n_get F ck_5 lf_RX5_15 (by decide) fg_13_7 (by decide) dX5_isWithSeeker_14 ?_
    refine n_iload_n F dX5_isWithSeeker_17 rfl 2 rfl ?_
    refine n_chk (fun e3 => ?_)
    refine n_iald F ar_15 (by decide) (ib_in e3) rfl dX5_isWithSeeker_18 ?_
    refine n_aload_n F dX5_isWithSeeker_19 rfl 0 rfl ?_
    refine n_get F ck_5 lf_RX5_37 (by decide) fg_13_2 (by decide) dX5_isWithSeeker_20 ?_
    refine n_icmp_ne F 30 dX5_isWithSeeker_23 (by decide) (fun e4 => ?_) (fun e4 => ?_)
    · rw [if_neg e4]
      refine n_iconst F (0 : Int32) dX5_isWithSeeker_30 (by decide) ?_
      refine n_istore_n F (lv' := [(1, .int (0 : Int32)), (0, .ref (gA (cg K) 13)), (2, .int v2)]) dX5_isWithSeeker_31 rfl (by decide) rfl ?_
      refine n_iinc F (v2 + (1 : Int32)) (lv' := [(2, .int (v2 + (1 : Int32))), (1, .int (0 : Int32)), (0, .ref (gA (cg K) 13))]) dX5_isWithSeeker_32 2 rfl rfl (by decide) rfl ?_
      refine n_goto F 4 dX5_isWithSeeker_35 (by decide) ?_
      exact n_sub [2, 1, 0] rfl (ih _ _)
    rw [if_pos e4]
    refine n_iconst F (1 : Int32) dX5_isWithSeeker_26 (by decide) ?_
    refine n_goto F 31 dX5_isWithSeeker_27 (by decide) ?_
    refine n_istore_n F (lv' := [(1, .int (1 : Int32)), (0, .ref (gA (cg K) 13)), (2, .int v2)]) dX5_isWithSeeker_31 rfl (by decide) rfl ?_
    refine n_iinc F (v2 + (1 : Int32)) (lv' := [(2, .int (v2 + (1 : Int32))), (1, .int (1 : Int32)), (0, .ref (gA (cg K) 13))]) dX5_isWithSeeker_32 2 rfl rfl (by decide) rfl ?_
    refine n_goto F 4 dX5_isWithSeeker_35 (by decide) ?_
    exact n_sub [2, 1, 0] rfl (ih _ _)
def Sc_isWithSeeker_B38 (w : Wd) (v1 : Int32) : Option Int32 := (if v1 = (0 : Int32) then some (0 : Int32) else (if (w.1 13 3) = (0 : Int32) then some (1 : Int32) else some (0 : Int32)))
set_option maxRecDepth 100000 in
set_option maxHeartbeats 4000000 in
theorem Sc_isWithSeeker_B38_ok {K : Ctx} (F : Fx K cX5_isWithSeeker 3 RX5 (some .boolean) 0 0 true [13, 15]) (w : Wd) (v1 : Int32) : N K (rtP w) (Sc_isWithSeeker_B38 w v1) w 38 [(0, .ref (gA (cg K) 13)), (1, .int v1)] [] := by
  rw [Sc_isWithSeeker_B38]
  refine n_iload_n F dX5_isWithSeeker_38 rfl 1 rfl ?_
  refine n_if_eq F 53 dX5_isWithSeeker_39 (by decide) (fun e5 => ?_) (fun e5 => ?_)
  · rw [if_pos e5]
    refine n_iconst F (0 : Int32) dX5_isWithSeeker_53 (by decide) ?_
    exact n_zret F .boolean rfl rfl rfl dX5_isWithSeeker_54
  rw [if_neg e5]
  refine n_aload_n F dX5_isWithSeeker_42 rfl 0 rfl ?_
  refine n_get F ck_5 lf_RX5_40 (by decide) fg_13_3 (by decide) dX5_isWithSeeker_43 ?_
  refine n_if_ne F 53 dX5_isWithSeeker_46 (by decide) (fun e6 => ?_) (fun e6 => ?_)
  · rw [if_neg e6]
    refine n_iconst F (0 : Int32) dX5_isWithSeeker_53 (by decide) ?_
    exact n_zret F .boolean rfl rfl rfl dX5_isWithSeeker_54
  rw [if_pos e6]
  refine n_iconst F (1 : Int32) dX5_isWithSeeker_49 (by decide) ?_
  refine n_goto F 54 dX5_isWithSeeker_50 (by decide) ?_
  exact n_zret F .boolean rfl rfl rfl dX5_isWithSeeker_54
def Sc_isWithSeeker (w : Wd) : Option Int32 := (Sc_isWithSeeker_L4 w (Sc_isWithSeeker_B38 w) FU (0 : Int32) (0 : Int32))
set_option maxRecDepth 100000 in
set_option maxHeartbeats 4000000 in
theorem ct_Sc_isWithSeeker {l : Launch} {g : GG} {σ : Sd} (hg : OKg g σ) (hb : σ.2.1 = true) (hx : ∀ c ∈ ([13, 15] : List Nat), c ∈ σ.1) (w : Wd) {q : Int32} (hq : Sc_isWithSeeker w = some q) : CT l g σ yX5_isWithSeeker cX5_isWithSeeker 3 (some .boolean) 0 0 [.ref (gA g 13)] w (some (.int q)) w := by
  refine ct_of (rt := (rtP w)) (res := Sc_isWithSeeker w) (q := q) (own := RX5) (b := true) hg hb hx (by decide) rfl (Nat.le_of_ble_eq_true rfl) hq (fun K e1 e2 e3 F => ?_)
  subst e1 e2 e3
  rw [Sc_isWithSeeker]
  show N K _ _ w 0 [(0, .ref (gA (cg K) 13))] []
  refine n_iconst F (0 : Int32) dX5_isWithSeeker_0 (by decide) ?_
  refine n_istore_n F (lv' := [(1, .int (0 : Int32)), (0, .ref (gA (cg K) 13))]) dX5_isWithSeeker_1 rfl (by decide) rfl ?_
  refine n_iconst F (0 : Int32) dX5_isWithSeeker_2 (by decide) ?_
  refine n_istore_n F (lv' := [(2, .int (0 : Int32)), (1, .int (0 : Int32)), (0, .ref (gA (cg K) 13))]) dX5_isWithSeeker_3 rfl (by decide) rfl ?_
  exact n_sub [2, 1, 0] rfl (Sc_isWithSeeker_L4_ok F w (Sc_isWithSeeker_B38_ok F w) FU _ _)
theorem dX5_begin_0 : decode cX5_begin 0 = .ok (.aload_n 0, 1) := by decide +kernel
theorem dX5_begin_1 : decode cX5_begin 1 = .ok (.iconst 0, 1) := by decide +kernel
theorem dX5_begin_2 : decode cX5_begin 2 = .ok (.putfield 28, 3) := by decide +kernel
theorem dX5_begin_5 : decode cX5_begin 5 = .ok (.aload_n 0, 1) := by decide +kernel
theorem dX5_begin_6 : decode cX5_begin 6 = .ok (.aload_n 0, 1) := by decide +kernel
theorem dX5_begin_7 : decode cX5_begin 7 = .ok (.getfield 21, 3) := by decide +kernel
theorem dX5_begin_10 : decode cX5_begin 10 = .ok (.getfield 32, 3) := by decide +kernel
theorem dX5_begin_13 : decode cX5_begin 13 = .ok (.putfield 37, 3) := by decide +kernel
theorem dX5_begin_16 : decode cX5_begin 16 = .ok (.aload_n 0, 1) := by decide +kernel
theorem dX5_begin_17 : decode cX5_begin 17 = .ok (.iconst 0, 1) := by decide +kernel
theorem dX5_begin_18 : decode cX5_begin 18 = .ok (.putfield 40, 3) := by decide +kernel
theorem dX5_begin_21 : decode cX5_begin 21 = .ok (.aload_n 0, 1) := by decide +kernel
theorem dX5_begin_22 : decode cX5_begin 22 = .ok (.getfield 21, 3) := by decide +kernel
theorem dX5_begin_25 : decode cX5_begin 25 = .ok (.getfield 44, 3) := by decide +kernel
theorem dX5_begin_28 : decode cX5_begin 28 = .ok (.iconst 0, 1) := by decide +kernel
theorem dX5_begin_29 : decode cX5_begin 29 = .ok (.aload_n 0, 1) := by decide +kernel
theorem dX5_begin_30 : decode cX5_begin 30 = .ok (.getfield 9, 3) := by decide +kernel
theorem dX5_begin_33 : decode cX5_begin 33 = .ok (.iconst 0, 1) := by decide +kernel
theorem dX5_begin_34 : decode cX5_begin 34 = .ok (.iconst 3, 1) := by decide +kernel
theorem dX5_begin_35 : decode cX5_begin 35 = .ok (.invokestatic 45, 3) := by decide +kernel
theorem dX5_begin_38 : decode cX5_begin 38 = .ok (.aload_n 0, 1) := by decide +kernel
theorem dX5_begin_39 : decode cX5_begin 39 = .ok (.getfield 21, 3) := by decide +kernel
theorem dX5_begin_42 : decode cX5_begin 42 = .ok (.getfield 51, 3) := by decide +kernel
theorem dX5_begin_45 : decode cX5_begin 45 = .ok (.iconst 0, 1) := by decide +kernel
theorem dX5_begin_46 : decode cX5_begin 46 = .ok (.aload_n 0, 1) := by decide +kernel
theorem dX5_begin_47 : decode cX5_begin 47 = .ok (.getfield 15, 3) := by decide +kernel
theorem dX5_begin_50 : decode cX5_begin 50 = .ok (.iconst 0, 1) := by decide +kernel
theorem dX5_begin_51 : decode cX5_begin 51 = .ok (.iconst 2, 1) := by decide +kernel
theorem dX5_begin_52 : decode cX5_begin 52 = .ok (.invokestatic 45, 3) := by decide +kernel
theorem dX5_begin_55 : decode cX5_begin 55 = .ok (.aload_n 0, 1) := by decide +kernel
theorem dX5_begin_56 : decode cX5_begin 56 = .ok (.invokevirtual 52, 3) := by decide +kernel
theorem dX5_begin_59 : decode cX5_begin 59 = .ok (.aload_n 0, 1) := by decide +kernel
theorem dX5_begin_60 : decode cX5_begin 60 = .ok (.aload_n 0, 1) := by decide +kernel
theorem dX5_begin_61 : decode cX5_begin 61 = .ok (.invokevirtual 55, 3) := by decide +kernel
theorem dX5_begin_64 : decode cX5_begin 64 = .ok (.putfield 59, 3) := by decide +kernel
theorem dX5_begin_67 : decode cX5_begin 67 = .ok (.aload_n 0, 1) := by decide +kernel
theorem dX5_begin_68 : decode cX5_begin 68 = .ok (.iconst 1, 1) := by decide +kernel
theorem dX5_begin_69 : decode cX5_begin 69 = .ok (.aload_n 0, 1) := by decide +kernel
theorem dX5_begin_70 : decode cX5_begin 70 = .ok (.getfield 37, 3) := by decide +kernel
theorem dX5_begin_73 : decode cX5_begin 73 = .ok (.ishl, 1) := by decide +kernel
theorem dX5_begin_74 : decode cX5_begin 74 = .ok (.putfield 62, 3) := by decide +kernel
theorem dX5_begin_77 : decode cX5_begin 77 = .ok (.aload_n 0, 1) := by decide +kernel
theorem dX5_begin_78 : decode cX5_begin 78 = .ok (.iconst 0, 1) := by decide +kernel
theorem dX5_begin_79 : decode cX5_begin 79 = .ok (.putfield 65, 3) := by decide +kernel
theorem dX5_begin_82 : decode cX5_begin 82 = .ok (.aload_n 0, 1) := by decide +kernel
theorem dX5_begin_83 : decode cX5_begin 83 = .ok (.aload_n 0, 1) := by decide +kernel
theorem dX5_begin_84 : decode cX5_begin 84 = .ok (.getfield 62, 3) := by decide +kernel
theorem dX5_begin_87 : decode cX5_begin 87 = .ok (.putfield 68, 3) := by decide +kernel
theorem dX5_begin_90 : decode cX5_begin 90 = .ok (.return_, 1) := by decide +kernel
def Sc_begin (w : Wd) : Option Wd := (Option.bind (Sc_forgetToday (cI (cI (sI (sI (sI w 13 1 (0 : Int32)) 13 2 ((sI w 13 1 (0 : Int32)).1 3 2)) 13 3 (0 : Int32)) 5 0 14 0 3) 6 0 15 0 2)) (fun q1 => (Option.bind (Sc_isWithSeeker q1) (fun q2 => (if q2 &&& (1 : Int32) = q2 then some (sI (sI (sI (sI q1 13 4 q2) 13 9 ((1 : Int32) <<< (((sI q1 13 4 q2).1 13 2) &&& (31 : Int32)))) 13 10 (0 : Int32)) 13 11 ((sI (sI (sI q1 13 4 q2) 13 9 ((1 : Int32) <<< (((sI q1 13 4 q2).1 13 2) &&& (31 : Int32)))) 13 10 (0 : Int32)).1 13 9)) else none)))))
set_option maxRecDepth 100000 in
set_option maxHeartbeats 4000000 in
theorem ct_Sc_begin {l : Launch} {g : GG} {σ : Sd} (hg : OKg g σ) (hb : σ.2.1 = true) (hx : ∀ c ∈ ([3, 5, 6, 13, 14, 15, 16] : List Nat), c ∈ σ.1) (w : Wd) {q : Wd} (hq : Sc_begin w = some q) : CT l g σ yX5_begin cX5_begin 1 none 2 43 [.ref (gA g 13)] w none q := by
  refine ct_of (rt := rtV) (res := Sc_begin w) (q := q) (own := RX5) (b := true) hg hb hx (by decide) rfl (Nat.le_of_ble_eq_true rfl) hq (fun K e1 e2 e3 F => ?_)
  subst e1 e2 e3
  rw [Sc_begin]
  show N K _ _ w 0 [(0, .ref (gA (cg K) 13))] []
  refine n_aload_n F dX5_begin_0 rfl 0 rfl ?_
  refine n_iconst F (0 : Int32) dX5_begin_1 (by decide) ?_
  refine n_put F ck_5 lf_RX5_28 (by decide) rfl fp_13_1 (by decide) rfl rfl dX5_begin_2 ?_
  refine n_aload_n F dX5_begin_5 rfl 0 rfl ?_
  refine n_aload_n F dX5_begin_6 rfl 0 rfl ?_
  refine n_get F ck_5 lf_RX5_21 (by decide) fg_13_0 (by decide) dX5_begin_7 ?_
  refine n_get F ck_1 lf_RX5_32 (by decide) fg_3_2 (by decide) dX5_begin_10 ?_
  refine n_put F ck_5 lf_RX5_37 (by decide) rfl fp_13_2 (by decide) rfl rfl dX5_begin_13 ?_
  refine n_aload_n F dX5_begin_16 rfl 0 rfl ?_
  refine n_iconst F (0 : Int32) dX5_begin_17 (by decide) ?_
  refine n_put F ck_5 lf_RX5_40 (by decide) rfl fp_13_3 (by decide) rfl rfl dX5_begin_18 ?_
  refine n_aload_n F dX5_begin_21 rfl 0 rfl ?_
  refine n_get F ck_5 lf_RX5_21 (by decide) fg_13_0 (by decide) dX5_begin_22 ?_
  refine n_getN F ck_1 lf_RX5_44 (by decide) fg_3_5 (by decide) dX5_begin_25 ?_
  refine n_iconst F (0 : Int32) dX5_begin_28 (by decide) ?_
  refine n_aload_n F dX5_begin_29 rfl 0 rfl ?_
  refine n_get F ck_5 lf_RX5_9 (by decide) fg_13_6 (by decide) dX5_begin_30 ?_
  refine n_iconst F (0 : Int32) dX5_begin_33 (by decide) ?_
  refine n_iconst F (3 : Int32) dX5_begin_34 (by decide) ?_
  refine n_copyI F ar_5 ar_14 (by decide) (by decide) 0 0 3 (by decide) (by decide) (by decide) (by decide) (by decide) (by decide) (by decide) (by decide) la_RX5_45 (Nat.le_of_ble_eq_true rfl) (Nat.le_of_ble_eq_true rfl) dX5_begin_35 ?_
  refine n_aload_n F dX5_begin_38 rfl 0 rfl ?_
  refine n_get F ck_5 lf_RX5_21 (by decide) fg_13_0 (by decide) dX5_begin_39 ?_
  refine n_getN F ck_1 lf_RX5_51 (by decide) fg_3_6 (by decide) dX5_begin_42 ?_
  refine n_iconst F (0 : Int32) dX5_begin_45 (by decide) ?_
  refine n_aload_n F dX5_begin_46 rfl 0 rfl ?_
  refine n_get F ck_5 lf_RX5_15 (by decide) fg_13_7 (by decide) dX5_begin_47 ?_
  refine n_iconst F (0 : Int32) dX5_begin_50 (by decide) ?_
  refine n_iconst F (2 : Int32) dX5_begin_51 (by decide) ?_
  refine n_copyI F ar_6 ar_15 (by decide) (by decide) 0 0 2 (by decide) (by decide) (by decide) (by decide) (by decide) (by decide) (by decide) (by decide) la_RX5_45 (Nat.le_of_ble_eq_true rfl) (Nat.le_of_ble_eq_true rfl) dX5_begin_52 ?_
  refine n_aload_n F dX5_begin_55 rfl 0 rfl ?_
  refine n_bind (fun q1 hq1 => ?_)
  refine n_callVv F cb_X5_forgetToday lm_RX5_52 ob_13 (by decide) ⟨_, _, rfl⟩ (ct_Sc_forgetToday (fx_ok F) (fx_sd F) (fx_ix F rfl) (cI (cI (sI (sI (sI w 13 1 (0 : Int32)) 13 2 ((sI w 13 1 (0 : Int32)).1 3 2)) 13 3 (0 : Int32)) 5 0 14 0 3) 6 0 15 0 2) hq1) rfl rfl (Nat.le_of_ble_eq_true rfl) ⟨Nat.le_of_ble_eq_true rfl, Nat.le_of_ble_eq_true rfl⟩ dX5_begin_56 ?_
  refine n_aload_n F dX5_begin_59 rfl 0 rfl ?_
  refine n_aload_n F dX5_begin_60 rfl 0 rfl ?_
  refine n_bind (fun q2 hq2 => ?_)
  refine n_callVi F cb_X5_isWithSeeker lm_RX5_55 ob_13 (by decide) ⟨_, _, rfl⟩ (ct_Sc_isWithSeeker (fx_ok F) (fx_sd F) (fx_ix F rfl) q1 hq2) rfl rfl (Nat.le_of_ble_eq_true rfl) ⟨Nat.le_of_ble_eq_true rfl, Nat.le_of_ble_eq_true rfl⟩ dX5_begin_61 ?_
  refine n_chk (fun e3 => ?_)
  refine n_put F ck_5 lf_RX5_59 (by decide) rfl fp_13_4 (by decide) (bz_n e3) (bz_f e3) dX5_begin_64 ?_
  refine n_aload_n F dX5_begin_67 rfl 0 rfl ?_
  refine n_iconst F (1 : Int32) dX5_begin_68 (by decide) ?_
  refine n_aload_n F dX5_begin_69 rfl 0 rfl ?_
  refine n_get F ck_5 lf_RX5_37 (by decide) fg_13_2 (by decide) dX5_begin_70 ?_
  refine n_ishl F dX5_begin_73 ?_
  refine n_put F ck_5 lf_RX5_62 (by decide) rfl fp_13_9 (by decide) rfl rfl dX5_begin_74 ?_
  refine n_aload_n F dX5_begin_77 rfl 0 rfl ?_
  refine n_iconst F (0 : Int32) dX5_begin_78 (by decide) ?_
  refine n_put F ck_5 lf_RX5_65 (by decide) rfl fp_13_10 (by decide) rfl rfl dX5_begin_79 ?_
  refine n_aload_n F dX5_begin_82 rfl 0 rfl ?_
  refine n_aload_n F dX5_begin_83 rfl 0 rfl ?_
  refine n_get F ck_5 lf_RX5_62 (by decide) fg_13_9 (by decide) dX5_begin_84 ?_
  refine n_put F ck_5 lf_RX5_68 (by decide) rfl fp_13_11 (by decide) rfl rfl dX5_begin_87 ?_
  exact n_vret F rfl rfl dX5_begin_90
theorem dX5_copy_0 : decode cX5_copy 0 = .ok (.aload_n 0, 1) := by decide +kernel
theorem dX5_copy_1 : decode cX5_copy 1 = .ok (.aload_n 1, 1) := by decide +kernel
theorem dX5_copy_2 : decode cX5_copy 2 = .ok (.getfield 28, 3) := by decide +kernel
theorem dX5_copy_5 : decode cX5_copy 5 = .ok (.putfield 28, 3) := by decide +kernel
theorem dX5_copy_8 : decode cX5_copy 8 = .ok (.aload_n 0, 1) := by decide +kernel
theorem dX5_copy_9 : decode cX5_copy 9 = .ok (.aload_n 1, 1) := by decide +kernel
theorem dX5_copy_10 : decode cX5_copy 10 = .ok (.getfield 37, 3) := by decide +kernel
theorem dX5_copy_13 : decode cX5_copy 13 = .ok (.putfield 37, 3) := by decide +kernel
theorem dX5_copy_16 : decode cX5_copy 16 = .ok (.aload_n 0, 1) := by decide +kernel
theorem dX5_copy_17 : decode cX5_copy 17 = .ok (.aload_n 1, 1) := by decide +kernel
theorem dX5_copy_18 : decode cX5_copy 18 = .ok (.getfield 40, 3) := by decide +kernel
theorem dX5_copy_21 : decode cX5_copy 21 = .ok (.putfield 40, 3) := by decide +kernel
theorem dX5_copy_24 : decode cX5_copy 24 = .ok (.aload_n 0, 1) := by decide +kernel
theorem dX5_copy_25 : decode cX5_copy 25 = .ok (.aload_n 1, 1) := by decide +kernel
theorem dX5_copy_26 : decode cX5_copy 26 = .ok (.getfield 59, 3) := by decide +kernel
theorem dX5_copy_29 : decode cX5_copy 29 = .ok (.putfield 59, 3) := by decide +kernel
theorem dX5_copy_32 : decode cX5_copy 32 = .ok (.aload_n 0, 1) := by decide +kernel
theorem dX5_copy_33 : decode cX5_copy 33 = .ok (.aload_n 1, 1) := by decide +kernel
theorem dX5_copy_34 : decode cX5_copy 34 = .ok (.getfield 71, 3) := by decide +kernel
theorem dX5_copy_37 : decode cX5_copy 37 = .ok (.putfield 71, 3) := by decide +kernel
theorem dX5_copy_40 : decode cX5_copy 40 = .ok (.aload_n 1, 1) := by decide +kernel
theorem dX5_copy_41 : decode cX5_copy 41 = .ok (.getfield 9, 3) := by decide +kernel
theorem dX5_copy_44 : decode cX5_copy 44 = .ok (.iconst 0, 1) := by decide +kernel
theorem dX5_copy_45 : decode cX5_copy 45 = .ok (.aload_n 0, 1) := by decide +kernel
theorem dX5_copy_46 : decode cX5_copy 46 = .ok (.getfield 9, 3) := by decide +kernel
theorem dX5_copy_49 : decode cX5_copy 49 = .ok (.iconst 0, 1) := by decide +kernel
theorem dX5_copy_50 : decode cX5_copy 50 = .ok (.iconst 3, 1) := by decide +kernel
theorem dX5_copy_51 : decode cX5_copy 51 = .ok (.invokestatic 45, 3) := by decide +kernel
theorem dX5_copy_54 : decode cX5_copy 54 = .ok (.aload_n 1, 1) := by decide +kernel
theorem dX5_copy_55 : decode cX5_copy 55 = .ok (.getfield 15, 3) := by decide +kernel
theorem dX5_copy_58 : decode cX5_copy 58 = .ok (.iconst 0, 1) := by decide +kernel
theorem dX5_copy_59 : decode cX5_copy 59 = .ok (.aload_n 0, 1) := by decide +kernel
theorem dX5_copy_60 : decode cX5_copy 60 = .ok (.getfield 15, 3) := by decide +kernel
theorem dX5_copy_63 : decode cX5_copy 63 = .ok (.iconst 0, 1) := by decide +kernel
theorem dX5_copy_64 : decode cX5_copy 64 = .ok (.iconst 2, 1) := by decide +kernel
theorem dX5_copy_65 : decode cX5_copy 65 = .ok (.invokestatic 45, 3) := by decide +kernel
theorem dX5_copy_68 : decode cX5_copy 68 = .ok (.aload_n 1, 1) := by decide +kernel
theorem dX5_copy_69 : decode cX5_copy 69 = .ok (.getfield 18, 3) := by decide +kernel
theorem dX5_copy_72 : decode cX5_copy 72 = .ok (.iconst 0, 1) := by decide +kernel
theorem dX5_copy_73 : decode cX5_copy 73 = .ok (.aload_n 0, 1) := by decide +kernel
theorem dX5_copy_74 : decode cX5_copy 74 = .ok (.getfield 18, 3) := by decide +kernel
theorem dX5_copy_77 : decode cX5_copy 77 = .ok (.iconst 0, 1) := by decide +kernel
theorem dX5_copy_78 : decode cX5_copy 78 = .ok (.iconst 2, 1) := by decide +kernel
theorem dX5_copy_79 : decode cX5_copy 79 = .ok (.invokestatic 45, 3) := by decide +kernel
theorem dX5_copy_82 : decode cX5_copy 82 = .ok (.aload_n 0, 1) := by decide +kernel
theorem dX5_copy_83 : decode cX5_copy 83 = .ok (.aload_n 1, 1) := by decide +kernel
theorem dX5_copy_84 : decode cX5_copy 84 = .ok (.getfield 62, 3) := by decide +kernel
theorem dX5_copy_87 : decode cX5_copy 87 = .ok (.putfield 62, 3) := by decide +kernel
theorem dX5_copy_90 : decode cX5_copy 90 = .ok (.aload_n 0, 1) := by decide +kernel
theorem dX5_copy_91 : decode cX5_copy 91 = .ok (.aload_n 1, 1) := by decide +kernel
theorem dX5_copy_92 : decode cX5_copy 92 = .ok (.getfield 65, 3) := by decide +kernel
theorem dX5_copy_95 : decode cX5_copy 95 = .ok (.putfield 65, 3) := by decide +kernel
theorem dX5_copy_98 : decode cX5_copy 98 = .ok (.aload_n 0, 1) := by decide +kernel
theorem dX5_copy_99 : decode cX5_copy 99 = .ok (.aload_n 1, 1) := by decide +kernel
theorem dX5_copy_100 : decode cX5_copy 100 = .ok (.getfield 68, 3) := by decide +kernel
theorem dX5_copy_103 : decode cX5_copy 103 = .ok (.putfield 68, 3) := by decide +kernel
theorem dX5_copy_106 : decode cX5_copy 106 = .ok (.return_, 1) := by decide +kernel
def Sc_copy_17_13 (w : Wd) : Option Wd := (if ((sI (sI w 17 1 (w.1 13 1)) 17 2 ((sI w 17 1 (w.1 13 1)).1 13 2)).1 13 3) &&& (1 : Int32) = ((sI (sI w 17 1 (w.1 13 1)) 17 2 ((sI w 17 1 (w.1 13 1)).1 13 2)).1 13 3) then (if ((sI (sI (sI w 17 1 (w.1 13 1)) 17 2 ((sI w 17 1 (w.1 13 1)).1 13 2)) 17 3 ((sI (sI w 17 1 (w.1 13 1)) 17 2 ((sI w 17 1 (w.1 13 1)).1 13 2)).1 13 3)).1 13 4) &&& (1 : Int32) = ((sI (sI (sI w 17 1 (w.1 13 1)) 17 2 ((sI w 17 1 (w.1 13 1)).1 13 2)) 17 3 ((sI (sI w 17 1 (w.1 13 1)) 17 2 ((sI w 17 1 (w.1 13 1)).1 13 2)).1 13 3)).1 13 4) then some (sI (sI (sI (cI (cI (cI (sI (sI (sI (sI (sI w 17 1 (w.1 13 1)) 17 2 ((sI w 17 1 (w.1 13 1)).1 13 2)) 17 3 ((sI (sI w 17 1 (w.1 13 1)) 17 2 ((sI w 17 1 (w.1 13 1)).1 13 2)).1 13 3)) 17 4 ((sI (sI (sI w 17 1 (w.1 13 1)) 17 2 ((sI w 17 1 (w.1 13 1)).1 13 2)) 17 3 ((sI (sI w 17 1 (w.1 13 1)) 17 2 ((sI w 17 1 (w.1 13 1)).1 13 2)).1 13 3)).1 13 4)) 17 5 ((sI (sI (sI (sI w 17 1 (w.1 13 1)) 17 2 ((sI w 17 1 (w.1 13 1)).1 13 2)) 17 3 ((sI (sI w 17 1 (w.1 13 1)) 17 2 ((sI w 17 1 (w.1 13 1)).1 13 2)).1 13 3)) 17 4 ((sI (sI (sI w 17 1 (w.1 13 1)) 17 2 ((sI w 17 1 (w.1 13 1)).1 13 2)) 17 3 ((sI (sI w 17 1 (w.1 13 1)) 17 2 ((sI w 17 1 (w.1 13 1)).1 13 2)).1 13 3)).1 13 4)).1 13 5)) 14 0 18 0 3) 15 0 19 0 2) 16 0 20 0 2) 17 9 ((cI (cI (cI (sI (sI (sI (sI (sI w 17 1 (w.1 13 1)) 17 2 ((sI w 17 1 (w.1 13 1)).1 13 2)) 17 3 ((sI (sI w 17 1 (w.1 13 1)) 17 2 ((sI w 17 1 (w.1 13 1)).1 13 2)).1 13 3)) 17 4 ((sI (sI (sI w 17 1 (w.1 13 1)) 17 2 ((sI w 17 1 (w.1 13 1)).1 13 2)) 17 3 ((sI (sI w 17 1 (w.1 13 1)) 17 2 ((sI w 17 1 (w.1 13 1)).1 13 2)).1 13 3)).1 13 4)) 17 5 ((sI (sI (sI (sI w 17 1 (w.1 13 1)) 17 2 ((sI w 17 1 (w.1 13 1)).1 13 2)) 17 3 ((sI (sI w 17 1 (w.1 13 1)) 17 2 ((sI w 17 1 (w.1 13 1)).1 13 2)).1 13 3)) 17 4 ((sI (sI (sI w 17 1 (w.1 13 1)) 17 2 ((sI w 17 1 (w.1 13 1)).1 13 2)) 17 3 ((sI (sI w 17 1 (w.1 13 1)) 17 2 ((sI w 17 1 (w.1 13 1)).1 13 2)).1 13 3)).1 13 4)).1 13 5)) 14 0 18 0 3) 15 0 19 0 2) 16 0 20 0 2).1 13 9)) 17 10 ((sI (cI (cI (cI (sI (sI (sI (sI (sI w 17 1 (w.1 13 1)) 17 2 ((sI w 17 1 (w.1 13 1)).1 13 2)) 17 3 ((sI (sI w 17 1 (w.1 13 1)) 17 2 ((sI w 17 1 (w.1 13 1)).1 13 2)).1 13 3)) 17 4 ((sI (sI (sI w 17 1 (w.1 13 1)) 17 2 ((sI w 17 1 (w.1 13 1)).1 13 2)) 17 3 ((sI (sI w 17 1 (w.1 13 1)) 17 2 ((sI w 17 1 (w.1 13 1)).1 13 2)).1 13 3)).1 13 4)) 17 5 ((sI (sI (sI (sI w 17 1 (w.1 13 1)) 17 2 ((sI w 17 1 (w.1 13 1)).1 13 2)) 17 3 ((sI (sI w 17 1 (w.1 13 1)) 17 2 ((sI w 17 1 (w.1 13 1)).1 13 2)).1 13 3)) 17 4 ((sI (sI (sI w 17 1 (w.1 13 1)) 17 2 ((sI w 17 1 (w.1 13 1)).1 13 2)) 17 3 ((sI (sI w 17 1 (w.1 13 1)) 17 2 ((sI w 17 1 (w.1 13 1)).1 13 2)).1 13 3)).1 13 4)).1 13 5)) 14 0 18 0 3) 15 0 19 0 2) 16 0 20 0 2) 17 9 ((cI (cI (cI (sI (sI (sI (sI (sI w 17 1 (w.1 13 1)) 17 2 ((sI w 17 1 (w.1 13 1)).1 13 2)) 17 3 ((sI (sI w 17 1 (w.1 13 1)) 17 2 ((sI w 17 1 (w.1 13 1)).1 13 2)).1 13 3)) 17 4 ((sI (sI (sI w 17 1 (w.1 13 1)) 17 2 ((sI w 17 1 (w.1 13 1)).1 13 2)) 17 3 ((sI (sI w 17 1 (w.1 13 1)) 17 2 ((sI w 17 1 (w.1 13 1)).1 13 2)).1 13 3)).1 13 4)) 17 5 ((sI (sI (sI (sI w 17 1 (w.1 13 1)) 17 2 ((sI w 17 1 (w.1 13 1)).1 13 2)) 17 3 ((sI (sI w 17 1 (w.1 13 1)) 17 2 ((sI w 17 1 (w.1 13 1)).1 13 2)).1 13 3)) 17 4 ((sI (sI (sI w 17 1 (w.1 13 1)) 17 2 ((sI w 17 1 (w.1 13 1)).1 13 2)) 17 3 ((sI (sI w 17 1 (w.1 13 1)) 17 2 ((sI w 17 1 (w.1 13 1)).1 13 2)).1 13 3)).1 13 4)).1 13 5)) 14 0 18 0 3) 15 0 19 0 2) 16 0 20 0 2).1 13 9)).1 13 10)) 17 11 ((sI (sI (cI (cI (cI (sI (sI (sI (sI (sI w 17 1 (w.1 13 1)) 17 2 ((sI w 17 1 (w.1 13 1)).1 13 2)) 17 3 ((sI (sI w 17 1 (w.1 13 1)) 17 2 ((sI w 17 1 (w.1 13 1)).1 13 2)).1 13 3)) 17 4 ((sI (sI (sI w 17 1 (w.1 13 1)) 17 2 ((sI w 17 1 (w.1 13 1)).1 13 2)) 17 3 ((sI (sI w 17 1 (w.1 13 1)) 17 2 ((sI w 17 1 (w.1 13 1)).1 13 2)).1 13 3)).1 13 4)) 17 5 ((sI (sI (sI (sI w 17 1 (w.1 13 1)) 17 2 ((sI w 17 1 (w.1 13 1)).1 13 2)) 17 3 ((sI (sI w 17 1 (w.1 13 1)) 17 2 ((sI w 17 1 (w.1 13 1)).1 13 2)).1 13 3)) 17 4 ((sI (sI (sI w 17 1 (w.1 13 1)) 17 2 ((sI w 17 1 (w.1 13 1)).1 13 2)) 17 3 ((sI (sI w 17 1 (w.1 13 1)) 17 2 ((sI w 17 1 (w.1 13 1)).1 13 2)).1 13 3)).1 13 4)).1 13 5)) 14 0 18 0 3) 15 0 19 0 2) 16 0 20 0 2) 17 9 ((cI (cI (cI (sI (sI (sI (sI (sI w 17 1 (w.1 13 1)) 17 2 ((sI w 17 1 (w.1 13 1)).1 13 2)) 17 3 ((sI (sI w 17 1 (w.1 13 1)) 17 2 ((sI w 17 1 (w.1 13 1)).1 13 2)).1 13 3)) 17 4 ((sI (sI (sI w 17 1 (w.1 13 1)) 17 2 ((sI w 17 1 (w.1 13 1)).1 13 2)) 17 3 ((sI (sI w 17 1 (w.1 13 1)) 17 2 ((sI w 17 1 (w.1 13 1)).1 13 2)).1 13 3)).1 13 4)) 17 5 ((sI (sI (sI (sI w 17 1 (w.1 13 1)) 17 2 ((sI w 17 1 (w.1 13 1)).1 13 2)) 17 3 ((sI (sI w 17 1 (w.1 13 1)) 17 2 ((sI w 17 1 (w.1 13 1)).1 13 2)).1 13 3)) 17 4 ((sI (sI (sI w 17 1 (w.1 13 1)) 17 2 ((sI w 17 1 (w.1 13 1)).1 13 2)) 17 3 ((sI (sI w 17 1 (w.1 13 1)) 17 2 ((sI w 17 1 (w.1 13 1)).1 13 2)).1 13 3)).1 13 4)).1 13 5)) 14 0 18 0 3) 15 0 19 0 2) 16 0 20 0 2).1 13 9)) 17 10 ((sI (cI (cI (cI (sI (sI (sI (sI (sI w 17 1 (w.1 13 1)) 17 2 ((sI w 17 1 (w.1 13 1)).1 13 2)) 17 3 ((sI (sI w 17 1 (w.1 13 1)) 17 2 ((sI w 17 1 (w.1 13 1)).1 13 2)).1 13 3)) 17 4 ((sI (sI (sI w 17 1 (w.1 13 1)) 17 2 ((sI w 17 1 (w.1 13 1)).1 13 2)) 17 3 ((sI (sI w 17 1 (w.1 13 1)) 17 2 ((sI w 17 1 (w.1 13 1)).1 13 2)).1 13 3)).1 13 4)) 17 5 ((sI (sI (sI (sI w 17 1 (w.1 13 1)) 17 2 ((sI w 17 1 (w.1 13 1)).1 13 2)) 17 3 ((sI (sI w 17 1 (w.1 13 1)) 17 2 ((sI w 17 1 (w.1 13 1)).1 13 2)).1 13 3)) 17 4 ((sI (sI (sI w 17 1 (w.1 13 1)) 17 2 ((sI w 17 1 (w.1 13 1)).1 13 2)) 17 3 ((sI (sI w 17 1 (w.1 13 1)) 17 2 ((sI w 17 1 (w.1 13 1)).1 13 2)).1 13 3)).1 13 4)).1 13 5)) 14 0 18 0 3) 15 0 19 0 2) 16 0 20 0 2) 17 9 ((cI (cI (cI (sI (sI (sI (sI (sI w 17 1 (w.1 13 1)) 17 2 ((sI w 17 1 (w.1 13 1)).1 13 2)) 17 3 ((sI (sI w 17 1 (w.1 13 1)) 17 2 ((sI w 17 1 (w.1 13 1)).1 13 2)).1 13 3)) 17 4 ((sI (sI (sI w 17 1 (w.1 13 1)) 17 2 ((sI w 17 1 (w.1 13 1)).1 13 2)) 17 3 ((sI (sI w 17 1 (w.1 13 1)) 17 2 ((sI w 17 1 (w.1 13 1)).1 13 2)).1 13 3)).1 13 4)) 17 5 ((sI (sI (sI (sI w 17 1 (w.1 13 1)) 17 2 ((sI w 17 1 (w.1 13 1)).1 13 2)) 17 3 ((sI (sI w 17 1 (w.1 13 1)) 17 2 ((sI w 17 1 (w.1 13 1)).1 13 2)).1 13 3)) 17 4 ((sI (sI (sI w 17 1 (w.1 13 1)) 17 2 ((sI w 17 1 (w.1 13 1)).1 13 2)) 17 3 ((sI (sI w 17 1 (w.1 13 1)) 17 2 ((sI w 17 1 (w.1 13 1)).1 13 2)).1 13 3)).1 13 4)).1 13 5)) 14 0 18 0 3) 15 0 19 0 2) 16 0 20 0 2).1 13 9)).1 13 10)).1 13 11)) else none) else none)
set_option maxRecDepth 100000 in
set_option maxHeartbeats 4000000 in
theorem ct_Sc_copy_17_13 {l : Launch} {g : GG} {σ : Sd} (hg : OKg g σ) (hb : σ.2.1 = true) (hx : ∀ c ∈ ([13, 14, 15, 16, 17, 18, 19, 20] : List Nat), c ∈ σ.1) (w : Wd) {q : Wd} (hq : Sc_copy_17_13 w = some q) : CT l g σ yX5_copy cX5_copy 2 none 1 18 [.ref (gA g 17), .ref (gA g 13)] w none q := by
  refine ct_of (rt := rtV) (res := Sc_copy_17_13 w) (q := q) (own := RX5) (b := true) hg hb hx (by decide) rfl (Nat.le_of_ble_eq_true rfl) hq (fun K e1 e2 e3 F => ?_)
  subst e1 e2 e3
  rw [Sc_copy_17_13]
  show N K _ _ w 0 [(0, .ref (gA (cg K) 17)), (1, .ref (gA (cg K) 13))] []
  refine n_aload_n F dX5_copy_0 rfl 0 rfl ?_
  refine n_aload_n F dX5_copy_1 rfl 1 rfl ?_
  refine n_get F ck_5 lf_RX5_28 (by decide) fg_13_1 (by decide) dX5_copy_2 ?_
  refine n_put F ck_5 lf_RX5_28 (by decide) rfl fp_17_1 (by decide) rfl rfl dX5_copy_5 ?_
  refine n_aload_n F dX5_copy_8 rfl 0 rfl ?_
  refine n_aload_n F dX5_copy_9 rfl 1 rfl ?_
  refine n_get F ck_5 lf_RX5_37 (by decide) fg_13_2 (by decide) dX5_copy_10 ?_
  refine n_put F ck_5 lf_RX5_37 (by decide) rfl fp_17_2 (by decide) rfl rfl dX5_copy_13 ?_
  refine n_aload_n F dX5_copy_16 rfl 0 rfl ?_
  refine n_aload_n F dX5_copy_17 rfl 1 rfl ?_
  refine n_get F ck_5 lf_RX5_40 (by decide) fg_13_3 (by decide) dX5_copy_18 ?_
  refine n_chk (fun e1 => ?_)
  refine n_put F ck_5 lf_RX5_40 (by decide) rfl fp_17_3 (by decide) (bz_n e1) (bz_f e1) dX5_copy_21 ?_
  refine n_aload_n F dX5_copy_24 rfl 0 rfl ?_
  refine n_aload_n F dX5_copy_25 rfl 1 rfl ?_
  refine n_get F ck_5 lf_RX5_59 (by decide) fg_13_4 (by decide) dX5_copy_26 ?_
  refine n_chk (fun e2 => ?_)
  refine n_put F ck_5 lf_RX5_59 (by decide) rfl fp_17_4 (by decide) (bz_n e2) (bz_f e2) dX5_copy_29 ?_
  refine n_aload_n F dX5_copy_32 rfl 0 rfl ?_
  refine n_aload_n F dX5_copy_33 rfl 1 rfl ?_
  refine n_get F ck_5 lf_RX5_71 (by decide) fg_13_5 (by decide) dX5_copy_34 ?_
  refine n_put F ck_5 lf_RX5_71 (by decide) rfl fp_17_5 (by decide) rfl rfl dX5_copy_37 ?_
  refine n_aload_n F dX5_copy_40 rfl 1 rfl ?_
  refine n_get F ck_5 lf_RX5_9 (by decide) fg_13_6 (by decide) dX5_copy_41 ?_
  refine n_iconst F (0 : Int32) dX5_copy_44 (by decide) ?_
  refine n_aload_n F dX5_copy_45 rfl 0 rfl ?_
  refine n_get F ck_5 lf_RX5_9 (by decide) fg_17_6 (by decide) dX5_copy_46 ?_
  refine n_iconst F (0 : Int32) dX5_copy_49 (by decide) ?_
  refine n_iconst F (3 : Int32) dX5_copy_50 (by decide) ?_
  refine n_copyI F ar_14 ar_18 (by decide) (by decide) 0 0 3 (by decide) (by decide) (by decide) (by decide) (by decide) (by decide) (by decide) (by decide) la_RX5_45 (Nat.le_of_ble_eq_true rfl) (Nat.le_of_ble_eq_true rfl) dX5_copy_51 ?_
  refine n_aload_n F dX5_copy_54 rfl 1 rfl ?_
  refine n_get F ck_5 lf_RX5_15 (by decide) fg_13_7 (by decide) dX5_copy_55 ?_
  refine n_iconst F (0 : Int32) dX5_copy_58 (by decide) ?_
  refine n_aload_n F dX5_copy_59 rfl 0 rfl ?_
  refine n_get F ck_5 lf_RX5_15 (by decide) fg_17_7 (by decide) dX5_copy_60 ?_
  refine n_iconst F (0 : Int32) dX5_copy_63 (by decide) ?_
  refine n_iconst F (2 : Int32) dX5_copy_64 (by decide) ?_
  refine n_copyI F ar_15 ar_19 (by decide) (by decide) 0 0 2 (by decide) (by decide) (by decide) (by decide) (by decide) (by decide) (by decide) (by decide) la_RX5_45 (Nat.le_of_ble_eq_true rfl) (Nat.le_of_ble_eq_true rfl) dX5_copy_65 ?_
  refine n_aload_n F dX5_copy_68 rfl 1 rfl ?_
  refine n_get F ck_5 lf_RX5_18 (by decide) fg_13_8 (by decide) dX5_copy_69 ?_
  refine n_iconst F (0 : Int32) dX5_copy_72 (by decide) ?_
  refine n_aload_n F dX5_copy_73 rfl 0 rfl ?_
  refine n_get F ck_5 lf_RX5_18 (by decide) fg_17_8 (by decide) dX5_copy_74 ?_
  refine n_iconst F (0 : Int32) dX5_copy_77 (by decide) ?_
  refine n_iconst F (2 : Int32) dX5_copy_78 (by decide) ?_
  refine n_copyI F ar_16 ar_20 (by decide) (by decide) 0 0 2 (by decide) (by decide) (by decide) (by decide) (by decide) (by decide) (by decide) (by decide) la_RX5_45 (Nat.le_of_ble_eq_true rfl) (Nat.le_of_ble_eq_true rfl) dX5_copy_79 ?_
  refine n_aload_n F dX5_copy_82 rfl 0 rfl ?_
  refine n_aload_n F dX5_copy_83 rfl 1 rfl ?_
  refine n_get F ck_5 lf_RX5_62 (by decide) fg_13_9 (by decide) dX5_copy_84 ?_
  refine n_put F ck_5 lf_RX5_62 (by decide) rfl fp_17_9 (by decide) rfl rfl dX5_copy_87 ?_
  refine n_aload_n F dX5_copy_90 rfl 0 rfl ?_
  refine n_aload_n F dX5_copy_91 rfl 1 rfl ?_
  refine n_get F ck_5 lf_RX5_65 (by decide) fg_13_10 (by decide) dX5_copy_92 ?_
  refine n_put F ck_5 lf_RX5_65 (by decide) rfl fp_17_10 (by decide) rfl rfl dX5_copy_95 ?_
  refine n_aload_n F dX5_copy_98 rfl 0 rfl ?_
  refine n_aload_n F dX5_copy_99 rfl 1 rfl ?_
  refine n_get F ck_5 lf_RX5_68 (by decide) fg_13_11 (by decide) dX5_copy_100 ?_
  refine n_put F ck_5 lf_RX5_68 (by decide) rfl fp_17_11 (by decide) rfl rfl dX5_copy_103 ?_
  exact n_vret F rfl rfl dX5_copy_106
def Sc_copy_21_13 (w : Wd) : Option Wd := (if ((sI (sI w 21 1 (w.1 13 1)) 21 2 ((sI w 21 1 (w.1 13 1)).1 13 2)).1 13 3) &&& (1 : Int32) = ((sI (sI w 21 1 (w.1 13 1)) 21 2 ((sI w 21 1 (w.1 13 1)).1 13 2)).1 13 3) then (if ((sI (sI (sI w 21 1 (w.1 13 1)) 21 2 ((sI w 21 1 (w.1 13 1)).1 13 2)) 21 3 ((sI (sI w 21 1 (w.1 13 1)) 21 2 ((sI w 21 1 (w.1 13 1)).1 13 2)).1 13 3)).1 13 4) &&& (1 : Int32) = ((sI (sI (sI w 21 1 (w.1 13 1)) 21 2 ((sI w 21 1 (w.1 13 1)).1 13 2)) 21 3 ((sI (sI w 21 1 (w.1 13 1)) 21 2 ((sI w 21 1 (w.1 13 1)).1 13 2)).1 13 3)).1 13 4) then some (sI (sI (sI (cI (cI (cI (sI (sI (sI (sI (sI w 21 1 (w.1 13 1)) 21 2 ((sI w 21 1 (w.1 13 1)).1 13 2)) 21 3 ((sI (sI w 21 1 (w.1 13 1)) 21 2 ((sI w 21 1 (w.1 13 1)).1 13 2)).1 13 3)) 21 4 ((sI (sI (sI w 21 1 (w.1 13 1)) 21 2 ((sI w 21 1 (w.1 13 1)).1 13 2)) 21 3 ((sI (sI w 21 1 (w.1 13 1)) 21 2 ((sI w 21 1 (w.1 13 1)).1 13 2)).1 13 3)).1 13 4)) 21 5 ((sI (sI (sI (sI w 21 1 (w.1 13 1)) 21 2 ((sI w 21 1 (w.1 13 1)).1 13 2)) 21 3 ((sI (sI w 21 1 (w.1 13 1)) 21 2 ((sI w 21 1 (w.1 13 1)).1 13 2)).1 13 3)) 21 4 ((sI (sI (sI w 21 1 (w.1 13 1)) 21 2 ((sI w 21 1 (w.1 13 1)).1 13 2)) 21 3 ((sI (sI w 21 1 (w.1 13 1)) 21 2 ((sI w 21 1 (w.1 13 1)).1 13 2)).1 13 3)).1 13 4)).1 13 5)) 14 0 22 0 3) 15 0 23 0 2) 16 0 24 0 2) 21 9 ((cI (cI (cI (sI (sI (sI (sI (sI w 21 1 (w.1 13 1)) 21 2 ((sI w 21 1 (w.1 13 1)).1 13 2)) 21 3 ((sI (sI w 21 1 (w.1 13 1)) 21 2 ((sI w 21 1 (w.1 13 1)).1 13 2)).1 13 3)) 21 4 ((sI (sI (sI w 21 1 (w.1 13 1)) 21 2 ((sI w 21 1 (w.1 13 1)).1 13 2)) 21 3 ((sI (sI w 21 1 (w.1 13 1)) 21 2 ((sI w 21 1 (w.1 13 1)).1 13 2)).1 13 3)).1 13 4)) 21 5 ((sI (sI (sI (sI w 21 1 (w.1 13 1)) 21 2 ((sI w 21 1 (w.1 13 1)).1 13 2)) 21 3 ((sI (sI w 21 1 (w.1 13 1)) 21 2 ((sI w 21 1 (w.1 13 1)).1 13 2)).1 13 3)) 21 4 ((sI (sI (sI w 21 1 (w.1 13 1)) 21 2 ((sI w 21 1 (w.1 13 1)).1 13 2)) 21 3 ((sI (sI w 21 1 (w.1 13 1)) 21 2 ((sI w 21 1 (w.1 13 1)).1 13 2)).1 13 3)).1 13 4)).1 13 5)) 14 0 22 0 3) 15 0 23 0 2) 16 0 24 0 2).1 13 9)) 21 10 ((sI (cI (cI (cI (sI (sI (sI (sI (sI w 21 1 (w.1 13 1)) 21 2 ((sI w 21 1 (w.1 13 1)).1 13 2)) 21 3 ((sI (sI w 21 1 (w.1 13 1)) 21 2 ((sI w 21 1 (w.1 13 1)).1 13 2)).1 13 3)) 21 4 ((sI (sI (sI w 21 1 (w.1 13 1)) 21 2 ((sI w 21 1 (w.1 13 1)).1 13 2)) 21 3 ((sI (sI w 21 1 (w.1 13 1)) 21 2 ((sI w 21 1 (w.1 13 1)).1 13 2)).1 13 3)).1 13 4)) 21 5 ((sI (sI (sI (sI w 21 1 (w.1 13 1)) 21 2 ((sI w 21 1 (w.1 13 1)).1 13 2)) 21 3 ((sI (sI w 21 1 (w.1 13 1)) 21 2 ((sI w 21 1 (w.1 13 1)).1 13 2)).1 13 3)) 21 4 ((sI (sI (sI w 21 1 (w.1 13 1)) 21 2 ((sI w 21 1 (w.1 13 1)).1 13 2)) 21 3 ((sI (sI w 21 1 (w.1 13 1)) 21 2 ((sI w 21 1 (w.1 13 1)).1 13 2)).1 13 3)).1 13 4)).1 13 5)) 14 0 22 0 3) 15 0 23 0 2) 16 0 24 0 2) 21 9 ((cI (cI (cI (sI (sI (sI (sI (sI w 21 1 (w.1 13 1)) 21 2 ((sI w 21 1 (w.1 13 1)).1 13 2)) 21 3 ((sI (sI w 21 1 (w.1 13 1)) 21 2 ((sI w 21 1 (w.1 13 1)).1 13 2)).1 13 3)) 21 4 ((sI (sI (sI w 21 1 (w.1 13 1)) 21 2 ((sI w 21 1 (w.1 13 1)).1 13 2)) 21 3 ((sI (sI w 21 1 (w.1 13 1)) 21 2 ((sI w 21 1 (w.1 13 1)).1 13 2)).1 13 3)).1 13 4)) 21 5 ((sI (sI (sI (sI w 21 1 (w.1 13 1)) 21 2 ((sI w 21 1 (w.1 13 1)).1 13 2)) 21 3 ((sI (sI w 21 1 (w.1 13 1)) 21 2 ((sI w 21 1 (w.1 13 1)).1 13 2)).1 13 3)) 21 4 ((sI (sI (sI w 21 1 (w.1 13 1)) 21 2 ((sI w 21 1 (w.1 13 1)).1 13 2)) 21 3 ((sI (sI w 21 1 (w.1 13 1)) 21 2 ((sI w 21 1 (w.1 13 1)).1 13 2)).1 13 3)).1 13 4)).1 13 5)) 14 0 22 0 3) 15 0 23 0 2) 16 0 24 0 2).1 13 9)).1 13 10)) 21 11 ((sI (sI (cI (cI (cI (sI (sI (sI (sI (sI w 21 1 (w.1 13 1)) 21 2 ((sI w 21 1 (w.1 13 1)).1 13 2)) 21 3 ((sI (sI w 21 1 (w.1 13 1)) 21 2 ((sI w 21 1 (w.1 13 1)).1 13 2)).1 13 3)) 21 4 ((sI (sI (sI w 21 1 (w.1 13 1)) 21 2 ((sI w 21 1 (w.1 13 1)).1 13 2)) 21 3 ((sI (sI w 21 1 (w.1 13 1)) 21 2 ((sI w 21 1 (w.1 13 1)).1 13 2)).1 13 3)).1 13 4)) 21 5 ((sI (sI (sI (sI w 21 1 (w.1 13 1)) 21 2 ((sI w 21 1 (w.1 13 1)).1 13 2)) 21 3 ((sI (sI w 21 1 (w.1 13 1)) 21 2 ((sI w 21 1 (w.1 13 1)).1 13 2)).1 13 3)) 21 4 ((sI (sI (sI w 21 1 (w.1 13 1)) 21 2 ((sI w 21 1 (w.1 13 1)).1 13 2)) 21 3 ((sI (sI w 21 1 (w.1 13 1)) 21 2 ((sI w 21 1 (w.1 13 1)).1 13 2)).1 13 3)).1 13 4)).1 13 5)) 14 0 22 0 3) 15 0 23 0 2) 16 0 24 0 2) 21 9 ((cI (cI (cI (sI (sI (sI (sI (sI w 21 1 (w.1 13 1)) 21 2 ((sI w 21 1 (w.1 13 1)).1 13 2)) 21 3 ((sI (sI w 21 1 (w.1 13 1)) 21 2 ((sI w 21 1 (w.1 13 1)).1 13 2)).1 13 3)) 21 4 ((sI (sI (sI w 21 1 (w.1 13 1)) 21 2 ((sI w 21 1 (w.1 13 1)).1 13 2)) 21 3 ((sI (sI w 21 1 (w.1 13 1)) 21 2 ((sI w 21 1 (w.1 13 1)).1 13 2)).1 13 3)).1 13 4)) 21 5 ((sI (sI (sI (sI w 21 1 (w.1 13 1)) 21 2 ((sI w 21 1 (w.1 13 1)).1 13 2)) 21 3 ((sI (sI w 21 1 (w.1 13 1)) 21 2 ((sI w 21 1 (w.1 13 1)).1 13 2)).1 13 3)) 21 4 ((sI (sI (sI w 21 1 (w.1 13 1)) 21 2 ((sI w 21 1 (w.1 13 1)).1 13 2)) 21 3 ((sI (sI w 21 1 (w.1 13 1)) 21 2 ((sI w 21 1 (w.1 13 1)).1 13 2)).1 13 3)).1 13 4)).1 13 5)) 14 0 22 0 3) 15 0 23 0 2) 16 0 24 0 2).1 13 9)) 21 10 ((sI (cI (cI (cI (sI (sI (sI (sI (sI w 21 1 (w.1 13 1)) 21 2 ((sI w 21 1 (w.1 13 1)).1 13 2)) 21 3 ((sI (sI w 21 1 (w.1 13 1)) 21 2 ((sI w 21 1 (w.1 13 1)).1 13 2)).1 13 3)) 21 4 ((sI (sI (sI w 21 1 (w.1 13 1)) 21 2 ((sI w 21 1 (w.1 13 1)).1 13 2)) 21 3 ((sI (sI w 21 1 (w.1 13 1)) 21 2 ((sI w 21 1 (w.1 13 1)).1 13 2)).1 13 3)).1 13 4)) 21 5 ((sI (sI (sI (sI w 21 1 (w.1 13 1)) 21 2 ((sI w 21 1 (w.1 13 1)).1 13 2)) 21 3 ((sI (sI w 21 1 (w.1 13 1)) 21 2 ((sI w 21 1 (w.1 13 1)).1 13 2)).1 13 3)) 21 4 ((sI (sI (sI w 21 1 (w.1 13 1)) 21 2 ((sI w 21 1 (w.1 13 1)).1 13 2)) 21 3 ((sI (sI w 21 1 (w.1 13 1)) 21 2 ((sI w 21 1 (w.1 13 1)).1 13 2)).1 13 3)).1 13 4)).1 13 5)) 14 0 22 0 3) 15 0 23 0 2) 16 0 24 0 2) 21 9 ((cI (cI (cI (sI (sI (sI (sI (sI w 21 1 (w.1 13 1)) 21 2 ((sI w 21 1 (w.1 13 1)).1 13 2)) 21 3 ((sI (sI w 21 1 (w.1 13 1)) 21 2 ((sI w 21 1 (w.1 13 1)).1 13 2)).1 13 3)) 21 4 ((sI (sI (sI w 21 1 (w.1 13 1)) 21 2 ((sI w 21 1 (w.1 13 1)).1 13 2)) 21 3 ((sI (sI w 21 1 (w.1 13 1)) 21 2 ((sI w 21 1 (w.1 13 1)).1 13 2)).1 13 3)).1 13 4)) 21 5 ((sI (sI (sI (sI w 21 1 (w.1 13 1)) 21 2 ((sI w 21 1 (w.1 13 1)).1 13 2)) 21 3 ((sI (sI w 21 1 (w.1 13 1)) 21 2 ((sI w 21 1 (w.1 13 1)).1 13 2)).1 13 3)) 21 4 ((sI (sI (sI w 21 1 (w.1 13 1)) 21 2 ((sI w 21 1 (w.1 13 1)).1 13 2)) 21 3 ((sI (sI w 21 1 (w.1 13 1)) 21 2 ((sI w 21 1 (w.1 13 1)).1 13 2)).1 13 3)).1 13 4)).1 13 5)) 14 0 22 0 3) 15 0 23 0 2) 16 0 24 0 2).1 13 9)).1 13 10)).1 13 11)) else none) else none)
set_option maxRecDepth 100000 in
set_option maxHeartbeats 4000000 in
theorem ct_Sc_copy_21_13 {l : Launch} {g : GG} {σ : Sd} (hg : OKg g σ) (hb : σ.2.1 = true) (hx : ∀ c ∈ ([13, 14, 15, 16, 21, 22, 23, 24] : List Nat), c ∈ σ.1) (w : Wd) {q : Wd} (hq : Sc_copy_21_13 w = some q) : CT l g σ yX5_copy cX5_copy 2 none 1 18 [.ref (gA g 21), .ref (gA g 13)] w none q := by
  refine ct_of (rt := rtV) (res := Sc_copy_21_13 w) (q := q) (own := RX5) (b := true) hg hb hx (by decide) rfl (Nat.le_of_ble_eq_true rfl) hq (fun K e1 e2 e3 F => ?_)
  subst e1 e2 e3
  rw [Sc_copy_21_13]
  show N K _ _ w 0 [(0, .ref (gA (cg K) 21)), (1, .ref (gA (cg K) 13))] []
  refine n_aload_n F dX5_copy_0 rfl 0 rfl ?_
  refine n_aload_n F dX5_copy_1 rfl 1 rfl ?_
  refine n_get F ck_5 lf_RX5_28 (by decide) fg_13_1 (by decide) dX5_copy_2 ?_
  refine n_put F ck_5 lf_RX5_28 (by decide) rfl fp_21_1 (by decide) rfl rfl dX5_copy_5 ?_
  refine n_aload_n F dX5_copy_8 rfl 0 rfl ?_
  refine n_aload_n F dX5_copy_9 rfl 1 rfl ?_
  refine n_get F ck_5 lf_RX5_37 (by decide) fg_13_2 (by decide) dX5_copy_10 ?_
  refine n_put F ck_5 lf_RX5_37 (by decide) rfl fp_21_2 (by decide) rfl rfl dX5_copy_13 ?_
  refine n_aload_n F dX5_copy_16 rfl 0 rfl ?_
  refine n_aload_n F dX5_copy_17 rfl 1 rfl ?_
  refine n_get F ck_5 lf_RX5_40 (by decide) fg_13_3 (by decide) dX5_copy_18 ?_
  refine n_chk (fun e1 => ?_)
  refine n_put F ck_5 lf_RX5_40 (by decide) rfl fp_21_3 (by decide) (bz_n e1) (bz_f e1) dX5_copy_21 ?_
  refine n_aload_n F dX5_copy_24 rfl 0 rfl ?_
  refine n_aload_n F dX5_copy_25 rfl 1 rfl ?_
  refine n_get F ck_5 lf_RX5_59 (by decide) fg_13_4 (by decide) dX5_copy_26 ?_
  refine n_chk (fun e2 => ?_)
  refine n_put F ck_5 lf_RX5_59 (by decide) rfl fp_21_4 (by decide) (bz_n e2) (bz_f e2) dX5_copy_29 ?_
  refine n_aload_n F dX5_copy_32 rfl 0 rfl ?_
  refine n_aload_n F dX5_copy_33 rfl 1 rfl ?_
  refine n_get F ck_5 lf_RX5_71 (by decide) fg_13_5 (by decide) dX5_copy_34 ?_
  refine n_put F ck_5 lf_RX5_71 (by decide) rfl fp_21_5 (by decide) rfl rfl dX5_copy_37 ?_
  refine n_aload_n F dX5_copy_40 rfl 1 rfl ?_
  refine n_get F ck_5 lf_RX5_9 (by decide) fg_13_6 (by decide) dX5_copy_41 ?_
  refine n_iconst F (0 : Int32) dX5_copy_44 (by decide) ?_
  refine n_aload_n F dX5_copy_45 rfl 0 rfl ?_
  refine n_get F ck_5 lf_RX5_9 (by decide) fg_21_6 (by decide) dX5_copy_46 ?_
  refine n_iconst F (0 : Int32) dX5_copy_49 (by decide) ?_
  refine n_iconst F (3 : Int32) dX5_copy_50 (by decide) ?_
  refine n_copyI F ar_14 ar_22 (by decide) (by decide) 0 0 3 (by decide) (by decide) (by decide) (by decide) (by decide) (by decide) (by decide) (by decide) la_RX5_45 (Nat.le_of_ble_eq_true rfl) (Nat.le_of_ble_eq_true rfl) dX5_copy_51 ?_
  refine n_aload_n F dX5_copy_54 rfl 1 rfl ?_
  refine n_get F ck_5 lf_RX5_15 (by decide) fg_13_7 (by decide) dX5_copy_55 ?_
  refine n_iconst F (0 : Int32) dX5_copy_58 (by decide) ?_
  refine n_aload_n F dX5_copy_59 rfl 0 rfl ?_
  refine n_get F ck_5 lf_RX5_15 (by decide) fg_21_7 (by decide) dX5_copy_60 ?_
  refine n_iconst F (0 : Int32) dX5_copy_63 (by decide) ?_
  refine n_iconst F (2 : Int32) dX5_copy_64 (by decide) ?_
  refine n_copyI F ar_15 ar_23 (by decide) (by decide) 0 0 2 (by decide) (by decide) (by decide) (by decide) (by decide) (by decide) (by decide) (by decide) la_RX5_45 (Nat.le_of_ble_eq_true rfl) (Nat.le_of_ble_eq_true rfl) dX5_copy_65 ?_
  refine n_aload_n F dX5_copy_68 rfl 1 rfl ?_
  refine n_get F ck_5 lf_RX5_18 (by decide) fg_13_8 (by decide) dX5_copy_69 ?_
  refine n_iconst F (0 : Int32) dX5_copy_72 (by decide) ?_
  refine n_aload_n F dX5_copy_73 rfl 0 rfl ?_
  refine n_get F ck_5 lf_RX5_18 (by decide) fg_21_8 (by decide) dX5_copy_74 ?_
  refine n_iconst F (0 : Int32) dX5_copy_77 (by decide) ?_
  refine n_iconst F (2 : Int32) dX5_copy_78 (by decide) ?_
  refine n_copyI F ar_16 ar_24 (by decide) (by decide) 0 0 2 (by decide) (by decide) (by decide) (by decide) (by decide) (by decide) (by decide) (by decide) la_RX5_45 (Nat.le_of_ble_eq_true rfl) (Nat.le_of_ble_eq_true rfl) dX5_copy_79 ?_
  refine n_aload_n F dX5_copy_82 rfl 0 rfl ?_
  refine n_aload_n F dX5_copy_83 rfl 1 rfl ?_
  refine n_get F ck_5 lf_RX5_62 (by decide) fg_13_9 (by decide) dX5_copy_84 ?_
  refine n_put F ck_5 lf_RX5_62 (by decide) rfl fp_21_9 (by decide) rfl rfl dX5_copy_87 ?_
  refine n_aload_n F dX5_copy_90 rfl 0 rfl ?_
  refine n_aload_n F dX5_copy_91 rfl 1 rfl ?_
  refine n_get F ck_5 lf_RX5_65 (by decide) fg_13_10 (by decide) dX5_copy_92 ?_
  refine n_put F ck_5 lf_RX5_65 (by decide) rfl fp_21_10 (by decide) rfl rfl dX5_copy_95 ?_
  refine n_aload_n F dX5_copy_98 rfl 0 rfl ?_
  refine n_aload_n F dX5_copy_99 rfl 1 rfl ?_
  refine n_get F ck_5 lf_RX5_68 (by decide) fg_13_11 (by decide) dX5_copy_100 ?_
  refine n_put F ck_5 lf_RX5_68 (by decide) rfl fp_21_11 (by decide) rfl rfl dX5_copy_103 ?_
  exact n_vret F rfl rfl dX5_copy_106
def Sc_copy_13_17 (w : Wd) : Option Wd := (if ((sI (sI w 13 1 (w.1 17 1)) 13 2 ((sI w 13 1 (w.1 17 1)).1 17 2)).1 17 3) &&& (1 : Int32) = ((sI (sI w 13 1 (w.1 17 1)) 13 2 ((sI w 13 1 (w.1 17 1)).1 17 2)).1 17 3) then (if ((sI (sI (sI w 13 1 (w.1 17 1)) 13 2 ((sI w 13 1 (w.1 17 1)).1 17 2)) 13 3 ((sI (sI w 13 1 (w.1 17 1)) 13 2 ((sI w 13 1 (w.1 17 1)).1 17 2)).1 17 3)).1 17 4) &&& (1 : Int32) = ((sI (sI (sI w 13 1 (w.1 17 1)) 13 2 ((sI w 13 1 (w.1 17 1)).1 17 2)) 13 3 ((sI (sI w 13 1 (w.1 17 1)) 13 2 ((sI w 13 1 (w.1 17 1)).1 17 2)).1 17 3)).1 17 4) then some (sI (sI (sI (cI (cI (cI (sI (sI (sI (sI (sI w 13 1 (w.1 17 1)) 13 2 ((sI w 13 1 (w.1 17 1)).1 17 2)) 13 3 ((sI (sI w 13 1 (w.1 17 1)) 13 2 ((sI w 13 1 (w.1 17 1)).1 17 2)).1 17 3)) 13 4 ((sI (sI (sI w 13 1 (w.1 17 1)) 13 2 ((sI w 13 1 (w.1 17 1)).1 17 2)) 13 3 ((sI (sI w 13 1 (w.1 17 1)) 13 2 ((sI w 13 1 (w.1 17 1)).1 17 2)).1 17 3)).1 17 4)) 13 5 ((sI (sI (sI (sI w 13 1 (w.1 17 1)) 13 2 ((sI w 13 1 (w.1 17 1)).1 17 2)) 13 3 ((sI (sI w 13 1 (w.1 17 1)) 13 2 ((sI w 13 1 (w.1 17 1)).1 17 2)).1 17 3)) 13 4 ((sI (sI (sI w 13 1 (w.1 17 1)) 13 2 ((sI w 13 1 (w.1 17 1)).1 17 2)) 13 3 ((sI (sI w 13 1 (w.1 17 1)) 13 2 ((sI w 13 1 (w.1 17 1)).1 17 2)).1 17 3)).1 17 4)).1 17 5)) 18 0 14 0 3) 19 0 15 0 2) 20 0 16 0 2) 13 9 ((cI (cI (cI (sI (sI (sI (sI (sI w 13 1 (w.1 17 1)) 13 2 ((sI w 13 1 (w.1 17 1)).1 17 2)) 13 3 ((sI (sI w 13 1 (w.1 17 1)) 13 2 ((sI w 13 1 (w.1 17 1)).1 17 2)).1 17 3)) 13 4 ((sI (sI (sI w 13 1 (w.1 17 1)) 13 2 ((sI w 13 1 (w.1 17 1)).1 17 2)) 13 3 ((sI (sI w 13 1 (w.1 17 1)) 13 2 ((sI w 13 1 (w.1 17 1)).1 17 2)).1 17 3)).1 17 4)) 13 5 ((sI (sI (sI (sI w 13 1 (w.1 17 1)) 13 2 ((sI w 13 1 (w.1 17 1)).1 17 2)) 13 3 ((sI (sI w 13 1 (w.1 17 1)) 13 2 ((sI w 13 1 (w.1 17 1)).1 17 2)).1 17 3)) 13 4 ((sI (sI (sI w 13 1 (w.1 17 1)) 13 2 ((sI w 13 1 (w.1 17 1)).1 17 2)) 13 3 ((sI (sI w 13 1 (w.1 17 1)) 13 2 ((sI w 13 1 (w.1 17 1)).1 17 2)).1 17 3)).1 17 4)).1 17 5)) 18 0 14 0 3) 19 0 15 0 2) 20 0 16 0 2).1 17 9)) 13 10 ((sI (cI (cI (cI (sI (sI (sI (sI (sI w 13 1 (w.1 17 1)) 13 2 ((sI w 13 1 (w.1 17 1)).1 17 2)) 13 3 ((sI (sI w 13 1 (w.1 17 1)) 13 2 ((sI w 13 1 (w.1 17 1)).1 17 2)).1 17 3)) 13 4 ((sI (sI (sI w 13 1 (w.1 17 1)) 13 2 ((sI w 13 1 (w.1 17 1)).1 17 2)) 13 3 ((sI (sI w 13 1 (w.1 17 1)) 13 2 ((sI w 13 1 (w.1 17 1)).1 17 2)).1 17 3)).1 17 4)) 13 5 ((sI (sI (sI (sI w 13 1 (w.1 17 1)) 13 2 ((sI w 13 1 (w.1 17 1)).1 17 2)) 13 3 ((sI (sI w 13 1 (w.1 17 1)) 13 2 ((sI w 13 1 (w.1 17 1)).1 17 2)).1 17 3)) 13 4 ((sI (sI (sI w 13 1 (w.1 17 1)) 13 2 ((sI w 13 1 (w.1 17 1)).1 17 2)) 13 3 ((sI (sI w 13 1 (w.1 17 1)) 13 2 ((sI w 13 1 (w.1 17 1)).1 17 2)).1 17 3)).1 17 4)).1 17 5)) 18 0 14 0 3) 19 0 15 0 2) 20 0 16 0 2) 13 9 ((cI (cI (cI (sI (sI (sI (sI (sI w 13 1 (w.1 17 1)) 13 2 ((sI w 13 1 (w.1 17 1)).1 17 2)) 13 3 ((sI (sI w 13 1 (w.1 17 1)) 13 2 ((sI w 13 1 (w.1 17 1)).1 17 2)).1 17 3)) 13 4 ((sI (sI (sI w 13 1 (w.1 17 1)) 13 2 ((sI w 13 1 (w.1 17 1)).1 17 2)) 13 3 ((sI (sI w 13 1 (w.1 17 1)) 13 2 ((sI w 13 1 (w.1 17 1)).1 17 2)).1 17 3)).1 17 4)) 13 5 ((sI (sI (sI (sI w 13 1 (w.1 17 1)) 13 2 ((sI w 13 1 (w.1 17 1)).1 17 2)) 13 3 ((sI (sI w 13 1 (w.1 17 1)) 13 2 ((sI w 13 1 (w.1 17 1)).1 17 2)).1 17 3)) 13 4 ((sI (sI (sI w 13 1 (w.1 17 1)) 13 2 ((sI w 13 1 (w.1 17 1)).1 17 2)) 13 3 ((sI (sI w 13 1 (w.1 17 1)) 13 2 ((sI w 13 1 (w.1 17 1)).1 17 2)).1 17 3)).1 17 4)).1 17 5)) 18 0 14 0 3) 19 0 15 0 2) 20 0 16 0 2).1 17 9)).1 17 10)) 13 11 ((sI (sI (cI (cI (cI (sI (sI (sI (sI (sI w 13 1 (w.1 17 1)) 13 2 ((sI w 13 1 (w.1 17 1)).1 17 2)) 13 3 ((sI (sI w 13 1 (w.1 17 1)) 13 2 ((sI w 13 1 (w.1 17 1)).1 17 2)).1 17 3)) 13 4 ((sI (sI (sI w 13 1 (w.1 17 1)) 13 2 ((sI w 13 1 (w.1 17 1)).1 17 2)) 13 3 ((sI (sI w 13 1 (w.1 17 1)) 13 2 ((sI w 13 1 (w.1 17 1)).1 17 2)).1 17 3)).1 17 4)) 13 5 ((sI (sI (sI (sI w 13 1 (w.1 17 1)) 13 2 ((sI w 13 1 (w.1 17 1)).1 17 2)) 13 3 ((sI (sI w 13 1 (w.1 17 1)) 13 2 ((sI w 13 1 (w.1 17 1)).1 17 2)).1 17 3)) 13 4 ((sI (sI (sI w 13 1 (w.1 17 1)) 13 2 ((sI w 13 1 (w.1 17 1)).1 17 2)) 13 3 ((sI (sI w 13 1 (w.1 17 1)) 13 2 ((sI w 13 1 (w.1 17 1)).1 17 2)).1 17 3)).1 17 4)).1 17 5)) 18 0 14 0 3) 19 0 15 0 2) 20 0 16 0 2) 13 9 ((cI (cI (cI (sI (sI (sI (sI (sI w 13 1 (w.1 17 1)) 13 2 ((sI w 13 1 (w.1 17 1)).1 17 2)) 13 3 ((sI (sI w 13 1 (w.1 17 1)) 13 2 ((sI w 13 1 (w.1 17 1)).1 17 2)).1 17 3)) 13 4 ((sI (sI (sI w 13 1 (w.1 17 1)) 13 2 ((sI w 13 1 (w.1 17 1)).1 17 2)) 13 3 ((sI (sI w 13 1 (w.1 17 1)) 13 2 ((sI w 13 1 (w.1 17 1)).1 17 2)).1 17 3)).1 17 4)) 13 5 ((sI (sI (sI (sI w 13 1 (w.1 17 1)) 13 2 ((sI w 13 1 (w.1 17 1)).1 17 2)) 13 3 ((sI (sI w 13 1 (w.1 17 1)) 13 2 ((sI w 13 1 (w.1 17 1)).1 17 2)).1 17 3)) 13 4 ((sI (sI (sI w 13 1 (w.1 17 1)) 13 2 ((sI w 13 1 (w.1 17 1)).1 17 2)) 13 3 ((sI (sI w 13 1 (w.1 17 1)) 13 2 ((sI w 13 1 (w.1 17 1)).1 17 2)).1 17 3)).1 17 4)).1 17 5)) 18 0 14 0 3) 19 0 15 0 2) 20 0 16 0 2).1 17 9)) 13 10 ((sI (cI (cI (cI (sI (sI (sI (sI (sI w 13 1 (w.1 17 1)) 13 2 ((sI w 13 1 (w.1 17 1)).1 17 2)) 13 3 ((sI (sI w 13 1 (w.1 17 1)) 13 2 ((sI w 13 1 (w.1 17 1)).1 17 2)).1 17 3)) 13 4 ((sI (sI (sI w 13 1 (w.1 17 1)) 13 2 ((sI w 13 1 (w.1 17 1)).1 17 2)) 13 3 ((sI (sI w 13 1 (w.1 17 1)) 13 2 ((sI w 13 1 (w.1 17 1)).1 17 2)).1 17 3)).1 17 4)) 13 5 ((sI (sI (sI (sI w 13 1 (w.1 17 1)) 13 2 ((sI w 13 1 (w.1 17 1)).1 17 2)) 13 3 ((sI (sI w 13 1 (w.1 17 1)) 13 2 ((sI w 13 1 (w.1 17 1)).1 17 2)).1 17 3)) 13 4 ((sI (sI (sI w 13 1 (w.1 17 1)) 13 2 ((sI w 13 1 (w.1 17 1)).1 17 2)) 13 3 ((sI (sI w 13 1 (w.1 17 1)) 13 2 ((sI w 13 1 (w.1 17 1)).1 17 2)).1 17 3)).1 17 4)).1 17 5)) 18 0 14 0 3) 19 0 15 0 2) 20 0 16 0 2) 13 9 ((cI (cI (cI (sI (sI (sI (sI (sI w 13 1 (w.1 17 1)) 13 2 ((sI w 13 1 (w.1 17 1)).1 17 2)) 13 3 ((sI (sI w 13 1 (w.1 17 1)) 13 2 ((sI w 13 1 (w.1 17 1)).1 17 2)).1 17 3)) 13 4 ((sI (sI (sI w 13 1 (w.1 17 1)) 13 2 ((sI w 13 1 (w.1 17 1)).1 17 2)) 13 3 ((sI (sI w 13 1 (w.1 17 1)) 13 2 ((sI w 13 1 (w.1 17 1)).1 17 2)).1 17 3)).1 17 4)) 13 5 ((sI (sI (sI (sI w 13 1 (w.1 17 1)) 13 2 ((sI w 13 1 (w.1 17 1)).1 17 2)) 13 3 ((sI (sI w 13 1 (w.1 17 1)) 13 2 ((sI w 13 1 (w.1 17 1)).1 17 2)).1 17 3)) 13 4 ((sI (sI (sI w 13 1 (w.1 17 1)) 13 2 ((sI w 13 1 (w.1 17 1)).1 17 2)) 13 3 ((sI (sI w 13 1 (w.1 17 1)) 13 2 ((sI w 13 1 (w.1 17 1)).1 17 2)).1 17 3)).1 17 4)).1 17 5)) 18 0 14 0 3) 19 0 15 0 2) 20 0 16 0 2).1 17 9)).1 17 10)).1 17 11)) else none) else none)
set_option maxRecDepth 100000 in
set_option maxHeartbeats 4000000 in
theorem ct_Sc_copy_13_17 {l : Launch} {g : GG} {σ : Sd} (hg : OKg g σ) (hb : σ.2.1 = true) (hx : ∀ c ∈ ([13, 14, 15, 16, 17, 18, 19, 20] : List Nat), c ∈ σ.1) (w : Wd) {q : Wd} (hq : Sc_copy_13_17 w = some q) : CT l g σ yX5_copy cX5_copy 2 none 1 18 [.ref (gA g 13), .ref (gA g 17)] w none q := by
  refine ct_of (rt := rtV) (res := Sc_copy_13_17 w) (q := q) (own := RX5) (b := true) hg hb hx (by decide) rfl (Nat.le_of_ble_eq_true rfl) hq (fun K e1 e2 e3 F => ?_)
  subst e1 e2 e3
  rw [Sc_copy_13_17]
  show N K _ _ w 0 [(0, .ref (gA (cg K) 13)), (1, .ref (gA (cg K) 17))] []
  refine n_aload_n F dX5_copy_0 rfl 0 rfl ?_
  refine n_aload_n F dX5_copy_1 rfl 1 rfl ?_
  refine n_get F ck_5 lf_RX5_28 (by decide) fg_17_1 (by decide) dX5_copy_2 ?_
  refine n_put F ck_5 lf_RX5_28 (by decide) rfl fp_13_1 (by decide) rfl rfl dX5_copy_5 ?_
  refine n_aload_n F dX5_copy_8 rfl 0 rfl ?_
  refine n_aload_n F dX5_copy_9 rfl 1 rfl ?_
  refine n_get F ck_5 lf_RX5_37 (by decide) fg_17_2 (by decide) dX5_copy_10 ?_
  refine n_put F ck_5 lf_RX5_37 (by decide) rfl fp_13_2 (by decide) rfl rfl dX5_copy_13 ?_
  refine n_aload_n F dX5_copy_16 rfl 0 rfl ?_
  refine n_aload_n F dX5_copy_17 rfl 1 rfl ?_
  refine n_get F ck_5 lf_RX5_40 (by decide) fg_17_3 (by decide) dX5_copy_18 ?_
  refine n_chk (fun e1 => ?_)
  refine n_put F ck_5 lf_RX5_40 (by decide) rfl fp_13_3 (by decide) (bz_n e1) (bz_f e1) dX5_copy_21 ?_
  refine n_aload_n F dX5_copy_24 rfl 0 rfl ?_
  refine n_aload_n F dX5_copy_25 rfl 1 rfl ?_
  refine n_get F ck_5 lf_RX5_59 (by decide) fg_17_4 (by decide) dX5_copy_26 ?_
  refine n_chk (fun e2 => ?_)
  refine n_put F ck_5 lf_RX5_59 (by decide) rfl fp_13_4 (by decide) (bz_n e2) (bz_f e2) dX5_copy_29 ?_
  refine n_aload_n F dX5_copy_32 rfl 0 rfl ?_
  refine n_aload_n F dX5_copy_33 rfl 1 rfl ?_
  refine n_get F ck_5 lf_RX5_71 (by decide) fg_17_5 (by decide) dX5_copy_34 ?_
  refine n_put F ck_5 lf_RX5_71 (by decide) rfl fp_13_5 (by decide) rfl rfl dX5_copy_37 ?_
  refine n_aload_n F dX5_copy_40 rfl 1 rfl ?_
  refine n_get F ck_5 lf_RX5_9 (by decide) fg_17_6 (by decide) dX5_copy_41 ?_
  refine n_iconst F (0 : Int32) dX5_copy_44 (by decide) ?_
  refine n_aload_n F dX5_copy_45 rfl 0 rfl ?_
  refine n_get F ck_5 lf_RX5_9 (by decide) fg_13_6 (by decide) dX5_copy_46 ?_
  refine n_iconst F (0 : Int32) dX5_copy_49 (by decide) ?_
  refine n_iconst F (3 : Int32) dX5_copy_50 (by decide) ?_
  refine n_copyI F ar_18 ar_14 (by decide) (by decide) 0 0 3 (by decide) (by decide) (by decide) (by decide) (by decide) (by decide) (by decide) (by decide) la_RX5_45 (Nat.le_of_ble_eq_true rfl) (Nat.le_of_ble_eq_true rfl) dX5_copy_51 ?_
  refine n_aload_n F dX5_copy_54 rfl 1 rfl ?_
  refine n_get F ck_5 lf_RX5_15 (by decide) fg_17_7 (by decide) dX5_copy_55 ?_
  refine n_iconst F (0 : Int32) dX5_copy_58 (by decide) ?_
  refine n_aload_n F dX5_copy_59 rfl 0 rfl ?_
  refine n_get F ck_5 lf_RX5_15 (by decide) fg_13_7 (by decide) dX5_copy_60 ?_
  refine n_iconst F (0 : Int32) dX5_copy_63 (by decide) ?_
  refine n_iconst F (2 : Int32) dX5_copy_64 (by decide) ?_
  refine n_copyI F ar_19 ar_15 (by decide) (by decide) 0 0 2 (by decide) (by decide) (by decide) (by decide) (by decide) (by decide) (by decide) (by decide) la_RX5_45 (Nat.le_of_ble_eq_true rfl) (Nat.le_of_ble_eq_true rfl) dX5_copy_65 ?_
  refine n_aload_n F dX5_copy_68 rfl 1 rfl ?_
  refine n_get F ck_5 lf_RX5_18 (by decide) fg_17_8 (by decide) dX5_copy_69 ?_
  refine n_iconst F (0 : Int32) dX5_copy_72 (by decide) ?_
  refine n_aload_n F dX5_copy_73 rfl 0 rfl ?_
  refine n_get F ck_5 lf_RX5_18 (by decide) fg_13_8 (by decide) dX5_copy_74 ?_
  refine n_iconst F (0 : Int32) dX5_copy_77 (by decide) ?_
  refine n_iconst F (2 : Int32) dX5_copy_78 (by decide) ?_
  refine n_copyI F ar_20 ar_16 (by decide) (by decide) 0 0 2 (by decide) (by decide) (by decide) (by decide) (by decide) (by decide) (by decide) (by decide) la_RX5_45 (Nat.le_of_ble_eq_true rfl) (Nat.le_of_ble_eq_true rfl) dX5_copy_79 ?_
  refine n_aload_n F dX5_copy_82 rfl 0 rfl ?_
  refine n_aload_n F dX5_copy_83 rfl 1 rfl ?_
  refine n_get F ck_5 lf_RX5_62 (by decide) fg_17_9 (by decide) dX5_copy_84 ?_
  refine n_put F ck_5 lf_RX5_62 (by decide) rfl fp_13_9 (by decide) rfl rfl dX5_copy_87 ?_
  refine n_aload_n F dX5_copy_90 rfl 0 rfl ?_
  refine n_aload_n F dX5_copy_91 rfl 1 rfl ?_
  refine n_get F ck_5 lf_RX5_65 (by decide) fg_17_10 (by decide) dX5_copy_92 ?_
  refine n_put F ck_5 lf_RX5_65 (by decide) rfl fp_13_10 (by decide) rfl rfl dX5_copy_95 ?_
  refine n_aload_n F dX5_copy_98 rfl 0 rfl ?_
  refine n_aload_n F dX5_copy_99 rfl 1 rfl ?_
  refine n_get F ck_5 lf_RX5_68 (by decide) fg_17_11 (by decide) dX5_copy_100 ?_
  refine n_put F ck_5 lf_RX5_68 (by decide) rfl fp_13_11 (by decide) rfl rfl dX5_copy_103 ?_
  exact n_vret F rfl rfl dX5_copy_106
def Sc_copy_13_21 (w : Wd) : Option Wd := (if ((sI (sI w 13 1 (w.1 21 1)) 13 2 ((sI w 13 1 (w.1 21 1)).1 21 2)).1 21 3) &&& (1 : Int32) = ((sI (sI w 13 1 (w.1 21 1)) 13 2 ((sI w 13 1 (w.1 21 1)).1 21 2)).1 21 3) then (if ((sI (sI (sI w 13 1 (w.1 21 1)) 13 2 ((sI w 13 1 (w.1 21 1)).1 21 2)) 13 3 ((sI (sI w 13 1 (w.1 21 1)) 13 2 ((sI w 13 1 (w.1 21 1)).1 21 2)).1 21 3)).1 21 4) &&& (1 : Int32) = ((sI (sI (sI w 13 1 (w.1 21 1)) 13 2 ((sI w 13 1 (w.1 21 1)).1 21 2)) 13 3 ((sI (sI w 13 1 (w.1 21 1)) 13 2 ((sI w 13 1 (w.1 21 1)).1 21 2)).1 21 3)).1 21 4) then some (sI (sI (sI (cI (cI (cI (sI (sI (sI (sI (sI w 13 1 (w.1 21 1)) 13 2 ((sI w 13 1 (w.1 21 1)).1 21 2)) 13 3 ((sI (sI w 13 1 (w.1 21 1)) 13 2 ((sI w 13 1 (w.1 21 1)).1 21 2)).1 21 3)) 13 4 ((sI (sI (sI w 13 1 (w.1 21 1)) 13 2 ((sI w 13 1 (w.1 21 1)).1 21 2)) 13 3 ((sI (sI w 13 1 (w.1 21 1)) 13 2 ((sI w 13 1 (w.1 21 1)).1 21 2)).1 21 3)).1 21 4)) 13 5 ((sI (sI (sI (sI w 13 1 (w.1 21 1)) 13 2 ((sI w 13 1 (w.1 21 1)).1 21 2)) 13 3 ((sI (sI w 13 1 (w.1 21 1)) 13 2 ((sI w 13 1 (w.1 21 1)).1 21 2)).1 21 3)) 13 4 ((sI (sI (sI w 13 1 (w.1 21 1)) 13 2 ((sI w 13 1 (w.1 21 1)).1 21 2)) 13 3 ((sI (sI w 13 1 (w.1 21 1)) 13 2 ((sI w 13 1 (w.1 21 1)).1 21 2)).1 21 3)).1 21 4)).1 21 5)) 22 0 14 0 3) 23 0 15 0 2) 24 0 16 0 2) 13 9 ((cI (cI (cI (sI (sI (sI (sI (sI w 13 1 (w.1 21 1)) 13 2 ((sI w 13 1 (w.1 21 1)).1 21 2)) 13 3 ((sI (sI w 13 1 (w.1 21 1)) 13 2 ((sI w 13 1 (w.1 21 1)).1 21 2)).1 21 3)) 13 4 ((sI (sI (sI w 13 1 (w.1 21 1)) 13 2 ((sI w 13 1 (w.1 21 1)).1 21 2)) 13 3 ((sI (sI w 13 1 (w.1 21 1)) 13 2 ((sI w 13 1 (w.1 21 1)).1 21 2)).1 21 3)).1 21 4)) 13 5 ((sI (sI (sI (sI w 13 1 (w.1 21 1)) 13 2 ((sI w 13 1 (w.1 21 1)).1 21 2)) 13 3 ((sI (sI w 13 1 (w.1 21 1)) 13 2 ((sI w 13 1 (w.1 21 1)).1 21 2)).1 21 3)) 13 4 ((sI (sI (sI w 13 1 (w.1 21 1)) 13 2 ((sI w 13 1 (w.1 21 1)).1 21 2)) 13 3 ((sI (sI w 13 1 (w.1 21 1)) 13 2 ((sI w 13 1 (w.1 21 1)).1 21 2)).1 21 3)).1 21 4)).1 21 5)) 22 0 14 0 3) 23 0 15 0 2) 24 0 16 0 2).1 21 9)) 13 10 ((sI (cI (cI (cI (sI (sI (sI (sI (sI w 13 1 (w.1 21 1)) 13 2 ((sI w 13 1 (w.1 21 1)).1 21 2)) 13 3 ((sI (sI w 13 1 (w.1 21 1)) 13 2 ((sI w 13 1 (w.1 21 1)).1 21 2)).1 21 3)) 13 4 ((sI (sI (sI w 13 1 (w.1 21 1)) 13 2 ((sI w 13 1 (w.1 21 1)).1 21 2)) 13 3 ((sI (sI w 13 1 (w.1 21 1)) 13 2 ((sI w 13 1 (w.1 21 1)).1 21 2)).1 21 3)).1 21 4)) 13 5 ((sI (sI (sI (sI w 13 1 (w.1 21 1)) 13 2 ((sI w 13 1 (w.1 21 1)).1 21 2)) 13 3 ((sI (sI w 13 1 (w.1 21 1)) 13 2 ((sI w 13 1 (w.1 21 1)).1 21 2)).1 21 3)) 13 4 ((sI (sI (sI w 13 1 (w.1 21 1)) 13 2 ((sI w 13 1 (w.1 21 1)).1 21 2)) 13 3 ((sI (sI w 13 1 (w.1 21 1)) 13 2 ((sI w 13 1 (w.1 21 1)).1 21 2)).1 21 3)).1 21 4)).1 21 5)) 22 0 14 0 3) 23 0 15 0 2) 24 0 16 0 2) 13 9 ((cI (cI (cI (sI (sI (sI (sI (sI w 13 1 (w.1 21 1)) 13 2 ((sI w 13 1 (w.1 21 1)).1 21 2)) 13 3 ((sI (sI w 13 1 (w.1 21 1)) 13 2 ((sI w 13 1 (w.1 21 1)).1 21 2)).1 21 3)) 13 4 ((sI (sI (sI w 13 1 (w.1 21 1)) 13 2 ((sI w 13 1 (w.1 21 1)).1 21 2)) 13 3 ((sI (sI w 13 1 (w.1 21 1)) 13 2 ((sI w 13 1 (w.1 21 1)).1 21 2)).1 21 3)).1 21 4)) 13 5 ((sI (sI (sI (sI w 13 1 (w.1 21 1)) 13 2 ((sI w 13 1 (w.1 21 1)).1 21 2)) 13 3 ((sI (sI w 13 1 (w.1 21 1)) 13 2 ((sI w 13 1 (w.1 21 1)).1 21 2)).1 21 3)) 13 4 ((sI (sI (sI w 13 1 (w.1 21 1)) 13 2 ((sI w 13 1 (w.1 21 1)).1 21 2)) 13 3 ((sI (sI w 13 1 (w.1 21 1)) 13 2 ((sI w 13 1 (w.1 21 1)).1 21 2)).1 21 3)).1 21 4)).1 21 5)) 22 0 14 0 3) 23 0 15 0 2) 24 0 16 0 2).1 21 9)).1 21 10)) 13 11 ((sI (sI (cI (cI (cI (sI (sI (sI (sI (sI w 13 1 (w.1 21 1)) 13 2 ((sI w 13 1 (w.1 21 1)).1 21 2)) 13 3 ((sI (sI w 13 1 (w.1 21 1)) 13 2 ((sI w 13 1 (w.1 21 1)).1 21 2)).1 21 3)) 13 4 ((sI (sI (sI w 13 1 (w.1 21 1)) 13 2 ((sI w 13 1 (w.1 21 1)).1 21 2)) 13 3 ((sI (sI w 13 1 (w.1 21 1)) 13 2 ((sI w 13 1 (w.1 21 1)).1 21 2)).1 21 3)).1 21 4)) 13 5 ((sI (sI (sI (sI w 13 1 (w.1 21 1)) 13 2 ((sI w 13 1 (w.1 21 1)).1 21 2)) 13 3 ((sI (sI w 13 1 (w.1 21 1)) 13 2 ((sI w 13 1 (w.1 21 1)).1 21 2)).1 21 3)) 13 4 ((sI (sI (sI w 13 1 (w.1 21 1)) 13 2 ((sI w 13 1 (w.1 21 1)).1 21 2)) 13 3 ((sI (sI w 13 1 (w.1 21 1)) 13 2 ((sI w 13 1 (w.1 21 1)).1 21 2)).1 21 3)).1 21 4)).1 21 5)) 22 0 14 0 3) 23 0 15 0 2) 24 0 16 0 2) 13 9 ((cI (cI (cI (sI (sI (sI (sI (sI w 13 1 (w.1 21 1)) 13 2 ((sI w 13 1 (w.1 21 1)).1 21 2)) 13 3 ((sI (sI w 13 1 (w.1 21 1)) 13 2 ((sI w 13 1 (w.1 21 1)).1 21 2)).1 21 3)) 13 4 ((sI (sI (sI w 13 1 (w.1 21 1)) 13 2 ((sI w 13 1 (w.1 21 1)).1 21 2)) 13 3 ((sI (sI w 13 1 (w.1 21 1)) 13 2 ((sI w 13 1 (w.1 21 1)).1 21 2)).1 21 3)).1 21 4)) 13 5 ((sI (sI (sI (sI w 13 1 (w.1 21 1)) 13 2 ((sI w 13 1 (w.1 21 1)).1 21 2)) 13 3 ((sI (sI w 13 1 (w.1 21 1)) 13 2 ((sI w 13 1 (w.1 21 1)).1 21 2)).1 21 3)) 13 4 ((sI (sI (sI w 13 1 (w.1 21 1)) 13 2 ((sI w 13 1 (w.1 21 1)).1 21 2)) 13 3 ((sI (sI w 13 1 (w.1 21 1)) 13 2 ((sI w 13 1 (w.1 21 1)).1 21 2)).1 21 3)).1 21 4)).1 21 5)) 22 0 14 0 3) 23 0 15 0 2) 24 0 16 0 2).1 21 9)) 13 10 ((sI (cI (cI (cI (sI (sI (sI (sI (sI w 13 1 (w.1 21 1)) 13 2 ((sI w 13 1 (w.1 21 1)).1 21 2)) 13 3 ((sI (sI w 13 1 (w.1 21 1)) 13 2 ((sI w 13 1 (w.1 21 1)).1 21 2)).1 21 3)) 13 4 ((sI (sI (sI w 13 1 (w.1 21 1)) 13 2 ((sI w 13 1 (w.1 21 1)).1 21 2)) 13 3 ((sI (sI w 13 1 (w.1 21 1)) 13 2 ((sI w 13 1 (w.1 21 1)).1 21 2)).1 21 3)).1 21 4)) 13 5 ((sI (sI (sI (sI w 13 1 (w.1 21 1)) 13 2 ((sI w 13 1 (w.1 21 1)).1 21 2)) 13 3 ((sI (sI w 13 1 (w.1 21 1)) 13 2 ((sI w 13 1 (w.1 21 1)).1 21 2)).1 21 3)) 13 4 ((sI (sI (sI w 13 1 (w.1 21 1)) 13 2 ((sI w 13 1 (w.1 21 1)).1 21 2)) 13 3 ((sI (sI w 13 1 (w.1 21 1)) 13 2 ((sI w 13 1 (w.1 21 1)).1 21 2)).1 21 3)).1 21 4)).1 21 5)) 22 0 14 0 3) 23 0 15 0 2) 24 0 16 0 2) 13 9 ((cI (cI (cI (sI (sI (sI (sI (sI w 13 1 (w.1 21 1)) 13 2 ((sI w 13 1 (w.1 21 1)).1 21 2)) 13 3 ((sI (sI w 13 1 (w.1 21 1)) 13 2 ((sI w 13 1 (w.1 21 1)).1 21 2)).1 21 3)) 13 4 ((sI (sI (sI w 13 1 (w.1 21 1)) 13 2 ((sI w 13 1 (w.1 21 1)).1 21 2)) 13 3 ((sI (sI w 13 1 (w.1 21 1)) 13 2 ((sI w 13 1 (w.1 21 1)).1 21 2)).1 21 3)).1 21 4)) 13 5 ((sI (sI (sI (sI w 13 1 (w.1 21 1)) 13 2 ((sI w 13 1 (w.1 21 1)).1 21 2)) 13 3 ((sI (sI w 13 1 (w.1 21 1)) 13 2 ((sI w 13 1 (w.1 21 1)).1 21 2)).1 21 3)) 13 4 ((sI (sI (sI w 13 1 (w.1 21 1)) 13 2 ((sI w 13 1 (w.1 21 1)).1 21 2)) 13 3 ((sI (sI w 13 1 (w.1 21 1)) 13 2 ((sI w 13 1 (w.1 21 1)).1 21 2)).1 21 3)).1 21 4)).1 21 5)) 22 0 14 0 3) 23 0 15 0 2) 24 0 16 0 2).1 21 9)).1 21 10)).1 21 11)) else none) else none)
set_option maxRecDepth 100000 in
set_option maxHeartbeats 4000000 in
theorem ct_Sc_copy_13_21 {l : Launch} {g : GG} {σ : Sd} (hg : OKg g σ) (hb : σ.2.1 = true) (hx : ∀ c ∈ ([13, 14, 15, 16, 21, 22, 23, 24] : List Nat), c ∈ σ.1) (w : Wd) {q : Wd} (hq : Sc_copy_13_21 w = some q) : CT l g σ yX5_copy cX5_copy 2 none 1 18 [.ref (gA g 13), .ref (gA g 21)] w none q := by
  refine ct_of (rt := rtV) (res := Sc_copy_13_21 w) (q := q) (own := RX5) (b := true) hg hb hx (by decide) rfl (Nat.le_of_ble_eq_true rfl) hq (fun K e1 e2 e3 F => ?_)
  subst e1 e2 e3
  rw [Sc_copy_13_21]
  show N K _ _ w 0 [(0, .ref (gA (cg K) 13)), (1, .ref (gA (cg K) 21))] []
  refine n_aload_n F dX5_copy_0 rfl 0 rfl ?_
  refine n_aload_n F dX5_copy_1 rfl 1 rfl ?_
  refine n_get F ck_5 lf_RX5_28 (by decide) fg_21_1 (by decide) dX5_copy_2 ?_
  refine n_put F ck_5 lf_RX5_28 (by decide) rfl fp_13_1 (by decide) rfl rfl dX5_copy_5 ?_
  refine n_aload_n F dX5_copy_8 rfl 0 rfl ?_
  refine n_aload_n F dX5_copy_9 rfl 1 rfl ?_
  refine n_get F ck_5 lf_RX5_37 (by decide) fg_21_2 (by decide) dX5_copy_10 ?_
  refine n_put F ck_5 lf_RX5_37 (by decide) rfl fp_13_2 (by decide) rfl rfl dX5_copy_13 ?_
  refine n_aload_n F dX5_copy_16 rfl 0 rfl ?_
  refine n_aload_n F dX5_copy_17 rfl 1 rfl ?_
  refine n_get F ck_5 lf_RX5_40 (by decide) fg_21_3 (by decide) dX5_copy_18 ?_
  refine n_chk (fun e1 => ?_)
  refine n_put F ck_5 lf_RX5_40 (by decide) rfl fp_13_3 (by decide) (bz_n e1) (bz_f e1) dX5_copy_21 ?_
  refine n_aload_n F dX5_copy_24 rfl 0 rfl ?_
  refine n_aload_n F dX5_copy_25 rfl 1 rfl ?_
  refine n_get F ck_5 lf_RX5_59 (by decide) fg_21_4 (by decide) dX5_copy_26 ?_
  refine n_chk (fun e2 => ?_)
  refine n_put F ck_5 lf_RX5_59 (by decide) rfl fp_13_4 (by decide) (bz_n e2) (bz_f e2) dX5_copy_29 ?_
  refine n_aload_n F dX5_copy_32 rfl 0 rfl ?_
  refine n_aload_n F dX5_copy_33 rfl 1 rfl ?_
  refine n_get F ck_5 lf_RX5_71 (by decide) fg_21_5 (by decide) dX5_copy_34 ?_
  refine n_put F ck_5 lf_RX5_71 (by decide) rfl fp_13_5 (by decide) rfl rfl dX5_copy_37 ?_
  refine n_aload_n F dX5_copy_40 rfl 1 rfl ?_
  refine n_get F ck_5 lf_RX5_9 (by decide) fg_21_6 (by decide) dX5_copy_41 ?_
  refine n_iconst F (0 : Int32) dX5_copy_44 (by decide) ?_
  refine n_aload_n F dX5_copy_45 rfl 0 rfl ?_
  refine n_get F ck_5 lf_RX5_9 (by decide) fg_13_6 (by decide) dX5_copy_46 ?_
  refine n_iconst F (0 : Int32) dX5_copy_49 (by decide) ?_
  refine n_iconst F (3 : Int32) dX5_copy_50 (by decide) ?_
  refine n_copyI F ar_22 ar_14 (by decide) (by decide) 0 0 3 (by decide) (by decide) (by decide) (by decide) (by decide) (by decide) (by decide) (by decide) la_RX5_45 (Nat.le_of_ble_eq_true rfl) (Nat.le_of_ble_eq_true rfl) dX5_copy_51 ?_
  refine n_aload_n F dX5_copy_54 rfl 1 rfl ?_
  refine n_get F ck_5 lf_RX5_15 (by decide) fg_21_7 (by decide) dX5_copy_55 ?_
  refine n_iconst F (0 : Int32) dX5_copy_58 (by decide) ?_
  refine n_aload_n F dX5_copy_59 rfl 0 rfl ?_
  refine n_get F ck_5 lf_RX5_15 (by decide) fg_13_7 (by decide) dX5_copy_60 ?_
  refine n_iconst F (0 : Int32) dX5_copy_63 (by decide) ?_
  refine n_iconst F (2 : Int32) dX5_copy_64 (by decide) ?_
  refine n_copyI F ar_23 ar_15 (by decide) (by decide) 0 0 2 (by decide) (by decide) (by decide) (by decide) (by decide) (by decide) (by decide) (by decide) la_RX5_45 (Nat.le_of_ble_eq_true rfl) (Nat.le_of_ble_eq_true rfl) dX5_copy_65 ?_
  refine n_aload_n F dX5_copy_68 rfl 1 rfl ?_
  refine n_get F ck_5 lf_RX5_18 (by decide) fg_21_8 (by decide) dX5_copy_69 ?_
  refine n_iconst F (0 : Int32) dX5_copy_72 (by decide) ?_
  refine n_aload_n F dX5_copy_73 rfl 0 rfl ?_
  refine n_get F ck_5 lf_RX5_18 (by decide) fg_13_8 (by decide) dX5_copy_74 ?_
  refine n_iconst F (0 : Int32) dX5_copy_77 (by decide) ?_
  refine n_iconst F (2 : Int32) dX5_copy_78 (by decide) ?_
  refine n_copyI F ar_24 ar_16 (by decide) (by decide) 0 0 2 (by decide) (by decide) (by decide) (by decide) (by decide) (by decide) (by decide) (by decide) la_RX5_45 (Nat.le_of_ble_eq_true rfl) (Nat.le_of_ble_eq_true rfl) dX5_copy_79 ?_
  refine n_aload_n F dX5_copy_82 rfl 0 rfl ?_
  refine n_aload_n F dX5_copy_83 rfl 1 rfl ?_
  refine n_get F ck_5 lf_RX5_62 (by decide) fg_21_9 (by decide) dX5_copy_84 ?_
  refine n_put F ck_5 lf_RX5_62 (by decide) rfl fp_13_9 (by decide) rfl rfl dX5_copy_87 ?_
  refine n_aload_n F dX5_copy_90 rfl 0 rfl ?_
  refine n_aload_n F dX5_copy_91 rfl 1 rfl ?_
  refine n_get F ck_5 lf_RX5_65 (by decide) fg_21_10 (by decide) dX5_copy_92 ?_
  refine n_put F ck_5 lf_RX5_65 (by decide) rfl fp_13_10 (by decide) rfl rfl dX5_copy_95 ?_
  refine n_aload_n F dX5_copy_98 rfl 0 rfl ?_
  refine n_aload_n F dX5_copy_99 rfl 1 rfl ?_
  refine n_get F ck_5 lf_RX5_68 (by decide) fg_21_11 (by decide) dX5_copy_100 ?_
  refine n_put F ck_5 lf_RX5_68 (by decide) rfl fp_13_11 (by decide) rfl rfl dX5_copy_103 ?_
  exact n_vret F rfl rfl dX5_copy_106
theorem dX5_ticketsOf_0 : decode cX5_ticketsOf 0 = .ok (.iload_n 1, 1) := by decide +kernel
theorem dX5_ticketsOf_1 : decode cX5_ticketsOf 1 = .ok (.iconst 0, 1) := by decide +kernel
theorem dX5_ticketsOf_2 : decode cX5_ticketsOf 2 = .ok (.iconst 2, 1) := by decide +kernel
theorem dX5_ticketsOf_3 : decode cX5_ticketsOf 3 = .ok (.invokestatic 80, 3) := by decide +kernel
theorem dX5_ticketsOf_6 : decode cX5_ticketsOf 6 = .ok (.ifCond .eq 12, 3) := by decide +kernel
theorem dX5_ticketsOf_9 : decode cX5_ticketsOf 9 = .ok (.aload_n 0, 1) := by decide +kernel
theorem dX5_ticketsOf_10 : decode cX5_ticketsOf 10 = .ok (.getfield 9, 3) := by decide +kernel
theorem dX5_ticketsOf_13 : decode cX5_ticketsOf 13 = .ok (.iload_n 1, 1) := by decide +kernel
theorem dX5_ticketsOf_14 : decode cX5_ticketsOf 14 = .ok (.iaload, 1) := by decide +kernel
theorem dX5_ticketsOf_15 : decode cX5_ticketsOf 15 = .ok (.goto 4, 3) := by decide +kernel
theorem dX5_ticketsOf_18 : decode cX5_ticketsOf 18 = .ok (.iconst 0, 1) := by decide +kernel
theorem dX5_ticketsOf_19 : decode cX5_ticketsOf 19 = .ok (.ireturn, 1) := by decide +kernel
def Sc_ticketsOf (w : Wd) (a1 : Int32) : Option Int32 := (if (Nt_within w a1 (0 : Int32) (2 : Int32)) = (0 : Int32) then some (0 : Int32) else (if ib a1 3 = true then some (w.1 14 (Int32.toNatClampNeg a1)) else none))
set_option maxRecDepth 100000 in
set_option maxHeartbeats 4000000 in
theorem ct_Sc_ticketsOf {l : Launch} {g : GG} {σ : Sd} (hg : OKg g σ) (hb : σ.2.1 = true) (hx : ∀ c ∈ ([13, 14] : List Nat), c ∈ σ.1) (w : Wd) (a1 : Int32) {q : Int32} (hq : Sc_ticketsOf w a1 = some q) : CT l g σ yX5_ticketsOf cX5_ticketsOf 2 (some .int) 1 22 [.ref (gA g 13), .int a1] w (some (.int q)) w := by
  refine ct_of (rt := (rtP w)) (res := Sc_ticketsOf w a1) (q := q) (own := RX5) (b := true) hg hb hx (by decide) rfl (Nat.le_of_ble_eq_true rfl) hq (fun K e1 e2 e3 F => ?_)
  subst e1 e2 e3
  rw [Sc_ticketsOf]
  show N K _ _ w 0 [(0, .ref (gA (cg K) 13)), (1, .int a1)] []
  refine n_iload_n F dX5_ticketsOf_0 rfl 1 rfl ?_
  refine n_iconst F (0 : Int32) dX5_ticketsOf_1 (by decide) ?_
  refine n_iconst F (2 : Int32) dX5_ticketsOf_2 (by decide) ?_
  refine n_callSNi F cb_X7_within lm_RX5_80 (ct_Nt_within (fx_ok F) (fx_sd F) (fx_ix F rfl) w a1 (0 : Int32) (2 : Int32)) rfl rfl (Nat.le_of_ble_eq_true rfl) ⟨Nat.le_of_ble_eq_true rfl, Nat.le_of_ble_eq_true rfl⟩ dX5_ticketsOf_3 ?_
  refine n_if_eq F 18 dX5_ticketsOf_6 (by decide) (fun e1 => ?_) (fun e1 => ?_)
  · rw [if_pos e1]
    refine n_iconst F (0 : Int32) dX5_ticketsOf_18 (by decide) ?_
    exact n_iret F rfl rfl dX5_ticketsOf_19
  rw [if_neg e1]
  refine n_aload_n F dX5_ticketsOf_9 rfl 0 rfl ?_
  refine n_get F ck_5 lf_RX5_9 (by decide) fg_13_6 (by decide) dX5_ticketsOf_10 ?_
  refine n_iload_n F dX5_ticketsOf_13 rfl 1 rfl ?_
  refine n_chk (fun e2 => ?_)
  refine n_iald F ar_14 (by decide) (ib_in e2) rfl dX5_ticketsOf_14 ?_
  refine n_goto F 19 dX5_ticketsOf_15 (by decide) ?_
  exact n_iret F rfl rfl dX5_ticketsOf_19
theorem dX5_seekingBits_0 : decode cX5_seekingBits 0 = .ok (.iconst 0, 1) := by decide +kernel
theorem dX5_seekingBits_1 : decode cX5_seekingBits 1 = .ok (.istore_n 1, 1) := by decide +kernel
theorem dX5_seekingBits_2 : decode cX5_seekingBits 2 = .ok (.iconst 0, 1) := by decide +kernel
theorem dX5_seekingBits_3 : decode cX5_seekingBits 3 = .ok (.istore_n 2, 1) := by decide +kernel
theorem dX5_seekingBits_4 : decode cX5_seekingBits 4 = .ok (.iload_n 2, 1) := by decide +kernel
theorem dX5_seekingBits_5 : decode cX5_seekingBits 5 = .ok (.iconst 2, 1) := by decide +kernel
theorem dX5_seekingBits_6 : decode cX5_seekingBits 6 = .ok (.if_icmp .ge 25, 3) := by decide +kernel
theorem dX5_seekingBits_9 : decode cX5_seekingBits 9 = .ok (.aload_n 0, 1) := by decide +kernel
theorem dX5_seekingBits_10 : decode cX5_seekingBits 10 = .ok (.getfield 15, 3) := by decide +kernel
theorem dX5_seekingBits_13 : decode cX5_seekingBits 13 = .ok (.iload_n 2, 1) := by decide +kernel
theorem dX5_seekingBits_14 : decode cX5_seekingBits 14 = .ok (.iaload, 1) := by decide +kernel
theorem dX5_seekingBits_15 : decode cX5_seekingBits 15 = .ok (.iconst (-1), 1) := by decide +kernel
theorem dX5_seekingBits_16 : decode cX5_seekingBits 16 = .ok (.if_icmp .eq 9, 3) := by decide +kernel
theorem dX5_seekingBits_19 : decode cX5_seekingBits 19 = .ok (.iload_n 1, 1) := by decide +kernel
theorem dX5_seekingBits_20 : decode cX5_seekingBits 20 = .ok (.iconst 1, 1) := by decide +kernel
theorem dX5_seekingBits_21 : decode cX5_seekingBits 21 = .ok (.iload_n 2, 1) := by decide +kernel
theorem dX5_seekingBits_22 : decode cX5_seekingBits 22 = .ok (.ishl, 1) := by decide +kernel
theorem dX5_seekingBits_23 : decode cX5_seekingBits 23 = .ok (.ior, 1) := by decide +kernel
theorem dX5_seekingBits_24 : decode cX5_seekingBits 24 = .ok (.istore_n 1, 1) := by decide +kernel
theorem dX5_seekingBits_25 : decode cX5_seekingBits 25 = .ok (.iinc 2 1, 3) := by decide +kernel
theorem dX5_seekingBits_28 : decode cX5_seekingBits 28 = .ok (.goto (-24), 3) := by decide +kernel
theorem dX5_seekingBits_31 : decode cX5_seekingBits 31 = .ok (.iload_n 1, 1) := by decide +kernel
theorem dX5_seekingBits_32 : decode cX5_seekingBits 32 = .ok (.ireturn, 1) := by decide +kernel
def Sc_seekingBits_L4 (w : Wd) (k31 : Int32 → Option Int32) : Nat → Int32 → Int32 → Option Int32
  | 0, _, _ => none
  | n + 1, v1, v2 => (if (2 : Int32) ≤ v2 then (k31 v1) else (if ib v2 2 = true then (Sc_seekingBits_L4 w k31 n (if (w.1 15 (Int32.toNatClampNeg v2)) = (-1 : Int32) then v1 else (v1 ||| ((1 : Int32) <<< (v2 &&& (31 : Int32))))) (v2 + (1 : Int32))) else none))
set_option maxRecDepth 100000 in
set_option maxHeartbeats 4000000 in
theorem Sc_seekingBits_L4_ok {K : Ctx} (F : Fx K cX5_seekingBits 3 RX5 (some .int) 0 0 true [13, 15]) (w : Wd) {k31 : Int32 → Option Int32} (h31 : ∀ (v1 : Int32), N K (rtP w) (k31 v1) w 31 [(1, .int v1)] []) : ∀ (n : Nat) (v1 : Int32) (v2 : Int32), N K (rtP w) (Sc_seekingBits_L4 w k31 n v1 v2) w 4 [(0, .ref (gA (cg K) 13)), (1, .int v1), (2, .int v2)] [] := by
  intro n
  induction n with
  | zero => intro _ _; exact n_none
  | succ n ih =>
    intro v1 v2
    rw [Sc_seekingBits_L4]
    refine n_iload_n F dX5_seekingBits_4 rfl 2 rfl ?_
    refine n_iconst F (2 : Int32) dX5_seekingBits_5 (by decide) ?_
    refine n_icmp_ge F 31 dX5_seekingBits_6 (by decide) (fun e1 => ?_) (fun e1 => ?_)
    · rw [if_pos e1]
      exact n_sub [1] rfl (h31 _)
    rw [if_neg e1]
    refine n_aload_n F dX5_seekingBits_9 rfl 0 rfl ?_
    refine n_get F ck_5 lf_RX5_15 (by decide) fg_13_7 (by decide) dX5_seekingBits_10 ?_
    refine n_iload_n F dX5_seekingBits_13 rfl 2 rfl ?_
    refine n_chk (fun e2 => ?_)
    refine n_iald F ar_15 (by decide) (ib_in e2) rfl dX5_seekingBits_14 ?_
    refine n_iconst F (-1 : Int32) dX5_seekingBits_15 (by decide) ?_
    refine n_icmp_eq F 25 dX5_seekingBits_16 (by decide) (fun e3 => ?_) (fun e3 => ?_)
    · rw [if_pos e3]
      refine n_iinc F (v2 + (1 : Int32)) (lv' := [(2, .int (v2 + (1 : Int32))), (0, .ref (gA (cg K) 13)), (1, .int v1)]) dX5_seekingBits_25 2 rfl rfl (by decide) rfl ?_
      refine n_goto F 4 dX5_seekingBits_28 (by decide) ?_
      exact n_sub [1, 2, 0] rfl (ih _ _)
    rw [if_neg e3]
    refine n_iload_n F dX5_seekingBits_19 rfl 1 rfl ?_
    refine n_iconst F (1 : Int32) dX5_seekingBits_20 (by decide) ?_
    refine n_iload_n F dX5_seekingBits_21 rfl 2 rfl ?_
    refine n_ishl F dX5_seekingBits_22 ?_
    refine n_ior F dX5_seekingBits_23 ?_
    refine n_istore_n F (lv' := [(1, .int (v1 ||| ((1 : Int32) <<< (v2 &&& (31 : Int32))))), (0, .ref (gA (cg K) 13)), (2, .int v2)]) dX5_seekingBits_24 rfl (by decide) rfl ?_
    refine n_iinc F (v2 + (1 : Int32)) (lv' := [(2, .int (v2 + (1 : Int32))), (1, .int (v1 ||| ((1 : Int32) <<< (v2 &&& (31 : Int32))))), (0, .ref (gA (cg K) 13))]) dX5_seekingBits_25 2 rfl rfl (by decide) rfl ?_
    refine n_goto F 4 dX5_seekingBits_28 (by decide) ?_
    exact n_sub [2, 1, 0] rfl (ih _ _)
def Sc_seekingBits_B31 (w : Wd) (v1 : Int32) : Option Int32 := some v1
set_option maxRecDepth 100000 in
set_option maxHeartbeats 4000000 in
theorem Sc_seekingBits_B31_ok {K : Ctx} (F : Fx K cX5_seekingBits 3 RX5 (some .int) 0 0 true [13, 15]) (w : Wd) (v1 : Int32) : N K (rtP w) (Sc_seekingBits_B31 w v1) w 31 [(1, .int v1)] [] := by
  rw [Sc_seekingBits_B31]
  refine n_iload_n F dX5_seekingBits_31 rfl 0 rfl ?_
  exact n_iret F rfl rfl dX5_seekingBits_32
def Sc_seekingBits (w : Wd) : Option Int32 := (Sc_seekingBits_L4 w (Sc_seekingBits_B31 w) FU (0 : Int32) (0 : Int32))
set_option maxRecDepth 100000 in
set_option maxHeartbeats 4000000 in
theorem ct_Sc_seekingBits {l : Launch} {g : GG} {σ : Sd} (hg : OKg g σ) (hb : σ.2.1 = true) (hx : ∀ c ∈ ([13, 15] : List Nat), c ∈ σ.1) (w : Wd) {q : Int32} (hq : Sc_seekingBits w = some q) : CT l g σ yX5_seekingBits cX5_seekingBits 3 (some .int) 0 0 [.ref (gA g 13)] w (some (.int q)) w := by
  refine ct_of (rt := (rtP w)) (res := Sc_seekingBits w) (q := q) (own := RX5) (b := true) hg hb hx (by decide) rfl (Nat.le_of_ble_eq_true rfl) hq (fun K e1 e2 e3 F => ?_)
  subst e1 e2 e3
  rw [Sc_seekingBits]
  show N K _ _ w 0 [(0, .ref (gA (cg K) 13))] []
  refine n_iconst F (0 : Int32) dX5_seekingBits_0 (by decide) ?_
  refine n_istore_n F (lv' := [(1, .int (0 : Int32)), (0, .ref (gA (cg K) 13))]) dX5_seekingBits_1 rfl (by decide) rfl ?_
  refine n_iconst F (0 : Int32) dX5_seekingBits_2 (by decide) ?_
  refine n_istore_n F (lv' := [(2, .int (0 : Int32)), (1, .int (0 : Int32)), (0, .ref (gA (cg K) 13))]) dX5_seekingBits_3 rfl (by decide) rfl ?_
  exact n_sub [2, 1, 0] rfl (Sc_seekingBits_L4_ok F w (Sc_seekingBits_B31_ok F w) FU _ _)
theorem dX5_anySeeks_0 : decode cX5_anySeeks 0 = .ok (.aload_n 0, 1) := by decide +kernel
theorem dX5_anySeeks_1 : decode cX5_anySeeks 1 = .ok (.invokevirtual 84, 3) := by decide +kernel
theorem dX5_anySeeks_4 : decode cX5_anySeeks 4 = .ok (.ifCond .eq 7, 3) := by decide +kernel
theorem dX5_anySeeks_7 : decode cX5_anySeeks 7 = .ok (.iconst 1, 1) := by decide +kernel
theorem dX5_anySeeks_8 : decode cX5_anySeeks 8 = .ok (.goto 4, 3) := by decide +kernel
theorem dX5_anySeeks_11 : decode cX5_anySeeks 11 = .ok (.iconst 0, 1) := by decide +kernel
theorem dX5_anySeeks_12 : decode cX5_anySeeks 12 = .ok (.ireturn, 1) := by decide +kernel
def Sc_anySeeks (w : Wd) : Option Int32 := (Option.bind (Sc_seekingBits w) (fun q1 => (if q1 = (0 : Int32) then some (0 : Int32) else some (1 : Int32))))
set_option maxRecDepth 100000 in
set_option maxHeartbeats 4000000 in
theorem ct_Sc_anySeeks {l : Launch} {g : GG} {σ : Sd} (hg : OKg g σ) (hb : σ.2.1 = true) (hx : ∀ c ∈ ([13, 15] : List Nat), c ∈ σ.1) (w : Wd) {q : Int32} (hq : Sc_anySeeks w = some q) : CT l g σ yX5_anySeeks cX5_anySeeks 1 (some .boolean) 1 22 [.ref (gA g 13)] w (some (.int q)) w := by
  refine ct_of (rt := (rtP w)) (res := Sc_anySeeks w) (q := q) (own := RX5) (b := true) hg hb hx (by decide) rfl (Nat.le_of_ble_eq_true rfl) hq (fun K e1 e2 e3 F => ?_)
  subst e1 e2 e3
  rw [Sc_anySeeks]
  show N K _ _ w 0 [(0, .ref (gA (cg K) 13))] []
  refine n_aload_n F dX5_anySeeks_0 rfl 0 rfl ?_
  refine n_bind (fun q1 hq1 => ?_)
  refine n_callVi F cb_X5_seekingBits lm_RX5_84 ob_13 (by decide) ⟨_, _, rfl⟩ (ct_Sc_seekingBits (fx_ok F) (fx_sd F) (fx_ix F rfl) w hq1) rfl rfl (Nat.le_of_ble_eq_true rfl) ⟨Nat.le_of_ble_eq_true rfl, Nat.le_of_ble_eq_true rfl⟩ dX5_anySeeks_1 ?_
  refine n_if_eq F 11 dX5_anySeeks_4 (by decide) (fun e2 => ?_) (fun e2 => ?_)
  · rw [if_pos e2]
    refine n_iconst F (0 : Int32) dX5_anySeeks_11 (by decide) ?_
    exact n_zret F .boolean rfl rfl rfl dX5_anySeeks_12
  rw [if_neg e2]
  refine n_iconst F (1 : Int32) dX5_anySeeks_7 (by decide) ?_
  refine n_goto F 12 dX5_anySeeks_8 (by decide) ?_
  exact n_zret F .boolean rfl rfl rfl dX5_anySeeks_12
theorem dX5_canSend_0 : decode cX5_canSend 0 = .ok (.iload_n 1, 1) := by decide +kernel
theorem dX5_canSend_1 : decode cX5_canSend 1 = .ok (.invokestatic 95, 3) := by decide +kernel
theorem dX5_canSend_4 : decode cX5_canSend 4 = .ok (.ifCond .eq 13, 3) := by decide +kernel
theorem dX5_canSend_7 : decode cX5_canSend 7 = .ok (.aload_n 0, 1) := by decide +kernel
theorem dX5_canSend_8 : decode cX5_canSend 8 = .ok (.getfield 15, 3) := by decide +kernel
theorem dX5_canSend_11 : decode cX5_canSend 11 = .ok (.iload_n 1, 1) := by decide +kernel
theorem dX5_canSend_12 : decode cX5_canSend 12 = .ok (.iaload, 1) := by decide +kernel
theorem dX5_canSend_13 : decode cX5_canSend 13 = .ok (.iconst (-1), 1) := by decide +kernel
theorem dX5_canSend_14 : decode cX5_canSend 14 = .ok (.if_icmp .ne 5, 3) := by decide +kernel
theorem dX5_canSend_17 : decode cX5_canSend 17 = .ok (.iconst 0, 1) := by decide +kernel
theorem dX5_canSend_18 : decode cX5_canSend 18 = .ok (.ireturn, 1) := by decide +kernel
theorem dX5_canSend_19 : decode cX5_canSend 19 = .ok (.iload_n 2, 1) := by decide +kernel
theorem dX5_canSend_20 : decode cX5_canSend 20 = .ok (.iconst (-1), 1) := by decide +kernel
theorem dX5_canSend_21 : decode cX5_canSend 21 = .ok (.if_icmp .eq 37, 3) := by decide +kernel
theorem dX5_canSend_24 : decode cX5_canSend 24 = .ok (.aload_n 0, 1) := by decide +kernel
theorem dX5_canSend_25 : decode cX5_canSend 25 = .ok (.getfield 21, 3) := by decide +kernel
theorem dX5_canSend_28 : decode cX5_canSend 28 = .ok (.iload_n 2, 1) := by decide +kernel
theorem dX5_canSend_29 : decode cX5_canSend 29 = .ok (.aload_n 0, 1) := by decide +kernel
theorem dX5_canSend_30 : decode cX5_canSend 30 = .ok (.getfield 15, 3) := by decide +kernel
theorem dX5_canSend_33 : decode cX5_canSend 33 = .ok (.iload_n 1, 1) := by decide +kernel
theorem dX5_canSend_34 : decode cX5_canSend 34 = .ok (.iaload, 1) := by decide +kernel
theorem dX5_canSend_35 : decode cX5_canSend 35 = .ok (.aload_n 0, 1) := by decide +kernel
theorem dX5_canSend_36 : decode cX5_canSend 36 = .ok (.getfield 28, 3) := by decide +kernel
theorem dX5_canSend_39 : decode cX5_canSend 39 = .ok (.invokevirtual 99, 3) := by decide +kernel
theorem dX5_canSend_42 : decode cX5_canSend 42 = .ok (.ifCond .eq 20, 3) := by decide +kernel
theorem dX5_canSend_45 : decode cX5_canSend 45 = .ok (.aload_n 0, 1) := by decide +kernel
theorem dX5_canSend_46 : decode cX5_canSend 46 = .ok (.getfield 21, 3) := by decide +kernel
theorem dX5_canSend_49 : decode cX5_canSend 49 = .ok (.iload_n 2, 1) := by decide +kernel
theorem dX5_canSend_50 : decode cX5_canSend 50 = .ok (.iconst 4, 1) := by decide +kernel
theorem dX5_canSend_51 : decode cX5_canSend 51 = .ok (.invokevirtual 102, 3) := by decide +kernel
theorem dX5_canSend_54 : decode cX5_canSend 54 = .ok (.iconst 1, 1) := by decide +kernel
theorem dX5_canSend_55 : decode cX5_canSend 55 = .ok (.if_icmp .ne 7, 3) := by decide +kernel
theorem dX5_canSend_58 : decode cX5_canSend 58 = .ok (.iconst 1, 1) := by decide +kernel
theorem dX5_canSend_59 : decode cX5_canSend 59 = .ok (.goto 4, 3) := by decide +kernel
theorem dX5_canSend_62 : decode cX5_canSend 62 = .ok (.iconst 0, 1) := by decide +kernel
theorem dX5_canSend_63 : decode cX5_canSend 63 = .ok (.ireturn, 1) := by decide +kernel
def Sc_canSend (w : Wd) (a1 : Int32) (a2 : Int32) : Option Int32 := (if (Nt_isSeeker w a1) = (0 : Int32) then some (0 : Int32) else (if ib a1 2 = true then (if (w.1 15 (Int32.toNatClampNeg a1)) = (-1 : Int32) then some (0 : Int32) else (if a2 = (-1 : Int32) then some (1 : Int32) else (if ib a1 2 = true then (Option.bind (La_leaves w a2 (w.1 15 (Int32.toNatClampNeg a1)) (w.1 13 1)) (fun q6 => (if q6 = (0 : Int32) then some (0 : Int32) else (Option.bind (La_part w a2 (4 : Int32)) (fun q8 => (if q8 = (1 : Int32) then some (1 : Int32) else some (0 : Int32))))))) else none))) else none))
set_option maxRecDepth 100000 in
set_option maxHeartbeats 4000000 in
theorem ct_Sc_canSend {l : Launch} {g : GG} {σ : Sd} (hg : OKg g σ) (hb : σ.2.1 = true) (hx : ∀ c ∈ ([3, 4, 13, 15] : List Nat), c ∈ σ.1) (w : Wd) (a1 : Int32) (a2 : Int32) {q : Int32} (hq : Sc_canSend w a1 a2 = some q) : CT l g σ yX5_canSend cX5_canSend 3 (some .boolean) 3 69 [.ref (gA g 13), .int a1, .int a2] w (some (.int q)) w := by
  refine ct_of (rt := (rtP w)) (res := Sc_canSend w a1 a2) (q := q) (own := RX5) (b := true) hg hb hx (by decide) rfl (Nat.le_of_ble_eq_true rfl) hq (fun K e1 e2 e3 F => ?_)
  subst e1 e2 e3
  rw [Sc_canSend]
  show N K _ _ w 0 [(0, .ref (gA (cg K) 13)), (1, .int a1), (2, .int a2)] []
  refine n_iload_n F dX5_canSend_0 rfl 1 rfl ?_
  refine n_callSNi F cb_X7_isSeeker lm_RX5_95 (ct_Nt_isSeeker (fx_ok F) (fx_sd F) (fx_ix F rfl) w a1) rfl rfl (Nat.le_of_ble_eq_true rfl) ⟨Nat.le_of_ble_eq_true rfl, Nat.le_of_ble_eq_true rfl⟩ dX5_canSend_1 ?_
  refine n_if_eq F 17 dX5_canSend_4 (by decide) (fun e1 => ?_) (fun e1 => ?_)
  · rw [if_pos e1]
    refine n_iconst F (0 : Int32) dX5_canSend_17 (by decide) ?_
    exact n_zret F .boolean rfl rfl rfl dX5_canSend_18
  rw [if_neg e1]
  refine n_aload_n F dX5_canSend_7 rfl 0 rfl ?_
  refine n_get F ck_5 lf_RX5_15 (by decide) fg_13_7 (by decide) dX5_canSend_8 ?_
  refine n_iload_n F dX5_canSend_11 rfl 1 rfl ?_
  refine n_chk (fun e2 => ?_)
  refine n_iald F ar_15 (by decide) (ib_in e2) rfl dX5_canSend_12 ?_
  refine n_iconst F (-1 : Int32) dX5_canSend_13 (by decide) ?_
  refine n_icmp_ne F 19 dX5_canSend_14 (by decide) (fun e3 => ?_) (fun e3 => ?_)
  · rw [if_neg e3]
    refine n_iload_n F dX5_canSend_19 rfl 2 rfl ?_
    refine n_iconst F (-1 : Int32) dX5_canSend_20 (by decide) ?_
    refine n_icmp_eq F 58 dX5_canSend_21 (by decide) (fun e4 => ?_) (fun e4 => ?_)
    · rw [if_pos e4]
      refine n_iconst F (1 : Int32) dX5_canSend_58 (by decide) ?_
      refine n_goto F 63 dX5_canSend_59 (by decide) ?_
      exact n_zret F .boolean rfl rfl rfl dX5_canSend_63
    rw [if_neg e4]
    refine n_aload_n F dX5_canSend_24 rfl 0 rfl ?_
    refine n_get F ck_5 lf_RX5_21 (by decide) fg_13_0 (by decide) dX5_canSend_25 ?_
    refine n_iload_n F dX5_canSend_28 rfl 2 rfl ?_
    refine n_aload_n F dX5_canSend_29 rfl 0 rfl ?_
    refine n_get F ck_5 lf_RX5_15 (by decide) fg_13_7 (by decide) dX5_canSend_30 ?_
    refine n_iload_n F dX5_canSend_33 rfl 1 rfl ?_
    refine n_chk (fun e5 => ?_)
    refine n_iald F ar_15 (by decide) (ib_in e5) rfl dX5_canSend_34 ?_
    refine n_aload_n F dX5_canSend_35 rfl 0 rfl ?_
    refine n_get F ck_5 lf_RX5_28 (by decide) fg_13_1 (by decide) dX5_canSend_36 ?_
    refine n_bind (fun q6 hq6 => ?_)
    refine n_callVi F cb_X1_leaves lm_RX5_99 ob_3 (by decide) ⟨_, _, rfl⟩ (ct_La_leaves (fx_ok F) (fx_sd F) (fx_ix F rfl) w a2 (w.1 15 (Int32.toNatClampNeg a1)) (w.1 13 1) hq6) rfl rfl (Nat.le_of_ble_eq_true rfl) ⟨Nat.le_of_ble_eq_true rfl, Nat.le_of_ble_eq_true rfl⟩ dX5_canSend_39 ?_
    refine n_if_eq F 62 dX5_canSend_42 (by decide) (fun e7 => ?_) (fun e7 => ?_)
    · rw [if_pos e7]
      refine n_iconst F (0 : Int32) dX5_canSend_62 (by decide) ?_
      exact n_zret F .boolean rfl rfl rfl dX5_canSend_63
    rw [if_neg e7]
    refine n_aload_n F dX5_canSend_45 rfl 0 rfl ?_
    refine n_get F ck_5 lf_RX5_21 (by decide) fg_13_0 (by decide) dX5_canSend_46 ?_
    refine n_iload_n F dX5_canSend_49 rfl 2 rfl ?_
    refine n_iconst F (4 : Int32) dX5_canSend_50 (by decide) ?_
    refine n_bind (fun q8 hq8 => ?_)
    refine n_callVi F cb_X1_part lm_RX5_102 ob_3 (by decide) ⟨_, _, rfl⟩ (ct_La_part (fx_ok F) (fx_sd F) (fx_ix F rfl) w a2 (4 : Int32) hq8) rfl rfl (Nat.le_of_ble_eq_true rfl) ⟨Nat.le_of_ble_eq_true rfl, Nat.le_of_ble_eq_true rfl⟩ dX5_canSend_51 ?_
    refine n_iconst F (1 : Int32) dX5_canSend_54 (by decide) ?_
    refine n_icmp_ne F 62 dX5_canSend_55 (by decide) (fun e9 => ?_) (fun e9 => ?_)
    · rw [if_neg e9]
      refine n_iconst F (0 : Int32) dX5_canSend_62 (by decide) ?_
      exact n_zret F .boolean rfl rfl rfl dX5_canSend_63
    rw [if_pos e9]
    refine n_iconst F (1 : Int32) dX5_canSend_58 (by decide) ?_
    refine n_goto F 63 dX5_canSend_59 (by decide) ?_
    exact n_zret F .boolean rfl rfl rfl dX5_canSend_63
  rw [if_pos e3]
  refine n_iconst F (0 : Int32) dX5_canSend_17 (by decide) ?_
  exact n_zret F .boolean rfl rfl rfl dX5_canSend_18
theorem dX5_placeBehind_0 : decode cX5_placeBehind 0 = .ok (.iload_n 1, 1) := by decide +kernel
theorem dX5_placeBehind_1 : decode cX5_placeBehind 1 = .ok (.invokestatic 95, 3) := by decide +kernel
theorem dX5_placeBehind_4 : decode cX5_placeBehind 4 = .ok (.ifCond .ne 5, 3) := by decide +kernel
theorem dX5_placeBehind_7 : decode cX5_placeBehind 7 = .ok (.iconst (-1), 1) := by decide +kernel
theorem dX5_placeBehind_8 : decode cX5_placeBehind 8 = .ok (.ireturn, 1) := by decide +kernel
theorem dX5_placeBehind_9 : decode cX5_placeBehind 9 = .ok (.aload_n 0, 1) := by decide +kernel
theorem dX5_placeBehind_10 : decode cX5_placeBehind 10 = .ok (.getfield 18, 3) := by decide +kernel
theorem dX5_placeBehind_13 : decode cX5_placeBehind 13 = .ok (.iload_n 1, 1) := by decide +kernel
theorem dX5_placeBehind_14 : decode cX5_placeBehind 14 = .ok (.iaload, 1) := by decide +kernel
theorem dX5_placeBehind_15 : decode cX5_placeBehind 15 = .ok (.iconst (-1), 1) := by decide +kernel
theorem dX5_placeBehind_16 : decode cX5_placeBehind 16 = .ok (.if_icmp .ne 12, 3) := by decide +kernel
theorem dX5_placeBehind_19 : decode cX5_placeBehind 19 = .ok (.aload_n 0, 1) := by decide +kernel
theorem dX5_placeBehind_20 : decode cX5_placeBehind 20 = .ok (.getfield 15, 3) := by decide +kernel
theorem dX5_placeBehind_23 : decode cX5_placeBehind 23 = .ok (.iload_n 1, 1) := by decide +kernel
theorem dX5_placeBehind_24 : decode cX5_placeBehind 24 = .ok (.iaload, 1) := by decide +kernel
theorem dX5_placeBehind_25 : decode cX5_placeBehind 25 = .ok (.goto 17, 3) := by decide +kernel
theorem dX5_placeBehind_28 : decode cX5_placeBehind 28 = .ok (.aload_n 0, 1) := by decide +kernel
theorem dX5_placeBehind_29 : decode cX5_placeBehind 29 = .ok (.getfield 21, 3) := by decide +kernel
theorem dX5_placeBehind_32 : decode cX5_placeBehind 32 = .ok (.aload_n 0, 1) := by decide +kernel
theorem dX5_placeBehind_33 : decode cX5_placeBehind 33 = .ok (.getfield 18, 3) := by decide +kernel
theorem dX5_placeBehind_36 : decode cX5_placeBehind 36 = .ok (.iload_n 1, 1) := by decide +kernel
theorem dX5_placeBehind_37 : decode cX5_placeBehind 37 = .ok (.iaload, 1) := by decide +kernel
theorem dX5_placeBehind_38 : decode cX5_placeBehind 38 = .ok (.iconst 1, 1) := by decide +kernel
theorem dX5_placeBehind_39 : decode cX5_placeBehind 39 = .ok (.invokevirtual 102, 3) := by decide +kernel
theorem dX5_placeBehind_42 : decode cX5_placeBehind 42 = .ok (.ireturn, 1) := by decide +kernel
def Sc_placeBehind (w : Wd) (a1 : Int32) : Option Int32 := (if (Nt_isSeeker w a1) = (0 : Int32) then some (-1 : Int32) else (if ib a1 2 = true then (if (w.1 16 (Int32.toNatClampNeg a1)) = (-1 : Int32) then (if ib a1 2 = true then some (w.1 15 (Int32.toNatClampNeg a1)) else none) else (if ib a1 2 = true then (Option.bind (La_part w (w.1 16 (Int32.toNatClampNeg a1)) (1 : Int32)) (fun q5 => some q5)) else none)) else none))
set_option maxRecDepth 100000 in
set_option maxHeartbeats 4000000 in
theorem ct_Sc_placeBehind {l : Launch} {g : GG} {σ : Sd} (hg : OKg g σ) (hb : σ.2.1 = true) (hx : ∀ c ∈ ([3, 4, 13, 15, 16] : List Nat), c ∈ σ.1) (w : Wd) (a1 : Int32) {q : Int32} (hq : Sc_placeBehind w a1 = some q) : CT l g σ yX5_placeBehind cX5_placeBehind 2 (some .int) 2 42 [.ref (gA g 13), .int a1] w (some (.int q)) w := by
  refine ct_of (rt := (rtP w)) (res := Sc_placeBehind w a1) (q := q) (own := RX5) (b := true) hg hb hx (by decide) rfl (Nat.le_of_ble_eq_true rfl) hq (fun K e1 e2 e3 F => ?_)
  subst e1 e2 e3
  rw [Sc_placeBehind]
  show N K _ _ w 0 [(0, .ref (gA (cg K) 13)), (1, .int a1)] []
  refine n_iload_n F dX5_placeBehind_0 rfl 1 rfl ?_
  refine n_callSNi F cb_X7_isSeeker lm_RX5_95 (ct_Nt_isSeeker (fx_ok F) (fx_sd F) (fx_ix F rfl) w a1) rfl rfl (Nat.le_of_ble_eq_true rfl) ⟨Nat.le_of_ble_eq_true rfl, Nat.le_of_ble_eq_true rfl⟩ dX5_placeBehind_1 ?_
  refine n_if_ne F 9 dX5_placeBehind_4 (by decide) (fun e1 => ?_) (fun e1 => ?_)
  · rw [if_neg e1]
    refine n_aload_n F dX5_placeBehind_9 rfl 0 rfl ?_
    refine n_get F ck_5 lf_RX5_18 (by decide) fg_13_8 (by decide) dX5_placeBehind_10 ?_
    refine n_iload_n F dX5_placeBehind_13 rfl 1 rfl ?_
    refine n_chk (fun e2 => ?_)
    refine n_iald F ar_16 (by decide) (ib_in e2) rfl dX5_placeBehind_14 ?_
    refine n_iconst F (-1 : Int32) dX5_placeBehind_15 (by decide) ?_
    refine n_icmp_ne F 28 dX5_placeBehind_16 (by decide) (fun e3 => ?_) (fun e3 => ?_)
    · rw [if_neg e3]
      refine n_aload_n F dX5_placeBehind_28 rfl 0 rfl ?_
      refine n_get F ck_5 lf_RX5_21 (by decide) fg_13_0 (by decide) dX5_placeBehind_29 ?_
      refine n_aload_n F dX5_placeBehind_32 rfl 0 rfl ?_
      refine n_get F ck_5 lf_RX5_18 (by decide) fg_13_8 (by decide) dX5_placeBehind_33 ?_
      refine n_iload_n F dX5_placeBehind_36 rfl 1 rfl ?_
      refine n_chk (fun e4 => ?_)
      refine n_iald F ar_16 (by decide) (ib_in e4) rfl dX5_placeBehind_37 ?_
      refine n_iconst F (1 : Int32) dX5_placeBehind_38 (by decide) ?_
      refine n_bind (fun q5 hq5 => ?_)
      refine n_callVi F cb_X1_part lm_RX5_102 ob_3 (by decide) ⟨_, _, rfl⟩ (ct_La_part (fx_ok F) (fx_sd F) (fx_ix F rfl) w (w.1 16 (Int32.toNatClampNeg a1)) (1 : Int32) hq5) rfl rfl (Nat.le_of_ble_eq_true rfl) ⟨Nat.le_of_ble_eq_true rfl, Nat.le_of_ble_eq_true rfl⟩ dX5_placeBehind_39 ?_
      exact n_iret F rfl rfl dX5_placeBehind_42
    rw [if_pos e3]
    refine n_aload_n F dX5_placeBehind_19 rfl 0 rfl ?_
    refine n_get F ck_5 lf_RX5_15 (by decide) fg_13_7 (by decide) dX5_placeBehind_20 ?_
    refine n_iload_n F dX5_placeBehind_23 rfl 1 rfl ?_
    refine n_chk (fun e6 => ?_)
    refine n_iald F ar_15 (by decide) (ib_in e6) rfl dX5_placeBehind_24 ?_
    refine n_goto F 42 dX5_placeBehind_25 (by decide) ?_
    exact n_iret F rfl rfl dX5_placeBehind_42
  rw [if_pos e1]
  refine n_iconst F (-1 : Int32) dX5_placeBehind_7 (by decide) ?_
  exact n_iret F rfl rfl dX5_placeBehind_8
