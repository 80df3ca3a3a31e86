theorem dX2_foldOne_0 : decode cX2_foldOne 0 = .ok (.aload_n 0, 1) := by decide +kernel
theorem dX2_foldOne_1 : decode cX2_foldOne 1 = .ok (.getfield 18, 3) := by decide +kernel
theorem dX2_foldOne_4 : decode cX2_foldOne 4 = .ok (.iconst 0, 1) := by decide +kernel
theorem dX2_foldOne_5 : decode cX2_foldOne 5 = .ok (.aload_n 0, 1) := by decide +kernel
theorem dX2_foldOne_6 : decode cX2_foldOne 6 = .ok (.getfield 11, 3) := by decide +kernel
theorem dX2_foldOne_9 : decode cX2_foldOne 9 = .ok (.iconst 0, 1) := by decide +kernel
theorem dX2_foldOne_10 : decode cX2_foldOne 10 = .ok (.sipush 448, 3) := by decide +kernel
theorem dX2_foldOne_13 : decode cX2_foldOne 13 = .ok (.invokestatic 111, 3) := by decide +kernel
theorem dX2_foldOne_16 : decode cX2_foldOne 16 = .ok (.iconst 0, 1) := by decide +kernel
theorem dX2_foldOne_17 : decode cX2_foldOne 17 = .ok (.istore_n 1, 1) := by decide +kernel
theorem dX2_foldOne_18 : decode cX2_foldOne 18 = .ok (.iload_n 1, 1) := by decide +kernel
theorem dX2_foldOne_19 : decode cX2_foldOne 19 = .ok (.aload_n 0, 1) := by decide +kernel
theorem dX2_foldOne_20 : decode cX2_foldOne 20 = .ok (.getfield 27, 3) := by decide +kernel
theorem dX2_foldOne_23 : decode cX2_foldOne 23 = .ok (.if_icmp .ge 66, 3) := by decide +kernel
theorem dX2_foldOne_26 : decode cX2_foldOne 26 = .ok (.iconst 0, 1) := by decide +kernel
theorem dX2_foldOne_27 : decode cX2_foldOne 27 = .ok (.istore_n 2, 1) := by decide +kernel
theorem dX2_foldOne_28 : decode cX2_foldOne 28 = .ok (.iload_n 2, 1) := by decide +kernel
theorem dX2_foldOne_29 : decode cX2_foldOne 29 = .ok (.sipush 448, 3) := by decide +kernel
theorem dX2_foldOne_32 : decode cX2_foldOne 32 = .ok (.if_icmp .ge 51, 3) := by decide +kernel
theorem dX2_foldOne_35 : decode cX2_foldOne 35 = .ok (.aload_n 0, 1) := by decide +kernel
theorem dX2_foldOne_36 : decode cX2_foldOne 36 = .ok (.getfield 11, 3) := by decide +kernel
theorem dX2_foldOne_39 : decode cX2_foldOne 39 = .ok (.iload_n 2, 1) := by decide +kernel
theorem dX2_foldOne_40 : decode cX2_foldOne 40 = .ok (.aload_n 0, 1) := by decide +kernel
theorem dX2_foldOne_41 : decode cX2_foldOne 41 = .ok (.getfield 21, 3) := by decide +kernel
theorem dX2_foldOne_44 : decode cX2_foldOne 44 = .ok (.iload_n 1, 1) := by decide +kernel
theorem dX2_foldOne_45 : decode cX2_foldOne 45 = .ok (.iaload, 1) := by decide +kernel
theorem dX2_foldOne_46 : decode cX2_foldOne 46 = .ok (.iadd, 1) := by decide +kernel
theorem dX2_foldOne_47 : decode cX2_foldOne 47 = .ok (.aload_n 0, 1) := by decide +kernel
theorem dX2_foldOne_48 : decode cX2_foldOne 48 = .ok (.getfield 11, 3) := by decide +kernel
theorem dX2_foldOne_51 : decode cX2_foldOne 51 = .ok (.iload_n 2, 1) := by decide +kernel
theorem dX2_foldOne_52 : decode cX2_foldOne 52 = .ok (.aload_n 0, 1) := by decide +kernel
theorem dX2_foldOne_53 : decode cX2_foldOne 53 = .ok (.getfield 21, 3) := by decide +kernel
theorem dX2_foldOne_56 : decode cX2_foldOne 56 = .ok (.iload_n 1, 1) := by decide +kernel
theorem dX2_foldOne_57 : decode cX2_foldOne 57 = .ok (.iaload, 1) := by decide +kernel
theorem dX2_foldOne_58 : decode cX2_foldOne 58 = .ok (.iadd, 1) := by decide +kernel
theorem dX2_foldOne_59 : decode cX2_foldOne 59 = .ok (.iaload, 1) := by decide +kernel
theorem dX2_foldOne_60 : decode cX2_foldOne 60 = .ok (.aload_n 0, 1) := by decide +kernel
theorem dX2_foldOne_61 : decode cX2_foldOne 61 = .ok (.getfield 18, 3) := by decide +kernel
theorem dX2_foldOne_64 : decode cX2_foldOne 64 = .ok (.iload_n 2, 1) := by decide +kernel
theorem dX2_foldOne_65 : decode cX2_foldOne 65 = .ok (.aload_n 0, 1) := by decide +kernel
theorem dX2_foldOne_66 : decode cX2_foldOne 66 = .ok (.getfield 24, 3) := by decide +kernel
theorem dX2_foldOne_69 : decode cX2_foldOne 69 = .ok (.iload_n 1, 1) := by decide +kernel
theorem dX2_foldOne_70 : decode cX2_foldOne 70 = .ok (.iaload, 1) := by decide +kernel
theorem dX2_foldOne_71 : decode cX2_foldOne 71 = .ok (.iadd, 1) := by decide +kernel
theorem dX2_foldOne_72 : decode cX2_foldOne 72 = .ok (.iaload, 1) := by decide +kernel
theorem dX2_foldOne_73 : decode cX2_foldOne 73 = .ok (.invokestatic 63, 3) := by decide +kernel
theorem dX2_foldOne_76 : decode cX2_foldOne 76 = .ok (.iastore, 1) := by decide +kernel
theorem dX2_foldOne_77 : decode cX2_foldOne 77 = .ok (.iinc 2 8, 3) := by decide +kernel
theorem dX2_foldOne_80 : decode cX2_foldOne 80 = .ok (.goto (-52), 3) := by decide +kernel
theorem dX2_foldOne_83 : decode cX2_foldOne 83 = .ok (.iinc 1 1, 3) := by decide +kernel
theorem dX2_foldOne_86 : decode cX2_foldOne 86 = .ok (.goto (-68), 3) := by decide +kernel
theorem dX2_foldOne_89 : decode cX2_foldOne 89 = .ok (.iconst 0, 1) := by decide +kernel
theorem dX2_foldOne_90 : decode cX2_foldOne 90 = .ok (.istore_n 1, 1) := by decide +kernel
theorem dX2_foldOne_91 : decode cX2_foldOne 91 = .ok (.iload_n 1, 1) := by decide +kernel
theorem dX2_foldOne_92 : decode cX2_foldOne 92 = .ok (.sipush 448, 3) := by decide +kernel
theorem dX2_foldOne_95 : decode cX2_foldOne 95 = .ok (.if_icmp .ge 28, 3) := by decide +kernel
theorem dX2_foldOne_98 : decode cX2_foldOne 98 = .ok (.aload_n 0, 1) := by decide +kernel
theorem dX2_foldOne_99 : decode cX2_foldOne 99 = .ok (.getfield 11, 3) := by decide +kernel
theorem dX2_foldOne_102 : decode cX2_foldOne 102 = .ok (.iload_n 1, 1) := by decide +kernel
theorem dX2_foldOne_103 : decode cX2_foldOne 103 = .ok (.aload_n 0, 1) := by decide +kernel
theorem dX2_foldOne_104 : decode cX2_foldOne 104 = .ok (.getfield 11, 3) := by decide +kernel
theorem dX2_foldOne_107 : decode cX2_foldOne 107 = .ok (.iload_n 1, 1) := by decide +kernel
theorem dX2_foldOne_108 : decode cX2_foldOne 108 = .ok (.iaload, 1) := by decide +kernel
theorem dX2_foldOne_109 : decode cX2_foldOne 109 = .ok (.iconst 1, 1) := by decide +kernel
theorem dX2_foldOne_110 : decode cX2_foldOne 110 = .ok (.iadd, 1) := by decide +kernel
theorem dX2_foldOne_111 : decode cX2_foldOne 111 = .ok (.bipush 13, 2) := by decide +kernel
theorem dX2_foldOne_113 : decode cX2_foldOne 113 = .ok (.invokestatic 63, 3) := by decide +kernel
theorem dX2_foldOne_116 : decode cX2_foldOne 116 = .ok (.iastore, 1) := by decide +kernel
theorem dX2_foldOne_117 : decode cX2_foldOne 117 = .ok (.iinc 1 1, 3) := by decide +kernel
theorem dX2_foldOne_120 : decode cX2_foldOne 120 = .ok (.goto (-29), 3) := by decide +kernel
theorem dX2_foldOne_123 : decode cX2_foldOne 123 = .ok (.return_, 1) := by decide +kernel
def Pu_foldOne_L28 (k83 : Wd → Int32 → Option Wd) : Nat → Wd → Int32 → Int32 → Option Wd
  | 0, _, _, _ => none
  | n + 1, w, v1, v2 => (if (448 : Int32) ≤ v2 then (k83 w v1) else (if ib v1 12 = true then (if ib v1 12 = true then (if ib (v2 + (w.1 30 (Int32.toNatClampNeg v1))) 448 = true then (if ib v1 12 = true then (if ib (v2 + (w.1 31 (Int32.toNatClampNeg v1))) 448 = true then (if ib (v2 + (w.1 30 (Int32.toNatClampNeg v1))) 448 = true then (Pu_foldOne_L28 k83 n (sI w 27 (Int32.toNatClampNeg (v2 + (w.1 30 (Int32.toNatClampNeg v1)))) (if (w.1 29 (Int32.toNatClampNeg (v2 + (w.1 31 (Int32.toNatClampNeg v1))))) < (w.1 27 (Int32.toNatClampNeg (v2 + (w.1 30 (Int32.toNatClampNeg v1))))) then (w.1 29 (Int32.toNatClampNeg (v2 + (w.1 31 (Int32.toNatClampNeg v1))))) else (w.1 27 (Int32.toNatClampNeg (v2 + (w.1 30 (Int32.toNatClampNeg v1))))))) v1 (v2 + (8 : Int32))) else none) else none) else none) else none) else none) else none))
set_option maxRecDepth 100000 in
set_option maxHeartbeats 4000000 in
theorem Pu_foldOne_L28_ok {K : Ctx} (F : Fx K cX2_foldOne 3 RX2 none 1 18 true [26, 27, 29, 30, 31]) {k83 : Wd → Int32 → Option Wd} (h83 : ∀ (w : Wd) (v1 : Int32), N K rtV (k83 w v1) w 83 [(0, .ref (gA (cg K) 26)), (1, .int v1)] []) : ∀ (n : Nat) (w : Wd) (v1 : Int32) (v2 : Int32), N K rtV (Pu_foldOne_L28 k83 n w v1 v2) w 28 [(0, .ref (gA (cg K) 26)), (1, .int v1), (2, .int v2)] [] := by
  intro n
  induction n with
  | zero => intro _ _ _; exact n_none
  | succ n ih =>
    intro w v1 v2
    rw [Pu_foldOne_L28]
    refine n_iload_n F dX2_foldOne_28 rfl 2 rfl ?_
    refine n_sipush F (448 : Int32) dX2_foldOne_29 (by decide) ?_
    refine n_icmp_ge F 83 dX2_foldOne_32 (by decide) (fun e2 => ?_) (fun e2 => ?_)
    · rw [if_pos e2]
      exact n_sub [0, 1] rfl (h83 _ _)
    rw [if_neg e2]
    refine n_aload_n F dX2_foldOne_35 rfl 0 rfl ?_
    refine n_get F ck_2 lf_RX2_11 (by decide) fg_26_2 (by decide) dX2_foldOne_36 ?_
    refine n_iload_n F dX2_foldOne_39 rfl 2 rfl ?_
    refine n_aload_n F dX2_foldOne_40 rfl 0 rfl ?_
    refine n_get F ck_2 lf_RX2_21 (by decide) fg_26_5 (by decide) dX2_foldOne_41 ?_
    refine n_iload_n F dX2_foldOne_44 rfl 1 rfl ?_
    refine n_chk (fun e3 => ?_)
    refine n_iald F ar_30 (by decide) (ib_in e3) rfl dX2_foldOne_45 ?_
    refine n_iadd F dX2_foldOne_46 ?_
    refine n_aload_n F dX2_foldOne_47 rfl 0 rfl ?_
    refine n_get F ck_2 lf_RX2_11 (by decide) fg_26_2 (by decide) dX2_foldOne_48 ?_
    refine n_iload_n F dX2_foldOne_51 rfl 2 rfl ?_
    refine n_aload_n F dX2_foldOne_52 rfl 0 rfl ?_
    refine n_get F ck_2 lf_RX2_21 (by decide) fg_26_5 (by decide) dX2_foldOne_53 ?_
    refine n_iload_n F dX2_foldOne_56 rfl 1 rfl ?_
    refine n_chk (fun e4 => ?_)
    refine n_iald F ar_30 (by decide) (ib_in e4) rfl dX2_foldOne_57 ?_
    refine n_iadd F dX2_foldOne_58 ?_
    refine n_chk (fun e5 => ?_)
    refine n_iald F ar_27 (by decide) (ib_in e5) rfl dX2_foldOne_59 ?_
    refine n_aload_n F dX2_foldOne_60 rfl 0 rfl ?_
    refine n_get F ck_2 lf_RX2_18 (by decide) fg_26_4 (by decide) dX2_foldOne_61 ?_
    refine n_iload_n F dX2_foldOne_64 rfl 2 rfl ?_
    refine n_aload_n F dX2_foldOne_65 rfl 0 rfl ?_
    refine n_get F ck_2 lf_RX2_24 (by decide) fg_26_6 (by decide) dX2_foldOne_66 ?_
    refine n_iload_n F dX2_foldOne_69 rfl 1 rfl ?_
    refine n_chk (fun e6 => ?_)
    refine n_iald F ar_31 (by decide) (ib_in e6) rfl dX2_foldOne_70 ?_
    refine n_iadd F dX2_foldOne_71 ?_
    refine n_chk (fun e7 => ?_)
    refine n_iald F ar_29 (by decide) (ib_in e7) rfl dX2_foldOne_72 ?_
    refine n_mmin F lx_RX2_63 (Nat.le_of_ble_eq_true rfl) (Nat.le_of_ble_eq_true rfl) dX2_foldOne_73 ?_
    refine n_chk (fun e8 => ?_)
    refine n_iast F ar_27 (by decide) (ib_in e8) rfl dX2_foldOne_76 ?_
    refine n_iinc F (v2 + (8 : Int32)) (lv' := [(2, .int (v2 + (8 : Int32))), (0, .ref (gA (cg K) 26)), (1, .int v1)]) dX2_foldOne_77 2 rfl rfl (by decide) rfl ?_
    refine n_goto F 28 dX2_foldOne_80 (by decide) ?_
    exact n_sub [1, 2, 0] rfl (ih _ _ _)
def Pu_foldOne_B83 (k18 : Wd → Int32 → Option Wd) (w : Wd) (v1 : Int32) : Option Wd := (k18 w (v1 + (1 : Int32)))
set_option maxRecDepth 100000 in
set_option maxHeartbeats 4000000 in
theorem Pu_foldOne_B83_ok {K : Ctx} (F : Fx K cX2_foldOne 3 RX2 none 1 18 true [26, 27, 29, 30, 31]) {k18 : Wd → Int32 → Option Wd} (h18 : ∀ (w : Wd) (v1 : Int32), N K rtV (k18 w v1) w 18 [(0, .ref (gA (cg K) 26)), (1, .int v1)] []) (w : Wd) (v1 : Int32) : N K rtV (Pu_foldOne_B83 k18 w v1) w 83 [(0, .ref (gA (cg K) 26)), (1, .int v1)] [] := by
  rw [Pu_foldOne_B83]
  refine n_iinc F (v1 + (1 : Int32)) (lv' := [(1, .int (v1 + (1 : Int32))), (0, .ref (gA (cg K) 26))]) dX2_foldOne_83 1 rfl rfl (by decide) rfl ?_
  refine n_goto F 18 dX2_foldOne_86 (by decide) ?_
  exact n_sub [1, 0] rfl (h18 _ _)
def Pu_foldOne_L18 (k89 : Wd → Option Wd) : Nat → Wd → Int32 → Option Wd
  | 0, _, _ => none
  | n + 1, w, v1 => (if (w.1 26 7) ≤ v1 then (k89 w) else (Pu_foldOne_L28 (Pu_foldOne_B83 (Pu_foldOne_L18 k89 n)) FU w v1 (0 : Int32)))
set_option maxRecDepth 100000 in
set_option maxHeartbeats 4000000 in
theorem Pu_foldOne_L18_ok {K : Ctx} (F : Fx K cX2_foldOne 3 RX2 none 1 18 true [26, 27, 29, 30, 31]) {k89 : Wd → Option Wd} (h89 : ∀ (w : Wd), N K rtV (k89 w) w 89 [(0, .ref (gA (cg K) 26))] []) : ∀ (n : Nat) (w : Wd) (v1 : Int32), N K rtV (Pu_foldOne_L18 k89 n w v1) w 18 [(0, .ref (gA (cg K) 26)), (1, .int v1)] [] := by
  intro n
  induction n with
  | zero => intro _ _; exact n_none
  | succ n ih =>
    intro w v1
    rw [Pu_foldOne_L18]
    refine n_iload_n F dX2_foldOne_18 rfl 1 rfl ?_
    refine n_aload_n F dX2_foldOne_19 rfl 0 rfl ?_
    refine n_get F ck_2 lf_RX2_27 (by decide) fg_26_7 (by decide) dX2_foldOne_20 ?_
    refine n_icmp_ge F 89 dX2_foldOne_23 (by decide) (fun e1 => ?_) (fun e1 => ?_)
    · rw [if_pos e1]
      exact n_sub [0] rfl (h89 _)
    rw [if_neg e1]
    refine n_iconst F (0 : Int32) dX2_foldOne_26 (by decide) ?_
    refine n_istore_n F (lv' := [(2, .int (0 : Int32)), (0, .ref (gA (cg K) 26)), (1, .int v1)]) dX2_foldOne_27 rfl (by decide) rfl ?_
    exact n_sub [1, 2, 0] rfl (Pu_foldOne_L28_ok F (Pu_foldOne_B83_ok F ih) FU _ _ _)
def Pu_foldOne_L91 (k123 : Wd → Option Wd) : Nat → Wd → Int32 → Option Wd
  | 0, _, _ => none
  | n + 1, w, v1 => (if (448 : Int32) ≤ v1 then (k123 w) else (if ib v1 448 = true then (if ib v1 448 = true then (Pu_foldOne_L91 k123 n (sI w 27 (Int32.toNatClampNeg v1) (if (13 : Int32) < ((w.1 27 (Int32.toNatClampNeg v1)) + (1 : Int32)) then (13 : Int32) else ((w.1 27 (Int32.toNatClampNeg v1)) + (1 : Int32)))) (v1 + (1 : Int32))) else none) else none))
set_option maxRecDepth 100000 in
set_option maxHeartbeats 4000000 in
theorem Pu_foldOne_L91_ok {K : Ctx} (F : Fx K cX2_foldOne 3 RX2 none 1 18 true [26, 27, 29, 30, 31]) {k123 : Wd → Option Wd} (h123 : ∀ (w : Wd), N K rtV (k123 w) w 123 [] []) : ∀ (n : Nat) (w : Wd) (v1 : Int32), N K rtV (Pu_foldOne_L91 k123 n w v1) w 91 [(0, .ref (gA (cg K) 26)), (1, .int v1)] [] := by
  intro n
  induction n with
  | zero => intro _ _; exact n_none
  | succ n ih =>
    intro w v1
    rw [Pu_foldOne_L91]
    refine n_iload_n F dX2_foldOne_91 rfl 1 rfl ?_
    refine n_sipush F (448 : Int32) dX2_foldOne_92 (by decide) ?_
    refine n_icmp_ge F 123 dX2_foldOne_95 (by decide) (fun e9 => ?_) (fun e9 => ?_)
    · rw [if_pos e9]
      exact n_sub [] rfl (h123 _)
    rw [if_neg e9]
    refine n_aload_n F dX2_foldOne_98 rfl 0 rfl ?_
    refine n_get F ck_2 lf_RX2_11 (by decide) fg_26_2 (by decide) dX2_foldOne_99 ?_
    refine n_iload_n F dX2_foldOne_102 rfl 1 rfl ?_
    refine n_aload_n F dX2_foldOne_103 rfl 0 rfl ?_
    refine n_get F ck_2 lf_RX2_11 (by decide) fg_26_2 (by decide) dX2_foldOne_104 ?_
    refine n_iload_n F dX2_foldOne_107 rfl 1 rfl ?_
    refine n_chk (fun e10 => ?_)
    refine n_iald F ar_27 (by decide) (ib_in e10) rfl dX2_foldOne_108 ?_
    refine n_iconst F (1 : Int32) dX2_foldOne_109 (by decide) ?_
    refine n_iadd F dX2_foldOne_110 ?_
    refine n_bipush F (13 : Int32) dX2_foldOne_111 (by decide) ?_
    refine n_mmin F lx_RX2_63 (Nat.le_of_ble_eq_true rfl) (Nat.le_of_ble_eq_true rfl) dX2_foldOne_113 ?_
    refine n_chk (fun e11 => ?_)
    refine n_iast F ar_27 (by decide) (ib_in e11) rfl dX2_foldOne_116 ?_
    refine n_iinc F (v1 + (1 : Int32)) (lv' := [(1, .int (v1 + (1 : Int32))), (0, .ref (gA (cg K) 26))]) dX2_foldOne_117 1 rfl rfl (by decide) rfl ?_
    refine n_goto F 91 dX2_foldOne_120 (by decide) ?_
    exact n_sub [1, 0] rfl (ih _ _)
def Pu_foldOne_B123 (w : Wd) : Option Wd := some w
set_option maxRecDepth 100000 in
set_option maxHeartbeats 4000000 in
theorem Pu_foldOne_B123_ok {K : Ctx} (F : Fx K cX2_foldOne 3 RX2 none 1 18 true [26, 27, 29, 30, 31]) (w : Wd) : N K rtV (Pu_foldOne_B123 w) w 123 [] [] := by
  rw [Pu_foldOne_B123]
  exact n_vret F rfl rfl dX2_foldOne_123
def Pu_foldOne_B89 (w : Wd) : Option Wd := (Pu_foldOne_L91 Pu_foldOne_B123 FU w (0 : Int32))
set_option maxRecDepth 100000 in
set_option maxHeartbeats 4000000 in
theorem Pu_foldOne_B89_ok {K : Ctx} (F : Fx K cX2_foldOne 3 RX2 none 1 18 true [26, 27, 29, 30, 31]) (w : Wd) : N K rtV (Pu_foldOne_B89 w) w 89 [(0, .ref (gA (cg K) 26))] [] := by
  rw [Pu_foldOne_B89]
  refine n_iconst F (0 : Int32) dX2_foldOne_89 (by decide) ?_
  refine n_istore_n F (lv' := [(1, .int (0 : Int32)), (0, .ref (gA (cg K) 26))]) dX2_foldOne_90 rfl (by decide) rfl ?_
  exact n_sub [1, 0] rfl (Pu_foldOne_L91_ok F (Pu_foldOne_B123_ok F) FU _ _)
def Pu_foldOne (w : Wd) : Option Wd := (Pu_foldOne_L18 Pu_foldOne_B89 FU (cI w 29 0 27 0 448) (0 : Int32))
set_option maxRecDepth 100000 in
set_option maxHeartbeats 4000000 in
theorem ct_Pu_foldOne {l : Launch} {g : GG} {σ : Sd} (hg : OKg g σ) (hb : σ.2.1 = true) (hx : ∀ c ∈ ([26, 27, 29, 30, 31] : List Nat), c ∈ σ.1) (w : Wd) {q : Wd} (hq : Pu_foldOne w = some q) : CT l g σ yX2_foldOne cX2_foldOne 3 none 1 18 [.ref (gA g 26)] w none q := by
  refine ct_of (rt := rtV) (res := Pu_foldOne w) (q := q) (own := RX2) (b := true) hg hb hx (by decide) rfl (Nat.le_of_ble_eq_true rfl) hq (fun K e1 e2 e3 F => ?_)
  subst e1 e2 e3
  rw [Pu_foldOne]
  show N K _ _ w 0 [(0, .ref (gA (cg K) 26))] []
  refine n_aload_n F dX2_foldOne_0 rfl 0 rfl ?_
  refine n_get F ck_2 lf_RX2_18 (by decide) fg_26_4 (by decide) dX2_foldOne_1 ?_
  refine n_iconst F (0 : Int32) dX2_foldOne_4 (by decide) ?_
  refine n_aload_n F dX2_foldOne_5 rfl 0 rfl ?_
  refine n_get F ck_2 lf_RX2_11 (by decide) fg_26_2 (by decide) dX2_foldOne_6 ?_
  refine n_iconst F (0 : Int32) dX2_foldOne_9 (by decide) ?_
  refine n_sipush F (448 : Int32) dX2_foldOne_10 (by decide) ?_
  refine n_copyI F ar_29 ar_27 (by decide) (by decide) 0 0 448 (by decide) (by decide) (by decide) (by decide) (by decide) (by decide) (by decide) (by decide) la_RX2_111 (Nat.le_of_ble_eq_true rfl) (Nat.le_of_ble_eq_true rfl) dX2_foldOne_13 ?_
  refine n_iconst F (0 : Int32) dX2_foldOne_16 (by decide) ?_
  refine n_istore_n F (lv' := [(1, .int (0 : Int32)), (0, .ref (gA (cg K) 26))]) dX2_foldOne_17 rfl (by decide) rfl ?_
  exact n_sub [1, 0] rfl (Pu_foldOne_L18_ok F (Pu_foldOne_B89_ok F) FU _ _)
theorem dX2_placeOf_0 : decode cX2_placeOf 0 = .ok (.iload_n 0, 1) := by decide +kernel
theorem dX2_placeOf_1 : decode cX2_placeOf 1 = .ok (.iconst 0, 1) := by decide +kernel
theorem dX2_placeOf_2 : decode cX2_placeOf 2 = .ok (.bipush 6, 2) := by decide +kernel
theorem dX2_placeOf_4 : decode cX2_placeOf 4 = .ok (.invokestatic 96, 3) := by decide +kernel
theorem dX2_placeOf_7 : decode cX2_placeOf 7 = .ok (.ifCond .eq 7, 3) := by decide +kernel
theorem dX2_placeOf_10 : decode cX2_placeOf 10 = .ok (.iload_n 0, 1) := by decide +kernel
theorem dX2_placeOf_11 : decode cX2_placeOf 11 = .ok (.goto 5, 3) := by decide +kernel
theorem dX2_placeOf_14 : decode cX2_placeOf 14 = .ok (.bipush 7, 2) := by decide +kernel
theorem dX2_placeOf_16 : decode cX2_placeOf 16 = .ok (.ireturn, 1) := by decide +kernel
def Pu_placeOf (w : Wd) (a1 : Int32) : Int32 := (if (Nt_within w a1 (0 : Int32) (6 : Int32)) = (0 : Int32) then (7 : Int32) else a1)
set_option maxRecDepth 100000 in
set_option maxHeartbeats 4000000 in
theorem ct_Pu_placeOf {l : Launch} {g : GG} {σ : Sd} (hg : OKg g σ) (hb : σ.2.1 = true) (hx : ∀ c ∈ ([] : List Nat), c ∈ σ.1) (w : Wd) (a1 : Int32) : CT l g σ yX2_placeOf cX2_placeOf 1 (some .int) 1 22 [.int a1] w (some (.int (Pu_placeOf w a1))) w := by
  refine ct_of (rt := (rtP w)) (res := some (Pu_placeOf w a1)) (q := (Pu_placeOf w a1)) (own := RX2) (b := true) hg hb hx (by decide) rfl (Nat.le_of_ble_eq_true rfl) rfl (fun K e1 e2 e3 F => ?_)
  subst e1 e2 e3
  rw [Pu_placeOf]
  show N K _ _ w 0 [(0, .int a1)] []
  refine n_iload_n F dX2_placeOf_0 rfl 0 rfl ?_
  refine n_iconst F (0 : Int32) dX2_placeOf_1 (by decide) ?_
  refine n_bipush F (6 : Int32) dX2_placeOf_2 (by decide) ?_
  refine n_callSNi F cb_X7_within lm_RX2_96 (ct_Nt_within (fx_ok F) (fx_sd F) (fx_ix F rfl) w a1 (0 : Int32) (6 : Int32)) rfl rfl (Nat.le_of_ble_eq_true rfl) ⟨Nat.le_of_ble_eq_true rfl, Nat.le_of_ble_eq_true rfl⟩ dX2_placeOf_4 ?_
  refine n_if_eq F 14 dX2_placeOf_7 (by decide) (fun e1 => ?_) (fun e1 => ?_)
  · rw [if_pos e1]
    refine n_bipush F (7 : Int32) dX2_placeOf_14 (by decide) ?_
    exact n_iret F rfl rfl dX2_placeOf_16
  rw [if_neg e1]
  refine n_iload_n F dX2_placeOf_10 rfl 0 rfl ?_
  refine n_goto F 16 dX2_placeOf_11 (by decide) ?_
  exact n_iret F rfl rfl dX2_placeOf_16
theorem dX2_fewestDays_0 : decode cX2_fewestDays 0 = .ok (.aload_n 0, 1) := by decide +kernel
theorem dX2_fewestDays_1 : decode cX2_fewestDays 1 = .ok (.getfield 11, 3) := by decide +kernel
theorem dX2_fewestDays_4 : decode cX2_fewestDays 4 = .ok (.bipush 13, 2) := by decide +kernel
theorem dX2_fewestDays_6 : decode cX2_fewestDays 6 = .ok (.invokestatic 54, 3) := by decide +kernel
theorem dX2_fewestDays_9 : decode cX2_fewestDays 9 = .ok (.aload_n 0, 1) := by decide +kernel
theorem dX2_fewestDays_10 : decode cX2_fewestDays 10 = .ok (.invokevirtual 60, 3) := by decide +kernel
theorem dX2_fewestDays_13 : decode cX2_fewestDays 13 = .ok (.iload_n 2, 1) := by decide +kernel
theorem dX2_fewestDays_14 : decode cX2_fewestDays 14 = .ok (.bipush 12, 2) := by decide +kernel
theorem dX2_fewestDays_16 : decode cX2_fewestDays 16 = .ok (.invokestatic 63, 3) := by decide +kernel
theorem dX2_fewestDays_19 : decode cX2_fewestDays 19 = .ok (.iconst 1, 1) := by decide +kernel
theorem dX2_fewestDays_20 : decode cX2_fewestDays 20 = .ok (.isub, 1) := by decide +kernel
theorem dX2_fewestDays_21 : decode cX2_fewestDays 21 = .ok (.istore_n 3, 1) := by decide +kernel
theorem dX2_fewestDays_22 : decode cX2_fewestDays 22 = .ok (.iload_n 3, 1) := by decide +kernel
theorem dX2_fewestDays_23 : decode cX2_fewestDays 23 = .ok (.ifCond .lt 39, 3) := by decide +kernel
theorem dX2_fewestDays_26 : decode cX2_fewestDays 26 = .ok (.aload_n 0, 1) := by decide +kernel
theorem dX2_fewestDays_27 : decode cX2_fewestDays 27 = .ok (.aload_n 0, 1) := by decide +kernel
theorem dX2_fewestDays_28 : decode cX2_fewestDays 28 = .ok (.getfield 41, 3) := by decide +kernel
theorem dX2_fewestDays_31 : decode cX2_fewestDays 31 = .ok (.getfield 68, 3) := by decide +kernel
theorem dX2_fewestDays_34 : decode cX2_fewestDays 34 = .ok (.iload_n 3, 1) := by decide +kernel
theorem dX2_fewestDays_35 : decode cX2_fewestDays 35 = .ok (.iadd, 1) := by decide +kernel
theorem dX2_fewestDays_36 : decode cX2_fewestDays 36 = .ok (.iload_n 1, 1) := by decide +kernel
theorem dX2_fewestDays_37 : decode cX2_fewestDays 37 = .ok (.invokevirtual 73, 3) := by decide +kernel
theorem dX2_fewestDays_40 : decode cX2_fewestDays 40 = .ok (.aload_n 0, 1) := by decide +kernel
theorem dX2_fewestDays_41 : decode cX2_fewestDays 41 = .ok (.invokevirtual 77, 3) := by decide +kernel
theorem dX2_fewestDays_44 : decode cX2_fewestDays 44 = .ok (.aload_n 0, 1) := by decide +kernel
theorem dX2_fewestDays_45 : decode cX2_fewestDays 45 = .ok (.invokevirtual 80, 3) := by decide +kernel
theorem dX2_fewestDays_48 : decode cX2_fewestDays 48 = .ok (.aload_n 0, 1) := by decide +kernel
theorem dX2_fewestDays_49 : decode cX2_fewestDays 49 = .ok (.invokevirtual 83, 3) := by decide +kernel
theorem dX2_fewestDays_52 : decode cX2_fewestDays 52 = .ok (.aload_n 0, 1) := by decide +kernel
theorem dX2_fewestDays_53 : decode cX2_fewestDays 53 = .ok (.invokevirtual 60, 3) := by decide +kernel
theorem dX2_fewestDays_56 : decode cX2_fewestDays 56 = .ok (.iinc 3 (-1), 3) := by decide +kernel
theorem dX2_fewestDays_59 : decode cX2_fewestDays 59 = .ok (.goto (-37), 3) := by decide +kernel
theorem dX2_fewestDays_62 : decode cX2_fewestDays 62 = .ok (.aload_n 0, 1) := by decide +kernel
theorem dX2_fewestDays_63 : decode cX2_fewestDays 63 = .ok (.getfield 41, 3) := by decide +kernel
theorem dX2_fewestDays_66 : decode cX2_fewestDays 66 = .ok (.getfield 86, 3) := by decide +kernel
theorem dX2_fewestDays_69 : decode cX2_fewestDays 69 = .ok (.bipush 8, 2) := by decide +kernel
theorem dX2_fewestDays_71 : decode cX2_fewestDays 71 = .ok (.imul, 1) := by decide +kernel
theorem dX2_fewestDays_72 : decode cX2_fewestDays 72 = .ok (.aload_n 0, 1) := by decide +kernel
theorem dX2_fewestDays_73 : decode cX2_fewestDays 73 = .ok (.getfield 41, 3) := by decide +kernel
theorem dX2_fewestDays_76 : decode cX2_fewestDays 76 = .ok (.getfield 89, 3) := by decide +kernel
theorem dX2_fewestDays_79 : decode cX2_fewestDays 79 = .ok (.iconst 0, 1) := by decide +kernel
theorem dX2_fewestDays_80 : decode cX2_fewestDays 80 = .ok (.iaload, 1) := by decide +kernel
theorem dX2_fewestDays_81 : decode cX2_fewestDays 81 = .ok (.invokestatic 92, 3) := by decide +kernel
theorem dX2_fewestDays_84 : decode cX2_fewestDays 84 = .ok (.iadd, 1) := by decide +kernel
theorem dX2_fewestDays_85 : decode cX2_fewestDays 85 = .ok (.bipush 8, 2) := by decide +kernel
theorem dX2_fewestDays_87 : decode cX2_fewestDays 87 = .ok (.imul, 1) := by decide +kernel
theorem dX2_fewestDays_88 : decode cX2_fewestDays 88 = .ok (.aload_n 0, 1) := by decide +kernel
theorem dX2_fewestDays_89 : decode cX2_fewestDays 89 = .ok (.getfield 41, 3) := by decide +kernel
theorem dX2_fewestDays_92 : decode cX2_fewestDays 92 = .ok (.getfield 89, 3) := by decide +kernel
theorem dX2_fewestDays_95 : decode cX2_fewestDays 95 = .ok (.iconst 1, 1) := by decide +kernel
theorem dX2_fewestDays_96 : decode cX2_fewestDays 96 = .ok (.iaload, 1) := by decide +kernel
theorem dX2_fewestDays_97 : decode cX2_fewestDays 97 = .ok (.invokestatic 92, 3) := by decide +kernel
theorem dX2_fewestDays_100 : decode cX2_fewestDays 100 = .ok (.iadd, 1) := by decide +kernel
theorem dX2_fewestDays_101 : decode cX2_fewestDays 101 = .ok (.istore_n 3, 1) := by decide +kernel
theorem dX2_fewestDays_102 : decode cX2_fewestDays 102 = .ok (.iload_n 3, 1) := by decide +kernel
theorem dX2_fewestDays_103 : decode cX2_fewestDays 103 = .ok (.iconst 0, 1) := by decide +kernel
theorem dX2_fewestDays_104 : decode cX2_fewestDays 104 = .ok (.sipush 447, 3) := by decide +kernel
theorem dX2_fewestDays_107 : decode cX2_fewestDays 107 = .ok (.invokestatic 96, 3) := by decide +kernel
theorem dX2_fewestDays_110 : decode cX2_fewestDays 110 = .ok (.ifCond .eq 12, 3) := by decide +kernel
theorem dX2_fewestDays_113 : decode cX2_fewestDays 113 = .ok (.aload_n 0, 1) := by decide +kernel
theorem dX2_fewestDays_114 : decode cX2_fewestDays 114 = .ok (.getfield 11, 3) := by decide +kernel
theorem dX2_fewestDays_117 : decode cX2_fewestDays 117 = .ok (.iload_n 3, 1) := by decide +kernel
theorem dX2_fewestDays_118 : decode cX2_fewestDays 118 = .ok (.iaload, 1) := by decide +kernel
theorem dX2_fewestDays_119 : decode cX2_fewestDays 119 = .ok (.goto 5, 3) := by decide +kernel
theorem dX2_fewestDays_122 : decode cX2_fewestDays 122 = .ok (.bipush 13, 2) := by decide +kernel
theorem dX2_fewestDays_124 : decode cX2_fewestDays 124 = .ok (.ireturn, 1) := by decide +kernel
def Pu_fewestDays_L22 (k62 : Wd → Option (Int32 × Wd)) : Nat → Wd → Int32 → Int32 → Option (Int32 × Wd)
  | 0, _, _, _ => none
  | n + 1, w, v1, v3 => (if v3 < (0 : Int32) then (k62 w) else (Option.bind (Pu_gather w ((w.1 13 1) + v3) v1) (fun q4 => (Option.bind (Pu_foldHim q4) (fun q5 => (Option.bind (Pu_foldZero q5) (fun q6 => (Option.bind (Pu_foldOne q6) (fun q7 => (Option.bind (Pu_markCaught q7) (fun q8 => (Pu_fewestDays_L22 k62 n q8 v1 (v3 + (-1 : Int32))))))))))))))
set_option maxRecDepth 100000 in
set_option maxHeartbeats 4000000 in
theorem Pu_fewestDays_L22_ok {K : Ctx} (F : Fx K cX2_fewestDays 4 RX2 (some .int) 3 72 true [3, 4, 13, 15, 26, 27, 28, 29, 30, 31]) {k62 : Wd → Option (Int32 × Wd)} (h62 : ∀ (w : Wd), N K rtI (k62 w) w 62 [(0, .ref (gA (cg K) 26))] []) : ∀ (n : Nat) (w : Wd) (v1 : Int32) (v3 : Int32), N K rtI (Pu_fewestDays_L22 k62 n w v1 v3) w 22 [(0, .ref (gA (cg K) 26)), (1, .int v1), (3, .int v3)] [] := by
  intro n
  induction n with
  | zero => intro _ _ _; exact n_none
  | succ n ih =>
    intro w v1 v3
    rw [Pu_fewestDays_L22]
    refine n_iload_n F dX2_fewestDays_22 rfl 2 rfl ?_
    refine n_if_lt F 62 dX2_fewestDays_23 (by decide) (fun e3 => ?_) (fun e3 => ?_)
    · rw [if_pos e3]
      exact n_sub [0] rfl (h62 _)
    rw [if_neg e3]
    refine n_aload_n F dX2_fewestDays_26 rfl 0 rfl ?_
    refine n_aload_n F dX2_fewestDays_27 rfl 0 rfl ?_
    refine n_get F ck_2 lf_RX2_41 (by decide) fg_26_1 (by decide) dX2_fewestDays_28 ?_
    refine n_get F ck_5 lf_RX2_68 (by decide) fg_13_1 (by decide) dX2_fewestDays_31 ?_
    refine n_iload_n F dX2_fewestDays_34 rfl 2 rfl ?_
    refine n_iadd F dX2_fewestDays_35 ?_
    refine n_iload_n F dX2_fewestDays_36 rfl 1 rfl ?_
    refine n_bind (fun q4 hq4 => ?_)
    refine n_callVv F cb_X2_gather lm_RX2_73 ob_26 (by decide) ⟨_, _, rfl⟩ (ct_Pu_gather (fx_ok F) (fx_sd F) (fx_ix F rfl) w ((w.1 13 1) + v3) v1 hq4) rfl rfl (Nat.le_of_ble_eq_true rfl) ⟨Nat.le_of_ble_eq_true rfl, Nat.le_of_ble_eq_true rfl⟩ dX2_fewestDays_37 ?_
    refine n_aload_n F dX2_fewestDays_40 rfl 0 rfl ?_
    refine n_bind (fun q5 hq5 => ?_)
    refine n_callVv F cb_X2_foldHim lm_RX2_77 ob_26 (by decide) ⟨_, _, rfl⟩ (ct_Pu_foldHim (fx_ok F) (fx_sd F) (fx_ix F rfl) q4 hq5) rfl rfl (Nat.le_of_ble_eq_true rfl) ⟨Nat.le_of_ble_eq_true rfl, Nat.le_of_ble_eq_true rfl⟩ dX2_fewestDays_41 ?_
    refine n_aload_n F dX2_fewestDays_44 rfl 0 rfl ?_
    refine n_bind (fun q6 hq6 => ?_)
    refine n_callVv F cb_X2_foldZero lm_RX2_80 ob_26 (by decide) ⟨_, _, rfl⟩ (ct_Pu_foldZero (fx_ok F) (fx_sd F) (fx_ix F rfl) q5 hq6) rfl rfl (Nat.le_of_ble_eq_true rfl) ⟨Nat.le_of_ble_eq_true rfl, Nat.le_of_ble_eq_true rfl⟩ dX2_fewestDays_45 ?_
    refine n_aload_n F dX2_fewestDays_48 rfl 0 rfl ?_
    refine n_bind (fun q7 hq7 => ?_)
    refine n_callVv F cb_X2_foldOne lm_RX2_83 ob_26 (by decide) ⟨_, _, rfl⟩ (ct_Pu_foldOne (fx_ok F) (fx_sd F) (fx_ix F rfl) q6 hq7) rfl rfl (Nat.le_of_ble_eq_true rfl) ⟨Nat.le_of_ble_eq_true rfl, Nat.le_of_ble_eq_true rfl⟩ dX2_fewestDays_49 ?_
    refine n_aload_n F dX2_fewestDays_52 rfl 0 rfl ?_
    refine n_bind (fun q8 hq8 => ?_)
    refine n_callVv F cb_X2_markCaught lm_RX2_60 ob_26 (by decide) ⟨_, _, rfl⟩ (ct_Pu_markCaught (fx_ok F) (fx_sd F) (fx_ix F rfl) q7 hq8) rfl rfl (Nat.le_of_ble_eq_true rfl) ⟨Nat.le_of_ble_eq_true rfl, Nat.le_of_ble_eq_true rfl⟩ dX2_fewestDays_53 ?_
    refine n_iinc F (v3 + (-1 : Int32)) (lv' := [(3, .int (v3 + (-1 : Int32))), (0, .ref (gA (cg K) 26)), (1, .int v1)]) dX2_fewestDays_56 2 rfl rfl (by decide) rfl ?_
    refine n_goto F 22 dX2_fewestDays_59 (by decide) ?_
    exact n_sub [1, 2, 0] rfl (ih _ _ _)
def Pu_fewestDays_B62 (w : Wd) : Option (Int32 × Wd) := (if (Nt_within w (((((w.1 13 2) * (8 : Int32)) + (Pu_placeOf w (w.1 15 0))) * (8 : Int32)) + (Pu_placeOf w (w.1 15 1))) (0 : Int32) (447 : Int32)) = (0 : Int32) then some ((13 : Int32), w) else (if ib (((((w.1 13 2) * (8 : Int32)) + (Pu_placeOf w (w.1 15 0))) * (8 : Int32)) + (Pu_placeOf w (w.1 15 1))) 448 = true then some ((w.1 27 (Int32.toNatClampNeg (((((w.1 13 2) * (8 : Int32)) + (Pu_placeOf w (w.1 15 0))) * (8 : Int32)) + (Pu_placeOf w (w.1 15 1))))), w) else none))
set_option maxRecDepth 100000 in
set_option maxHeartbeats 4000000 in
theorem Pu_fewestDays_B62_ok {K : Ctx} (F : Fx K cX2_fewestDays 4 RX2 (some .int) 3 72 true [3, 4, 13, 15, 26, 27, 28, 29, 30, 31]) (w : Wd) : N K rtI (Pu_fewestDays_B62 w) w 62 [(0, .ref (gA (cg K) 26))] [] := by
  rw [Pu_fewestDays_B62]
  refine n_aload_n F dX2_fewestDays_62 rfl 0 rfl ?_
  refine n_get F ck_2 lf_RX2_41 (by decide) fg_26_1 (by decide) dX2_fewestDays_63 ?_
  refine n_get F ck_5 lf_RX2_86 (by decide) fg_13_2 (by decide) dX2_fewestDays_66 ?_
  refine n_bipush F (8 : Int32) dX2_fewestDays_69 (by decide) ?_
  refine n_imul F dX2_fewestDays_71 ?_
  refine n_aload_n F dX2_fewestDays_72 rfl 0 rfl ?_
  refine n_get F ck_2 lf_RX2_41 (by decide) fg_26_1 (by decide) dX2_fewestDays_73 ?_
  refine n_get F ck_5 lf_RX2_89 (by decide) fg_13_7 (by decide) dX2_fewestDays_76 ?_
  refine n_iconst F (0 : Int32) dX2_fewestDays_79 (by decide) ?_
  refine n_iald F ar_15 (by decide) (ib_c (n := 2) (by decide)) (j := 0) (by decide) dX2_fewestDays_80 ?_
  refine n_callSi F cb_X2_placeOf lm_RX2_92 (ct_Pu_placeOf (fx_ok F) (fx_sd F) (fx_ix F rfl) w (w.1 15 0)) rfl rfl (Nat.le_of_ble_eq_true rfl) ⟨Nat.le_of_ble_eq_true rfl, Nat.le_of_ble_eq_true rfl⟩ dX2_fewestDays_81 ?_
  refine n_iadd F dX2_fewestDays_84 ?_
  refine n_bipush F (8 : Int32) dX2_fewestDays_85 (by decide) ?_
  refine n_imul F dX2_fewestDays_87 ?_
  refine n_aload_n F dX2_fewestDays_88 rfl 0 rfl ?_
  refine n_get F ck_2 lf_RX2_41 (by decide) fg_26_1 (by decide) dX2_fewestDays_89 ?_
  refine n_get F ck_5 lf_RX2_89 (by decide) fg_13_7 (by decide) dX2_fewestDays_92 ?_
  refine n_iconst F (1 : Int32) dX2_fewestDays_95 (by decide) ?_
  refine n_iald F ar_15 (by decide) (ib_c (n := 2) (by decide)) (j := 1) (by decide) dX2_fewestDays_96 ?_
  refine n_callSi F cb_X2_placeOf lm_RX2_92 (ct_Pu_placeOf (fx_ok F) (fx_sd F) (fx_ix F rfl) w (w.1 15 1)) rfl rfl (Nat.le_of_ble_eq_true rfl) ⟨Nat.le_of_ble_eq_true rfl, Nat.le_of_ble_eq_true rfl⟩ dX2_fewestDays_97 ?_
  refine n_iadd F dX2_fewestDays_100 ?_
  refine n_istore_n F (lv' := [(3, .int (((((w.1 13 2) * (8 : Int32)) + (Pu_placeOf w (w.1 15 0))) * (8 : Int32)) + (Pu_placeOf w (w.1 15 1)))), (0, .ref (gA (cg K) 26))]) dX2_fewestDays_101 rfl (by decide) rfl ?_
  refine n_iload_n F dX2_fewestDays_102 rfl 0 rfl ?_
  refine n_iconst F (0 : Int32) dX2_fewestDays_103 (by decide) ?_
  refine n_sipush F (447 : Int32) dX2_fewestDays_104 (by decide) ?_
  refine n_callSNi F cb_X7_within lm_RX2_96 (ct_Nt_within (fx_ok F) (fx_sd F) (fx_ix F rfl) w (((((w.1 13 2) * (8 : Int32)) + (Pu_placeOf w (w.1 15 0))) * (8 : Int32)) + (Pu_placeOf w (w.1 15 1))) (0 : Int32) (447 : Int32)) rfl rfl (Nat.le_of_ble_eq_true rfl) ⟨Nat.le_of_ble_eq_true rfl, Nat.le_of_ble_eq_true rfl⟩ dX2_fewestDays_107 ?_
  refine n_if_eq F 122 dX2_fewestDays_110 (by decide) (fun e9 => ?_) (fun e9 => ?_)
  · rw [if_pos e9]
    refine n_bipush F (13 : Int32) dX2_fewestDays_122 (by decide) ?_
    exact n_iret F rfl rfl dX2_fewestDays_124
  rw [if_neg e9]
  refine n_aload_n F dX2_fewestDays_113 rfl 1 rfl ?_
  refine n_get F ck_2 lf_RX2_11 (by decide) fg_26_2 (by decide) dX2_fewestDays_114 ?_
  refine n_iload_n F dX2_fewestDays_117 rfl 0 rfl ?_
  refine n_chk (fun e10 => ?_)
  refine n_iald F ar_27 (by decide) (ib_in e10) rfl dX2_fewestDays_118 ?_
  refine n_goto F 124 dX2_fewestDays_119 (by decide) ?_
  exact n_iret F rfl rfl dX2_fewestDays_124
def Pu_fewestDays (w : Wd) (a1 : Int32) (a2 : Int32) : Option (Int32 × Wd) := (Option.bind (Jd_fillI_27 w (13 : Int32)) (fun q1 => (Option.bind (Pu_markCaught q1) (fun q2 => (Pu_fewestDays_L22 Pu_fewestDays_B62 FU q2 a1 ((if (12 : Int32) < a2 then (12 : Int32) else a2) - (1 : Int32)))))))
set_option maxRecDepth 100000 in
set_option maxHeartbeats 4000000 in
theorem ct_Pu_fewestDays {l : Launch} {g : GG} {σ : Sd} (hg : OKg g σ) (hb : σ.2.1 = true) (hx : ∀ c ∈ ([3, 4, 13, 15, 26, 27, 28, 29, 30, 31] : List Nat), c ∈ σ.1) (w : Wd) (a1 : Int32) (a2 : Int32) {q : Int32 × Wd} (hq : Pu_fewestDays w a1 a2 = some q) : CT l g σ yX2_fewestDays cX2_fewestDays 4 (some .int) 3 72 [.ref (gA g 26), .int a1, .int a2] w (some (.int q.1)) q.2 := by
  refine ct_of (rt := rtI) (res := Pu_fewestDays w a1 a2) (q := q) (own := RX2) (b := true) hg hb hx (by decide) rfl (Nat.le_of_ble_eq_true rfl) hq (fun K e1 e2 e3 F => ?_)
  subst e1 e2 e3
  rw [Pu_fewestDays]
  show N K _ _ w 0 [(0, .ref (gA (cg K) 26)), (1, .int a1), (2, .int a2)] []
  refine n_aload_n F dX2_fewestDays_0 rfl 0 rfl ?_
  refine n_get F ck_2 lf_RX2_11 (by decide) fg_26_2 (by decide) dX2_fewestDays_1 ?_
  refine n_bipush F (13 : Int32) dX2_fewestDays_4 (by decide) ?_
  refine n_bind (fun q1 hq1 => ?_)
  refine n_callSv F cb_J7_fill_53178 lm_RX2_54 (ct_Jd_fillI_27 (fx_ok F) (fx_sd F) (fx_ix F rfl) w (13 : Int32) hq1) rfl rfl (Nat.le_of_ble_eq_true rfl) ⟨Nat.le_of_ble_eq_true rfl, Nat.le_of_ble_eq_true rfl⟩ dX2_fewestDays_6 ?_
  refine n_aload_n F dX2_fewestDays_9 rfl 0 rfl ?_
  refine n_bind (fun q2 hq2 => ?_)
  refine n_callVv F cb_X2_markCaught lm_RX2_60 ob_26 (by decide) ⟨_, _, rfl⟩ (ct_Pu_markCaught (fx_ok F) (fx_sd F) (fx_ix F rfl) q1 hq2) rfl rfl (Nat.le_of_ble_eq_true rfl) ⟨Nat.le_of_ble_eq_true rfl, Nat.le_of_ble_eq_true rfl⟩ dX2_fewestDays_10 ?_
  refine n_iload_n F dX2_fewestDays_13 rfl 2 rfl ?_
  refine n_bipush F (12 : Int32) dX2_fewestDays_14 (by decide) ?_
  refine n_mmin F lx_RX2_63 (Nat.le_of_ble_eq_true rfl) (Nat.le_of_ble_eq_true rfl) dX2_fewestDays_16 ?_
  refine n_iconst F (1 : Int32) dX2_fewestDays_19 (by decide) ?_
  refine n_isub F dX2_fewestDays_20 ?_
  refine n_istore_n F (lv' := [(3, .int ((if (12 : Int32) < a2 then (12 : Int32) else a2) - (1 : Int32))), (0, .ref (gA (cg K) 26)), (1, .int a1), (2, .int a2)]) dX2_fewestDays_21 rfl (by decide) rfl ?_
  exact n_sub [1, 2, 0] rfl (Pu_fewestDays_L22_ok F (Pu_fewestDays_B62_ok F) FU _ _ _)
theorem dX2_close_0 : decode cX2_close 0 = .ok (.aload_n 0, 1) := by decide +kernel
theorem dX2_close_1 : decode cX2_close 1 = .ok (.iconst 0, 1) := by decide +kernel
theorem dX2_close_2 : decode cX2_close 2 = .ok (.putfield 31, 3) := by decide +kernel
theorem dX2_close_5 : decode cX2_close 5 = .ok (.aload_n 0, 1) := by decide +kernel
theorem dX2_close_6 : decode cX2_close 6 = .ok (.bipush 13, 2) := by decide +kernel
theorem dX2_close_8 : decode cX2_close 8 = .ok (.putfield 34, 3) := by decide +kernel
theorem dX2_close_11 : decode cX2_close 11 = .ok (.iconst 0, 1) := by decide +kernel
theorem dX2_close_12 : decode cX2_close 12 = .ok (.istore_n 1, 1) := by decide +kernel
theorem dX2_close_13 : decode cX2_close 13 = .ok (.iload_n 1, 1) := by decide +kernel
theorem dX2_close_14 : decode cX2_close 14 = .ok (.aload_n 0, 1) := by decide +kernel
theorem dX2_close_15 : decode cX2_close 15 = .ok (.getfield 37, 3) := by decide +kernel
theorem dX2_close_18 : decode cX2_close 18 = .ok (.getfield 45, 3) := by decide +kernel
theorem dX2_close_21 : decode cX2_close 21 = .ok (.if_icmp .ge 39, 3) := by decide +kernel
theorem dX2_close_24 : decode cX2_close 24 = .ok (.aload_n 0, 1) := by decide +kernel
theorem dX2_close_25 : decode cX2_close 25 = .ok (.iload_n 1, 1) := by decide +kernel
theorem dX2_close_26 : decode cX2_close 26 = .ok (.aload_n 0, 1) := by decide +kernel
theorem dX2_close_27 : decode cX2_close 27 = .ok (.getfield 34, 3) := by decide +kernel
theorem dX2_close_30 : decode cX2_close 30 = .ok (.iconst 1, 1) := by decide +kernel
theorem dX2_close_31 : decode cX2_close 31 = .ok (.isub, 1) := by decide +kernel
theorem dX2_close_32 : decode cX2_close 32 = .ok (.invokevirtual 50, 3) := by decide +kernel
theorem dX2_close_35 : decode cX2_close 35 = .ok (.istore_n 2, 1) := by decide +kernel
theorem dX2_close_36 : decode cX2_close 36 = .ok (.iload_n 2, 1) := by decide +kernel
theorem dX2_close_37 : decode cX2_close 37 = .ok (.aload_n 0, 1) := by decide +kernel
theorem dX2_close_38 : decode cX2_close 38 = .ok (.getfield 34, 3) := by decide +kernel
theorem dX2_close_41 : decode cX2_close 41 = .ok (.if_icmp .ge 13, 3) := by decide +kernel
theorem dX2_close_44 : decode cX2_close 44 = .ok (.aload_n 0, 1) := by decide +kernel
theorem dX2_close_45 : decode cX2_close 45 = .ok (.iload_n 2, 1) := by decide +kernel
theorem dX2_close_46 : decode cX2_close 46 = .ok (.putfield 34, 3) := by decide +kernel
theorem dX2_close_49 : decode cX2_close 49 = .ok (.aload_n 0, 1) := by decide +kernel
theorem dX2_close_50 : decode cX2_close 50 = .ok (.iload_n 1, 1) := by decide +kernel
theorem dX2_close_51 : decode cX2_close 51 = .ok (.putfield 31, 3) := by decide +kernel
theorem dX2_close_54 : decode cX2_close 54 = .ok (.iinc 1 1, 3) := by decide +kernel
theorem dX2_close_57 : decode cX2_close 57 = .ok (.goto (-44), 3) := by decide +kernel
theorem dX2_close_60 : decode cX2_close 60 = .ok (.return_, 1) := by decide +kernel
def Pu_close_L13 (k60 : Wd → Option Wd) : Nat → Wd → Int32 → Option Wd
  | 0, _, _ => none
  | n + 1, w, v1 => (if (w.1 3 1) ≤ v1 then (k60 w) else (Option.bind (Pu_fewestDays w v1 ((w.1 26 9) - (1 : Int32))) (fun q2 => (Pu_close_L13 k60 n (if ((q2.2).1 26 9) ≤ (q2.1) then (q2.2) else (sI (sI (q2.2) 26 9 (q2.1)) 26 8 v1)) (v1 + (1 : Int32))))))
set_option maxRecDepth 100000 in
set_option maxHeartbeats 4000000 in
theorem Pu_close_L13_ok {K : Ctx} (F : Fx K cX2_close 3 RX2 none 4 95 true [3, 4, 13, 15, 26, 27, 28, 29, 30, 31]) {k60 : Wd → Option Wd} (h60 : ∀ (w : Wd), N K rtV (k60 w) w 60 [] []) : ∀ (n : Nat) (w : Wd) (v1 : Int32), N K rtV (Pu_close_L13 k60 n w v1) w 13 [(0, .ref (gA (cg K) 26)), (1, .int v1)] [] := by
  intro n
  induction n with
  | zero => intro _ _; exact n_none
  | succ n ih =>
    intro w v1
    rw [Pu_close_L13]
    refine n_iload_n F dX2_close_13 rfl 1 rfl ?_
    refine n_aload_n F dX2_close_14 rfl 0 rfl ?_
    refine n_get F ck_2 lf_RX2_37 (by decide) fg_26_0 (by decide) dX2_close_15 ?_
    refine n_get F ck_1 lf_RX2_45 (by decide) fg_3_1 (by decide) dX2_close_18 ?_
    refine n_icmp_ge F 60 dX2_close_21 (by decide) (fun e1 => ?_) (fun e1 => ?_)
    · rw [if_pos e1]
      exact n_sub [] rfl (h60 _)
    rw [if_neg e1]
    refine n_aload_n F dX2_close_24 rfl 0 rfl ?_
    refine n_iload_n F dX2_close_25 rfl 1 rfl ?_
    refine n_aload_n F dX2_close_26 rfl 0 rfl ?_
    refine n_get F ck_2 lf_RX2_34 (by decide) fg_26_9 (by decide) dX2_close_27 ?_
    refine n_iconst F (1 : Int32) dX2_close_30 (by decide) ?_
    refine n_isub F dX2_close_31 ?_
    refine n_bind (fun q2 hq2 => ?_)
    refine n_callVi F cb_X2_fewestDays lm_RX2_50 ob_26 (by decide) ⟨_, _, rfl⟩ (ct_Pu_fewestDays (fx_ok F) (fx_sd F) (fx_ix F rfl) w v1 ((w.1 26 9) - (1 : Int32)) hq2) rfl rfl (Nat.le_of_ble_eq_true rfl) ⟨Nat.le_of_ble_eq_true rfl, Nat.le_of_ble_eq_true rfl⟩ dX2_close_32 ?_
    refine n_istore_n F (lv' := [(2, .int (q2.1)), (0, .ref (gA (cg K) 26)), (1, .int v1)]) dX2_close_35 rfl (by decide) rfl ?_
    refine n_iload_n F dX2_close_36 rfl 0 rfl ?_
    refine n_aload_n F dX2_close_37 rfl 1 rfl ?_
    refine n_get F ck_2 lf_RX2_34 (by decide) fg_26_9 (by decide) dX2_close_38 ?_
    refine n_icmp_ge F 54 dX2_close_41 (by decide) (fun e3 => ?_) (fun e3 => ?_)
    · rw [if_pos e3]
      refine n_iinc F (v1 + (1 : Int32)) (lv' := [(1, .int (v1 + (1 : Int32))), (2, .int (q2.1)), (0, .ref (gA (cg K) 26))]) dX2_close_54 2 rfl rfl (by decide) rfl ?_
      refine n_goto F 13 dX2_close_57 (by decide) ?_
      exact n_sub [2, 0] rfl (ih _ _)
    rw [if_neg e3]
    refine n_aload_n F dX2_close_44 rfl 1 rfl ?_
    refine n_iload_n F dX2_close_45 rfl 0 rfl ?_
    refine n_put F ck_2 lf_RX2_34 (by decide) rfl fp_26_9 (by decide) rfl rfl dX2_close_46 ?_
    refine n_aload_n F dX2_close_49 rfl 1 rfl ?_
    refine n_iload_n F dX2_close_50 rfl 2 rfl ?_
    refine n_put F ck_2 lf_RX2_31 (by decide) rfl fp_26_8 (by decide) rfl rfl dX2_close_51 ?_
    refine n_iinc F (v1 + (1 : Int32)) (lv' := [(1, .int (v1 + (1 : Int32))), (2, .int (q2.1)), (0, .ref (gA (cg K) 26))]) dX2_close_54 2 rfl rfl (by decide) rfl ?_
    refine n_goto F 13 dX2_close_57 (by decide) ?_
    exact n_sub [2, 0] rfl (ih _ _)
def Pu_close_B60 (w : Wd) : Option Wd := some w
set_option maxRecDepth 100000 in
set_option maxHeartbeats 4000000 in
theorem Pu_close_B60_ok {K : Ctx} (F : Fx K cX2_close 3 RX2 none 4 95 true [3, 4, 13, 15, 26, 27, 28, 29, 30, 31]) (w : Wd) : N K rtV (Pu_close_B60 w) w 60 [] [] := by
  rw [Pu_close_B60]
  exact n_vret F rfl rfl dX2_close_60
def Pu_close (w : Wd) : Option Wd := (Pu_close_L13 Pu_close_B60 FU (sI (sI w 26 8 (0 : Int32)) 26 9 (13 : Int32)) (0 : Int32))
set_option maxRecDepth 100000 in
set_option maxHeartbeats 4000000 in
theorem ct_Pu_close {l : Launch} {g : GG} {σ : Sd} (hg : OKg g σ) (hb : σ.2.1 = true) (hx : ∀ c ∈ ([3, 4, 13, 15, 26, 27, 28, 29, 30, 31] : List Nat), c ∈ σ.1) (w : Wd) {q : Wd} (hq : Pu_close w = some q) : CT l g σ yX2_close cX2_close 3 none 4 95 [.ref (gA g 26)] w none q := by
  refine ct_of (rt := rtV) (res := Pu_close w) (q := q) (own := RX2) (b := true) hg hb hx (by decide) rfl (Nat.le_of_ble_eq_true rfl) hq (fun K e1 e2 e3 F => ?_)
  subst e1 e2 e3
  rw [Pu_close]
  show N K _ _ w 0 [(0, .ref (gA (cg K) 26))] []
  refine n_aload_n F dX2_close_0 rfl 0 rfl ?_
  refine n_iconst F (0 : Int32) dX2_close_1 (by decide) ?_
  refine n_put F ck_2 lf_RX2_31 (by decide) rfl fp_26_8 (by decide) rfl rfl dX2_close_2 ?_
  refine n_aload_n F dX2_close_5 rfl 0 rfl ?_
  refine n_bipush F (13 : Int32) dX2_close_6 (by decide) ?_
  refine n_put F ck_2 lf_RX2_34 (by decide) rfl fp_26_9 (by decide) rfl rfl dX2_close_8 ?_
  refine n_iconst F (0 : Int32) dX2_close_11 (by decide) ?_
  refine n_istore_n F (lv' := [(1, .int (0 : Int32)), (0, .ref (gA (cg K) 26))]) dX2_close_12 rfl (by decide) rfl ?_
  exact n_sub [1, 0] rfl (Pu_close_L13_ok F (Pu_close_B60_ok F) FU _ _)
theorem dX6_byteAt_0 : decode cX6_byteAt 0 = .ok (.iload_n 1, 1) := by decide +kernel
theorem dX6_byteAt_1 : decode cX6_byteAt 1 = .ok (.ifCond .lt 27, 3) := by decide +kernel
theorem dX6_byteAt_4 : decode cX6_byteAt 4 = .ok (.iload_n 1, 1) := by decide +kernel
theorem dX6_byteAt_5 : decode cX6_byteAt 5 = .ok (.aload_n 0, 1) := by decide +kernel
theorem dX6_byteAt_6 : decode cX6_byteAt 6 = .ok (.getfield 15, 3) := by decide +kernel
theorem dX6_byteAt_9 : decode cX6_byteAt 9 = .ok (.if_icmp .ge 19, 3) := by decide +kernel
theorem dX6_byteAt_12 : decode cX6_byteAt 12 = .ok (.iload_n 1, 1) := by decide +kernel
theorem dX6_byteAt_13 : decode cX6_byteAt 13 = .ok (.sipush 200, 3) := by decide +kernel
theorem dX6_byteAt_16 : decode cX6_byteAt 16 = .ok (.if_icmp .ge 12, 3) := by decide +kernel
theorem dX6_byteAt_19 : decode cX6_byteAt 19 = .ok (.aload_n 0, 1) := by decide +kernel
theorem dX6_byteAt_20 : decode cX6_byteAt 20 = .ok (.getfield 9, 3) := by decide +kernel
theorem dX6_byteAt_23 : decode cX6_byteAt 23 = .ok (.iload_n 1, 1) := by decide +kernel
theorem dX6_byteAt_24 : decode cX6_byteAt 24 = .ok (.caload, 1) := by decide +kernel
theorem dX6_byteAt_25 : decode cX6_byteAt 25 = .ok (.goto 4, 3) := by decide +kernel
theorem dX6_byteAt_28 : decode cX6_byteAt 28 = .ok (.iconst (-1), 1) := by decide +kernel
theorem dX6_byteAt_29 : decode cX6_byteAt 29 = .ok (.ireturn, 1) := by decide +kernel
def Te_byteAt (w : Wd) (a1 : Int32) : Option Int32 := (if a1 < (0 : Int32) then some (-1 : Int32) else (if (w.1 1 1) ≤ a1 then some (-1 : Int32) else (if (200 : Int32) ≤ a1 then some (-1 : Int32) else (if ib a1 200 = true then some (w.1 2 (Int32.toNatClampNeg a1)) else none))))
set_option maxRecDepth 100000 in
set_option maxHeartbeats 4000000 in
theorem ct_Te_byteAt {l : Launch} {g : GG} {σ : Sd} (hg : OKg g σ) (hb : σ.2.1 = true) (hx : ∀ c ∈ ([1, 2] : List Nat), c ∈ σ.1) (w : Wd) (a1 : Int32) {q : Int32} (hq : Te_byteAt w a1 = some q) : CT l g σ yX6_byteAt cX6_byteAt 2 (some .int) 0 0 [.ref (gA g 1), .int a1] w (some (.int q)) w := by
  refine ct_of (rt := (rtP w)) (res := Te_byteAt w a1) (q := q) (own := RX6) (b := true) hg hb hx (by decide) rfl (Nat.le_of_ble_eq_true rfl) hq (fun K e1 e2 e3 F => ?_)
  subst e1 e2 e3
  rw [Te_byteAt]
  show N K _ _ w 0 [(0, .ref (gA (cg K) 1)), (1, .int a1)] []
  refine n_iload_n F dX6_byteAt_0 rfl 1 rfl ?_
  refine n_if_lt F 28 dX6_byteAt_1 (by decide) (fun e1 => ?_) (fun e1 => ?_)
  · rw [if_pos e1]
    refine n_iconst F (-1 : Int32) dX6_byteAt_28 (by decide) ?_
    exact n_iret F rfl rfl dX6_byteAt_29
  rw [if_neg e1]
  refine n_iload_n F dX6_byteAt_4 rfl 1 rfl ?_
  refine n_aload_n F dX6_byteAt_5 rfl 0 rfl ?_
  refine n_get F ck_6 lf_RX6_15 (by decide) fg_1_1 (by decide) dX6_byteAt_6 ?_
  refine n_icmp_ge F 28 dX6_byteAt_9 (by decide) (fun e2 => ?_) (fun e2 => ?_)
  · rw [if_pos e2]
    refine n_iconst F (-1 : Int32) dX6_byteAt_28 (by decide) ?_
    exact n_iret F rfl rfl dX6_byteAt_29
  rw [if_neg e2]
  refine n_iload_n F dX6_byteAt_12 rfl 1 rfl ?_
  refine n_sipush F (200 : Int32) dX6_byteAt_13 (by decide) ?_
  refine n_icmp_ge F 28 dX6_byteAt_16 (by decide) (fun e3 => ?_) (fun e3 => ?_)
  · rw [if_pos e3]
    refine n_iconst F (-1 : Int32) dX6_byteAt_28 (by decide) ?_
    exact n_iret F rfl rfl dX6_byteAt_29
  rw [if_neg e3]
  refine n_aload_n F dX6_byteAt_19 rfl 0 rfl ?_
  refine n_get F ck_6 lf_RX6_9 (by decide) fg_1_0 (by decide) dX6_byteAt_20 ?_
  refine n_iload_n F dX6_byteAt_23 rfl 1 rfl ?_
  refine n_chk (fun e4 => ?_)
  refine n_cald F ar_2 (by decide) (ib_in e4) rfl dX6_byteAt_24 ?_
  refine n_goto F 29 dX6_byteAt_25 (by decide) ?_
  exact n_iret F rfl rfl dX6_byteAt_29
theorem dX3_sortAt_0 : decode cX3_sortAt 0 = .ok (.aload_n 0, 1) := by decide +kernel
theorem dX3_sortAt_1 : decode cX3_sortAt 1 = .ok (.getfield 35, 3) := by decide +kernel
theorem dX3_sortAt_4 : decode cX3_sortAt 4 = .ok (.iload_n 1, 1) := by decide +kernel
theorem dX3_sortAt_5 : decode cX3_sortAt 5 = .ok (.invokevirtual 50, 3) := by decide +kernel
theorem dX3_sortAt_8 : decode cX3_sortAt 8 = .ok (.istore_n 2, 1) := by decide +kernel
theorem dX3_sortAt_9 : decode cX3_sortAt 9 = .ok (.iload_n 2, 1) := by decide +kernel
theorem dX3_sortAt_10 : decode cX3_sortAt 10 = .ok (.iconst (-1), 1) := by decide +kernel
theorem dX3_sortAt_11 : decode cX3_sortAt 11 = .ok (.if_icmp .ne 5, 3) := by decide +kernel
theorem dX3_sortAt_14 : decode cX3_sortAt 14 = .ok (.iconst 0, 1) := by decide +kernel
theorem dX3_sortAt_15 : decode cX3_sortAt 15 = .ok (.ireturn, 1) := by decide +kernel
theorem dX3_sortAt_16 : decode cX3_sortAt 16 = .ok (.iload_n 2, 1) := by decide +kernel
theorem dX3_sortAt_17 : decode cX3_sortAt 17 = .ok (.bipush 97, 2) := by decide +kernel
theorem dX3_sortAt_19 : decode cX3_sortAt 19 = .ok (.bipush 122, 2) := by decide +kernel
theorem dX3_sortAt_21 : decode cX3_sortAt 21 = .ok (.invokestatic 83, 3) := by decide +kernel
theorem dX3_sortAt_24 : decode cX3_sortAt 24 = .ok (.ifCond .eq 5, 3) := by decide +kernel
theorem dX3_sortAt_27 : decode cX3_sortAt 27 = .ok (.iconst 1, 1) := by decide +kernel
theorem dX3_sortAt_28 : decode cX3_sortAt 28 = .ok (.ireturn, 1) := by decide +kernel
theorem dX3_sortAt_29 : decode cX3_sortAt 29 = .ok (.iload_n 2, 1) := by decide +kernel
theorem dX3_sortAt_30 : decode cX3_sortAt 30 = .ok (.bipush 48, 2) := by decide +kernel
theorem dX3_sortAt_32 : decode cX3_sortAt 32 = .ok (.bipush 57, 2) := by decide +kernel
theorem dX3_sortAt_34 : decode cX3_sortAt 34 = .ok (.invokestatic 83, 3) := by decide +kernel
theorem dX3_sortAt_37 : decode cX3_sortAt 37 = .ok (.ifCond .eq 7, 3) := by decide +kernel
theorem dX3_sortAt_40 : decode cX3_sortAt 40 = .ok (.iconst 2, 1) := by decide +kernel
theorem dX3_sortAt_41 : decode cX3_sortAt 41 = .ok (.goto 4, 3) := by decide +kernel
theorem dX3_sortAt_44 : decode cX3_sortAt 44 = .ok (.iconst 3, 1) := by decide +kernel
theorem dX3_sortAt_45 : decode cX3_sortAt 45 = .ok (.ireturn, 1) := by decide +kernel
def Re_sortAt (w : Wd) (a1 : Int32) : Option Int32 := (Option.bind (Te_byteAt w a1) (fun q1 => (if q1 = (-1 : Int32) then some (0 : Int32) else (if (Nt_within w q1 (97 : Int32) (122 : Int32)) = (0 : Int32) then (if (Nt_within w q1 (48 : Int32) (57 : Int32)) = (0 : Int32) then some (3 : Int32) else some (2 : Int32)) else some (1 : Int32)))))
set_option maxRecDepth 100000 in
set_option maxHeartbeats 4000000 in
theorem ct_Re_sortAt {l : Launch} {g : GG} {σ : Sd} (hg : OKg g σ) (hb : σ.2.1 = true) (hx : ∀ c ∈ ([1, 2, 7] : List Nat), c ∈ σ.1) (w : Wd) (a1 : Int32) {q : Int32} (hq : Re_sortAt w a1 = some q) : CT l g σ yX3_sortAt cX3_sortAt 3 (some .int) 1 22 [.ref (gA g 7), .int a1] w (some (.int q)) w := by
  refine ct_of (rt := (rtP w)) (res := Re_sortAt w a1) (q := q) (own := RX3) (b := true) hg hb hx (by decide) rfl (Nat.le_of_ble_eq_true rfl) hq (fun K e1 e2 e3 F => ?_)
  subst e1 e2 e3
  rw [Re_sortAt]
  show N K _ _ w 0 [(0, .ref (gA (cg K) 7)), (1, .int a1)] []
  refine n_aload_n F dX3_sortAt_0 rfl 0 rfl ?_
  refine n_get F ck_3 lf_RX3_35 (by decide) fg_7_0 (by decide) dX3_sortAt_1 ?_
  refine n_iload_n F dX3_sortAt_4 rfl 1 rfl ?_
  refine n_bind (fun q1 hq1 => ?_)
  refine n_callVi F cb_X6_byteAt lm_RX3_50 ob_1 (by decide) ⟨_, _, rfl⟩ (ct_Te_byteAt (fx_ok F) (fx_sd F) (fx_ix F rfl) w a1 hq1) rfl rfl (Nat.le_of_ble_eq_true rfl) ⟨Nat.le_of_ble_eq_true rfl, Nat.le_of_ble_eq_true rfl⟩ dX3_sortAt_5 ?_
  refine n_istore_n F (lv' := [(2, .int q1), (0, .ref (gA (cg K) 7)), (1, .int a1)]) dX3_sortAt_8 rfl (by decide) rfl ?_
  refine n_iload_n F dX3_sortAt_9 rfl 0 rfl ?_
  refine n_iconst F (-1 : Int32) dX3_sortAt_10 (by decide) ?_
  refine n_icmp_ne F 16 dX3_sortAt_11 (by decide) (fun e2 => ?_) (fun e2 => ?_)
  · rw [if_neg e2]
    refine n_iload_n F dX3_sortAt_16 rfl 0 rfl ?_
    refine n_bipush F (97 : Int32) dX3_sortAt_17 (by decide) ?_
    refine n_bipush F (122 : Int32) dX3_sortAt_19 (by decide) ?_
    refine n_callSNi F cb_X7_within lm_RX3_83 (ct_Nt_within (fx_ok F) (fx_sd F) (fx_ix F rfl) w q1 (97 : Int32) (122 : Int32)) rfl rfl (Nat.le_of_ble_eq_true rfl) ⟨Nat.le_of_ble_eq_true rfl, Nat.le_of_ble_eq_true rfl⟩ dX3_sortAt_21 ?_
    refine n_if_eq F 29 dX3_sortAt_24 (by decide) (fun e3 => ?_) (fun e3 => ?_)
    · rw [if_pos e3]
      refine n_iload_n F dX3_sortAt_29 rfl 0 rfl ?_
      refine n_bipush F (48 : Int32) dX3_sortAt_30 (by decide) ?_
      refine n_bipush F (57 : Int32) dX3_sortAt_32 (by decide) ?_
      refine n_callSNi F cb_X7_within lm_RX3_83 (ct_Nt_within (fx_ok F) (fx_sd F) (fx_ix F rfl) w q1 (48 : Int32) (57 : Int32)) rfl rfl (Nat.le_of_ble_eq_true rfl) ⟨Nat.le_of_ble_eq_true rfl, Nat.le_of_ble_eq_true rfl⟩ dX3_sortAt_34 ?_
      refine n_if_eq F 44 dX3_sortAt_37 (by decide) (fun e4 => ?_) (fun e4 => ?_)
      · rw [if_pos e4]
        refine n_iconst F (3 : Int32) dX3_sortAt_44 (by decide) ?_
        exact n_iret F rfl rfl dX3_sortAt_45
      rw [if_neg e4]
      refine n_iconst F (2 : Int32) dX3_sortAt_40 (by decide) ?_
      refine n_goto F 45 dX3_sortAt_41 (by decide) ?_
      exact n_iret F rfl rfl dX3_sortAt_45
    rw [if_neg e3]
    refine n_iconst F (1 : Int32) dX3_sortAt_27 (by decide) ?_
    exact n_iret F rfl rfl dX3_sortAt_28
  rw [if_pos e2]
  refine n_iconst F (0 : Int32) dX3_sortAt_14 (by decide) ?_
  exact n_iret F rfl rfl dX3_sortAt_15
theorem dX3_step_0 : decode cX3_step 0 = .ok (.aload_n 0, 1) := by decide +kernel
theorem dX3_step_1 : decode cX3_step 1 = .ok (.getfield 32, 3) := by decide +kernel
theorem dX3_step_4 : decode cX3_step 4 = .ok (.istore_n 1, 1) := by decide +kernel
theorem dX3_step_5 : decode cX3_step 5 = .ok (.iload_n 1, 1) := by decide +kernel
theorem dX3_step_6 : decode cX3_step 6 = .ok (.aload_n 0, 1) := by decide +kernel
theorem dX3_step_7 : decode cX3_step 7 = .ok (.getfield 35, 3) := by decide +kernel
theorem dX3_step_10 : decode cX3_step 10 = .ok (.getfield 77, 3) := by decide +kernel
theorem dX3_step_13 : decode cX3_step 13 = .ok (.if_icmp .ge 22, 3) := by decide +kernel
theorem dX3_step_16 : decode cX3_step 16 = .ok (.aload_n 0, 1) := by decide +kernel
theorem dX3_step_17 : decode cX3_step 17 = .ok (.getfield 35, 3) := by decide +kernel
theorem dX3_step_20 : decode cX3_step 20 = .ok (.iload_n 1, 1) := by decide +kernel
theorem dX3_step_21 : decode cX3_step 21 = .ok (.invokevirtual 50, 3) := by decide +kernel
theorem dX3_step_24 : decode cX3_step 24 = .ok (.bipush 32, 2) := by decide +kernel
theorem dX3_step_26 : decode cX3_step 26 = .ok (.if_icmp .ne 9, 3) := by decide +kernel
theorem dX3_step_29 : decode cX3_step 29 = .ok (.iinc 1 1, 3) := by decide +kernel
theorem dX3_step_32 : decode cX3_step 32 = .ok (.goto (-27), 3) := by decide +kernel
theorem dX3_step_35 : decode cX3_step 35 = .ok (.aload_n 0, 1) := by decide +kernel
theorem dX3_step_36 : decode cX3_step 36 = .ok (.iload_n 1, 1) := by decide +kernel
theorem dX3_step_37 : decode cX3_step 37 = .ok (.putfield 29, 3) := by decide +kernel
theorem dX3_step_40 : decode cX3_step 40 = .ok (.aload_n 0, 1) := by decide +kernel
theorem dX3_step_41 : decode cX3_step 41 = .ok (.aload_n 0, 1) := by decide +kernel
theorem dX3_step_42 : decode cX3_step 42 = .ok (.iload_n 1, 1) := by decide +kernel
theorem dX3_step_43 : decode cX3_step 43 = .ok (.invokevirtual 80, 3) := by decide +kernel
theorem dX3_step_46 : decode cX3_step 46 = .ok (.putfield 26, 3) := by decide +kernel
theorem dX3_step_49 : decode cX3_step 49 = .ok (.aload_n 0, 1) := by decide +kernel
theorem dX3_step_50 : decode cX3_step 50 = .ok (.getfield 26, 3) := by decide +kernel
theorem dX3_step_53 : decode cX3_step 53 = .ok (.ifCond .eq 6, 3) := by decide +kernel
theorem dX3_step_56 : decode cX3_step 56 = .ok (.iinc 1 1, 3) := by decide +kernel
theorem dX3_step_59 : decode cX3_step 59 = .ok (.aload_n 0, 1) := by decide +kernel
theorem dX3_step_60 : decode cX3_step 60 = .ok (.getfield 26, 3) := by decide +kernel
theorem dX3_step_63 : decode cX3_step 63 = .ok (.iconst 3, 1) := by decide +kernel
theorem dX3_step_64 : decode cX3_step 64 = .ok (.if_icmp .eq 32, 3) := by decide +kernel
theorem dX3_step_67 : decode cX3_step 67 = .ok (.iload_n 1, 1) := by decide +kernel
theorem dX3_step_68 : decode cX3_step 68 = .ok (.aload_n 0, 1) := by decide +kernel
theorem dX3_step_69 : decode cX3_step 69 = .ok (.getfield 35, 3) := by decide +kernel
theorem dX3_step_72 : decode cX3_step 72 = .ok (.getfield 77, 3) := by decide +kernel
theorem dX3_step_75 : decode cX3_step 75 = .ok (.if_icmp .ge 21, 3) := by decide +kernel
theorem dX3_step_78 : decode cX3_step 78 = .ok (.aload_n 0, 1) := by decide +kernel
theorem dX3_step_79 : decode cX3_step 79 = .ok (.iload_n 1, 1) := by decide +kernel
theorem dX3_step_80 : decode cX3_step 80 = .ok (.invokevirtual 80, 3) := by decide +kernel
theorem dX3_step_83 : decode cX3_step 83 = .ok (.aload_n 0, 1) := by decide +kernel
theorem dX3_step_84 : decode cX3_step 84 = .ok (.getfield 26, 3) := by decide +kernel
theorem dX3_step_87 : decode cX3_step 87 = .ok (.if_icmp .ne 9, 3) := by decide +kernel
theorem dX3_step_90 : decode cX3_step 90 = .ok (.iinc 1 1, 3) := by decide +kernel
theorem dX3_step_93 : decode cX3_step 93 = .ok (.goto (-34), 3) := by decide +kernel
theorem dX3_step_96 : decode cX3_step 96 = .ok (.aload_n 0, 1) := by decide +kernel
theorem dX3_step_97 : decode cX3_step 97 = .ok (.iload_n 1, 1) := by decide +kernel
theorem dX3_step_98 : decode cX3_step 98 = .ok (.putfield 32, 3) := by decide +kernel
theorem dX3_step_101 : decode cX3_step 101 = .ok (.return_, 1) := by decide +kernel
def Re_step_L5 (k35 : Wd → Int32 → Option Wd) : Nat → Wd → Int32 → Option Wd
  | 0, _, _ => none
  | n + 1, w, v1 => (if (w.1 1 1) ≤ v1 then (k35 w v1) else (Option.bind (Te_byteAt w v1) (fun q2 => (if q2 = (32 : Int32) then (Re_step_L5 k35 n w (v1 + (1 : Int32))) else (k35 w v1)))))
set_option maxRecDepth 100000 in
set_option maxHeartbeats 4000000 in
theorem Re_step_L5_ok {K : Ctx} (F : Fx K cX3_step 2 RX3 none 2 44 true [1, 2, 7]) {k35 : Wd → Int32 → Option Wd} (h35 : ∀ (w : Wd) (v1 : Int32), N K rtV (k35 w v1) w 35 [(0, .ref (gA (cg K) 7)), (1, .int v1)] []) : ∀ (n : Nat) (w : Wd) (v1 : Int32), N K rtV (Re_step_L5 k35 n w v1) w 5 [(0, .ref (gA (cg K) 7)), (1, .int v1)] [] := by
  intro n
  induction n with
  | zero => intro _ _; exact n_none
  | succ n ih =>
    intro w v1
    rw [Re_step_L5]
    refine n_iload_n F dX3_step_5 rfl 1 rfl ?_
    refine n_aload_n F dX3_step_6 rfl 0 rfl ?_
    refine n_get F ck_3 lf_RX3_35 (by decide) fg_7_0 (by decide) dX3_step_7 ?_
    refine n_get F ck_6 lf_RX3_77 (by decide) fg_1_1 (by decide) dX3_step_10 ?_
    refine n_icmp_ge F 35 dX3_step_13 (by decide) (fun e1 => ?_) (fun e1 => ?_)
    · rw [if_pos e1]
      exact n_sub [0, 1] rfl (h35 _ _)
    rw [if_neg e1]
    refine n_aload_n F dX3_step_16 rfl 0 rfl ?_
    refine n_get F ck_3 lf_RX3_35 (by decide) fg_7_0 (by decide) dX3_step_17 ?_
    refine n_iload_n F dX3_step_20 rfl 1 rfl ?_
    refine n_bind (fun q2 hq2 => ?_)
    refine n_callVi F cb_X6_byteAt lm_RX3_50 ob_1 (by decide) ⟨_, _, rfl⟩ (ct_Te_byteAt (fx_ok F) (fx_sd F) (fx_ix F rfl) w v1 hq2) rfl rfl (Nat.le_of_ble_eq_true rfl) ⟨Nat.le_of_ble_eq_true rfl, Nat.le_of_ble_eq_true rfl⟩ dX3_step_21 ?_
    refine n_bipush F (32 : Int32) dX3_step_24 (by decide) ?_
    refine n_icmp_ne F 35 dX3_step_26 (by decide) (fun e3 => ?_) (fun e3 => ?_)
    · rw [if_neg e3]
      exact n_sub [0, 1] rfl (h35 _ _)
    rw [if_pos e3]
    refine n_iinc F (v1 + (1 : Int32)) (lv' := [(1, .int (v1 + (1 : Int32))), (0, .ref (gA (cg K) 7))]) dX3_step_29 1 rfl rfl (by decide) rfl ?_
    refine n_goto F 5 dX3_step_32 (by decide) ?_
    exact n_sub [1, 0] rfl (ih _ _)
def Re_step_L59 (k96 : Wd → Int32 → Option Wd) : Nat → Wd → Int32 → Option Wd
  | 0, _, _ => none
  | n + 1, w, v1 => (if (w.1 7 4) = (3 : Int32) then (k96 w v1) else (if (w.1 1 1) ≤ v1 then (k96 w v1) else (Option.bind (Re_sortAt w v1) (fun q8 => (if q8 = (w.1 7 4) then (Re_step_L59 k96 n w (v1 + (1 : Int32))) else (k96 w v1))))))
set_option maxRecDepth 100000 in
set_option maxHeartbeats 4000000 in
theorem Re_step_L59_ok {K : Ctx} (F : Fx K cX3_step 2 RX3 none 2 44 true [1, 2, 7]) {k96 : Wd → Int32 → Option Wd} (h96 : ∀ (w : Wd) (v1 : Int32), N K rtV (k96 w v1) w 96 [(0, .ref (gA (cg K) 7)), (1, .int v1)] []) : ∀ (n : Nat) (w : Wd) (v1 : Int32), N K rtV (Re_step_L59 k96 n w v1) w 59 [(0, .ref (gA (cg K) 7)), (1, .int v1)] [] := by
  intro n
  induction n with
  | zero => intro _ _; exact n_none
  | succ n ih =>
    intro w v1
    rw [Re_step_L59]
    refine n_aload_n F dX3_step_59 rfl 0 rfl ?_
    refine n_get F ck_3 lf_RX3_26 (by decide) fg_7_4 (by decide) dX3_step_60 ?_
    refine n_iconst F (3 : Int32) dX3_step_63 (by decide) ?_
    refine n_icmp_eq F 96 dX3_step_64 (by decide) (fun e6 => ?_) (fun e6 => ?_)
    · rw [if_pos e6]
      exact n_sub [0, 1] rfl (h96 _ _)
    rw [if_neg e6]
    refine n_iload_n F dX3_step_67 rfl 1 rfl ?_
    refine n_aload_n F dX3_step_68 rfl 0 rfl ?_
    refine n_get F ck_3 lf_RX3_35 (by decide) fg_7_0 (by decide) dX3_step_69 ?_
    refine n_get F ck_6 lf_RX3_77 (by decide) fg_1_1 (by decide) dX3_step_72 ?_
    refine n_icmp_ge F 96 dX3_step_75 (by decide) (fun e7 => ?_) (fun e7 => ?_)
    · rw [if_pos e7]
      exact n_sub [0, 1] rfl (h96 _ _)
    rw [if_neg e7]
    refine n_aload_n F dX3_step_78 rfl 0 rfl ?_
    refine n_iload_n F dX3_step_79 rfl 1 rfl ?_
    refine n_bind (fun q8 hq8 => ?_)
    refine n_callVi F cb_X3_sortAt lm_RX3_80 ob_7 (by decide) ⟨_, _, rfl⟩ (ct_Re_sortAt (fx_ok F) (fx_sd F) (fx_ix F rfl) w v1 hq8) rfl rfl (Nat.le_of_ble_eq_true rfl) ⟨Nat.le_of_ble_eq_true rfl, Nat.le_of_ble_eq_true rfl⟩ dX3_step_80 ?_
    refine n_aload_n F dX3_step_83 rfl 0 rfl ?_
    refine n_get F ck_3 lf_RX3_26 (by decide) fg_7_4 (by decide) dX3_step_84 ?_
    refine n_icmp_ne F 96 dX3_step_87 (by decide) (fun e9 => ?_) (fun e9 => ?_)
    · rw [if_neg e9]
      exact n_sub [0, 1] rfl (h96 _ _)
    rw [if_pos e9]
    refine n_iinc F (v1 + (1 : Int32)) (lv' := [(1, .int (v1 + (1 : Int32))), (0, .ref (gA (cg K) 7))]) dX3_step_90 1 rfl rfl (by decide) rfl ?_
    refine n_goto F 59 dX3_step_93 (by decide) ?_
    exact n_sub [1, 0] rfl (ih _ _)
def Re_step_B96 (w : Wd) (v1 : Int32) : Option Wd := some (sI w 7 6 v1)
set_option maxRecDepth 100000 in
set_option maxHeartbeats 4000000 in
theorem Re_step_B96_ok {K : Ctx} (F : Fx K cX3_step 2 RX3 none 2 44 true [1, 2, 7]) (w : Wd) (v1 : Int32) : N K rtV (Re_step_B96 w v1) w 96 [(0, .ref (gA (cg K) 7)), (1, .int v1)] [] := by
  rw [Re_step_B96]
  refine n_aload_n F dX3_step_96 rfl 0 rfl ?_
  refine n_iload_n F dX3_step_97 rfl 1 rfl ?_
  refine n_put F ck_3 lf_RX3_32 (by decide) rfl fp_7_6 (by decide) rfl rfl dX3_step_98 ?_
  exact n_vret F rfl rfl dX3_step_101
def Re_step_B35 (w : Wd) (v1 : Int32) : Option Wd := (Option.bind (Re_sortAt (sI w 7 5 v1) v1) (fun q4 => (Re_step_L59 Re_step_B96 FU (sI (sI w 7 5 v1) 7 4 q4) (if ((sI (sI w 7 5 v1) 7 4 q4).1 7 4) = (0 : Int32) then v1 else (v1 + (1 : Int32))))))
set_option maxRecDepth 100000 in
set_option maxHeartbeats 4000000 in
theorem Re_step_B35_ok {K : Ctx} (F : Fx K cX3_step 2 RX3 none 2 44 true [1, 2, 7]) (w : Wd) (v1 : Int32) : N K rtV (Re_step_B35 w v1) w 35 [(0, .ref (gA (cg K) 7)), (1, .int v1)] [] := by
  rw [Re_step_B35]
  refine n_aload_n F dX3_step_35 rfl 0 rfl ?_
  refine n_iload_n F dX3_step_36 rfl 1 rfl ?_
  refine n_put F ck_3 lf_RX3_29 (by decide) rfl fp_7_5 (by decide) rfl rfl dX3_step_37 ?_
  refine n_aload_n F dX3_step_40 rfl 0 rfl ?_
  refine n_aload_n F dX3_step_41 rfl 0 rfl ?_
  refine n_iload_n F dX3_step_42 rfl 1 rfl ?_
  refine n_bind (fun q4 hq4 => ?_)
  refine n_callVi F cb_X3_sortAt lm_RX3_80 ob_7 (by decide) ⟨_, _, rfl⟩ (ct_Re_sortAt (fx_ok F) (fx_sd F) (fx_ix F rfl) (sI w 7 5 v1) v1 hq4) rfl rfl (Nat.le_of_ble_eq_true rfl) ⟨Nat.le_of_ble_eq_true rfl, Nat.le_of_ble_eq_true rfl⟩ dX3_step_43 ?_
  refine n_put F ck_3 lf_RX3_26 (by decide) rfl fp_7_4 (by decide) rfl rfl dX3_step_46 ?_
  refine n_aload_n F dX3_step_49 rfl 0 rfl ?_
  refine n_get F ck_3 lf_RX3_26 (by decide) fg_7_4 (by decide) dX3_step_50 ?_
  refine n_if_eq F 59 dX3_step_53 (by decide) (fun e5 => ?_) (fun e5 => ?_)
  · rw [if_pos e5]
    exact n_sub [0, 1] rfl (Re_step_L59_ok F (Re_step_B96_ok F) FU _ _)
  rw [if_neg e5]
  refine n_iinc F (v1 + (1 : Int32)) (lv' := [(1, .int (v1 + (1 : Int32))), (0, .ref (gA (cg K) 7))]) dX3_step_56 1 rfl rfl (by decide) rfl ?_
  exact n_sub [1, 0] rfl (Re_step_L59_ok F (Re_step_B96_ok F) FU _ _)
def Re_step (w : Wd) : Option Wd := (Re_step_L5 Re_step_B35 FU w (w.1 7 6))
set_option maxRecDepth 100000 in
set_option maxHeartbeats 4000000 in
theorem ct_Re_step {l : Launch} {g : GG} {σ : Sd} (hg : OKg g σ) (hb : σ.2.1 = true) (hx : ∀ c ∈ ([1, 2, 7] : List Nat), c ∈ σ.1) (w : Wd) {q : Wd} (hq : Re_step w = some q) : CT l g σ yX3_step cX3_step 2 none 2 44 [.ref (gA g 7)] w none q := by
  refine ct_of (rt := rtV) (res := Re_step w) (q := q) (own := RX3) (b := true) hg hb hx (by decide) rfl (Nat.le_of_ble_eq_true rfl) hq (fun K e1 e2 e3 F => ?_)
  subst e1 e2 e3
  rw [Re_step]
  show N K _ _ w 0 [(0, .ref (gA (cg K) 7))] []
  refine n_aload_n F dX3_step_0 rfl 0 rfl ?_
  refine n_get F ck_3 lf_RX3_32 (by decide) fg_7_6 (by decide) dX3_step_1 ?_
  refine n_istore_n F (lv' := [(1, .int (w.1 7 6)), (0, .ref (gA (cg K) 7))]) dX3_step_4 rfl (by decide) rfl ?_
  exact n_sub [1, 0] rfl (Re_step_L5_ok F (Re_step_B35_ok F) FU _ _)
theorem dX3_spells_0 : decode cX3_spells 0 = .ok (.aload_n 0, 1) := by decide +kernel
theorem dX3_spells_1 : decode cX3_spells 1 = .ok (.getfield 32, 3) := by decide +kernel
theorem dX3_spells_4 : decode cX3_spells 4 = .ok (.aload_n 0, 1) := by decide +kernel
theorem dX3_spells_5 : decode cX3_spells 5 = .ok (.getfield 29, 3) := by decide +kernel
theorem dX3_spells_8 : decode cX3_spells 8 = .ok (.isub, 1) := by decide +kernel
theorem dX3_spells_9 : decode cX3_spells 9 = .ok (.aload_n 1, 1) := by decide +kernel
theorem dX3_spells_10 : decode cX3_spells 10 = .ok (.invokevirtual 102, 3) := by decide +kernel
theorem dX3_spells_13 : decode cX3_spells 13 = .ok (.if_icmp .eq 5, 3) := by decide +kernel
theorem dX3_spells_16 : decode cX3_spells 16 = .ok (.iconst 0, 1) := by decide +kernel
theorem dX3_spells_17 : decode cX3_spells 17 = .ok (.ireturn, 1) := by decide +kernel
theorem dX3_spells_18 : decode cX3_spells 18 = .ok (.iconst 0, 1) := by decide +kernel
theorem dX3_spells_19 : decode cX3_spells 19 = .ok (.istore_n 2, 1) := by decide +kernel
theorem dX3_spells_20 : decode cX3_spells 20 = .ok (.iload_n 2, 1) := by decide +kernel
theorem dX3_spells_21 : decode cX3_spells 21 = .ok (.aload_n 1, 1) := by decide +kernel
theorem dX3_spells_22 : decode cX3_spells 22 = .ok (.invokevirtual 102, 3) := by decide +kernel
theorem dX3_spells_25 : decode cX3_spells 25 = .ok (.if_icmp .ge 32, 3) := by decide +kernel
theorem dX3_spells_28 : decode cX3_spells 28 = .ok (.aload_n 0, 1) := by decide +kernel
theorem dX3_spells_29 : decode cX3_spells 29 = .ok (.getfield 35, 3) := by decide +kernel
theorem dX3_spells_32 : decode cX3_spells 32 = .ok (.aload_n 0, 1) := by decide +kernel
theorem dX3_spells_33 : decode cX3_spells 33 = .ok (.getfield 29, 3) := by decide +kernel
theorem dX3_spells_36 : decode cX3_spells 36 = .ok (.iload_n 2, 1) := by decide +kernel
theorem dX3_spells_37 : decode cX3_spells 37 = .ok (.iadd, 1) := by decide +kernel
theorem dX3_spells_38 : decode cX3_spells 38 = .ok (.invokevirtual 50, 3) := by decide +kernel
theorem dX3_spells_41 : decode cX3_spells 41 = .ok (.aload_n 1, 1) := by decide +kernel
theorem dX3_spells_42 : decode cX3_spells 42 = .ok (.iload_n 2, 1) := by decide +kernel
theorem dX3_spells_43 : decode cX3_spells 43 = .ok (.invokevirtual 106, 3) := by decide +kernel
theorem dX3_spells_46 : decode cX3_spells 46 = .ok (.if_icmp .eq 5, 3) := by decide +kernel
theorem dX3_spells_49 : decode cX3_spells 49 = .ok (.iconst 0, 1) := by decide +kernel
theorem dX3_spells_50 : decode cX3_spells 50 = .ok (.ireturn, 1) := by decide +kernel
theorem dX3_spells_51 : decode cX3_spells 51 = .ok (.iinc 2 1, 3) := by decide +kernel
theorem dX3_spells_54 : decode cX3_spells 54 = .ok (.goto (-34), 3) := by decide +kernel
theorem dX3_spells_57 : decode cX3_spells 57 = .ok (.iconst 1, 1) := by decide +kernel
theorem dX3_spells_58 : decode cX3_spells 58 = .ok (.ireturn, 1) := by decide +kernel
def Re_spells_L20 (i : Nat) (w : Wd) (k49 : Option Int32) (k57 : Option Int32) : Nat → Int32 → Option Int32
  | 0, _ => none
  | n + 1, v2 => (if (nI (sLen.getD i 0)) ≤ v2 then (k57) else (Option.bind (Te_byteAt w ((w.1 7 5) + v2)) (fun q3 => (if ib v2 (sLen.getD i 0) = true then (if q3 = (sCh i v2) then (Re_spells_L20 i w k49 k57 n (v2 + (1 : Int32))) else (k49)) else none))))
set_option maxRecDepth 100000 in
set_option maxHeartbeats 4000000 in
theorem Re_spells_L20_ok {K : Ctx} {i : Nat} (F : Fx K cX3_spells 3 RX3 (some .boolean) 4 85 true [1, 2, 7]) (hi : i < 6) (w : Wd) {k49 : Option Int32} (h49 : N K (rtP w) (k49) w 49 [] []) {k57 : Option Int32} (h57 : N K (rtP w) (k57) w 57 [] []) : ∀ (n : Nat) (v2 : Int32), N K (rtP w) (Re_spells_L20 i w k49 k57 n v2) w 20 [(0, .ref (gA (cg K) 7)), (1, .ref (gK (cg K) i)), (2, .int v2)] [] := by
  intro n
  induction n with
  | zero => intro _; exact n_none
  | succ n ih =>
    intro v2
    rw [Re_spells_L20]
    refine n_iload_n F dX3_spells_20 rfl 2 rfl ?_
    refine n_aload_n F dX3_spells_21 rfl 1 rfl ?_
    refine n_slen F hi ⟨Nat.le_of_ble_eq_true rfl, Nat.le_of_ble_eq_true rfl⟩ (Nat.le_of_ble_eq_true rfl) dX3_spells_22 ?_
    refine n_icmp_ge F 57 dX3_spells_25 (by decide) (fun e2 => ?_) (fun e2 => ?_)
    · rw [if_pos e2]
      exact n_sub [] rfl (h57)
    rw [if_neg e2]
    refine n_aload_n F dX3_spells_28 rfl 0 rfl ?_
    refine n_get F ck_3 lf_RX3_35 (by decide) fg_7_0 (by decide) dX3_spells_29 ?_
    refine n_aload_n F dX3_spells_32 rfl 0 rfl ?_
    refine n_get F ck_3 lf_RX3_29 (by decide) fg_7_5 (by decide) dX3_spells_33 ?_
    refine n_iload_n F dX3_spells_36 rfl 2 rfl ?_
    refine n_iadd F dX3_spells_37 ?_
    refine n_bind (fun q3 hq3 => ?_)
    refine n_callVi F cb_X6_byteAt lm_RX3_50 ob_1 (by decide) ⟨_, _, rfl⟩ (ct_Te_byteAt (fx_ok F) (fx_sd F) (fx_ix F rfl) w ((w.1 7 5) + v2) hq3) rfl rfl (Nat.le_of_ble_eq_true rfl) ⟨Nat.le_of_ble_eq_true rfl, Nat.le_of_ble_eq_true rfl⟩ dX3_spells_38 ?_
    refine n_aload_n F dX3_spells_41 rfl 1 rfl ?_
    refine n_iload_n F dX3_spells_42 rfl 2 rfl ?_
    refine n_chk (fun e4 => ?_)
    refine n_sch F hi e4 ⟨Nat.le_of_ble_eq_true rfl, Nat.le_of_ble_eq_true rfl⟩ (Nat.le_of_ble_eq_true rfl) dX3_spells_43 ?_
    refine n_icmp_eq F 51 dX3_spells_46 (by decide) (fun e5 => ?_) (fun e5 => ?_)
    · rw [if_pos e5]
      refine n_iinc F (v2 + (1 : Int32)) (lv' := [(2, .int (v2 + (1 : Int32))), (0, .ref (gA (cg K) 7)), (1, .ref (gK (cg K) i))]) dX3_spells_51 2 rfl rfl (by decide) rfl ?_
      refine n_goto F 20 dX3_spells_54 (by decide) ?_
      exact n_sub [1, 2, 0] rfl (ih _)
    rw [if_neg e5]
    exact n_sub [] rfl (h49)
def Re_spells_B49 (i : Nat) (w : Wd) : Option Int32 := some (0 : Int32)
set_option maxRecDepth 100000 in
set_option maxHeartbeats 4000000 in
theorem Re_spells_B49_ok {K : Ctx} {i : Nat} (F : Fx K cX3_spells 3 RX3 (some .boolean) 4 85 true [1, 2, 7]) (hi : i < 6) (w : Wd) : N K (rtP w) (Re_spells_B49 i w) w 49 [] [] := by
  rw [Re_spells_B49]
  refine n_iconst F (0 : Int32) dX3_spells_49 (by decide) ?_
  exact n_zret F .boolean rfl rfl rfl dX3_spells_50
def Re_spells_B57 (i : Nat) (w : Wd) : Option Int32 := some (1 : Int32)
set_option maxRecDepth 100000 in
set_option maxHeartbeats 4000000 in
theorem Re_spells_B57_ok {K : Ctx} {i : Nat} (F : Fx K cX3_spells 3 RX3 (some .boolean) 4 85 true [1, 2, 7]) (hi : i < 6) (w : Wd) : N K (rtP w) (Re_spells_B57 i w) w 57 [] [] := by
  rw [Re_spells_B57]
  refine n_iconst F (1 : Int32) dX3_spells_57 (by decide) ?_
  exact n_zret F .boolean rfl rfl rfl dX3_spells_58
def Re_spells (i : Nat) (w : Wd) : Option Int32 := (if ((w.1 7 6) - (w.1 7 5)) = (nI (sLen.getD i 0)) then (Re_spells_L20 i w (Re_spells_B49 i w) (Re_spells_B57 i w) FU (0 : Int32)) else some (0 : Int32))
set_option maxRecDepth 100000 in
set_option maxHeartbeats 4000000 in
theorem ct_Re_spells {l : Launch} {g : GG} {σ : Sd} {i : Nat} (hg : OKg g σ) (hb : σ.2.1 = true) (hx : ∀ c ∈ ([1, 2, 7] : List Nat), c ∈ σ.1) (hi : i < 6) (w : Wd) {q : Int32} (hq : Re_spells i w = some q) : CT l g σ yX3_spells cX3_spells 3 (some .boolean) 4 85 [.ref (gA g 7), .ref (gK g i)] w (some (.int q)) w := by
  refine ct_of (rt := (rtP w)) (res := Re_spells i w) (q := q) (own := RX3) (b := true) hg hb hx (by decide) rfl (Nat.le_of_ble_eq_true rfl) hq (fun K e1 e2 e3 F => ?_)
  subst e1 e2 e3
  rw [Re_spells]
  show N K _ _ w 0 [(0, .ref (gA (cg K) 7)), (1, .ref (gK (cg K) i))] []
  refine n_aload_n F dX3_spells_0 rfl 0 rfl ?_
  refine n_get F ck_3 lf_RX3_32 (by decide) fg_7_6 (by decide) dX3_spells_1 ?_
  refine n_aload_n F dX3_spells_4 rfl 0 rfl ?_
  refine n_get F ck_3 lf_RX3_29 (by decide) fg_7_5 (by decide) dX3_spells_5 ?_
  refine n_isub F dX3_spells_8 ?_
  refine n_aload_n F dX3_spells_9 rfl 1 rfl ?_
  refine n_slen F hi ⟨Nat.le_of_ble_eq_true rfl, Nat.le_of_ble_eq_true rfl⟩ (Nat.le_of_ble_eq_true rfl) dX3_spells_10 ?_
  refine n_icmp_eq F 18 dX3_spells_13 (by decide) (fun e1 => ?_) (fun e1 => ?_)
  · rw [if_pos e1]
    refine n_iconst F (0 : Int32) dX3_spells_18 (by decide) ?_
    refine n_istore_n F (lv' := [(2, .int (0 : Int32)), (0, .ref (gA (cg K) 7)), (1, .ref (gK (cg K) i))]) dX3_spells_19 rfl (by decide) rfl ?_
    exact n_sub [1, 2, 0] rfl (Re_spells_L20_ok F hi w (Re_spells_B49_ok F hi w) (Re_spells_B57_ok F hi w) FU _)
  rw [if_neg e1]
  refine n_iconst F (0 : Int32) dX3_spells_16 (by decide) ?_
  exact n_zret F .boolean rfl rfl rfl dX3_spells_17
theorem dX3_lineOfWord_0 : decode cX3_lineOfWord 0 = .ok (.aload_n 0, 1) := by decide +kernel
theorem dX3_lineOfWord_1 : decode cX3_lineOfWord 1 = .ok (.ldc 86, 2) := by decide +kernel
theorem dX3_lineOfWord_3 : decode cX3_lineOfWord 3 = .ok (.invokevirtual 88, 3) := by decide +kernel
theorem dX3_lineOfWord_6 : decode cX3_lineOfWord 6 = .ok (.ifCond .eq 5, 3) := by decide +kernel
theorem dX3_lineOfWord_9 : decode cX3_lineOfWord 9 = .ok (.iconst 1, 1) := by decide +kernel
theorem dX3_lineOfWord_10 : decode cX3_lineOfWord 10 = .ok (.ireturn, 1) := by decide +kernel
theorem dX3_lineOfWord_11 : decode cX3_lineOfWord 11 = .ok (.aload_n 0, 1) := by decide +kernel
theorem dX3_lineOfWord_12 : decode cX3_lineOfWord 12 = .ok (.ldc 92, 2) := by decide +kernel
theorem dX3_lineOfWord_14 : decode cX3_lineOfWord 14 = .ok (.invokevirtual 88, 3) := by decide +kernel
theorem dX3_lineOfWord_17 : decode cX3_lineOfWord 17 = .ok (.ifCond .eq 5, 3) := by decide +kernel
theorem dX3_lineOfWord_20 : decode cX3_lineOfWord 20 = .ok (.iconst 2, 1) := by decide +kernel
theorem dX3_lineOfWord_21 : decode cX3_lineOfWord 21 = .ok (.ireturn, 1) := by decide +kernel
theorem dX3_lineOfWord_22 : decode cX3_lineOfWord 22 = .ok (.aload_n 0, 1) := by decide +kernel
theorem dX3_lineOfWord_23 : decode cX3_lineOfWord 23 = .ok (.ldc 94, 2) := by decide +kernel
theorem dX3_lineOfWord_25 : decode cX3_lineOfWord 25 = .ok (.invokevirtual 88, 3) := by decide +kernel
theorem dX3_lineOfWord_28 : decode cX3_lineOfWord 28 = .ok (.ifCond .eq 5, 3) := by decide +kernel
theorem dX3_lineOfWord_31 : decode cX3_lineOfWord 31 = .ok (.iconst 3, 1) := by decide +kernel
theorem dX3_lineOfWord_32 : decode cX3_lineOfWord 32 = .ok (.ireturn, 1) := by decide +kernel
theorem dX3_lineOfWord_33 : decode cX3_lineOfWord 33 = .ok (.aload_n 0, 1) := by decide +kernel
theorem dX3_lineOfWord_34 : decode cX3_lineOfWord 34 = .ok (.ldc 96, 2) := by decide +kernel
theorem dX3_lineOfWord_36 : decode cX3_lineOfWord 36 = .ok (.invokevirtual 88, 3) := by decide +kernel
theorem dX3_lineOfWord_39 : decode cX3_lineOfWord 39 = .ok (.ifCond .eq 5, 3) := by decide +kernel
theorem dX3_lineOfWord_42 : decode cX3_lineOfWord 42 = .ok (.iconst 4, 1) := by decide +kernel
theorem dX3_lineOfWord_43 : decode cX3_lineOfWord 43 = .ok (.ireturn, 1) := by decide +kernel
theorem dX3_lineOfWord_44 : decode cX3_lineOfWord 44 = .ok (.aload_n 0, 1) := by decide +kernel
theorem dX3_lineOfWord_45 : decode cX3_lineOfWord 45 = .ok (.ldc 98, 2) := by decide +kernel
theorem dX3_lineOfWord_47 : decode cX3_lineOfWord 47 = .ok (.invokevirtual 88, 3) := by decide +kernel
theorem dX3_lineOfWord_50 : decode cX3_lineOfWord 50 = .ok (.ifCond .eq 5, 3) := by decide +kernel
theorem dX3_lineOfWord_53 : decode cX3_lineOfWord 53 = .ok (.iconst 5, 1) := by decide +kernel
theorem dX3_lineOfWord_54 : decode cX3_lineOfWord 54 = .ok (.ireturn, 1) := by decide +kernel
theorem dX3_lineOfWord_55 : decode cX3_lineOfWord 55 = .ok (.aload_n 0, 1) := by decide +kernel
theorem dX3_lineOfWord_56 : decode cX3_lineOfWord 56 = .ok (.ldc 100, 2) := by decide +kernel
theorem dX3_lineOfWord_58 : decode cX3_lineOfWord 58 = .ok (.invokevirtual 88, 3) := by decide +kernel
theorem dX3_lineOfWord_61 : decode cX3_lineOfWord 61 = .ok (.ifCond .eq 8, 3) := by decide +kernel
theorem dX3_lineOfWord_64 : decode cX3_lineOfWord 64 = .ok (.bipush 6, 2) := by decide +kernel
theorem dX3_lineOfWord_66 : decode cX3_lineOfWord 66 = .ok (.goto 4, 3) := by decide +kernel
theorem dX3_lineOfWord_69 : decode cX3_lineOfWord 69 = .ok (.iconst 0, 1) := by decide +kernel
theorem dX3_lineOfWord_70 : decode cX3_lineOfWord 70 = .ok (.ireturn, 1) := by decide +kernel
def Re_lineOfWord (w : Wd) : Option Int32 := (Option.bind (Re_spells 0 w) (fun q1 => (if q1 = (0 : Int32) then (Option.bind (Re_spells 1 w) (fun q3 => (if q3 = (0 : Int32) then (Option.bind (Re_spells 2 w) (fun q5 => (if q5 = (0 : Int32) then (Option.bind (Re_spells 3 w) (fun q7 => (if q7 = (0 : Int32) then (Option.bind (Re_spells 4 w) (fun q9 => (if q9 = (0 : Int32) then (Option.bind (Re_spells 5 w) (fun q11 => (if q11 = (0 : Int32) then some (0 : Int32) else some (6 : Int32)))) else some (5 : Int32)))) else some (4 : Int32)))) else some (3 : Int32)))) else some (2 : Int32)))) else some (1 : Int32))))
set_option maxRecDepth 100000 in
set_option maxHeartbeats 4000000 in
theorem ct_Re_lineOfWord {l : Launch} {g : GG} {σ : Sd} (hg : OKg g σ) (hb : σ.2.1 = true) (hx : ∀ c ∈ ([1, 2, 7] : List Nat), c ∈ σ.1) (w : Wd) {q : Int32} (hq : Re_lineOfWord w = some q) : CT l g σ yX3_lineOfWord cX3_lineOfWord 1 (some .int) 5 107 [.ref (gA g 7)] w (some (.int q)) w := by
  refine ct_of (rt := (rtP w)) (res := Re_lineOfWord w) (q := q) (own := RX3) (b := true) hg hb hx (by decide) rfl (Nat.le_of_ble_eq_true rfl) hq (fun K e1 e2 e3 F => ?_)
  subst e1 e2 e3
  rw [Re_lineOfWord]
  show N K _ _ w 0 [(0, .ref (gA (cg K) 7))] []
  refine n_aload_n F dX3_lineOfWord_0 rfl 0 rfl ?_
  refine n_ldcS F 0 (by decide) rfl dX3_lineOfWord_1 ?_
  refine n_bind (fun q1 hq1 => ?_)
  refine n_callVi F cb_X3_spells lm_RX3_88 ob_7 (by decide) ⟨_, _, rfl⟩ (ct_Re_spells (fx_ok F) (fx_sd F) (fx_ix F rfl) (by decide) w hq1) rfl rfl (Nat.le_of_ble_eq_true rfl) ⟨Nat.le_of_ble_eq_true rfl, Nat.le_of_ble_eq_true rfl⟩ dX3_lineOfWord_3 ?_
  refine n_if_eq F 11 dX3_lineOfWord_6 (by decide) (fun e2 => ?_) (fun e2 => ?_)
  · rw [if_pos e2]
    refine n_aload_n F dX3_lineOfWord_11 rfl 0 rfl ?_
    refine n_ldcS F 1 (by decide) rfl dX3_lineOfWord_12 ?_
    refine n_bind (fun q3 hq3 => ?_)
    refine n_callVi F cb_X3_spells lm_RX3_88 ob_7 (by decide) ⟨_, _, rfl⟩ (ct_Re_spells (fx_ok F) (fx_sd F) (fx_ix F rfl) (by decide) w hq3) rfl rfl (Nat.le_of_ble_eq_true rfl) ⟨Nat.le_of_ble_eq_true rfl, Nat.le_of_ble_eq_true rfl⟩ dX3_lineOfWord_14 ?_
    refine n_if_eq F 22 dX3_lineOfWord_17 (by decide) (fun e4 => ?_) (fun e4 => ?_)
    · rw [if_pos e4]
      refine n_aload_n F dX3_lineOfWord_22 rfl 0 rfl ?_
      refine n_ldcS F 2 (by decide) rfl dX3_lineOfWord_23 ?_
      refine n_bind (fun q5 hq5 => ?_)
      refine n_callVi F cb_X3_spells lm_RX3_88 ob_7 (by decide) ⟨_, _, rfl⟩ (ct_Re_spells (fx_ok F) (fx_sd F) (fx_ix F rfl) (by decide) w hq5) rfl rfl (Nat.le_of_ble_eq_true rfl) ⟨Nat.le_of_ble_eq_true rfl, Nat.le_of_ble_eq_true rfl⟩ dX3_lineOfWord_25 ?_
      refine n_if_eq F 33 dX3_lineOfWord_28 (by decide) (fun e6 => ?_) (fun e6 => ?_)
      · rw [if_pos e6]
        refine n_aload_n F dX3_lineOfWord_33 rfl 0 rfl ?_
        refine n_ldcS F 3 (by decide) rfl dX3_lineOfWord_34 ?_
        refine n_bind (fun q7 hq7 => ?_)
        refine n_callVi F cb_X3_spells lm_RX3_88 ob_7 (by decide) ⟨_, _, rfl⟩ (ct_Re_spells (fx_ok F) (fx_sd F) (fx_ix F rfl) (by decide) w hq7) rfl rfl (Nat.le_of_ble_eq_true rfl) ⟨Nat.le_of_ble_eq_true rfl, Nat.le_of_ble_eq_true rfl⟩ dX3_lineOfWord_36 ?_
        refine n_if_eq F 44 dX3_lineOfWord_39 (by decide) (fun e8 => ?_) (fun e8 => ?_)
        · rw [if_pos e8]
          refine n_aload_n F dX3_lineOfWord_44 rfl 0 rfl ?_
          refine n_ldcS F 4 (by decide) rfl dX3_lineOfWord_45 ?_
          refine n_bind (fun q9 hq9 => ?_)
          refine n_callVi F cb_X3_spells lm_RX3_88 ob_7 (by decide) ⟨_, _, rfl⟩ (ct_Re_spells (fx_ok F) (fx_sd F) (fx_ix F rfl) (by decide) w hq9) rfl rfl (Nat.le_of_ble_eq_true rfl) ⟨Nat.le_of_ble_eq_true rfl, Nat.le_of_ble_eq_true rfl⟩ dX3_lineOfWord_47 ?_
          refine n_if_eq F 55 dX3_lineOfWord_50 (by decide) (fun e10 => ?_) (fun e10 => ?_)
          · rw [if_pos e10]
            refine n_aload_n F dX3_lineOfWord_55 rfl 0 rfl ?_
            refine n_ldcS F 5 (by decide) rfl dX3_lineOfWord_56 ?_
            refine n_bind (fun q11 hq11 => ?_)
            refine n_callVi F cb_X3_spells lm_RX3_88 ob_7 (by decide) ⟨_, _, rfl⟩ (ct_Re_spells (fx_ok F) (fx_sd F) (fx_ix F rfl) (by decide) w hq11) rfl rfl (Nat.le_of_ble_eq_true rfl) ⟨Nat.le_of_ble_eq_true rfl, Nat.le_of_ble_eq_true rfl⟩ dX3_lineOfWord_58 ?_
            refine n_if_eq F 69 dX3_lineOfWord_61 (by decide) (fun e12 => ?_) (fun e12 => ?_)
            · rw [if_pos e12]
              refine n_iconst F (0 : Int32) dX3_lineOfWord_69 (by decide) ?_
              exact n_iret F rfl rfl dX3_lineOfWord_70
            rw [if_neg e12]
            refine n_bipush F (6 : Int32) dX3_lineOfWord_64 (by decide) ?_
            refine n_goto F 70 dX3_lineOfWord_66 (by decide) ?_
            exact n_iret F rfl rfl dX3_lineOfWord_70
          rw [if_neg e10]
          refine n_iconst F (5 : Int32) dX3_lineOfWord_53 (by decide) ?_
          exact n_iret F rfl rfl dX3_lineOfWord_54
        rw [if_neg e8]
        refine n_iconst F (4 : Int32) dX3_lineOfWord_42 (by decide) ?_
        exact n_iret F rfl rfl dX3_lineOfWord_43
      rw [if_neg e6]
      refine n_iconst F (3 : Int32) dX3_lineOfWord_31 (by decide) ?_
      exact n_iret F rfl rfl dX3_lineOfWord_32
    rw [if_neg e4]
    refine n_iconst F (2 : Int32) dX3_lineOfWord_20 (by decide) ?_
    exact n_iret F rfl rfl dX3_lineOfWord_21
  rw [if_neg e2]
  refine n_iconst F (1 : Int32) dX3_lineOfWord_9 (by decide) ?_
  exact n_iret F rfl rfl dX3_lineOfWord_10
theorem dX3_fieldsOf_0 : decode cX3_fieldsOf 0 = .ok (.iload_n 0, 1) := by decide +kernel
theorem dX3_fieldsOf_1 : decode cX3_fieldsOf 1 = .ok (.tableswitch 42 2 6 #[35, 42, 38, 42, 40], 35) := by decide +kernel
theorem dX3_fieldsOf_36 : decode cX3_fieldsOf 36 = .ok (.bipush 6, 2) := by decide +kernel
theorem dX3_fieldsOf_38 : decode cX3_fieldsOf 38 = .ok (.ireturn, 1) := by decide +kernel
theorem dX3_fieldsOf_39 : decode cX3_fieldsOf 39 = .ok (.iconst 3, 1) := by decide +kernel
theorem dX3_fieldsOf_40 : decode cX3_fieldsOf 40 = .ok (.ireturn, 1) := by decide +kernel
theorem dX3_fieldsOf_41 : decode cX3_fieldsOf 41 = .ok (.iconst 2, 1) := by decide +kernel
theorem dX3_fieldsOf_42 : decode cX3_fieldsOf 42 = .ok (.ireturn, 1) := by decide +kernel
theorem dX3_fieldsOf_43 : decode cX3_fieldsOf 43 = .ok (.iconst 1, 1) := by decide +kernel
theorem dX3_fieldsOf_44 : decode cX3_fieldsOf 44 = .ok (.ireturn, 1) := by decide +kernel
def Re_fieldsOf (w : Wd) (a1 : Int32) : Int32 := (if a1 = (2 : Int32) then (6 : Int32) else (if a1 = (3 : Int32) then (1 : Int32) else (if a1 = (4 : Int32) then (3 : Int32) else (if a1 = (5 : Int32) then (1 : Int32) else (if a1 = (6 : Int32) then (2 : Int32) else (1 : Int32))))))
set_option maxRecDepth 100000 in
set_option maxHeartbeats 4000000 in
theorem ct_Re_fieldsOf {l : Launch} {g : GG} {σ : Sd} (hg : OKg g σ) (hb : σ.2.1 = true) (hx : ∀ c ∈ ([] : List Nat), c ∈ σ.1) (w : Wd) (a1 : Int32) : CT l g σ yX3_fieldsOf cX3_fieldsOf 1 (some .int) 0 0 [.int a1] w (some (.int (Re_fieldsOf w a1))) w := by
  refine ct_of (rt := (rtP w)) (res := some (Re_fieldsOf w a1)) (q := (Re_fieldsOf w a1)) (own := RX3) (b := true) hg hb hx (by decide) rfl (Nat.le_of_ble_eq_true rfl) rfl (fun K e1 e2 e3 F => ?_)
  subst e1 e2 e3
  rw [Re_fieldsOf]
  show N K _ _ w 0 [(0, .int a1)] []
  refine n_iload_n F dX3_fieldsOf_0 rfl 0 rfl ?_
  by_cases e1 : a1 = (2 : Int32)
  · rw [if_pos e1]
    refine n_tabIn F (2 : Int32) 36 dX3_fieldsOf_1 e1 (by decide) (by decide) rfl (by decide) ?_
    refine n_bipush F (6 : Int32) dX3_fieldsOf_36 (by decide) ?_
    exact n_iret F rfl rfl dX3_fieldsOf_38
  rw [if_neg e1]
  by_cases e2 : a1 = (3 : Int32)
  · rw [if_pos e2]
    refine n_tabIn F (3 : Int32) 43 dX3_fieldsOf_1 e2 (by decide) (by decide) rfl (by decide) ?_
    refine n_iconst F (1 : Int32) dX3_fieldsOf_43 (by decide) ?_
    exact n_iret F rfl rfl dX3_fieldsOf_44
  rw [if_neg e2]
  by_cases e3 : a1 = (4 : Int32)
  · rw [if_pos e3]
    refine n_tabIn F (4 : Int32) 39 dX3_fieldsOf_1 e3 (by decide) (by decide) rfl (by decide) ?_
    refine n_iconst F (3 : Int32) dX3_fieldsOf_39 (by decide) ?_
    exact n_iret F rfl rfl dX3_fieldsOf_40
  rw [if_neg e3]
  by_cases e4 : a1 = (5 : Int32)
  · rw [if_pos e4]
    refine n_tabIn F (5 : Int32) 43 dX3_fieldsOf_1 e4 (by decide) (by decide) rfl (by decide) ?_
    refine n_iconst F (1 : Int32) dX3_fieldsOf_43 (by decide) ?_
    exact n_iret F rfl rfl dX3_fieldsOf_44
  rw [if_neg e4]
  by_cases e5 : a1 = (6 : Int32)
  · rw [if_pos e5]
    refine n_tabIn F (6 : Int32) 41 dX3_fieldsOf_1 e5 (by decide) (by decide) rfl (by decide) ?_
    refine n_iconst F (2 : Int32) dX3_fieldsOf_41 (by decide) ?_
    exact n_iret F rfl rfl dX3_fieldsOf_42
  rw [if_neg e5]
  have hsw := (⟨lv_neT e1 (a := 2) rfl, lv_neT e2 (a := 3) rfl, lv_neT e3 (a := 4) rfl, lv_neT e4 (a := 5) rfl, lv_neT e5 (a := 6) rfl⟩ : ¬ (a1).toInt = 2 ∧ ¬ (a1).toInt = 3 ∧ ¬ (a1).toInt = 4 ∧ ¬ (a1).toInt = 5 ∧ ¬ (a1).toInt = 6)
  refine n_tabOut F 43 dX3_fieldsOf_1 (by omega) (by decide) ?_
  refine n_iconst F (1 : Int32) dX3_fieldsOf_43 (by decide) ?_
  exact n_iret F rfl rfl dX3_fieldsOf_44
theorem dX3_tokenValue_0 : decode cX3_tokenValue 0 = .ok (.aload_n 0, 1) := by decide +kernel
theorem dX3_tokenValue_1 : decode cX3_tokenValue 1 = .ok (.getfield 32, 3) := by decide +kernel
theorem dX3_tokenValue_4 : decode cX3_tokenValue 4 = .ok (.aload_n 0, 1) := by decide +kernel
theorem dX3_tokenValue_5 : decode cX3_tokenValue 5 = .ok (.getfield 29, 3) := by decide +kernel
theorem dX3_tokenValue_8 : decode cX3_tokenValue 8 = .ok (.isub, 1) := by decide +kernel
theorem dX3_tokenValue_9 : decode cX3_tokenValue 9 = .ok (.istore_n 1, 1) := by decide +kernel
theorem dX3_tokenValue_10 : decode cX3_tokenValue 10 = .ok (.aload_n 0, 1) := by decide +kernel
theorem dX3_tokenValue_11 : decode cX3_tokenValue 11 = .ok (.getfield 26, 3) := by decide +kernel
theorem dX3_tokenValue_14 : decode cX3_tokenValue 14 = .ok (.iconst 2, 1) := by decide +kernel
theorem dX3_tokenValue_15 : decode cX3_tokenValue 15 = .ok (.if_icmp .ne 8, 3) := by decide +kernel
theorem dX3_tokenValue_18 : decode cX3_tokenValue 18 = .ok (.iload_n 1, 1) := by decide +kernel
theorem dX3_tokenValue_19 : decode cX3_tokenValue 19 = .ok (.iconst 2, 1) := by decide +kernel
theorem dX3_tokenValue_20 : decode cX3_tokenValue 20 = .ok (.if_icmp .le 5, 3) := by decide +kernel
theorem dX3_tokenValue_23 : decode cX3_tokenValue 23 = .ok (.iconst (-1), 1) := by decide +kernel
theorem dX3_tokenValue_24 : decode cX3_tokenValue 24 = .ok (.ireturn, 1) := by decide +kernel
theorem dX3_tokenValue_25 : decode cX3_tokenValue 25 = .ok (.aload_n 0, 1) := by decide +kernel
theorem dX3_tokenValue_26 : decode cX3_tokenValue 26 = .ok (.getfield 35, 3) := by decide +kernel
theorem dX3_tokenValue_29 : decode cX3_tokenValue 29 = .ok (.aload_n 0, 1) := by decide +kernel
theorem dX3_tokenValue_30 : decode cX3_tokenValue 30 = .ok (.getfield 29, 3) := by decide +kernel
theorem dX3_tokenValue_33 : decode cX3_tokenValue 33 = .ok (.invokevirtual 50, 3) := by decide +kernel
theorem dX3_tokenValue_36 : decode cX3_tokenValue 36 = .ok (.bipush 48, 2) := by decide +kernel
theorem dX3_tokenValue_38 : decode cX3_tokenValue 38 = .ok (.isub, 1) := by decide +kernel
theorem dX3_tokenValue_39 : decode cX3_tokenValue 39 = .ok (.istore_n 2, 1) := by decide +kernel
theorem dX3_tokenValue_40 : decode cX3_tokenValue 40 = .ok (.iload_n 1, 1) := by decide +kernel
theorem dX3_tokenValue_41 : decode cX3_tokenValue 41 = .ok (.iconst 1, 1) := by decide +kernel
theorem dX3_tokenValue_42 : decode cX3_tokenValue 42 = .ok (.if_icmp .ne 7, 3) := by decide +kernel
theorem dX3_tokenValue_45 : decode cX3_tokenValue 45 = .ok (.iload_n 2, 1) := by decide +kernel
theorem dX3_tokenValue_46 : decode cX3_tokenValue 46 = .ok (.goto 24, 3) := by decide +kernel
theorem dX3_tokenValue_49 : decode cX3_tokenValue 49 = .ok (.iload_n 2, 1) := by decide +kernel
theorem dX3_tokenValue_50 : decode cX3_tokenValue 50 = .ok (.bipush 10, 2) := by decide +kernel
theorem dX3_tokenValue_52 : decode cX3_tokenValue 52 = .ok (.imul, 1) := by decide +kernel
theorem dX3_tokenValue_53 : decode cX3_tokenValue 53 = .ok (.aload_n 0, 1) := by decide +kernel
theorem dX3_tokenValue_54 : decode cX3_tokenValue 54 = .ok (.getfield 35, 3) := by decide +kernel
theorem dX3_tokenValue_57 : decode cX3_tokenValue 57 = .ok (.aload_n 0, 1) := by decide +kernel
theorem dX3_tokenValue_58 : decode cX3_tokenValue 58 = .ok (.getfield 29, 3) := by decide +kernel
theorem dX3_tokenValue_61 : decode cX3_tokenValue 61 = .ok (.iconst 1, 1) := by decide +kernel
theorem dX3_tokenValue_62 : decode cX3_tokenValue 62 = .ok (.iadd, 1) := by decide +kernel
theorem dX3_tokenValue_63 : decode cX3_tokenValue 63 = .ok (.invokevirtual 50, 3) := by decide +kernel
theorem dX3_tokenValue_66 : decode cX3_tokenValue 66 = .ok (.iadd, 1) := by decide +kernel
theorem dX3_tokenValue_67 : decode cX3_tokenValue 67 = .ok (.bipush 48, 2) := by decide +kernel
theorem dX3_tokenValue_69 : decode cX3_tokenValue 69 = .ok (.isub, 1) := by decide +kernel
theorem dX3_tokenValue_70 : decode cX3_tokenValue 70 = .ok (.ireturn, 1) := by decide +kernel
def Re_tokenValue (w : Wd) : Option Int32 := (if (w.1 7 4) = (2 : Int32) then (if ((w.1 7 6) - (w.1 7 5)) ≤ (2 : Int32) then (Option.bind (Te_byteAt w (w.1 7 5)) (fun q3 => (if ((w.1 7 6) - (w.1 7 5)) = (1 : Int32) then some (q3 - (48 : Int32)) else (Option.bind (Te_byteAt w ((w.1 7 5) + (1 : Int32))) (fun q5 => some ((((q3 - (48 : Int32)) * (10 : Int32)) + q5) - (48 : Int32))))))) else some (-1 : Int32)) else some (-1 : Int32))
set_option maxRecDepth 100000 in
set_option maxHeartbeats 4000000 in
theorem ct_Re_tokenValue {l : Launch} {g : GG} {σ : Sd} (hg : OKg g σ) (hb : σ.2.1 = true) (hx : ∀ c ∈ ([1, 2, 7] : List Nat), c ∈ σ.1) (w : Wd) {q : Int32} (hq : Re_tokenValue w = some q) : CT l g σ yX3_tokenValue cX3_tokenValue 3 (some .int) 1 21 [.ref (gA g 7)] w (some (.int q)) w := by
  refine ct_of (rt := (rtP w)) (res := Re_tokenValue w) (q := q) (own := RX3) (b := true) hg hb hx (by decide) rfl (Nat.le_of_ble_eq_true rfl) hq (fun K e1 e2 e3 F => ?_)
  subst e1 e2 e3
  rw [Re_tokenValue]
  show N K _ _ w 0 [(0, .ref (gA (cg K) 7))] []
  refine n_aload_n F dX3_tokenValue_0 rfl 0 rfl ?_
  refine n_get F ck_3 lf_RX3_32 (by decide) fg_7_6 (by decide) dX3_tokenValue_1 ?_
  refine n_aload_n F dX3_tokenValue_4 rfl 0 rfl ?_
  refine n_get F ck_3 lf_RX3_29 (by decide) fg_7_5 (by decide) dX3_tokenValue_5 ?_
  refine n_isub F dX3_tokenValue_8 ?_
  refine n_istore_n F (lv' := [(1, .int ((w.1 7 6) - (w.1 7 5))), (0, .ref (gA (cg K) 7))]) dX3_tokenValue_9 rfl (by decide) rfl ?_
  refine n_aload_n F dX3_tokenValue_10 rfl 1 rfl ?_
  refine n_get F ck_3 lf_RX3_26 (by decide) fg_7_4 (by decide) dX3_tokenValue_11 ?_
  refine n_iconst F (2 : Int32) dX3_tokenValue_14 (by decide) ?_
  refine n_icmp_ne F 23 dX3_tokenValue_15 (by decide) (fun e1 => ?_) (fun e1 => ?_)
  · rw [if_neg e1]
    refine n_iconst F (-1 : Int32) dX3_tokenValue_23 (by decide) ?_
    exact n_iret F rfl rfl dX3_tokenValue_24
  rw [if_pos e1]
  refine n_iload_n F dX3_tokenValue_18 rfl 0 rfl ?_
  refine n_iconst F (2 : Int32) dX3_tokenValue_19 (by decide) ?_
  refine n_icmp_le F 25 dX3_tokenValue_20 (by decide) (fun e2 => ?_) (fun e2 => ?_)
  · rw [if_pos e2]
    refine n_aload_n F dX3_tokenValue_25 rfl 1 rfl ?_
    refine n_get F ck_3 lf_RX3_35 (by decide) fg_7_0 (by decide) dX3_tokenValue_26 ?_
    refine n_aload_n F dX3_tokenValue_29 rfl 1 rfl ?_
    refine n_get F ck_3 lf_RX3_29 (by decide) fg_7_5 (by decide) dX3_tokenValue_30 ?_
    refine n_bind (fun q3 hq3 => ?_)
    refine n_callVi F cb_X6_byteAt lm_RX3_50 ob_1 (by decide) ⟨_, _, rfl⟩ (ct_Te_byteAt (fx_ok F) (fx_sd F) (fx_ix F rfl) w (w.1 7 5) hq3) rfl rfl (Nat.le_of_ble_eq_true rfl) ⟨Nat.le_of_ble_eq_true rfl, Nat.le_of_ble_eq_true rfl⟩ dX3_tokenValue_33 ?_
    refine n_bipush F (48 : Int32) dX3_tokenValue_36 (by decide) ?_
    refine n_isub F dX3_tokenValue_38 ?_
    refine n_istore_n F (lv' := [(2, .int (q3 - (48 : Int32))), (1, .int ((w.1 7 6) - (w.1 7 5))), (0, .ref (gA (cg K) 7))]) dX3_tokenValue_39 rfl (by decide) rfl ?_
    refine n_iload_n F dX3_tokenValue_40 rfl 1 rfl ?_
    refine n_iconst F (1 : Int32) dX3_tokenValue_41 (by decide) ?_
    refine n_icmp_ne F 49 dX3_tokenValue_42 (by decide) (fun e4 => ?_) (fun e4 => ?_)
    · rw [if_neg e4]
      refine n_iload_n F dX3_tokenValue_49 rfl 0 rfl ?_
      refine n_bipush F (10 : Int32) dX3_tokenValue_50 (by decide) ?_
      refine n_imul F dX3_tokenValue_52 ?_
      refine n_aload_n F dX3_tokenValue_53 rfl 2 rfl ?_
      refine n_get F ck_3 lf_RX3_35 (by decide) fg_7_0 (by decide) dX3_tokenValue_54 ?_
      refine n_aload_n F dX3_tokenValue_57 rfl 2 rfl ?_
      refine n_get F ck_3 lf_RX3_29 (by decide) fg_7_5 (by decide) dX3_tokenValue_58 ?_
      refine n_iconst F (1 : Int32) dX3_tokenValue_61 (by decide) ?_
      refine n_iadd F dX3_tokenValue_62 ?_
      refine n_bind (fun q5 hq5 => ?_)
      refine n_callVi F cb_X6_byteAt lm_RX3_50 ob_1 (by decide) ⟨_, _, rfl⟩ (ct_Te_byteAt (fx_ok F) (fx_sd F) (fx_ix F rfl) w ((w.1 7 5) + (1 : Int32)) hq5) rfl rfl (Nat.le_of_ble_eq_true rfl) ⟨Nat.le_of_ble_eq_true rfl, Nat.le_of_ble_eq_true rfl⟩ dX3_tokenValue_63 ?_
      refine n_iadd F dX3_tokenValue_66 ?_
      refine n_bipush F (48 : Int32) dX3_tokenValue_67 (by decide) ?_
      refine n_isub F dX3_tokenValue_69 ?_
      exact n_iret F rfl rfl dX3_tokenValue_70
    rw [if_pos e4]
    refine n_iload_n F dX3_tokenValue_45 rfl 0 rfl ?_
    refine n_goto F 70 dX3_tokenValue_46 (by decide) ?_
    exact n_iret F rfl rfl dX3_tokenValue_70
  rw [if_neg e2]
  refine n_iconst F (-1 : Int32) dX3_tokenValue_23 (by decide) ?_
  exact n_iret F rfl rfl dX3_tokenValue_24
theorem dX3_fitsTrain_0 : decode cX3_fitsTrain 0 = .ok (.iload_n 1, 1) := by decide +kernel
theorem dX3_fitsTrain_1 : decode cX3_fitsTrain 1 = .ok (.tableswitch 101 0 4 #[35, 44, 71, 78, 94], 35) := by decide +kernel
theorem dX3_fitsTrain_36 : decode cX3_fitsTrain 36 = .ok (.aload_n 0, 1) := by decide +kernel
theorem dX3_fitsTrain_37 : decode cX3_fitsTrain 37 = .ok (.getfield 12, 3) := by decide +kernel
theorem dX3_fitsTrain_40 : decode cX3_fitsTrain 40 = .ok (.iload_n 2, 1) := by decide +kernel
theorem dX3_fitsTrain_41 : decode cX3_fitsTrain 41 = .ok (.invokevirtual 114, 3) := by decide +kernel
theorem dX3_fitsTrain_44 : decode cX3_fitsTrain 44 = .ok (.ireturn, 1) := by decide +kernel
theorem dX3_fitsTrain_45 : decode cX3_fitsTrain 45 = .ok (.aload_n 0, 1) := by decide +kernel
theorem dX3_fitsTrain_46 : decode cX3_fitsTrain 46 = .ok (.getfield 12, 3) := by decide +kernel
theorem dX3_fitsTrain_49 : decode cX3_fitsTrain 49 = .ok (.iload_n 2, 1) := by decide +kernel
theorem dX3_fitsTrain_50 : decode cX3_fitsTrain 50 = .ok (.invokevirtual 114, 3) := by decide +kernel
theorem dX3_fitsTrain_53 : decode cX3_fitsTrain 53 = .ok (.ifCond .eq 17, 3) := by decide +kernel
theorem dX3_fitsTrain_56 : decode cX3_fitsTrain 56 = .ok (.iload_n 2, 1) := by decide +kernel
theorem dX3_fitsTrain_57 : decode cX3_fitsTrain 57 = .ok (.aload_n 0, 1) := by decide +kernel
theorem dX3_fitsTrain_58 : decode cX3_fitsTrain 58 = .ok (.getfield 22, 3) := by decide +kernel
theorem dX3_fitsTrain_61 : decode cX3_fitsTrain 61 = .ok (.iconst 0, 1) := by decide +kernel
theorem dX3_fitsTrain_62 : decode cX3_fitsTrain 62 = .ok (.iaload, 1) := by decide +kernel
theorem dX3_fitsTrain_63 : decode cX3_fitsTrain 63 = .ok (.if_icmp .eq 7, 3) := by decide +kernel
theorem dX3_fitsTrain_66 : decode cX3_fitsTrain 66 = .ok (.iconst 1, 1) := by decide +kernel
theorem dX3_fitsTrain_67 : decode cX3_fitsTrain 67 = .ok (.goto 4, 3) := by decide +kernel
theorem dX3_fitsTrain_70 : decode cX3_fitsTrain 70 = .ok (.iconst 0, 1) := by decide +kernel
theorem dX3_fitsTrain_71 : decode cX3_fitsTrain 71 = .ok (.ireturn, 1) := by decide +kernel
theorem dX3_fitsTrain_72 : decode cX3_fitsTrain 72 = .ok (.iload_n 2, 1) := by decide +kernel
theorem dX3_fitsTrain_73 : decode cX3_fitsTrain 73 = .ok (.iconst 1, 1) := by decide +kernel
theorem dX3_fitsTrain_74 : decode cX3_fitsTrain 74 = .ok (.iconst 4, 1) := by decide +kernel
theorem dX3_fitsTrain_75 : decode cX3_fitsTrain 75 = .ok (.invokestatic 83, 3) := by decide +kernel
theorem dX3_fitsTrain_78 : decode cX3_fitsTrain 78 = .ok (.ireturn, 1) := by decide +kernel
theorem dX3_fitsTrain_79 : decode cX3_fitsTrain 79 = .ok (.iload_n 2, 1) := by decide +kernel
theorem dX3_fitsTrain_80 : decode cX3_fitsTrain 80 = .ok (.aload_n 0, 1) := by decide +kernel
theorem dX3_fitsTrain_81 : decode cX3_fitsTrain 81 = .ok (.getfield 22, 3) := by decide +kernel
theorem dX3_fitsTrain_84 : decode cX3_fitsTrain 84 = .ok (.iconst 2, 1) := by decide +kernel
theorem dX3_fitsTrain_85 : decode cX3_fitsTrain 85 = .ok (.iaload, 1) := by decide +kernel
theorem dX3_fitsTrain_86 : decode cX3_fitsTrain 86 = .ok (.if_icmp .ge 7, 3) := by decide +kernel
theorem dX3_fitsTrain_89 : decode cX3_fitsTrain 89 = .ok (.iconst 1, 1) := by decide +kernel
theorem dX3_fitsTrain_90 : decode cX3_fitsTrain 90 = .ok (.goto 4, 3) := by decide +kernel
theorem dX3_fitsTrain_93 : decode cX3_fitsTrain 93 = .ok (.iconst 0, 1) := by decide +kernel
theorem dX3_fitsTrain_94 : decode cX3_fitsTrain 94 = .ok (.ireturn, 1) := by decide +kernel
theorem dX3_fitsTrain_95 : decode cX3_fitsTrain 95 = .ok (.iload_n 2, 1) := by decide +kernel
theorem dX3_fitsTrain_96 : decode cX3_fitsTrain 96 = .ok (.iconst 1, 1) := by decide +kernel
theorem dX3_fitsTrain_97 : decode cX3_fitsTrain 97 = .ok (.iconst 2, 1) := by decide +kernel
theorem dX3_fitsTrain_98 : decode cX3_fitsTrain 98 = .ok (.invokestatic 83, 3) := by decide +kernel
theorem dX3_fitsTrain_101 : decode cX3_fitsTrain 101 = .ok (.ireturn, 1) := by decide +kernel
theorem dX3_fitsTrain_102 : decode cX3_fitsTrain 102 = .ok (.iload_n 2, 1) := by decide +kernel
theorem dX3_fitsTrain_103 : decode cX3_fitsTrain 103 = .ok (.iconst 3, 1) := by decide +kernel
theorem dX3_fitsTrain_104 : decode cX3_fitsTrain 104 = .ok (.if_icmp .ge 7, 3) := by decide +kernel
theorem dX3_fitsTrain_107 : decode cX3_fitsTrain 107 = .ok (.iconst 1, 1) := by decide +kernel
theorem dX3_fitsTrain_108 : decode cX3_fitsTrain 108 = .ok (.goto 4, 3) := by decide +kernel
theorem dX3_fitsTrain_111 : decode cX3_fitsTrain 111 = .ok (.iconst 0, 1) := by decide +kernel
theorem dX3_fitsTrain_112 : decode cX3_fitsTrain 112 = .ok (.ireturn, 1) := by decide +kernel
def Re_fitsTrain (w : Wd) (a1 : Int32) (a2 : Int32) : Int32 := (if a1 = (0 : Int32) then (La_hasStation_8 w a2) else (if a1 = (1 : Int32) then (if (La_hasStation_8 w a2) = (0 : Int32) then (0 : Int32) else (if a2 = (w.1 12 0) then (0 : Int32) else (1 : Int32))) else (if a1 = (2 : Int32) then (Nt_within w a2 (1 : Int32) (4 : Int32)) else (if a1 = (3 : Int32) then (if (w.1 12 2) ≤ a2 then (0 : Int32) else (1 : Int32)) else (if a1 = (4 : Int32) then (Nt_within w a2 (1 : Int32) (2 : Int32)) else (if (3 : Int32) ≤ a2 then (0 : Int32) else (1 : Int32)))))))
set_option maxRecDepth 100000 in
set_option maxHeartbeats 4000000 in
theorem ct_Re_fitsTrain {l : Launch} {g : GG} {σ : Sd} (hg : OKg g σ) (hb : σ.2.1 = true) (hx : ∀ c ∈ ([7, 8, 12] : List Nat), c ∈ σ.1) (w : Wd) (a1 : Int32) (a2 : Int32) : CT l g σ yX3_fitsTrain cX3_fitsTrain 3 (some .boolean) 1 22 [.ref (gA g 7), .int a1, .int a2] w (some (.int (Re_fitsTrain w a1 a2))) w := by
  refine ct_of (rt := (rtP w)) (res := some (Re_fitsTrain w a1 a2)) (q := (Re_fitsTrain w a1 a2)) (own := RX3) (b := true) hg hb hx (by decide) rfl (Nat.le_of_ble_eq_true rfl) rfl (fun K e1 e2 e3 F => ?_)
  subst e1 e2 e3
  rw [Re_fitsTrain]
  show N K _ _ w 0 [(0, .ref (gA (cg K) 7)), (1, .int a1), (2, .int a2)] []
  refine n_iload_n F dX3_fitsTrain_0 rfl 1 rfl ?_
  by_cases e1 : a1 = (0 : Int32)
  · rw [if_pos e1]
    refine n_tabIn F (0 : Int32) 36 dX3_fitsTrain_1 e1 (by decide) (by decide) rfl (by decide) ?_
    refine n_aload_n F dX3_fitsTrain_36 rfl 0 rfl ?_
    refine n_get F ck_3 lf_RX3_12 (by decide) fg_7_1 (by decide) dX3_fitsTrain_37 ?_
    refine n_iload_n F dX3_fitsTrain_40 rfl 2 rfl ?_
    refine n_callVi F cb_X1_hasStation lm_RX3_114 ob_8 (by decide) ⟨_, _, rfl⟩ (ct_La_hasStation_8 (fx_ok F) (fx_sd F) (fx_ix F rfl) w a2) rfl rfl (Nat.le_of_ble_eq_true rfl) ⟨Nat.le_of_ble_eq_true rfl, Nat.le_of_ble_eq_true rfl⟩ dX3_fitsTrain_41 ?_
    exact n_zret F .boolean rfl (bz_n (bz_La_hasStation_8 w a2)) rfl dX3_fitsTrain_44
  rw [if_neg e1]
  by_cases e2 : a1 = (1 : Int32)
  · rw [if_pos e2]
    refine n_tabIn F (1 : Int32) 45 dX3_fitsTrain_1 e2 (by decide) (by decide) rfl (by decide) ?_
    refine n_aload_n F dX3_fitsTrain_45 rfl 0 rfl ?_
    refine n_get F ck_3 lf_RX3_12 (by decide) fg_7_1 (by decide) dX3_fitsTrain_46 ?_
    refine n_iload_n F dX3_fitsTrain_49 rfl 2 rfl ?_
    refine n_callVi F cb_X1_hasStation lm_RX3_114 ob_8 (by decide) ⟨_, _, rfl⟩ (ct_La_hasStation_8 (fx_ok F) (fx_sd F) (fx_ix F rfl) w a2) rfl rfl (Nat.le_of_ble_eq_true rfl) ⟨Nat.le_of_ble_eq_true rfl, Nat.le_of_ble_eq_true rfl⟩ dX3_fitsTrain_50 ?_
    refine n_if_eq F 70 dX3_fitsTrain_53 (by decide) (fun e3 => ?_) (fun e3 => ?_)
    · rw [if_pos e3]
      refine n_iconst F (0 : Int32) dX3_fitsTrain_70 (by decide) ?_
      exact n_zret F .boolean rfl rfl rfl dX3_fitsTrain_71
    rw [if_neg e3]
    refine n_iload_n F dX3_fitsTrain_56 rfl 2 rfl ?_
    refine n_aload_n F dX3_fitsTrain_57 rfl 0 rfl ?_
    refine n_get F ck_3 lf_RX3_22 (by decide) fg_7_3 (by decide) dX3_fitsTrain_58 ?_
    refine n_iconst F (0 : Int32) dX3_fitsTrain_61 (by decide) ?_
    refine n_iald F ar_12 (by decide) (ib_c (n := 6) (by decide)) (j := 0) (by decide) dX3_fitsTrain_62 ?_
    refine n_icmp_eq F 70 dX3_fitsTrain_63 (by decide) (fun e4 => ?_) (fun e4 => ?_)
    · rw [if_pos e4]
      refine n_iconst F (0 : Int32) dX3_fitsTrain_70 (by decide) ?_
      exact n_zret F .boolean rfl rfl rfl dX3_fitsTrain_71
    rw [if_neg e4]
    refine n_iconst F (1 : Int32) dX3_fitsTrain_66 (by decide) ?_
    refine n_goto F 71 dX3_fitsTrain_67 (by decide) ?_
    exact n_zret F .boolean rfl rfl rfl dX3_fitsTrain_71
  rw [if_neg e2]
  by_cases e5 : a1 = (2 : Int32)
  · rw [if_pos e5]
    refine n_tabIn F (2 : Int32) 72 dX3_fitsTrain_1 e5 (by decide) (by decide) rfl (by decide) ?_
    refine n_iload_n F dX3_fitsTrain_72 rfl 2 rfl ?_
    refine n_iconst F (1 : Int32) dX3_fitsTrain_73 (by decide) ?_
    refine n_iconst F (4 : Int32) dX3_fitsTrain_74 (by decide) ?_
    refine n_callSNi F cb_X7_within lm_RX3_83 (ct_Nt_within (fx_ok F) (fx_sd F) (fx_ix F rfl) w a2 (1 : Int32) (4 : Int32)) rfl rfl (Nat.le_of_ble_eq_true rfl) ⟨Nat.le_of_ble_eq_true rfl, Nat.le_of_ble_eq_true rfl⟩ dX3_fitsTrain_75 ?_
    exact n_zret F .boolean rfl (bz_n (bz_Nt_within w a2 (1 : Int32) (4 : Int32))) rfl dX3_fitsTrain_78
  rw [if_neg e5]
  by_cases e6 : a1 = (3 : Int32)
  · rw [if_pos e6]
    refine n_tabIn F (3 : Int32) 79 dX3_fitsTrain_1 e6 (by decide) (by decide) rfl (by decide) ?_
    refine n_iload_n F dX3_fitsTrain_79 rfl 2 rfl ?_
    refine n_aload_n F dX3_fitsTrain_80 rfl 0 rfl ?_
    refine n_get F ck_3 lf_RX3_22 (by decide) fg_7_3 (by decide) dX3_fitsTrain_81 ?_
    refine n_iconst F (2 : Int32) dX3_fitsTrain_84 (by decide) ?_
    refine n_iald F ar_12 (by decide) (ib_c (n := 6) (by decide)) (j := 2) (by decide) dX3_fitsTrain_85 ?_
    refine n_icmp_ge F 93 dX3_fitsTrain_86 (by decide) (fun e7 => ?_) (fun e7 => ?_)
    · rw [if_pos e7]
      refine n_iconst F (0 : Int32) dX3_fitsTrain_93 (by decide) ?_
      exact n_zret F .boolean rfl rfl rfl dX3_fitsTrain_94
    rw [if_neg e7]
    refine n_iconst F (1 : Int32) dX3_fitsTrain_89 (by decide) ?_
    refine n_goto F 94 dX3_fitsTrain_90 (by decide) ?_
    exact n_zret F .boolean rfl rfl rfl dX3_fitsTrain_94
  rw [if_neg e6]
  by_cases e8 : a1 = (4 : Int32)
  · rw [if_pos e8]
    refine n_tabIn F (4 : Int32) 95 dX3_fitsTrain_1 e8 (by decide) (by decide) rfl (by decide) ?_
    refine n_iload_n F dX3_fitsTrain_95 rfl 2 rfl ?_
    refine n_iconst F (1 : Int32) dX3_fitsTrain_96 (by decide) ?_
    refine n_iconst F (2 : Int32) dX3_fitsTrain_97 (by decide) ?_
    refine n_callSNi F cb_X7_within lm_RX3_83 (ct_Nt_within (fx_ok F) (fx_sd F) (fx_ix F rfl) w a2 (1 : Int32) (2 : Int32)) rfl rfl (Nat.le_of_ble_eq_true rfl) ⟨Nat.le_of_ble_eq_true rfl, Nat.le_of_ble_eq_true rfl⟩ dX3_fitsTrain_98 ?_
    exact n_zret F .boolean rfl (bz_n (bz_Nt_within w a2 (1 : Int32) (2 : Int32))) rfl dX3_fitsTrain_101
  rw [if_neg e8]
  have hsw := (⟨lv_neT e1 (a := 0) rfl, lv_neT e2 (a := 1) rfl, lv_neT e5 (a := 2) rfl, lv_neT e6 (a := 3) rfl, lv_neT e8 (a := 4) rfl⟩ : ¬ (a1).toInt = 0 ∧ ¬ (a1).toInt = 1 ∧ ¬ (a1).toInt = 2 ∧ ¬ (a1).toInt = 3 ∧ ¬ (a1).toInt = 4)
  refine n_tabOut F 102 dX3_fitsTrain_1 (by omega) (by decide) ?_
  refine n_iload_n F dX3_fitsTrain_102 rfl 2 rfl ?_
  refine n_iconst F (3 : Int32) dX3_fitsTrain_103 (by decide) ?_
  refine n_icmp_ge F 111 dX3_fitsTrain_104 (by decide) (fun e9 => ?_) (fun e9 => ?_)
  · rw [if_pos e9]
    refine n_iconst F (0 : Int32) dX3_fitsTrain_111 (by decide) ?_
    exact n_zret F .boolean rfl rfl rfl dX3_fitsTrain_112
  rw [if_neg e9]
  refine n_iconst F (1 : Int32) dX3_fitsTrain_107 (by decide) ?_
  refine n_goto F 112 dX3_fitsTrain_108 (by decide) ?_
  exact n_zret F .boolean rfl rfl rfl dX3_fitsTrain_112
theorem bz_Re_fitsTrain (w : Wd) (a1 : Int32) (a2 : Int32) : (Re_fitsTrain w a1 a2) &&& (1 : Int32) = (Re_fitsTrain w a1 a2) := by
  unfold Re_fitsTrain
  first | exact bz_auto | (repeat' split) <;> first | rfl | assumption | exact (bz_La_hasStation_8 w a2) | exact (bz_Nt_within w a2 (1 : Int32) (4 : Int32)) | exact (bz_Nt_within w a2 (1 : Int32) (2 : Int32))
theorem dX3_fits_0 : decode cX3_fits 0 = .ok (.iload_n 1, 1) := by decide +kernel
theorem dX3_fits_1 : decode cX3_fits 1 = .ok (.tableswitch 79 1 5 #[35, 43, 50, 59, 71], 35) := by decide +kernel
theorem dX3_fits_36 : decode cX3_fits 36 = .ok (.iload_n 3, 1) := by decide +kernel
theorem dX3_fits_37 : decode cX3_fits 37 = .ok (.iconst 2, 1) := by decide +kernel
theorem dX3_fits_38 : decode cX3_fits 38 = .ok (.bipush 7, 2) := by decide +kernel
theorem dX3_fits_40 : decode cX3_fits 40 = .ok (.invokestatic 83, 3) := by decide +kernel
theorem dX3_fits_43 : decode cX3_fits 43 = .ok (.ireturn, 1) := by decide +kernel
theorem dX3_fits_44 : decode cX3_fits 44 = .ok (.aload_n 0, 1) := by decide +kernel
theorem dX3_fits_45 : decode cX3_fits 45 = .ok (.iload_n 2, 1) := by decide +kernel
theorem dX3_fits_46 : decode cX3_fits 46 = .ok (.iload_n 3, 1) := by decide +kernel
theorem dX3_fits_47 : decode cX3_fits 47 = .ok (.invokevirtual 110, 3) := by decide +kernel
theorem dX3_fits_50 : decode cX3_fits 50 = .ok (.ireturn, 1) := by decide +kernel
theorem dX3_fits_51 : decode cX3_fits 51 = .ok (.aload_n 0, 1) := by decide +kernel
theorem dX3_fits_52 : decode cX3_fits 52 = .ok (.getfield 12, 3) := by decide +kernel
theorem dX3_fits_55 : decode cX3_fits 55 = .ok (.iload_n 3, 1) := by decide +kernel
theorem dX3_fits_56 : decode cX3_fits 56 = .ok (.invokevirtual 114, 3) := by decide +kernel
theorem dX3_fits_59 : decode cX3_fits 59 = .ok (.ireturn, 1) := by decide +kernel
theorem dX3_fits_60 : decode cX3_fits 60 = .ok (.iload_n 3, 1) := by decide +kernel
theorem dX3_fits_61 : decode cX3_fits 61 = .ok (.bipush 9, 2) := by decide +kernel
theorem dX3_fits_63 : decode cX3_fits 63 = .ok (.if_icmp .gt 7, 3) := by decide +kernel
theorem dX3_fits_66 : decode cX3_fits 66 = .ok (.iconst 1, 1) := by decide +kernel
theorem dX3_fits_67 : decode cX3_fits 67 = .ok (.goto 4, 3) := by decide +kernel
theorem dX3_fits_70 : decode cX3_fits 70 = .ok (.iconst 0, 1) := by decide +kernel
theorem dX3_fits_71 : decode cX3_fits 71 = .ok (.ireturn, 1) := by decide +kernel
theorem dX3_fits_72 : decode cX3_fits 72 = .ok (.iload_n 3, 1) := by decide +kernel
theorem dX3_fits_73 : decode cX3_fits 73 = .ok (.iconst 1, 1) := by decide +kernel
theorem dX3_fits_74 : decode cX3_fits 74 = .ok (.bipush 9, 2) := by decide +kernel
theorem dX3_fits_76 : decode cX3_fits 76 = .ok (.invokestatic 83, 3) := by decide +kernel
theorem dX3_fits_79 : decode cX3_fits 79 = .ok (.ireturn, 1) := by decide +kernel
theorem dX3_fits_80 : decode cX3_fits 80 = .ok (.iload_n 2, 1) := by decide +kernel
theorem dX3_fits_81 : decode cX3_fits 81 = .ok (.ifCond .ne 10, 3) := by decide +kernel
theorem dX3_fits_84 : decode cX3_fits 84 = .ok (.iload_n 3, 1) := by decide +kernel
theorem dX3_fits_85 : decode cX3_fits 85 = .ok (.invokestatic 118, 3) := by decide +kernel
theorem dX3_fits_88 : decode cX3_fits 88 = .ok (.goto 11, 3) := by decide +kernel
theorem dX3_fits_91 : decode cX3_fits 91 = .ok (.aload_n 0, 1) := by decide +kernel
theorem dX3_fits_92 : decode cX3_fits 92 = .ok (.getfield 12, 3) := by decide +kernel
theorem dX3_fits_95 : decode cX3_fits 95 = .ok (.iload_n 3, 1) := by decide +kernel
theorem dX3_fits_96 : decode cX3_fits 96 = .ok (.invokevirtual 114, 3) := by decide +kernel
theorem dX3_fits_99 : decode cX3_fits 99 = .ok (.ireturn, 1) := by decide +kernel
def Re_fits (w : Wd) (a1 : Int32) (a2 : Int32) (a3 : Int32) : Int32 := (if a1 = (1 : Int32) then (Nt_within w a3 (2 : Int32) (7 : Int32)) else (if a1 = (2 : Int32) then (Re_fitsTrain w a2 a3) else (if a1 = (3 : Int32) then (La_hasStation_8 w a3) else (if a1 = (4 : Int32) then (if (9 : Int32) < a3 then (0 : Int32) else (1 : Int32)) else (if a1 = (5 : Int32) then (Nt_within w a3 (1 : Int32) (9 : Int32)) else (if a2 = (0 : Int32) then (Nt_isSeeker w a3) else (La_hasStation_8 w a3)))))))
set_option maxRecDepth 100000 in
set_option maxHeartbeats 4000000 in
theorem ct_Re_fits {l : Launch} {g : GG} {σ : Sd} (hg : OKg g σ) (hb : σ.2.1 = true) (hx : ∀ c ∈ ([7, 8, 12] : List Nat), c ∈ σ.1) (w : Wd) (a1 : Int32) (a2 : Int32) (a3 : Int32) : CT l g σ yX3_fits cX3_fits 4 (some .boolean) 2 44 [.ref (gA g 7), .int a1, .int a2, .int a3] w (some (.int (Re_fits w a1 a2 a3))) w := by
  refine ct_of (rt := (rtP w)) (res := some (Re_fits w a1 a2 a3)) (q := (Re_fits w a1 a2 a3)) (own := RX3) (b := true) hg hb hx (by decide) rfl (Nat.le_of_ble_eq_true rfl) rfl (fun K e1 e2 e3 F => ?_)
  subst e1 e2 e3
  rw [Re_fits]
  show N K _ _ w 0 [(0, .ref (gA (cg K) 7)), (1, .int a1), (2, .int a2), (3, .int a3)] []
  refine n_iload_n F dX3_fits_0 rfl 1 rfl ?_
  by_cases e1 : a1 = (1 : Int32)
  · rw [if_pos e1]
    refine n_tabIn F (1 : Int32) 36 dX3_fits_1 e1 (by decide) (by decide) rfl (by decide) ?_
    refine n_iload_n F dX3_fits_36 rfl 3 rfl ?_
    refine n_iconst F (2 : Int32) dX3_fits_37 (by decide) ?_
    refine n_bipush F (7 : Int32) dX3_fits_38 (by decide) ?_
    refine n_callSNi F cb_X7_within lm_RX3_83 (ct_Nt_within (fx_ok F) (fx_sd F) (fx_ix F rfl) w a3 (2 : Int32) (7 : Int32)) rfl rfl (Nat.le_of_ble_eq_true rfl) ⟨Nat.le_of_ble_eq_true rfl, Nat.le_of_ble_eq_true rfl⟩ dX3_fits_40 ?_
    exact n_zret F .boolean rfl (bz_n (bz_Nt_within w a3 (2 : Int32) (7 : Int32))) rfl dX3_fits_43
  rw [if_neg e1]
  by_cases e2 : a1 = (2 : Int32)
  · rw [if_pos e2]
    refine n_tabIn F (2 : Int32) 44 dX3_fits_1 e2 (by decide) (by decide) rfl (by decide) ?_
    refine n_aload_n F dX3_fits_44 rfl 0 rfl ?_
    refine n_iload_n F dX3_fits_45 rfl 2 rfl ?_
    refine n_iload_n F dX3_fits_46 rfl 3 rfl ?_
    refine n_callVi F cb_X3_fitsTrain lm_RX3_110 ob_7 (by decide) ⟨_, _, rfl⟩ (ct_Re_fitsTrain (fx_ok F) (fx_sd F) (fx_ix F rfl) w a2 a3) rfl rfl (Nat.le_of_ble_eq_true rfl) ⟨Nat.le_of_ble_eq_true rfl, Nat.le_of_ble_eq_true rfl⟩ dX3_fits_47 ?_
    exact n_zret F .boolean rfl (bz_n (bz_Re_fitsTrain w a2 a3)) rfl dX3_fits_50
  rw [if_neg e2]
  by_cases e3 : a1 = (3 : Int32)
  · rw [if_pos e3]
    refine n_tabIn F (3 : Int32) 51 dX3_fits_1 e3 (by decide) (by decide) rfl (by decide) ?_
    refine n_aload_n F dX3_fits_51 rfl 0 rfl ?_
    refine n_get F ck_3 lf_RX3_12 (by decide) fg_7_1 (by decide) dX3_fits_52 ?_
    refine n_iload_n F dX3_fits_55 rfl 3 rfl ?_
    refine n_callVi F cb_X1_hasStation lm_RX3_114 ob_8 (by decide) ⟨_, _, rfl⟩ (ct_La_hasStation_8 (fx_ok F) (fx_sd F) (fx_ix F rfl) w a3) rfl rfl (Nat.le_of_ble_eq_true rfl) ⟨Nat.le_of_ble_eq_true rfl, Nat.le_of_ble_eq_true rfl⟩ dX3_fits_56 ?_
    exact n_zret F .boolean rfl (bz_n (bz_La_hasStation_8 w a3)) rfl dX3_fits_59
  rw [if_neg e3]
  by_cases e4 : a1 = (4 : Int32)
  · rw [if_pos e4]
    refine n_tabIn F (4 : Int32) 60 dX3_fits_1 e4 (by decide) (by decide) rfl (by decide) ?_
    refine n_iload_n F dX3_fits_60 rfl 3 rfl ?_
    refine n_bipush F (9 : Int32) dX3_fits_61 (by decide) ?_
    refine n_icmp_gt F 70 dX3_fits_63 (by decide) (fun e5 => ?_) (fun e5 => ?_)
    · rw [if_pos e5]
      refine n_iconst F (0 : Int32) dX3_fits_70 (by decide) ?_
      exact n_zret F .boolean rfl rfl rfl dX3_fits_71
    rw [if_neg e5]
    refine n_iconst F (1 : Int32) dX3_fits_66 (by decide) ?_
    refine n_goto F 71 dX3_fits_67 (by decide) ?_
    exact n_zret F .boolean rfl rfl rfl dX3_fits_71
  rw [if_neg e4]
  by_cases e6 : a1 = (5 : Int32)
  · rw [if_pos e6]
    refine n_tabIn F (5 : Int32) 72 dX3_fits_1 e6 (by decide) (by decide) rfl (by decide) ?_
    refine n_iload_n F dX3_fits_72 rfl 3 rfl ?_
    refine n_iconst F (1 : Int32) dX3_fits_73 (by decide) ?_
    refine n_bipush F (9 : Int32) dX3_fits_74 (by decide) ?_
    refine n_callSNi F cb_X7_within lm_RX3_83 (ct_Nt_within (fx_ok F) (fx_sd F) (fx_ix F rfl) w a3 (1 : Int32) (9 : Int32)) rfl rfl (Nat.le_of_ble_eq_true rfl) ⟨Nat.le_of_ble_eq_true rfl, Nat.le_of_ble_eq_true rfl⟩ dX3_fits_76 ?_
    exact n_zret F .boolean rfl (bz_n (bz_Nt_within w a3 (1 : Int32) (9 : Int32))) rfl dX3_fits_79
  rw [if_neg e6]
  have hsw := (⟨lv_neT e1 (a := 1) rfl, lv_neT e2 (a := 2) rfl, lv_neT e3 (a := 3) rfl, lv_neT e4 (a := 4) rfl, lv_neT e6 (a := 5) rfl⟩ : ¬ (a1).toInt = 1 ∧ ¬ (a1).toInt = 2 ∧ ¬ (a1).toInt = 3 ∧ ¬ (a1).toInt = 4 ∧ ¬ (a1).toInt = 5)
  refine n_tabOut F 80 dX3_fits_1 (by omega) (by decide) ?_
  refine n_iload_n F dX3_fits_80 rfl 2 rfl ?_
  refine n_if_ne F 91 dX3_fits_81 (by decide) (fun e7 => ?_) (fun e7 => ?_)
  · rw [if_neg e7]
    refine n_aload_n F dX3_fits_91 rfl 0 rfl ?_
    refine n_get F ck_3 lf_RX3_12 (by decide) fg_7_1 (by decide) dX3_fits_92 ?_
    refine n_iload_n F dX3_fits_95 rfl 3 rfl ?_
    refine n_callVi F cb_X1_hasStation lm_RX3_114 ob_8 (by decide) ⟨_, _, rfl⟩ (ct_La_hasStation_8 (fx_ok F) (fx_sd F) (fx_ix F rfl) w a3) rfl rfl (Nat.le_of_ble_eq_true rfl) ⟨Nat.le_of_ble_eq_true rfl, Nat.le_of_ble_eq_true rfl⟩ dX3_fits_96 ?_
    exact n_zret F .boolean rfl (bz_n (bz_La_hasStation_8 w a3)) rfl dX3_fits_99
  rw [if_pos e7]
  refine n_iload_n F dX3_fits_84 rfl 3 rfl ?_
  refine n_callSNi F cb_X7_isSeeker lm_RX3_118 (ct_Nt_isSeeker (fx_ok F) (fx_sd F) (fx_ix F rfl) w a3) rfl rfl (Nat.le_of_ble_eq_true rfl) ⟨Nat.le_of_ble_eq_true rfl, Nat.le_of_ble_eq_true rfl⟩ dX3_fits_85 ?_
  refine n_goto F 99 dX3_fits_88 (by decide) ?_
  exact n_zret F .boolean rfl (bz_n (bz_Nt_isSeeker w a3)) rfl dX3_fits_99
theorem bz_Re_fits (w : Wd) (a1 : Int32) (a2 : Int32) (a3 : Int32) : (Re_fits w a1 a2 a3) &&& (1 : Int32) = (Re_fits w a1 a2 a3) := by
  unfold Re_fits
  first | exact bz_auto | (repeat' split) <;> first | rfl | assumption | exact (bz_Nt_within w a3 (2 : Int32) (7 : Int32)) | exact (bz_Re_fitsTrain w a2 a3) | exact (bz_La_hasStation_8 w a3) | exact (bz_Nt_within w a3 (1 : Int32) (9 : Int32)) | exact (bz_Nt_isSeeker w a3)
