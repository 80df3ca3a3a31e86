theorem dX3_drawTrain_0 : decode cX3_drawTrain 0 = .ok (.iconst 0, 1) := by decide +kernel
theorem dX3_drawTrain_1 : decode cX3_drawTrain 1 = .ok (.istore_n 1, 1) := by decide +kernel
theorem dX3_drawTrain_2 : decode cX3_drawTrain 2 = .ok (.iload_n 1, 1) := by decide +kernel
theorem dX3_drawTrain_3 : decode cX3_drawTrain 3 = .ok (.bipush 6, 2) := by decide +kernel
theorem dX3_drawTrain_5 : decode cX3_drawTrain 5 = .ok (.if_icmp .ge 30, 3) := by decide +kernel
theorem dX3_drawTrain_8 : decode cX3_drawTrain 8 = .ok (.aload_n 0, 1) := by decide +kernel
theorem dX3_drawTrain_9 : decode cX3_drawTrain 9 = .ok (.getfield 12, 3) := by decide +kernel
theorem dX3_drawTrain_12 : decode cX3_drawTrain 12 = .ok (.aload_n 0, 1) := by decide +kernel
theorem dX3_drawTrain_13 : decode cX3_drawTrain 13 = .ok (.getfield 12, 3) := by decide +kernel
theorem dX3_drawTrain_16 : decode cX3_drawTrain 16 = .ok (.getfield 138, 3) := by decide +kernel
theorem dX3_drawTrain_19 : decode cX3_drawTrain 19 = .ok (.iload_n 1, 1) := by decide +kernel
theorem dX3_drawTrain_20 : decode cX3_drawTrain 20 = .ok (.aload_n 0, 1) := by decide +kernel
theorem dX3_drawTrain_21 : decode cX3_drawTrain 21 = .ok (.getfield 22, 3) := by decide +kernel
theorem dX3_drawTrain_24 : decode cX3_drawTrain 24 = .ok (.iload_n 1, 1) := by decide +kernel
theorem dX3_drawTrain_25 : decode cX3_drawTrain 25 = .ok (.iaload, 1) := by decide +kernel
theorem dX3_drawTrain_26 : decode cX3_drawTrain 26 = .ok (.invokevirtual 141, 3) := by decide +kernel
theorem dX3_drawTrain_29 : decode cX3_drawTrain 29 = .ok (.iinc 1 1, 3) := by decide +kernel
theorem dX3_drawTrain_32 : decode cX3_drawTrain 32 = .ok (.goto (-30), 3) := by decide +kernel
theorem dX3_drawTrain_35 : decode cX3_drawTrain 35 = .ok (.aload_n 0, 1) := by decide +kernel
theorem dX3_drawTrain_36 : decode cX3_drawTrain 36 = .ok (.getfield 12, 3) := by decide +kernel
theorem dX3_drawTrain_39 : decode cX3_drawTrain 39 = .ok (.dup, 1) := by decide +kernel
theorem dX3_drawTrain_40 : decode cX3_drawTrain 40 = .ok (.getfield 138, 3) := by decide +kernel
theorem dX3_drawTrain_43 : decode cX3_drawTrain 43 = .ok (.iconst 1, 1) := by decide +kernel
theorem dX3_drawTrain_44 : decode cX3_drawTrain 44 = .ok (.iadd, 1) := by decide +kernel
theorem dX3_drawTrain_45 : decode cX3_drawTrain 45 = .ok (.putfield 138, 3) := by decide +kernel
theorem dX3_drawTrain_48 : decode cX3_drawTrain 48 = .ok (.return_, 1) := by decide +kernel
def Re_drawTrain_L2 (k35 : Wd → Option Wd) : Nat → Wd → Int32 → Option Wd
  | 0, _, _ => none
  | n + 1, w, v1 => (if (6 : Int32) ≤ v1 then (k35 w) else (if ib v1 6 = true then (Option.bind (La_setPart w (w.1 8 1) v1 (w.1 12 (Int32.toNatClampNeg v1))) (fun q3 => (Re_drawTrain_L2 k35 n q3 (v1 + (1 : Int32))))) else none))
set_option maxRecDepth 100000 in
set_option maxHeartbeats 4000000 in
theorem Re_drawTrain_L2_ok {K : Ctx} (F : Fx K cX3_drawTrain 2 RX3 none 2 45 true [7, 8, 9, 12]) {k35 : Wd → Option Wd} (h35 : ∀ (w : Wd), N K rtV (k35 w) w 35 [(0, .ref (gA (cg K) 7))] []) : ∀ (n : Nat) (w : Wd) (v1 : Int32), N K rtV (Re_drawTrain_L2 k35 n w v1) w 2 [(0, .ref (gA (cg K) 7)), (1, .int v1)] [] := by
  intro n
  induction n with
  | zero => intro _ _; exact n_none
  | succ n ih =>
    intro w v1
    rw [Re_drawTrain_L2]
    refine n_iload_n F dX3_drawTrain_2 rfl 1 rfl ?_
    refine n_bipush F (6 : Int32) dX3_drawTrain_3 (by decide) ?_
    refine n_icmp_ge F 35 dX3_drawTrain_5 (by decide) (fun e1 => ?_) (fun e1 => ?_)
    · rw [if_pos e1]
      exact n_sub [0] rfl (h35 _)
    rw [if_neg e1]
    refine n_aload_n F dX3_drawTrain_8 rfl 0 rfl ?_
    refine n_get F ck_3 lf_RX3_12 (by decide) fg_7_1 (by decide) dX3_drawTrain_9 ?_
    refine n_aload_n F dX3_drawTrain_12 rfl 0 rfl ?_
    refine n_get F ck_3 lf_RX3_12 (by decide) fg_7_1 (by decide) dX3_drawTrain_13 ?_
    refine n_get F ck_1 lf_RX3_138 (by decide) fg_8_1 (by decide) dX3_drawTrain_16 ?_
    refine n_iload_n F dX3_drawTrain_19 rfl 1 rfl ?_
    refine n_aload_n F dX3_drawTrain_20 rfl 0 rfl ?_
    refine n_get F ck_3 lf_RX3_22 (by decide) fg_7_3 (by decide) dX3_drawTrain_21 ?_
    refine n_iload_n F dX3_drawTrain_24 rfl 1 rfl ?_
    refine n_chk (fun e2 => ?_)
    refine n_iald F ar_12 (by decide) (ib_in e2) rfl dX3_drawTrain_25 ?_
    refine n_bind (fun q3 hq3 => ?_)
    refine n_callVv F cb_X1_setPart lm_RX3_141 ob_8 (by decide) ⟨_, _, rfl⟩ (ct_La_setPart (fx_ok F) (fx_sd F) (fx_ix F rfl) w (w.1 8 1) v1 (w.1 12 (Int32.toNatClampNeg v1)) hq3) rfl rfl (Nat.le_of_ble_eq_true rfl) ⟨Nat.le_of_ble_eq_true rfl, Nat.le_of_ble_eq_true rfl⟩ dX3_drawTrain_26 ?_
    refine n_iinc F (v1 + (1 : Int32)) (lv' := [(1, .int (v1 + (1 : Int32))), (0, .ref (gA (cg K) 7))]) dX3_drawTrain_29 1 rfl rfl (by decide) rfl ?_
    refine n_goto F 2 dX3_drawTrain_32 (by decide) ?_
    exact n_sub [1, 0] rfl (ih _ _)
def Re_drawTrain_B35 (w : Wd) : Option Wd := some (sI w 8 1 ((w.1 8 1) + (1 : Int32)))
set_option maxRecDepth 100000 in
set_option maxHeartbeats 4000000 in
theorem Re_drawTrain_B35_ok {K : Ctx} (F : Fx K cX3_drawTrain 2 RX3 none 2 45 true [7, 8, 9, 12]) (w : Wd) : N K rtV (Re_drawTrain_B35 w) w 35 [(0, .ref (gA (cg K) 7))] [] := by
  rw [Re_drawTrain_B35]
  refine n_aload_n F dX3_drawTrain_35 rfl 0 rfl ?_
  refine n_get F ck_3 lf_RX3_12 (by decide) fg_7_1 (by decide) dX3_drawTrain_36 ?_
  refine n_dup F dX3_drawTrain_39 rfl ?_
  refine n_get F ck_1 lf_RX3_138 (by decide) fg_8_1 (by decide) dX3_drawTrain_40 ?_
  refine n_iconst F (1 : Int32) dX3_drawTrain_43 (by decide) ?_
  refine n_iadd F dX3_drawTrain_44 ?_
  refine n_put F ck_1 lf_RX3_138 (by decide) rfl fp_8_1 (by decide) rfl rfl dX3_drawTrain_45 ?_
  exact n_vret F rfl rfl dX3_drawTrain_48
def Re_drawTrain (w : Wd) : Option Wd := (Re_drawTrain_L2 Re_drawTrain_B35 FU w (0 : Int32))
set_option maxRecDepth 100000 in
set_option maxHeartbeats 4000000 in
theorem ct_Re_drawTrain {l : Launch} {g : GG} {σ : Sd} (hg : OKg g σ) (hb : σ.2.1 = true) (hx : ∀ c ∈ ([7, 8, 9, 12] : List Nat), c ∈ σ.1) (w : Wd) {q : Wd} (hq : Re_drawTrain w = some q) : CT l g σ yX3_drawTrain cX3_drawTrain 2 none 2 45 [.ref (gA g 7)] w none q := by
  refine ct_of (rt := rtV) (res := Re_drawTrain w) (q := q) (own := RX3) (b := true) hg hb hx (by decide) rfl (Nat.le_of_ble_eq_true rfl) hq (fun K e1 e2 e3 F => ?_)
  subst e1 e2 e3
  rw [Re_drawTrain]
  show N K _ _ w 0 [(0, .ref (gA (cg K) 7))] []
  refine n_iconst F (0 : Int32) dX3_drawTrain_0 (by decide) ?_
  refine n_istore_n F (lv' := [(1, .int (0 : Int32)), (0, .ref (gA (cg K) 7))]) dX3_drawTrain_1 rfl (by decide) rfl ?_
  exact n_sub [1, 0] rfl (Re_drawTrain_L2_ok F (Re_drawTrain_B35_ok F) FU _ _)
theorem dX3_draw_0 : decode cX3_draw 0 = .ok (.iload_n 1, 1) := by decide +kernel
theorem dX3_draw_1 : decode cX3_draw 1 = .ok (.tableswitch 120 1 5 #[35, 51, 58, 74, 104], 35) := by decide +kernel
theorem dX3_draw_36 : decode cX3_draw 36 = .ok (.aload_n 0, 1) := by decide +kernel
theorem dX3_draw_37 : decode cX3_draw 37 = .ok (.getfield 12, 3) := by decide +kernel
theorem dX3_draw_40 : decode cX3_draw 40 = .ok (.aload_n 0, 1) := by decide +kernel
theorem dX3_draw_41 : decode cX3_draw 41 = .ok (.getfield 22, 3) := by decide +kernel
theorem dX3_draw_44 : decode cX3_draw 44 = .ok (.iconst 0, 1) := by decide +kernel
theorem dX3_draw_45 : decode cX3_draw 45 = .ok (.iaload, 1) := by decide +kernel
theorem dX3_draw_46 : decode cX3_draw 46 = .ok (.invokevirtual 121, 3) := by decide +kernel
theorem dX3_draw_49 : decode cX3_draw 49 = .ok (.goto 91, 3) := by decide +kernel
theorem dX3_draw_52 : decode cX3_draw 52 = .ok (.aload_n 0, 1) := by decide +kernel
theorem dX3_draw_53 : decode cX3_draw 53 = .ok (.invokevirtual 124, 3) := by decide +kernel
theorem dX3_draw_56 : decode cX3_draw 56 = .ok (.goto 84, 3) := by decide +kernel
theorem dX3_draw_59 : decode cX3_draw 59 = .ok (.aload_n 0, 1) := by decide +kernel
theorem dX3_draw_60 : decode cX3_draw 60 = .ok (.getfield 12, 3) := by decide +kernel
theorem dX3_draw_63 : decode cX3_draw 63 = .ok (.aload_n 0, 1) := by decide +kernel
theorem dX3_draw_64 : decode cX3_draw 64 = .ok (.getfield 22, 3) := by decide +kernel
theorem dX3_draw_67 : decode cX3_draw 67 = .ok (.iconst 0, 1) := by decide +kernel
theorem dX3_draw_68 : decode cX3_draw 68 = .ok (.iaload, 1) := by decide +kernel
theorem dX3_draw_69 : decode cX3_draw 69 = .ok (.putfield 127, 3) := by decide +kernel
theorem dX3_draw_72 : decode cX3_draw 72 = .ok (.goto 68, 3) := by decide +kernel
theorem dX3_draw_75 : decode cX3_draw 75 = .ok (.iconst 0, 1) := by decide +kernel
theorem dX3_draw_76 : decode cX3_draw 76 = .ok (.istore_n 2, 1) := by decide +kernel
theorem dX3_draw_77 : decode cX3_draw 77 = .ok (.iload_n 2, 1) := by decide +kernel
theorem dX3_draw_78 : decode cX3_draw 78 = .ok (.iconst 3, 1) := by decide +kernel
theorem dX3_draw_79 : decode cX3_draw 79 = .ok (.if_icmp .ge 23, 3) := by decide +kernel
theorem dX3_draw_82 : decode cX3_draw 82 = .ok (.aload_n 0, 1) := by decide +kernel
theorem dX3_draw_83 : decode cX3_draw 83 = .ok (.getfield 12, 3) := by decide +kernel
theorem dX3_draw_86 : decode cX3_draw 86 = .ok (.iload_n 2, 1) := by decide +kernel
theorem dX3_draw_87 : decode cX3_draw 87 = .ok (.aload_n 0, 1) := by decide +kernel
theorem dX3_draw_88 : decode cX3_draw 88 = .ok (.getfield 22, 3) := by decide +kernel
theorem dX3_draw_91 : decode cX3_draw 91 = .ok (.iload_n 2, 1) := by decide +kernel
theorem dX3_draw_92 : decode cX3_draw 92 = .ok (.iaload, 1) := by decide +kernel
theorem dX3_draw_93 : decode cX3_draw 93 = .ok (.invokevirtual 129, 3) := by decide +kernel
theorem dX3_draw_96 : decode cX3_draw 96 = .ok (.iinc 2 1, 3) := by decide +kernel
theorem dX3_draw_99 : decode cX3_draw 99 = .ok (.goto (-22), 3) := by decide +kernel
theorem dX3_draw_102 : decode cX3_draw 102 = .ok (.goto 38, 3) := by decide +kernel
theorem dX3_draw_105 : decode cX3_draw 105 = .ok (.aload_n 0, 1) := by decide +kernel
theorem dX3_draw_106 : decode cX3_draw 106 = .ok (.getfield 12, 3) := by decide +kernel
theorem dX3_draw_109 : decode cX3_draw 109 = .ok (.aload_n 0, 1) := by decide +kernel
theorem dX3_draw_110 : decode cX3_draw 110 = .ok (.getfield 22, 3) := by decide +kernel
theorem dX3_draw_113 : decode cX3_draw 113 = .ok (.iconst 0, 1) := by decide +kernel
theorem dX3_draw_114 : decode cX3_draw 114 = .ok (.iaload, 1) := by decide +kernel
theorem dX3_draw_115 : decode cX3_draw 115 = .ok (.putfield 133, 3) := by decide +kernel
theorem dX3_draw_118 : decode cX3_draw 118 = .ok (.goto 22, 3) := by decide +kernel
theorem dX3_draw_121 : decode cX3_draw 121 = .ok (.aload_n 0, 1) := by decide +kernel
theorem dX3_draw_122 : decode cX3_draw 122 = .ok (.getfield 12, 3) := by decide +kernel
theorem dX3_draw_125 : decode cX3_draw 125 = .ok (.aload_n 0, 1) := by decide +kernel
theorem dX3_draw_126 : decode cX3_draw 126 = .ok (.getfield 22, 3) := by decide +kernel
theorem dX3_draw_129 : decode cX3_draw 129 = .ok (.iconst 0, 1) := by decide +kernel
theorem dX3_draw_130 : decode cX3_draw 130 = .ok (.iaload, 1) := by decide +kernel
theorem dX3_draw_131 : decode cX3_draw 131 = .ok (.aload_n 0, 1) := by decide +kernel
theorem dX3_draw_132 : decode cX3_draw 132 = .ok (.getfield 22, 3) := by decide +kernel
theorem dX3_draw_135 : decode cX3_draw 135 = .ok (.iconst 1, 1) := by decide +kernel
theorem dX3_draw_136 : decode cX3_draw 136 = .ok (.iaload, 1) := by decide +kernel
theorem dX3_draw_137 : decode cX3_draw 137 = .ok (.invokevirtual 135, 3) := by decide +kernel
theorem dX3_draw_140 : decode cX3_draw 140 = .ok (.return_, 1) := by decide +kernel
def Re_draw_L77 (k102 : Wd → Option Wd) : Nat → Wd → Int32 → Option Wd
  | 0, _, _ => none
  | n + 1, w, v2 => (if (3 : Int32) ≤ v2 then (k102 w) else (if ib v2 6 = true then (Option.bind (La_setTickets w v2 (w.1 12 (Int32.toNatClampNeg v2))) (fun q9 => (Re_draw_L77 k102 n q9 (v2 + (1 : Int32))))) else none))
set_option maxRecDepth 100000 in
set_option maxHeartbeats 4000000 in
theorem Re_draw_L77_ok {K : Ctx} (F : Fx K cX3_draw 3 RX3 none 3 66 true [7, 8, 9, 10, 11, 12]) {k102 : Wd → Option Wd} (h102 : ∀ (w : Wd), N K rtV (k102 w) w 102 [] []) : ∀ (n : Nat) (w : Wd) (v2 : Int32), N K rtV (Re_draw_L77 k102 n w v2) w 77 [(0, .ref (gA (cg K) 7)), (2, .int v2)] [] := by
  intro n
  induction n with
  | zero => intro _ _; exact n_none
  | succ n ih =>
    intro w v2
    rw [Re_draw_L77]
    refine n_iload_n F dX3_draw_77 rfl 1 rfl ?_
    refine n_iconst F (3 : Int32) dX3_draw_78 (by decide) ?_
    refine n_icmp_ge F 102 dX3_draw_79 (by decide) (fun e7 => ?_) (fun e7 => ?_)
    · rw [if_pos e7]
      exact n_sub [] rfl (h102 _)
    rw [if_neg e7]
    refine n_aload_n F dX3_draw_82 rfl 0 rfl ?_
    refine n_get F ck_3 lf_RX3_12 (by decide) fg_7_1 (by decide) dX3_draw_83 ?_
    refine n_iload_n F dX3_draw_86 rfl 1 rfl ?_
    refine n_aload_n F dX3_draw_87 rfl 0 rfl ?_
    refine n_get F ck_3 lf_RX3_22 (by decide) fg_7_3 (by decide) dX3_draw_88 ?_
    refine n_iload_n F dX3_draw_91 rfl 1 rfl ?_
    refine n_chk (fun e8 => ?_)
    refine n_iald F ar_12 (by decide) (ib_in e8) rfl dX3_draw_92 ?_
    refine n_bind (fun q9 hq9 => ?_)
    refine n_callVv F cb_X1_setTickets lm_RX3_129 ob_8 (by decide) ⟨_, _, rfl⟩ (ct_La_setTickets (fx_ok F) (fx_sd F) (fx_ix F rfl) w v2 (w.1 12 (Int32.toNatClampNeg v2)) hq9) rfl rfl (Nat.le_of_ble_eq_true rfl) ⟨Nat.le_of_ble_eq_true rfl, Nat.le_of_ble_eq_true rfl⟩ dX3_draw_93 ?_
    refine n_iinc F (v2 + (1 : Int32)) (lv' := [(2, .int (v2 + (1 : Int32))), (0, .ref (gA (cg K) 7))]) dX3_draw_96 1 rfl rfl (by decide) rfl ?_
    refine n_goto F 77 dX3_draw_99 (by decide) ?_
    exact n_sub [1, 0] rfl (ih _ _)
def Re_draw_B102 (w : Wd) : Option Wd := some w
set_option maxRecDepth 100000 in
set_option maxHeartbeats 4000000 in
theorem Re_draw_B102_ok {K : Ctx} (F : Fx K cX3_draw 3 RX3 none 3 66 true [7, 8, 9, 10, 11, 12]) (w : Wd) : N K rtV (Re_draw_B102 w) w 102 [] [] := by
  rw [Re_draw_B102]
  refine n_goto F 140 dX3_draw_102 (by decide) ?_
  exact n_vret F rfl rfl dX3_draw_140
def Re_draw (w : Wd) (a1 : Int32) : Option Wd := (if a1 = (1 : Int32) then (Option.bind (La_clear w (w.1 12 0)) (fun q2 => some q2)) else (if a1 = (2 : Int32) then (Option.bind (Re_drawTrain w) (fun q4 => some q4)) else (if a1 = (3 : Int32) then some (sI w 8 2 (w.1 12 0)) else (if a1 = (4 : Int32) then (Re_draw_L77 Re_draw_B102 FU w (0 : Int32)) else (if a1 = (5 : Int32) then some (sI w 8 3 (w.1 12 0)) else (Option.bind (La_setSeeker w (w.1 12 0) (w.1 12 1)) (fun q11 => some q11)))))))
set_option maxRecDepth 100000 in
set_option maxHeartbeats 4000000 in
theorem ct_Re_draw {l : Launch} {g : GG} {σ : Sd} (hg : OKg g σ) (hb : σ.2.1 = true) (hx : ∀ c ∈ ([7, 8, 9, 10, 11, 12] : List Nat), c ∈ σ.1) (w : Wd) (a1 : Int32) {q : Wd} (hq : Re_draw w a1 = some q) : CT l g σ yX3_draw cX3_draw 3 none 3 66 [.ref (gA g 7), .int a1] w none q := by
  refine ct_of (rt := rtV) (res := Re_draw w a1) (q := q) (own := RX3) (b := true) hg hb hx (by decide) rfl (Nat.le_of_ble_eq_true rfl) hq (fun K e1 e2 e3 F => ?_)
  subst e1 e2 e3
  rw [Re_draw]
  show N K _ _ w 0 [(0, .ref (gA (cg K) 7)), (1, .int a1)] []
  refine n_iload_n F dX3_draw_0 rfl 1 rfl ?_
  by_cases e1 : a1 = (1 : Int32)
  · rw [if_pos e1]
    refine n_tabIn F (1 : Int32) 36 dX3_draw_1 e1 (by decide) (by decide) rfl (by decide) ?_
    refine n_aload_n F dX3_draw_36 rfl 0 rfl ?_
    refine n_get F ck_3 lf_RX3_12 (by decide) fg_7_1 (by decide) dX3_draw_37 ?_
    refine n_aload_n F dX3_draw_40 rfl 0 rfl ?_
    refine n_get F ck_3 lf_RX3_22 (by decide) fg_7_3 (by decide) dX3_draw_41 ?_
    refine n_iconst F (0 : Int32) dX3_draw_44 (by decide) ?_
    refine n_iald F ar_12 (by decide) (ib_c (n := 6) (by decide)) (j := 0) (by decide) dX3_draw_45 ?_
    refine n_bind (fun q2 hq2 => ?_)
    refine n_callVv F cb_X1_clear lm_RX3_121 ob_8 (by decide) ⟨_, _, rfl⟩ (ct_La_clear (fx_ok F) (fx_sd F) (fx_ix F rfl) w (w.1 12 0) hq2) rfl rfl (Nat.le_of_ble_eq_true rfl) ⟨Nat.le_of_ble_eq_true rfl, Nat.le_of_ble_eq_true rfl⟩ dX3_draw_46 ?_
    refine n_goto F 140 dX3_draw_49 (by decide) ?_
    exact n_vret F rfl rfl dX3_draw_140
  rw [if_neg e1]
  by_cases e3 : a1 = (2 : Int32)
  · rw [if_pos e3]
    refine n_tabIn F (2 : Int32) 52 dX3_draw_1 e3 (by decide) (by decide) rfl (by decide) ?_
    refine n_aload_n F dX3_draw_52 rfl 0 rfl ?_
    refine n_bind (fun q4 hq4 => ?_)
    refine n_callVv F cb_X3_drawTrain lm_RX3_124 ob_7 (by decide) ⟨_, _, rfl⟩ (ct_Re_drawTrain (fx_ok F) (fx_sd F) (fx_ix F rfl) w hq4) rfl rfl (Nat.le_of_ble_eq_true rfl) ⟨Nat.le_of_ble_eq_true rfl, Nat.le_of_ble_eq_true rfl⟩ dX3_draw_53 ?_
    refine n_goto F 140 dX3_draw_56 (by decide) ?_
    exact n_vret F rfl rfl dX3_draw_140
  rw [if_neg e3]
  by_cases e5 : a1 = (3 : Int32)
  · rw [if_pos e5]
    refine n_tabIn F (3 : Int32) 59 dX3_draw_1 e5 (by decide) (by decide) rfl (by decide) ?_
    refine n_aload_n F dX3_draw_59 rfl 0 rfl ?_
    refine n_get F ck_3 lf_RX3_12 (by decide) fg_7_1 (by decide) dX3_draw_60 ?_
    refine n_aload_n F dX3_draw_63 rfl 0 rfl ?_
    refine n_get F ck_3 lf_RX3_22 (by decide) fg_7_3 (by decide) dX3_draw_64 ?_
    refine n_iconst F (0 : Int32) dX3_draw_67 (by decide) ?_
    refine n_iald F ar_12 (by decide) (ib_c (n := 6) (by decide)) (j := 0) (by decide) dX3_draw_68 ?_
    refine n_put F ck_1 lf_RX3_127 (by decide) rfl fp_8_2 (by decide) rfl rfl dX3_draw_69 ?_
    refine n_goto F 140 dX3_draw_72 (by decide) ?_
    exact n_vret F rfl rfl dX3_draw_140
  rw [if_neg e5]
  by_cases e6 : a1 = (4 : Int32)
  · rw [if_pos e6]
    refine n_tabIn F (4 : Int32) 75 dX3_draw_1 e6 (by decide) (by decide) rfl (by decide) ?_
    refine n_iconst F (0 : Int32) dX3_draw_75 (by decide) ?_
    refine n_istore_n F (lv' := [(2, .int (0 : Int32)), (0, .ref (gA (cg K) 7)), (1, .int a1)]) dX3_draw_76 rfl (by decide) rfl ?_
    exact n_sub [1, 0] rfl (Re_draw_L77_ok F (Re_draw_B102_ok F) FU _ _)
  rw [if_neg e6]
  by_cases e10 : a1 = (5 : Int32)
  · rw [if_pos e10]
    refine n_tabIn F (5 : Int32) 105 dX3_draw_1 e10 (by decide) (by decide) rfl (by decide) ?_
    refine n_aload_n F dX3_draw_105 rfl 0 rfl ?_
    refine n_get F ck_3 lf_RX3_12 (by decide) fg_7_1 (by decide) dX3_draw_106 ?_
    refine n_aload_n F dX3_draw_109 rfl 0 rfl ?_
    refine n_get F ck_3 lf_RX3_22 (by decide) fg_7_3 (by decide) dX3_draw_110 ?_
    refine n_iconst F (0 : Int32) dX3_draw_113 (by decide) ?_
    refine n_iald F ar_12 (by decide) (ib_c (n := 6) (by decide)) (j := 0) (by decide) dX3_draw_114 ?_
    refine n_put F ck_1 lf_RX3_133 (by decide) rfl fp_8_3 (by decide) rfl rfl dX3_draw_115 ?_
    refine n_goto F 140 dX3_draw_118 (by decide) ?_
    exact n_vret F rfl rfl dX3_draw_140
  rw [if_neg e10]
  have hsw := (⟨lv_neT e1 (a := 1) rfl, lv_neT e3 (a := 2) rfl, lv_neT e5 (a := 3) rfl, lv_neT e6 (a := 4) rfl, lv_neT e10 (a := 5) rfl⟩ : ¬ (a1).toInt = 1 ∧ ¬ (a1).toInt = 2 ∧ ¬ (a1).toInt = 3 ∧ ¬ (a1).toInt = 4 ∧ ¬ (a1).toInt = 5)
  refine n_tabOut F 121 dX3_draw_1 (by omega) (by decide) ?_
  refine n_aload_n F dX3_draw_121 rfl 0 rfl ?_
  refine n_get F ck_3 lf_RX3_12 (by decide) fg_7_1 (by decide) dX3_draw_122 ?_
  refine n_aload_n F dX3_draw_125 rfl 0 rfl ?_
  refine n_get F ck_3 lf_RX3_22 (by decide) fg_7_3 (by decide) dX3_draw_126 ?_
  refine n_iconst F (0 : Int32) dX3_draw_129 (by decide) ?_
  refine n_iald F ar_12 (by decide) (ib_c (n := 6) (by decide)) (j := 0) (by decide) dX3_draw_130 ?_
  refine n_aload_n F dX3_draw_131 rfl 0 rfl ?_
  refine n_get F ck_3 lf_RX3_22 (by decide) fg_7_3 (by decide) dX3_draw_132 ?_
  refine n_iconst F (1 : Int32) dX3_draw_135 (by decide) ?_
  refine n_iald F ar_12 (by decide) (ib_c (n := 6) (by decide)) (j := 1) (by decide) dX3_draw_136 ?_
  refine n_bind (fun q11 hq11 => ?_)
  refine n_callVv F cb_X1_setSeeker lm_RX3_135 ob_8 (by decide) ⟨_, _, rfl⟩ (ct_La_setSeeker (fx_ok F) (fx_sd F) (fx_ix F rfl) w (w.1 12 0) (w.1 12 1) hq11) rfl rfl (Nat.le_of_ble_eq_true rfl) ⟨Nat.le_of_ble_eq_true rfl, Nat.le_of_ble_eq_true rfl⟩ dX3_draw_137 ?_
  exact n_vret F rfl rfl dX3_draw_140
theorem dX3_readLine_0 : decode cX3_readLine 0 = .ok (.aload_n 0, 1) := by decide +kernel
theorem dX3_readLine_1 : decode cX3_readLine 1 = .ok (.invokevirtual 47, 3) := by decide +kernel
theorem dX3_readLine_4 : decode cX3_readLine 4 = .ok (.aload_n 0, 1) := by decide +kernel
theorem dX3_readLine_5 : decode cX3_readLine 5 = .ok (.invokevirtual 56, 3) := by decide +kernel
theorem dX3_readLine_8 : decode cX3_readLine 8 = .ok (.istore_n 1, 1) := by decide +kernel
theorem dX3_readLine_9 : decode cX3_readLine 9 = .ok (.iload_n 1, 1) := by decide +kernel
theorem dX3_readLine_10 : decode cX3_readLine 10 = .ok (.ifCond .eq 18, 3) := by decide +kernel
theorem dX3_readLine_13 : decode cX3_readLine 13 = .ok (.iload_n 1, 1) := by decide +kernel
theorem dX3_readLine_14 : decode cX3_readLine 14 = .ok (.iconst 2, 1) := by decide +kernel
theorem dX3_readLine_15 : decode cX3_readLine 15 = .ok (.if_icmp .ne 15, 3) := by decide +kernel
theorem dX3_readLine_18 : decode cX3_readLine 18 = .ok (.aload_n 0, 1) := by decide +kernel
theorem dX3_readLine_19 : decode cX3_readLine 19 = .ok (.getfield 12, 3) := by decide +kernel
theorem dX3_readLine_22 : decode cX3_readLine 22 = .ok (.invokevirtual 60, 3) := by decide +kernel
theorem dX3_readLine_25 : decode cX3_readLine 25 = .ok (.ifCond .eq 5, 3) := by decide +kernel
theorem dX3_readLine_28 : decode cX3_readLine 28 = .ok (.iconst 0, 1) := by decide +kernel
theorem dX3_readLine_29 : decode cX3_readLine 29 = .ok (.ireturn, 1) := by decide +kernel
theorem dX3_readLine_30 : decode cX3_readLine 30 = .ok (.iconst 0, 1) := by decide +kernel
theorem dX3_readLine_31 : decode cX3_readLine 31 = .ok (.istore_n 2, 1) := by decide +kernel
theorem dX3_readLine_32 : decode cX3_readLine 32 = .ok (.iload_n 2, 1) := by decide +kernel
theorem dX3_readLine_33 : decode cX3_readLine 33 = .ok (.iload_n 1, 1) := by decide +kernel
theorem dX3_readLine_34 : decode cX3_readLine 34 = .ok (.invokestatic 63, 3) := by decide +kernel
theorem dX3_readLine_37 : decode cX3_readLine 37 = .ok (.if_icmp .ge 41, 3) := by decide +kernel
theorem dX3_readLine_40 : decode cX3_readLine 40 = .ok (.aload_n 0, 1) := by decide +kernel
theorem dX3_readLine_41 : decode cX3_readLine 41 = .ok (.invokevirtual 47, 3) := by decide +kernel
theorem dX3_readLine_44 : decode cX3_readLine 44 = .ok (.aload_n 0, 1) := by decide +kernel
theorem dX3_readLine_45 : decode cX3_readLine 45 = .ok (.invokevirtual 66, 3) := by decide +kernel
theorem dX3_readLine_48 : decode cX3_readLine 48 = .ok (.istore_n 3, 1) := by decide +kernel
theorem dX3_readLine_49 : decode cX3_readLine 49 = .ok (.iload_n 3, 1) := by decide +kernel
theorem dX3_readLine_50 : decode cX3_readLine 50 = .ok (.ifCond .lt 13, 3) := by decide +kernel
theorem dX3_readLine_53 : decode cX3_readLine 53 = .ok (.aload_n 0, 1) := by decide +kernel
theorem dX3_readLine_54 : decode cX3_readLine 54 = .ok (.iload_n 1, 1) := by decide +kernel
theorem dX3_readLine_55 : decode cX3_readLine 55 = .ok (.iload_n 2, 1) := by decide +kernel
theorem dX3_readLine_56 : decode cX3_readLine 56 = .ok (.iload_n 3, 1) := by decide +kernel
theorem dX3_readLine_57 : decode cX3_readLine 57 = .ok (.invokevirtual 69, 3) := by decide +kernel
theorem dX3_readLine_60 : decode cX3_readLine 60 = .ok (.ifCond .ne 5, 3) := by decide +kernel
theorem dX3_readLine_63 : decode cX3_readLine 63 = .ok (.iconst 0, 1) := by decide +kernel
theorem dX3_readLine_64 : decode cX3_readLine 64 = .ok (.ireturn, 1) := by decide +kernel
theorem dX3_readLine_65 : decode cX3_readLine 65 = .ok (.aload_n 0, 1) := by decide +kernel
theorem dX3_readLine_66 : decode cX3_readLine 66 = .ok (.getfield 22, 3) := by decide +kernel
theorem dX3_readLine_69 : decode cX3_readLine 69 = .ok (.iload_n 2, 1) := by decide +kernel
theorem dX3_readLine_70 : decode cX3_readLine 70 = .ok (.iload_n 3, 1) := by decide +kernel
theorem dX3_readLine_71 : decode cX3_readLine 71 = .ok (.iastore, 1) := by decide +kernel
theorem dX3_readLine_72 : decode cX3_readLine 72 = .ok (.iinc 2 1, 3) := by decide +kernel
theorem dX3_readLine_75 : decode cX3_readLine 75 = .ok (.goto (-43), 3) := by decide +kernel
theorem dX3_readLine_78 : decode cX3_readLine 78 = .ok (.aload_n 0, 1) := by decide +kernel
theorem dX3_readLine_79 : decode cX3_readLine 79 = .ok (.iload_n 1, 1) := by decide +kernel
theorem dX3_readLine_80 : decode cX3_readLine 80 = .ok (.invokevirtual 73, 3) := by decide +kernel
theorem dX3_readLine_83 : decode cX3_readLine 83 = .ok (.iconst 1, 1) := by decide +kernel
theorem dX3_readLine_84 : decode cX3_readLine 84 = .ok (.ireturn, 1) := by decide +kernel
def Re_readLine_L32 (k63 : Wd → Option (Int32 × Wd)) (k78 : Wd → Int32 → Option (Int32 × Wd)) : Nat → Wd → Int32 → Int32 → Option (Int32 × Wd)
  | 0, _, _, _ => none
  | n + 1, w, v1, v2 => (if (Re_fieldsOf w v1) ≤ v2 then (k78 w v1) else (Option.bind (Re_step w) (fun q6 => (Option.bind (Re_tokenValue q6) (fun q7 => (if q7 < (0 : Int32) then (k63 q6) else (if (Re_fits q6 v1 v2 q7) = (0 : Int32) then (k63 q6) else (if ib v2 6 = true then (Re_readLine_L32 k63 k78 n (sI q6 12 (Int32.toNatClampNeg v2) q7) v1 (v2 + (1 : Int32))) else none))))))))
set_option maxRecDepth 100000 in
set_option maxHeartbeats 4000000 in
theorem Re_readLine_L32_ok {K : Ctx} (F : Fx K cX3_readLine 4 RX3 (some .boolean) 6 127 true [1, 2, 7, 8, 9, 10, 11, 12]) {k63 : Wd → Option (Int32 × Wd)} (h63 : ∀ (w : Wd), N K rtI (k63 w) w 63 [] []) {k78 : Wd → Int32 → Option (Int32 × Wd)} (h78 : ∀ (w : Wd) (v1 : Int32), N K rtI (k78 w v1) w 78 [(0, .ref (gA (cg K) 7)), (1, .int v1)] []) : ∀ (n : Nat) (w : Wd) (v1 : Int32) (v2 : Int32), N K rtI (Re_readLine_L32 k63 k78 n w v1 v2) w 32 [(0, .ref (gA (cg K) 7)), (1, .int v1), (2, .int v2)] [] := by
  intro n
  induction n with
  | zero => intro _ _ _; exact n_none
  | succ n ih =>
    intro w v1 v2
    rw [Re_readLine_L32]
    refine n_iload_n F dX3_readLine_32 rfl 2 rfl ?_
    refine n_iload_n F dX3_readLine_33 rfl 1 rfl ?_
    refine n_callSi F cb_X3_fieldsOf lm_RX3_63 (ct_Re_fieldsOf (fx_ok F) (fx_sd F) (fx_ix F rfl) w v1) rfl rfl (Nat.le_of_ble_eq_true rfl) ⟨Nat.le_of_ble_eq_true rfl, Nat.le_of_ble_eq_true rfl⟩ dX3_readLine_34 ?_
    refine n_icmp_ge F 78 dX3_readLine_37 (by decide) (fun e5 => ?_) (fun e5 => ?_)
    · rw [if_pos e5]
      exact n_sub [0, 1] rfl (h78 _ _)
    rw [if_neg e5]
    refine n_aload_n F dX3_readLine_40 rfl 0 rfl ?_
    refine n_bind (fun q6 hq6 => ?_)
    refine n_callVv F cb_X3_step lm_RX3_47 ob_7 (by decide) ⟨_, _, rfl⟩ (ct_Re_step (fx_ok F) (fx_sd F) (fx_ix F rfl) w hq6) rfl rfl (Nat.le_of_ble_eq_true rfl) ⟨Nat.le_of_ble_eq_true rfl, Nat.le_of_ble_eq_true rfl⟩ dX3_readLine_41 ?_
    refine n_aload_n F dX3_readLine_44 rfl 0 rfl ?_
    refine n_bind (fun q7 hq7 => ?_)
    refine n_callVi F cb_X3_tokenValue lm_RX3_66 ob_7 (by decide) ⟨_, _, rfl⟩ (ct_Re_tokenValue (fx_ok F) (fx_sd F) (fx_ix F rfl) q6 hq7) rfl rfl (Nat.le_of_ble_eq_true rfl) ⟨Nat.le_of_ble_eq_true rfl, Nat.le_of_ble_eq_true rfl⟩ dX3_readLine_45 ?_
    refine n_istore_n F (lv' := [(3, .int q7), (0, .ref (gA (cg K) 7)), (1, .int v1), (2, .int v2)]) dX3_readLine_48 rfl (by decide) rfl ?_
    refine n_iload_n F dX3_readLine_49 rfl 0 rfl ?_
    refine n_if_lt F 63 dX3_readLine_50 (by decide) (fun e8 => ?_) (fun e8 => ?_)
    · rw [if_pos e8]
      exact n_sub [] rfl (h63 _)
    rw [if_neg e8]
    refine n_aload_n F dX3_readLine_53 rfl 1 rfl ?_
    refine n_iload_n F dX3_readLine_54 rfl 2 rfl ?_
    refine n_iload_n F dX3_readLine_55 rfl 3 rfl ?_
    refine n_iload_n F dX3_readLine_56 rfl 0 rfl ?_
    refine n_callVi F cb_X3_fits lm_RX3_69 ob_7 (by decide) ⟨_, _, rfl⟩ (ct_Re_fits (fx_ok F) (fx_sd F) (fx_ix F rfl) q6 v1 v2 q7) rfl rfl (Nat.le_of_ble_eq_true rfl) ⟨Nat.le_of_ble_eq_true rfl, Nat.le_of_ble_eq_true rfl⟩ dX3_readLine_57 ?_
    refine n_if_ne F 65 dX3_readLine_60 (by decide) (fun e9 => ?_) (fun e9 => ?_)
    · rw [if_neg e9]
      refine n_aload_n F dX3_readLine_65 rfl 1 rfl ?_
      refine n_get F ck_3 lf_RX3_22 (by decide) fg_7_3 (by decide) dX3_readLine_66 ?_
      refine n_iload_n F dX3_readLine_69 rfl 3 rfl ?_
      refine n_iload_n F dX3_readLine_70 rfl 0 rfl ?_
      refine n_chk (fun e10 => ?_)
      refine n_iast F ar_12 (by decide) (ib_in e10) rfl dX3_readLine_71 ?_
      refine n_iinc F (v2 + (1 : Int32)) (lv' := [(2, .int (v2 + (1 : Int32))), (3, .int q7), (0, .ref (gA (cg K) 7)), (1, .int v1)]) dX3_readLine_72 3 rfl rfl (by decide) rfl ?_
      refine n_goto F 32 dX3_readLine_75 (by decide) ?_
      exact n_sub [2, 3, 0] rfl (ih _ _ _)
    rw [if_pos e9]
    exact n_sub [] rfl (h63 _)
def Re_readLine_B63 (w : Wd) : Option (Int32 × Wd) := some ((0 : Int32), w)
set_option maxRecDepth 100000 in
set_option maxHeartbeats 4000000 in
theorem Re_readLine_B63_ok {K : Ctx} (F : Fx K cX3_readLine 4 RX3 (some .boolean) 6 127 true [1, 2, 7, 8, 9, 10, 11, 12]) (w : Wd) : N K rtI (Re_readLine_B63 w) w 63 [] [] := by
  rw [Re_readLine_B63]
  refine n_iconst F (0 : Int32) dX3_readLine_63 (by decide) ?_
  exact n_zret F .boolean rfl rfl rfl dX3_readLine_64
def Re_readLine_B78 (w : Wd) (v1 : Int32) : Option (Int32 × Wd) := (Option.bind (Re_draw w v1) (fun q11 => some ((1 : Int32), q11)))
set_option maxRecDepth 100000 in
set_option maxHeartbeats 4000000 in
theorem Re_readLine_B78_ok {K : Ctx} (F : Fx K cX3_readLine 4 RX3 (some .boolean) 6 127 true [1, 2, 7, 8, 9, 10, 11, 12]) (w : Wd) (v1 : Int32) : N K rtI (Re_readLine_B78 w v1) w 78 [(0, .ref (gA (cg K) 7)), (1, .int v1)] [] := by
  rw [Re_readLine_B78]
  refine n_aload_n F dX3_readLine_78 rfl 0 rfl ?_
  refine n_iload_n F dX3_readLine_79 rfl 1 rfl ?_
  refine n_bind (fun q11 hq11 => ?_)
  refine n_callVv F cb_X3_draw lm_RX3_73 ob_7 (by decide) ⟨_, _, rfl⟩ (ct_Re_draw (fx_ok F) (fx_sd F) (fx_ix F rfl) w v1 hq11) rfl rfl (Nat.le_of_ble_eq_true rfl) ⟨Nat.le_of_ble_eq_true rfl, Nat.le_of_ble_eq_true rfl⟩ dX3_readLine_80 ?_
  refine n_iconst F (1 : Int32) dX3_readLine_83 (by decide) ?_
  exact n_zret F .boolean rfl rfl rfl dX3_readLine_84
def Re_readLine (w : Wd) : Option (Int32 × Wd) := (Option.bind (Re_step w) (fun q1 => (Option.bind (Re_lineOfWord q1) (fun q2 => (if q2 = (0 : Int32) then some ((0 : Int32), q1) else (if q2 = (2 : Int32) then (if (La_isFull q1) = (0 : Int32) then (Re_readLine_L32 Re_readLine_B63 Re_readLine_B78 FU q1 q2 (0 : Int32)) else some ((0 : Int32), q1)) else (Re_readLine_L32 Re_readLine_B63 Re_readLine_B78 FU q1 q2 (0 : Int32))))))))
set_option maxRecDepth 100000 in
set_option maxHeartbeats 4000000 in
theorem ct_Re_readLine {l : Launch} {g : GG} {σ : Sd} (hg : OKg g σ) (hb : σ.2.1 = true) (hx : ∀ c ∈ ([1, 2, 7, 8, 9, 10, 11, 12] : List Nat), c ∈ σ.1) (w : Wd) {q : Int32 × Wd} (hq : Re_readLine w = some q) : CT l g σ yX3_readLine cX3_readLine 4 (some .boolean) 6 127 [.ref (gA g 7)] w (some (.int q.1)) q.2 := by
  refine ct_of (rt := rtI) (res := Re_readLine w) (q := q) (own := RX3) (b := true) hg hb hx (by decide) rfl (Nat.le_of_ble_eq_true rfl) hq (fun K e1 e2 e3 F => ?_)
  subst e1 e2 e3
  rw [Re_readLine]
  show N K _ _ w 0 [(0, .ref (gA (cg K) 7))] []
  refine n_aload_n F dX3_readLine_0 rfl 0 rfl ?_
  refine n_bind (fun q1 hq1 => ?_)
  refine n_callVv F cb_X3_step lm_RX3_47 ob_7 (by decide) ⟨_, _, rfl⟩ (ct_Re_step (fx_ok F) (fx_sd F) (fx_ix F rfl) w hq1) rfl rfl (Nat.le_of_ble_eq_true rfl) ⟨Nat.le_of_ble_eq_true rfl, Nat.le_of_ble_eq_true rfl⟩ dX3_readLine_1 ?_
  refine n_aload_n F dX3_readLine_4 rfl 0 rfl ?_
  refine n_bind (fun q2 hq2 => ?_)
  refine n_callVi F cb_X3_lineOfWord lm_RX3_56 ob_7 (by decide) ⟨_, _, rfl⟩ (ct_Re_lineOfWord (fx_ok F) (fx_sd F) (fx_ix F rfl) q1 hq2) rfl rfl (Nat.le_of_ble_eq_true rfl) ⟨Nat.le_of_ble_eq_true rfl, Nat.le_of_ble_eq_true rfl⟩ dX3_readLine_5 ?_
  refine n_istore_n F (lv' := [(1, .int q2), (0, .ref (gA (cg K) 7))]) dX3_readLine_8 rfl (by decide) rfl ?_
  refine n_iload_n F dX3_readLine_9 rfl 0 rfl ?_
  refine n_if_eq F 28 dX3_readLine_10 (by decide) (fun e3 => ?_) (fun e3 => ?_)
  · rw [if_pos e3]
    refine n_iconst F (0 : Int32) dX3_readLine_28 (by decide) ?_
    exact n_zret F .boolean rfl rfl rfl dX3_readLine_29
  rw [if_neg e3]
  refine n_iload_n F dX3_readLine_13 rfl 0 rfl ?_
  refine n_iconst F (2 : Int32) dX3_readLine_14 (by decide) ?_
  refine n_icmp_ne F 30 dX3_readLine_15 (by decide) (fun e4 => ?_) (fun e4 => ?_)
  · rw [if_neg e4]
    refine n_iconst F (0 : Int32) dX3_readLine_30 (by decide) ?_
    refine n_istore_n F (lv' := [(2, .int (0 : Int32)), (1, .int q2), (0, .ref (gA (cg K) 7))]) dX3_readLine_31 rfl (by decide) rfl ?_
    exact n_sub [2, 1, 0] rfl (Re_readLine_L32_ok F (Re_readLine_B63_ok F) (Re_readLine_B78_ok F) FU _ _ _)
  rw [if_pos e4]
  refine n_aload_n F dX3_readLine_18 rfl 1 rfl ?_
  refine n_get F ck_3 lf_RX3_12 (by decide) fg_7_1 (by decide) dX3_readLine_19 ?_
  refine n_callVi F cb_X1_isFull lm_RX3_60 ob_8 (by decide) ⟨_, _, rfl⟩ (ct_La_isFull (fx_ok F) (fx_sd F) (fx_ix F rfl) q1) rfl rfl (Nat.le_of_ble_eq_true rfl) ⟨Nat.le_of_ble_eq_true rfl, Nat.le_of_ble_eq_true rfl⟩ dX3_readLine_22 ?_
  refine n_if_eq F 30 dX3_readLine_25 (by decide) (fun e12 => ?_) (fun e12 => ?_)
  · rw [if_pos e12]
    refine n_iconst F (0 : Int32) dX3_readLine_30 (by decide) ?_
    refine n_istore_n F (lv' := [(2, .int (0 : Int32)), (1, .int q2), (0, .ref (gA (cg K) 7))]) dX3_readLine_31 rfl (by decide) rfl ?_
    exact n_sub [2, 1, 0] rfl (Re_readLine_L32_ok F (Re_readLine_B63_ok F) (Re_readLine_B78_ok F) FU _ _ _)
  rw [if_neg e12]
  refine n_iconst F (0 : Int32) dX3_readLine_28 (by decide) ?_
  exact n_zret F .boolean rfl rfl rfl dX3_readLine_29
theorem dX3_firstFault_0 : decode cX3_firstFault 0 = .ok (.aload_n 0, 1) := by decide +kernel
theorem dX3_firstFault_1 : decode cX3_firstFault 1 = .ok (.getfield 12, 3) := by decide +kernel
theorem dX3_firstFault_4 : decode cX3_firstFault 4 = .ok (.aload_n 1, 1) := by decide +kernel
theorem dX3_firstFault_5 : decode cX3_firstFault 5 = .ok (.invokevirtual 39, 3) := by decide +kernel
theorem dX3_firstFault_8 : decode cX3_firstFault 8 = .ok (.aload_n 0, 1) := by decide +kernel
theorem dX3_firstFault_9 : decode cX3_firstFault 9 = .ok (.iconst 0, 1) := by decide +kernel
theorem dX3_firstFault_10 : decode cX3_firstFault 10 = .ok (.putfield 18, 3) := by decide +kernel
theorem dX3_firstFault_13 : decode cX3_firstFault 13 = .ok (.aload_n 0, 1) := by decide +kernel
theorem dX3_firstFault_14 : decode cX3_firstFault 14 = .ok (.iconst 0, 1) := by decide +kernel
theorem dX3_firstFault_15 : decode cX3_firstFault 15 = .ok (.putfield 32, 3) := by decide +kernel
theorem dX3_firstFault_18 : decode cX3_firstFault 18 = .ok (.iconst 0, 1) := by decide +kernel
theorem dX3_firstFault_19 : decode cX3_firstFault 19 = .ok (.istore_n 2, 1) := by decide +kernel
theorem dX3_firstFault_20 : decode cX3_firstFault 20 = .ok (.iload_n 2, 1) := by decide +kernel
theorem dX3_firstFault_21 : decode cX3_firstFault 21 = .ok (.bipush 10, 2) := by decide +kernel
theorem dX3_firstFault_23 : decode cX3_firstFault 23 = .ok (.if_icmp .ge 62, 3) := by decide +kernel
theorem dX3_firstFault_26 : decode cX3_firstFault 26 = .ok (.aload_n 0, 1) := by decide +kernel
theorem dX3_firstFault_27 : decode cX3_firstFault 27 = .ok (.invokevirtual 43, 3) := by decide +kernel
theorem dX3_firstFault_30 : decode cX3_firstFault 30 = .ok (.ifCond .ne 8, 3) := by decide +kernel
theorem dX3_firstFault_33 : decode cX3_firstFault 33 = .ok (.aload_n 0, 1) := by decide +kernel
theorem dX3_firstFault_34 : decode cX3_firstFault 34 = .ok (.getfield 29, 3) := by decide +kernel
theorem dX3_firstFault_37 : decode cX3_firstFault 37 = .ok (.ireturn, 1) := by decide +kernel
theorem dX3_firstFault_38 : decode cX3_firstFault 38 = .ok (.aload_n 0, 1) := by decide +kernel
theorem dX3_firstFault_39 : decode cX3_firstFault 39 = .ok (.iload_n 2, 1) := by decide +kernel
theorem dX3_firstFault_40 : decode cX3_firstFault 40 = .ok (.iconst 1, 1) := by decide +kernel
theorem dX3_firstFault_41 : decode cX3_firstFault 41 = .ok (.iadd, 1) := by decide +kernel
theorem dX3_firstFault_42 : decode cX3_firstFault 42 = .ok (.putfield 18, 3) := by decide +kernel
theorem dX3_firstFault_45 : decode cX3_firstFault 45 = .ok (.aload_n 0, 1) := by decide +kernel
theorem dX3_firstFault_46 : decode cX3_firstFault 46 = .ok (.invokevirtual 47, 3) := by decide +kernel
theorem dX3_firstFault_49 : decode cX3_firstFault 49 = .ok (.aload_n 0, 1) := by decide +kernel
theorem dX3_firstFault_50 : decode cX3_firstFault 50 = .ok (.getfield 26, 3) := by decide +kernel
theorem dX3_firstFault_53 : decode cX3_firstFault 53 = .ok (.ifCond .ne 5, 3) := by decide +kernel
theorem dX3_firstFault_56 : decode cX3_firstFault 56 = .ok (.iconst (-1), 1) := by decide +kernel
theorem dX3_firstFault_57 : decode cX3_firstFault 57 = .ok (.ireturn, 1) := by decide +kernel
theorem dX3_firstFault_58 : decode cX3_firstFault 58 = .ok (.aload_n 0, 1) := by decide +kernel
theorem dX3_firstFault_59 : decode cX3_firstFault 59 = .ok (.getfield 35, 3) := by decide +kernel
theorem dX3_firstFault_62 : decode cX3_firstFault 62 = .ok (.aload_n 0, 1) := by decide +kernel
theorem dX3_firstFault_63 : decode cX3_firstFault 63 = .ok (.getfield 29, 3) := by decide +kernel
theorem dX3_firstFault_66 : decode cX3_firstFault 66 = .ok (.invokevirtual 50, 3) := by decide +kernel
theorem dX3_firstFault_69 : decode cX3_firstFault 69 = .ok (.bipush 59, 2) := by decide +kernel
theorem dX3_firstFault_71 : decode cX3_firstFault 71 = .ok (.if_icmp .eq 8, 3) := by decide +kernel
theorem dX3_firstFault_74 : decode cX3_firstFault 74 = .ok (.aload_n 0, 1) := by decide +kernel
theorem dX3_firstFault_75 : decode cX3_firstFault 75 = .ok (.getfield 29, 3) := by decide +kernel
theorem dX3_firstFault_78 : decode cX3_firstFault 78 = .ok (.ireturn, 1) := by decide +kernel
theorem dX3_firstFault_79 : decode cX3_firstFault 79 = .ok (.iinc 2 1, 3) := by decide +kernel
theorem dX3_firstFault_82 : decode cX3_firstFault 82 = .ok (.goto (-62), 3) := by decide +kernel
theorem dX3_firstFault_85 : decode cX3_firstFault 85 = .ok (.aload_n 0, 1) := by decide +kernel
theorem dX3_firstFault_86 : decode cX3_firstFault 86 = .ok (.getfield 29, 3) := by decide +kernel
theorem dX3_firstFault_89 : decode cX3_firstFault 89 = .ok (.ireturn, 1) := by decide +kernel
def Re_firstFault_L20 (k33 : Wd → Option (Int32 × Wd)) (k56 : Wd → Option (Int32 × Wd)) (k74 : Wd → Option (Int32 × Wd)) (k85 : Wd → Option (Int32 × Wd)) : Nat → Wd → Int32 → Option (Int32 × Wd)
  | 0, _, _ => none
  | n + 1, w, v2 => (if (10 : Int32) ≤ v2 then (k85 w) else (Option.bind (Re_readLine w) (fun q2 => (if (q2.1) = (0 : Int32) then (k33 (q2.2)) else (Option.bind (Re_step (sI (q2.2) 7 2 (v2 + (1 : Int32)))) (fun q4 => (if (q4.1 7 4) = (0 : Int32) then (k56 q4) else (Option.bind (Te_byteAt q4 (q4.1 7 5)) (fun q6 => (if q6 = (59 : Int32) then (Re_firstFault_L20 k33 k56 k74 k85 n q4 (v2 + (1 : Int32))) else (k74 q4)))))))))))
set_option maxRecDepth 100000 in
set_option maxHeartbeats 4000000 in
theorem Re_firstFault_L20_ok {K : Ctx} (F : Fx K cX3_firstFault 3 RX3 (some .int) 7 150 true [1, 2, 3, 4, 5, 6, 7, 8, 9, 10, 11, 12]) {k33 : Wd → Option (Int32 × Wd)} (h33 : ∀ (w : Wd), N K rtI (k33 w) w 33 [(0, .ref (gA (cg K) 7))] []) {k56 : Wd → Option (Int32 × Wd)} (h56 : ∀ (w : Wd), N K rtI (k56 w) w 56 [] []) {k74 : Wd → Option (Int32 × Wd)} (h74 : ∀ (w : Wd), N K rtI (k74 w) w 74 [(0, .ref (gA (cg K) 7))] []) {k85 : Wd → Option (Int32 × Wd)} (h85 : ∀ (w : Wd), N K rtI (k85 w) w 85 [(0, .ref (gA (cg K) 7))] []) : ∀ (n : Nat) (w : Wd) (v2 : Int32), N K rtI (Re_firstFault_L20 k33 k56 k74 k85 n w v2) w 20 [(0, .ref (gA (cg K) 7)), (2, .int v2)] [] := by
  intro n
  induction n with
  | zero => intro _ _; exact n_none
  | succ n ih =>
    intro w v2
    rw [Re_firstFault_L20]
    refine n_iload_n F dX3_firstFault_20 rfl 1 rfl ?_
    refine n_bipush F (10 : Int32) dX3_firstFault_21 (by decide) ?_
    refine n_icmp_ge F 85 dX3_firstFault_23 (by decide) (fun e1 => ?_) (fun e1 => ?_)
    · rw [if_pos e1]
      exact n_sub [0] rfl (h85 _)
    rw [if_neg e1]
    refine n_aload_n F dX3_firstFault_26 rfl 0 rfl ?_
    refine n_bind (fun q2 hq2 => ?_)
    refine n_callVi F cb_X3_readLine lm_RX3_43 ob_7 (by decide) ⟨_, _, rfl⟩ (ct_Re_readLine (fx_ok F) (fx_sd F) (fx_ix F rfl) w hq2) rfl rfl (Nat.le_of_ble_eq_true rfl) ⟨Nat.le_of_ble_eq_true rfl, Nat.le_of_ble_eq_true rfl⟩ dX3_firstFault_27 ?_
    refine n_if_ne F 38 dX3_firstFault_30 (by decide) (fun e3 => ?_) (fun e3 => ?_)
    · rw [if_neg e3]
      refine n_aload_n F dX3_firstFault_38 rfl 0 rfl ?_
      refine n_iload_n F dX3_firstFault_39 rfl 1 rfl ?_
      refine n_iconst F (1 : Int32) dX3_firstFault_40 (by decide) ?_
      refine n_iadd F dX3_firstFault_41 ?_
      refine n_put F ck_3 lf_RX3_18 (by decide) rfl fp_7_2 (by decide) rfl rfl dX3_firstFault_42 ?_
      refine n_aload_n F dX3_firstFault_45 rfl 0 rfl ?_
      refine n_bind (fun q4 hq4 => ?_)
      refine n_callVv F cb_X3_step lm_RX3_47 ob_7 (by decide) ⟨_, _, rfl⟩ (ct_Re_step (fx_ok F) (fx_sd F) (fx_ix F rfl) (sI (q2.2) 7 2 (v2 + (1 : Int32))) hq4) rfl rfl (Nat.le_of_ble_eq_true rfl) ⟨Nat.le_of_ble_eq_true rfl, Nat.le_of_ble_eq_true rfl⟩ dX3_firstFault_46 ?_
      refine n_aload_n F dX3_firstFault_49 rfl 0 rfl ?_
      refine n_get F ck_3 lf_RX3_26 (by decide) fg_7_4 (by decide) dX3_firstFault_50 ?_
      refine n_if_ne F 58 dX3_firstFault_53 (by decide) (fun e5 => ?_) (fun e5 => ?_)
      · rw [if_neg e5]
        refine n_aload_n F dX3_firstFault_58 rfl 0 rfl ?_
        refine n_get F ck_3 lf_RX3_35 (by decide) fg_7_0 (by decide) dX3_firstFault_59 ?_
        refine n_aload_n F dX3_firstFault_62 rfl 0 rfl ?_
        refine n_get F ck_3 lf_RX3_29 (by decide) fg_7_5 (by decide) dX3_firstFault_63 ?_
        refine n_bind (fun q6 hq6 => ?_)
        refine n_callVi F cb_X6_byteAt lm_RX3_50 ob_1 (by decide) ⟨_, _, rfl⟩ (ct_Te_byteAt (fx_ok F) (fx_sd F) (fx_ix F rfl) q4 (q4.1 7 5) hq6) rfl rfl (Nat.le_of_ble_eq_true rfl) ⟨Nat.le_of_ble_eq_true rfl, Nat.le_of_ble_eq_true rfl⟩ dX3_firstFault_66 ?_
        refine n_bipush F (59 : Int32) dX3_firstFault_69 (by decide) ?_
        refine n_icmp_eq F 79 dX3_firstFault_71 (by decide) (fun e7 => ?_) (fun e7 => ?_)
        · rw [if_pos e7]
          refine n_iinc F (v2 + (1 : Int32)) (lv' := [(2, .int (v2 + (1 : Int32))), (0, .ref (gA (cg K) 7))]) dX3_firstFault_79 1 rfl rfl (by decide) rfl ?_
          refine n_goto F 20 dX3_firstFault_82 (by decide) ?_
          exact n_sub [1, 0] rfl (ih _ _)
        rw [if_neg e7]
        exact n_sub [0] rfl (h74 _)
      rw [if_pos e5]
      exact n_sub [] rfl (h56 _)
    rw [if_pos e3]
    exact n_sub [0] rfl (h33 _)
def Re_firstFault_B33 (w : Wd) : Option (Int32 × Wd) := some ((w.1 7 5), w)
set_option maxRecDepth 100000 in
set_option maxHeartbeats 4000000 in
theorem Re_firstFault_B33_ok {K : Ctx} (F : Fx K cX3_firstFault 3 RX3 (some .int) 7 150 true [1, 2, 3, 4, 5, 6, 7, 8, 9, 10, 11, 12]) (w : Wd) : N K rtI (Re_firstFault_B33 w) w 33 [(0, .ref (gA (cg K) 7))] [] := by
  rw [Re_firstFault_B33]
  refine n_aload_n F dX3_firstFault_33 rfl 0 rfl ?_
  refine n_get F ck_3 lf_RX3_29 (by decide) fg_7_5 (by decide) dX3_firstFault_34 ?_
  exact n_iret F rfl rfl dX3_firstFault_37
def Re_firstFault_B56 (w : Wd) : Option (Int32 × Wd) := some ((-1 : Int32), w)
set_option maxRecDepth 100000 in
set_option maxHeartbeats 4000000 in
theorem Re_firstFault_B56_ok {K : Ctx} (F : Fx K cX3_firstFault 3 RX3 (some .int) 7 150 true [1, 2, 3, 4, 5, 6, 7, 8, 9, 10, 11, 12]) (w : Wd) : N K rtI (Re_firstFault_B56 w) w 56 [] [] := by
  rw [Re_firstFault_B56]
  refine n_iconst F (-1 : Int32) dX3_firstFault_56 (by decide) ?_
  exact n_iret F rfl rfl dX3_firstFault_57
def Re_firstFault_B74 (w : Wd) : Option (Int32 × Wd) := some ((w.1 7 5), w)
set_option maxRecDepth 100000 in
set_option maxHeartbeats 4000000 in
theorem Re_firstFault_B74_ok {K : Ctx} (F : Fx K cX3_firstFault 3 RX3 (some .int) 7 150 true [1, 2, 3, 4, 5, 6, 7, 8, 9, 10, 11, 12]) (w : Wd) : N K rtI (Re_firstFault_B74 w) w 74 [(0, .ref (gA (cg K) 7))] [] := by
  rw [Re_firstFault_B74]
  refine n_aload_n F dX3_firstFault_74 rfl 0 rfl ?_
  refine n_get F ck_3 lf_RX3_29 (by decide) fg_7_5 (by decide) dX3_firstFault_75 ?_
  exact n_iret F rfl rfl dX3_firstFault_78
def Re_firstFault_B85 (w : Wd) : Option (Int32 × Wd) := some ((w.1 7 5), w)
set_option maxRecDepth 100000 in
set_option maxHeartbeats 4000000 in
theorem Re_firstFault_B85_ok {K : Ctx} (F : Fx K cX3_firstFault 3 RX3 (some .int) 7 150 true [1, 2, 3, 4, 5, 6, 7, 8, 9, 10, 11, 12]) (w : Wd) : N K rtI (Re_firstFault_B85 w) w 85 [(0, .ref (gA (cg K) 7))] [] := by
  rw [Re_firstFault_B85]
  refine n_aload_n F dX3_firstFault_85 rfl 0 rfl ?_
  refine n_get F ck_3 lf_RX3_29 (by decide) fg_7_5 (by decide) dX3_firstFault_86 ?_
  exact n_iret F rfl rfl dX3_firstFault_89
def Re_firstFault (w : Wd) : Option (Int32 × Wd) := (Re_firstFault_L20 Re_firstFault_B33 Re_firstFault_B56 Re_firstFault_B74 Re_firstFault_B85 FU (sI (sI (La_copy_8_3 w) 7 2 (0 : Int32)) 7 6 (0 : Int32)) (0 : Int32))
set_option maxRecDepth 100000 in
set_option maxHeartbeats 4000000 in
theorem ct_Re_firstFault {l : Launch} {g : GG} {σ : Sd} (hg : OKg g σ) (hb : σ.2.1 = true) (hx : ∀ c ∈ ([1, 2, 3, 4, 5, 6, 7, 8, 9, 10, 11, 12] : List Nat), c ∈ σ.1) (w : Wd) {q : Int32 × Wd} (hq : Re_firstFault w = some q) : CT l g σ yX3_firstFault cX3_firstFault 3 (some .int) 7 150 [.ref (gA g 7), .ref (gA g 3)] w (some (.int q.1)) q.2 := by
  refine ct_of (rt := rtI) (res := Re_firstFault w) (q := q) (own := RX3) (b := true) hg hb hx (by decide) rfl (Nat.le_of_ble_eq_true rfl) hq (fun K e1 e2 e3 F => ?_)
  subst e1 e2 e3
  rw [Re_firstFault]
  show N K _ _ w 0 [(0, .ref (gA (cg K) 7)), (1, .ref (gA (cg K) 3))] []
  refine n_aload_n F dX3_firstFault_0 rfl 0 rfl ?_
  refine n_get F ck_3 lf_RX3_12 (by decide) fg_7_1 (by decide) dX3_firstFault_1 ?_
  refine n_aload_n F dX3_firstFault_4 rfl 1 rfl ?_
  refine n_callVv F cb_X1_copy lm_RX3_39 ob_8 (by decide) ⟨_, _, rfl⟩ (ct_La_copy_8_3 (fx_ok F) (fx_sd F) (fx_ix F rfl) w) rfl rfl (Nat.le_of_ble_eq_true rfl) ⟨Nat.le_of_ble_eq_true rfl, Nat.le_of_ble_eq_true rfl⟩ dX3_firstFault_5 ?_
  refine n_aload_n F dX3_firstFault_8 rfl 0 rfl ?_
  refine n_iconst F (0 : Int32) dX3_firstFault_9 (by decide) ?_
  refine n_put F ck_3 lf_RX3_18 (by decide) rfl fp_7_2 (by decide) rfl rfl dX3_firstFault_10 ?_
  refine n_aload_n F dX3_firstFault_13 rfl 0 rfl ?_
  refine n_iconst F (0 : Int32) dX3_firstFault_14 (by decide) ?_
  refine n_put F ck_3 lf_RX3_32 (by decide) rfl fp_7_6 (by decide) rfl rfl dX3_firstFault_15 ?_
  refine n_iconst F (0 : Int32) dX3_firstFault_18 (by decide) ?_
  refine n_istore_n F (lv' := [(2, .int (0 : Int32)), (0, .ref (gA (cg K) 7)), (1, .ref (gA (cg K) 3))]) dX3_firstFault_19 rfl (by decide) rfl ?_
  exact n_sub [1, 0] rfl (Re_firstFault_L20_ok F (Re_firstFault_B33_ok F) (Re_firstFault_B56_ok F) (Re_firstFault_B74_ok F) (Re_firstFault_B85_ok F) FU _ _)
theorem dX4_append_0 : decode cX4_append 0 = .ok (.aload_n 0, 1) := by decide +kernel
theorem dX4_append_1 : decode cX4_append 1 = .ok (.getfield 15, 3) := by decide +kernel
theorem dX4_append_4 : decode cX4_append 4 = .ok (.iconst 0, 1) := by decide +kernel
theorem dX4_append_5 : decode cX4_append 5 = .ok (.bipush 11, 2) := by decide +kernel
theorem dX4_append_7 : decode cX4_append 7 = .ok (.invokestatic 33, 3) := by decide +kernel
theorem dX4_append_10 : decode cX4_append 10 = .ok (.ifCond .ne 5, 3) := by decide +kernel
theorem dX4_append_13 : decode cX4_append 13 = .ok (.iconst 0, 1) := by decide +kernel
theorem dX4_append_14 : decode cX4_append 14 = .ok (.ireturn, 1) := by decide +kernel
theorem dX4_append_15 : decode cX4_append 15 = .ok (.aload_n 0, 1) := by decide +kernel
theorem dX4_append_16 : decode cX4_append 16 = .ok (.getfield 9, 3) := by decide +kernel
theorem dX4_append_19 : decode cX4_append 19 = .ok (.aload_n 0, 1) := by decide +kernel
theorem dX4_append_20 : decode cX4_append 20 = .ok (.getfield 15, 3) := by decide +kernel
theorem dX4_append_23 : decode cX4_append 23 = .ok (.iload_n 1, 1) := by decide +kernel
theorem dX4_append_24 : decode cX4_append 24 = .ok (.iastore, 1) := by decide +kernel
theorem dX4_append_25 : decode cX4_append 25 = .ok (.aload_n 0, 1) := by decide +kernel
theorem dX4_append_26 : decode cX4_append 26 = .ok (.dup, 1) := by decide +kernel
theorem dX4_append_27 : decode cX4_append 27 = .ok (.getfield 15, 3) := by decide +kernel
theorem dX4_append_30 : decode cX4_append 30 = .ok (.iconst 1, 1) := by decide +kernel
theorem dX4_append_31 : decode cX4_append 31 = .ok (.iadd, 1) := by decide +kernel
theorem dX4_append_32 : decode cX4_append 32 = .ok (.putfield 15, 3) := by decide +kernel
theorem dX4_append_35 : decode cX4_append 35 = .ok (.iconst 1, 1) := by decide +kernel
theorem dX4_append_36 : decode cX4_append 36 = .ok (.ireturn, 1) := by decide +kernel
def Ri_append (w : Wd) (a1 : Int32) : Option (Int32 × Wd) := (if (Nt_within w (w.1 32 2) (0 : Int32) (11 : Int32)) = (0 : Int32) then some ((0 : Int32), w) else (if ib (w.1 32 2) 12 = true then some ((1 : Int32), (sI (sI w 33 (Int32.toNatClampNeg (w.1 32 2)) a1) 32 2 (((sI w 33 (Int32.toNatClampNeg (w.1 32 2)) a1).1 32 2) + (1 : Int32)))) else none))
set_option maxRecDepth 100000 in
set_option maxHeartbeats 4000000 in
theorem ct_Ri_append {l : Launch} {g : GG} {σ : Sd} (hg : OKg g σ) (hb : σ.2.1 = true) (hx : ∀ c ∈ ([32, 33] : List Nat), c ∈ σ.1) (w : Wd) (a1 : Int32) {q : Int32 × Wd} (hq : Ri_append w a1 = some q) : CT l g σ yX4_append cX4_append 2 (some .boolean) 1 22 [.ref (gA g 32), .int a1] w (some (.int q.1)) q.2 := by
  refine ct_of (rt := rtI) (res := Ri_append w a1) (q := q) (own := RX4) (b := true) hg hb hx (by decide) rfl (Nat.le_of_ble_eq_true rfl) hq (fun K e1 e2 e3 F => ?_)
  subst e1 e2 e3
  rw [Ri_append]
  show N K _ _ w 0 [(0, .ref (gA (cg K) 32)), (1, .int a1)] []
  refine n_aload_n F dX4_append_0 rfl 0 rfl ?_
  refine n_get F ck_4 lf_RX4_15 (by decide) fg_32_2 (by decide) dX4_append_1 ?_
  refine n_iconst F (0 : Int32) dX4_append_4 (by decide) ?_
  refine n_bipush F (11 : Int32) dX4_append_5 (by decide) ?_
  refine n_callSNi F cb_X7_within lm_RX4_33 (ct_Nt_within (fx_ok F) (fx_sd F) (fx_ix F rfl) w (w.1 32 2) (0 : Int32) (11 : Int32)) rfl rfl (Nat.le_of_ble_eq_true rfl) ⟨Nat.le_of_ble_eq_true rfl, Nat.le_of_ble_eq_true rfl⟩ dX4_append_7 ?_
  refine n_if_ne F 15 dX4_append_10 (by decide) (fun e1 => ?_) (fun e1 => ?_)
  · rw [if_neg e1]
    refine n_aload_n F dX4_append_15 rfl 0 rfl ?_
    refine n_get F ck_4 lf_RX4_9 (by decide) fg_32_1 (by decide) dX4_append_16 ?_
    refine n_aload_n F dX4_append_19 rfl 0 rfl ?_
    refine n_get F ck_4 lf_RX4_15 (by decide) fg_32_2 (by decide) dX4_append_20 ?_
    refine n_iload_n F dX4_append_23 rfl 1 rfl ?_
    refine n_chk (fun e2 => ?_)
    refine n_iast F ar_33 (by decide) (ib_in e2) rfl dX4_append_24 ?_
    refine n_aload_n F dX4_append_25 rfl 0 rfl ?_
    refine n_dup F dX4_append_26 rfl ?_
    refine n_get F ck_4 lf_RX4_15 (by decide) fg_32_2 (by decide) dX4_append_27 ?_
    refine n_iconst F (1 : Int32) dX4_append_30 (by decide) ?_
    refine n_iadd F dX4_append_31 ?_
    refine n_put F ck_4 lf_RX4_15 (by decide) rfl fp_32_2 (by decide) rfl rfl dX4_append_32 ?_
    refine n_iconst F (1 : Int32) dX4_append_35 (by decide) ?_
    exact n_zret F .boolean rfl rfl rfl dX4_append_36
  rw [if_pos e1]
  refine n_iconst F (0 : Int32) dX4_append_13 (by decide) ?_
  exact n_zret F .boolean rfl rfl rfl dX4_append_14
theorem dX4_spend_0 : decode cX4_spend 0 = .ok (.iload_n 1, 1) := by decide +kernel
theorem dX4_spend_1 : decode cX4_spend 1 = .ok (.iconst 0, 1) := by decide +kernel
theorem dX4_spend_2 : decode cX4_spend 2 = .ok (.iconst 2, 1) := by decide +kernel
theorem dX4_spend_3 : decode cX4_spend 3 = .ok (.invokestatic 33, 3) := by decide +kernel
theorem dX4_spend_6 : decode cX4_spend 6 = .ok (.ifCond .eq 13, 3) := by decide +kernel
theorem dX4_spend_9 : decode cX4_spend 9 = .ok (.aload_n 0, 1) := by decide +kernel
theorem dX4_spend_10 : decode cX4_spend 10 = .ok (.getfield 19, 3) := by decide +kernel
theorem dX4_spend_13 : decode cX4_spend 13 = .ok (.iload_n 1, 1) := by decide +kernel
theorem dX4_spend_14 : decode cX4_spend 14 = .ok (.iaload, 1) := by decide +kernel
theorem dX4_spend_15 : decode cX4_spend 15 = .ok (.iconst 1, 1) := by decide +kernel
theorem dX4_spend_16 : decode cX4_spend 16 = .ok (.if_icmp .ge 5, 3) := by decide +kernel
theorem dX4_spend_19 : decode cX4_spend 19 = .ok (.iconst 0, 1) := by decide +kernel
theorem dX4_spend_20 : decode cX4_spend 20 = .ok (.ireturn, 1) := by decide +kernel
theorem dX4_spend_21 : decode cX4_spend 21 = .ok (.aload_n 0, 1) := by decide +kernel
theorem dX4_spend_22 : decode cX4_spend 22 = .ok (.getfield 19, 3) := by decide +kernel
theorem dX4_spend_25 : decode cX4_spend 25 = .ok (.iload_n 1, 1) := by decide +kernel
theorem dX4_spend_26 : decode cX4_spend 26 = .ok (.dup2, 1) := by decide +kernel
theorem dX4_spend_27 : decode cX4_spend 27 = .ok (.iaload, 1) := by decide +kernel
theorem dX4_spend_28 : decode cX4_spend 28 = .ok (.iconst 1, 1) := by decide +kernel
theorem dX4_spend_29 : decode cX4_spend 29 = .ok (.isub, 1) := by decide +kernel
theorem dX4_spend_30 : decode cX4_spend 30 = .ok (.iastore, 1) := by decide +kernel
theorem dX4_spend_31 : decode cX4_spend 31 = .ok (.iconst 1, 1) := by decide +kernel
theorem dX4_spend_32 : decode cX4_spend 32 = .ok (.ireturn, 1) := by decide +kernel
def Ri_spend (w : Wd) (a1 : Int32) : Option (Int32 × Wd) := (if (Nt_within w a1 (0 : Int32) (2 : Int32)) = (0 : Int32) then some ((0 : Int32), w) else (if ib a1 3 = true then (if (1 : Int32) ≤ (w.1 34 (Int32.toNatClampNeg a1)) then (if ib a1 3 = true then (if ib a1 3 = true then some ((1 : Int32), (sI w 34 (Int32.toNatClampNeg a1) ((w.1 34 (Int32.toNatClampNeg a1)) - (1 : Int32)))) else none) else none) else some ((0 : Int32), w)) else none))
set_option maxRecDepth 100000 in
set_option maxHeartbeats 4000000 in
theorem ct_Ri_spend {l : Launch} {g : GG} {σ : Sd} (hg : OKg g σ) (hb : σ.2.1 = true) (hx : ∀ c ∈ ([32, 34] : List Nat), c ∈ σ.1) (w : Wd) (a1 : Int32) {q : Int32 × Wd} (hq : Ri_spend w a1 = some q) : CT l g σ yX4_spend cX4_spend 2 (some .boolean) 1 22 [.ref (gA g 32), .int a1] w (some (.int q.1)) q.2 := by
  refine ct_of (rt := rtI) (res := Ri_spend w a1) (q := q) (own := RX4) (b := true) hg hb hx (by decide) rfl (Nat.le_of_ble_eq_true rfl) hq (fun K e1 e2 e3 F => ?_)
  subst e1 e2 e3
  rw [Ri_spend]
  show N K _ _ w 0 [(0, .ref (gA (cg K) 32)), (1, .int a1)] []
  refine n_iload_n F dX4_spend_0 rfl 1 rfl ?_
  refine n_iconst F (0 : Int32) dX4_spend_1 (by decide) ?_
  refine n_iconst F (2 : Int32) dX4_spend_2 (by decide) ?_
  refine n_callSNi F cb_X7_within lm_RX4_33 (ct_Nt_within (fx_ok F) (fx_sd F) (fx_ix F rfl) w a1 (0 : Int32) (2 : Int32)) rfl rfl (Nat.le_of_ble_eq_true rfl) ⟨Nat.le_of_ble_eq_true rfl, Nat.le_of_ble_eq_true rfl⟩ dX4_spend_3 ?_
  refine n_if_eq F 19 dX4_spend_6 (by decide) (fun e1 => ?_) (fun e1 => ?_)
  · rw [if_pos e1]
    refine n_iconst F (0 : Int32) dX4_spend_19 (by decide) ?_
    exact n_zret F .boolean rfl rfl rfl dX4_spend_20
  rw [if_neg e1]
  refine n_aload_n F dX4_spend_9 rfl 0 rfl ?_
  refine n_get F ck_4 lf_RX4_19 (by decide) fg_32_3 (by decide) dX4_spend_10 ?_
  refine n_iload_n F dX4_spend_13 rfl 1 rfl ?_
  refine n_chk (fun e2 => ?_)
  refine n_iald F ar_34 (by decide) (ib_in e2) rfl dX4_spend_14 ?_
  refine n_iconst F (1 : Int32) dX4_spend_15 (by decide) ?_
  refine n_icmp_ge F 21 dX4_spend_16 (by decide) (fun e3 => ?_) (fun e3 => ?_)
  · rw [if_pos e3]
    refine n_aload_n F dX4_spend_21 rfl 0 rfl ?_
    refine n_get F ck_4 lf_RX4_19 (by decide) fg_32_3 (by decide) dX4_spend_22 ?_
    refine n_iload_n F dX4_spend_25 rfl 1 rfl ?_
    refine n_dup2 F dX4_spend_26 rfl rfl ?_
    refine n_chk (fun e4 => ?_)
    refine n_iald F ar_34 (by decide) (ib_in e4) rfl dX4_spend_27 ?_
    refine n_iconst F (1 : Int32) dX4_spend_28 (by decide) ?_
    refine n_isub F dX4_spend_29 ?_
    refine n_chk (fun e5 => ?_)
    refine n_iast F ar_34 (by decide) (ib_in e5) rfl dX4_spend_30 ?_
    refine n_iconst F (1 : Int32) dX4_spend_31 (by decide) ?_
    exact n_zret F .boolean rfl rfl rfl dX4_spend_32
  rw [if_neg e3]
  refine n_iconst F (0 : Int32) dX4_spend_19 (by decide) ?_
  exact n_zret F .boolean rfl rfl rfl dX4_spend_20
theorem dX4_firstImpossible_0 : decode cX4_firstImpossible 0 = .ok (.aload_n 0, 1) := by decide +kernel
theorem dX4_firstImpossible_1 : decode cX4_firstImpossible 1 = .ok (.getfield 29, 3) := by decide +kernel
theorem dX4_firstImpossible_4 : decode cX4_firstImpossible 4 = .ok (.getfield 37, 3) := by decide +kernel
theorem dX4_firstImpossible_7 : decode cX4_firstImpossible 7 = .ok (.iconst 0, 1) := by decide +kernel
theorem dX4_firstImpossible_8 : decode cX4_firstImpossible 8 = .ok (.aload_n 0, 1) := by decide +kernel
theorem dX4_firstImpossible_9 : decode cX4_firstImpossible 9 = .ok (.getfield 19, 3) := by decide +kernel
theorem dX4_firstImpossible_12 : decode cX4_firstImpossible 12 = .ok (.iconst 0, 1) := by decide +kernel
theorem dX4_firstImpossible_13 : decode cX4_firstImpossible 13 = .ok (.iconst 3, 1) := by decide +kernel
theorem dX4_firstImpossible_14 : decode cX4_firstImpossible 14 = .ok (.invokestatic 42, 3) := by decide +kernel
theorem dX4_firstImpossible_17 : decode cX4_firstImpossible 17 = .ok (.aload_n 0, 1) := by decide +kernel
theorem dX4_firstImpossible_18 : decode cX4_firstImpossible 18 = .ok (.getfield 29, 3) := by decide +kernel
theorem dX4_firstImpossible_21 : decode cX4_firstImpossible 21 = .ok (.getfield 48, 3) := by decide +kernel
theorem dX4_firstImpossible_24 : decode cX4_firstImpossible 24 = .ok (.istore_n 1, 1) := by decide +kernel
theorem dX4_firstImpossible_25 : decode cX4_firstImpossible 25 = .ok (.iconst 0, 1) := by decide +kernel
theorem dX4_firstImpossible_26 : decode cX4_firstImpossible 26 = .ok (.istore_n 2, 1) := by decide +kernel
theorem dX4_firstImpossible_27 : decode cX4_firstImpossible 27 = .ok (.iconst 0, 1) := by decide +kernel
theorem dX4_firstImpossible_28 : decode cX4_firstImpossible 28 = .ok (.istore_n 3, 1) := by decide +kernel
theorem dX4_firstImpossible_29 : decode cX4_firstImpossible 29 = .ok (.iload_n 3, 1) := by decide +kernel
theorem dX4_firstImpossible_30 : decode cX4_firstImpossible 30 = .ok (.aload_n 0, 1) := by decide +kernel
theorem dX4_firstImpossible_31 : decode cX4_firstImpossible 31 = .ok (.getfield 15, 3) := by decide +kernel
theorem dX4_firstImpossible_34 : decode cX4_firstImpossible 34 = .ok (.if_icmp .ge 80, 3) := by decide +kernel
theorem dX4_firstImpossible_37 : decode cX4_firstImpossible 37 = .ok (.iload_n 3, 1) := by decide +kernel
theorem dX4_firstImpossible_38 : decode cX4_firstImpossible 38 = .ok (.bipush 12, 2) := by decide +kernel
theorem dX4_firstImpossible_40 : decode cX4_firstImpossible 40 = .ok (.if_icmp .ge 74, 3) := by decide +kernel
theorem dX4_firstImpossible_43 : decode cX4_firstImpossible 43 = .ok (.aload_n 0, 1) := by decide +kernel
theorem dX4_firstImpossible_44 : decode cX4_firstImpossible 44 = .ok (.getfield 9, 3) := by decide +kernel
theorem dX4_firstImpossible_47 : decode cX4_firstImpossible 47 = .ok (.iload_n 3, 1) := by decide +kernel
theorem dX4_firstImpossible_48 : decode cX4_firstImpossible 48 = .ok (.iaload, 1) := by decide +kernel
theorem dX4_firstImpossible_49 : decode cX4_firstImpossible 49 = .ok (.istore 4, 2) := by decide +kernel
theorem dX4_firstImpossible_51 : decode cX4_firstImpossible 51 = .ok (.aload_n 0, 1) := by decide +kernel
theorem dX4_firstImpossible_52 : decode cX4_firstImpossible 52 = .ok (.getfield 29, 3) := by decide +kernel
theorem dX4_firstImpossible_55 : decode cX4_firstImpossible 55 = .ok (.iload 4, 2) := by decide +kernel
theorem dX4_firstImpossible_57 : decode cX4_firstImpossible 57 = .ok (.iload_n 1, 1) := by decide +kernel
theorem dX4_firstImpossible_58 : decode cX4_firstImpossible 58 = .ok (.iload_n 2, 1) := by decide +kernel
theorem dX4_firstImpossible_59 : decode cX4_firstImpossible 59 = .ok (.invokevirtual 51, 3) := by decide +kernel
theorem dX4_firstImpossible_62 : decode cX4_firstImpossible 62 = .ok (.ifCond .eq 20, 3) := by decide +kernel
theorem dX4_firstImpossible_65 : decode cX4_firstImpossible 65 = .ok (.aload_n 0, 1) := by decide +kernel
theorem dX4_firstImpossible_66 : decode cX4_firstImpossible 66 = .ok (.aload_n 0, 1) := by decide +kernel
theorem dX4_firstImpossible_67 : decode cX4_firstImpossible 67 = .ok (.getfield 29, 3) := by decide +kernel
theorem dX4_firstImpossible_70 : decode cX4_firstImpossible 70 = .ok (.iload 4, 2) := by decide +kernel
theorem dX4_firstImpossible_72 : decode cX4_firstImpossible 72 = .ok (.iconst 5, 1) := by decide +kernel
theorem dX4_firstImpossible_73 : decode cX4_firstImpossible 73 = .ok (.invokevirtual 54, 3) := by decide +kernel
theorem dX4_firstImpossible_76 : decode cX4_firstImpossible 76 = .ok (.invokevirtual 58, 3) := by decide +kernel
theorem dX4_firstImpossible_79 : decode cX4_firstImpossible 79 = .ok (.ifCond .ne 5, 3) := by decide +kernel
theorem dX4_firstImpossible_82 : decode cX4_firstImpossible 82 = .ok (.iload_n 3, 1) := by decide +kernel
theorem dX4_firstImpossible_83 : decode cX4_firstImpossible 83 = .ok (.ireturn, 1) := by decide +kernel
theorem dX4_firstImpossible_84 : decode cX4_firstImpossible 84 = .ok (.aload_n 0, 1) := by decide +kernel
theorem dX4_firstImpossible_85 : decode cX4_firstImpossible 85 = .ok (.getfield 29, 3) := by decide +kernel
theorem dX4_firstImpossible_88 : decode cX4_firstImpossible 88 = .ok (.iload 4, 2) := by decide +kernel
theorem dX4_firstImpossible_90 : decode cX4_firstImpossible 90 = .ok (.iconst 1, 1) := by decide +kernel
theorem dX4_firstImpossible_91 : decode cX4_firstImpossible 91 = .ok (.invokevirtual 54, 3) := by decide +kernel
theorem dX4_firstImpossible_94 : decode cX4_firstImpossible 94 = .ok (.istore_n 1, 1) := by decide +kernel
theorem dX4_firstImpossible_95 : decode cX4_firstImpossible 95 = .ok (.iload_n 2, 1) := by decide +kernel
theorem dX4_firstImpossible_96 : decode cX4_firstImpossible 96 = .ok (.aload_n 0, 1) := by decide +kernel
theorem dX4_firstImpossible_97 : decode cX4_firstImpossible 97 = .ok (.getfield 29, 3) := by decide +kernel
theorem dX4_firstImpossible_100 : decode cX4_firstImpossible 100 = .ok (.iload 4, 2) := by decide +kernel
theorem dX4_firstImpossible_102 : decode cX4_firstImpossible 102 = .ok (.iconst 4, 1) := by decide +kernel
theorem dX4_firstImpossible_103 : decode cX4_firstImpossible 103 = .ok (.invokevirtual 54, 3) := by decide +kernel
theorem dX4_firstImpossible_106 : decode cX4_firstImpossible 106 = .ok (.iadd, 1) := by decide +kernel
theorem dX4_firstImpossible_107 : decode cX4_firstImpossible 107 = .ok (.istore_n 2, 1) := by decide +kernel
theorem dX4_firstImpossible_108 : decode cX4_firstImpossible 108 = .ok (.iinc 3 1, 3) := by decide +kernel
theorem dX4_firstImpossible_111 : decode cX4_firstImpossible 111 = .ok (.goto (-82), 3) := by decide +kernel
theorem dX4_firstImpossible_114 : decode cX4_firstImpossible 114 = .ok (.iconst (-1), 1) := by decide +kernel
theorem dX4_firstImpossible_115 : decode cX4_firstImpossible 115 = .ok (.ireturn, 1) := by decide +kernel
def Ri_firstImpossible_L29 (k82 : Wd → Int32 → Option (Int32 × Wd)) (k114 : Wd → Option (Int32 × Wd)) : Nat → Wd → Int32 → Int32 → Int32 → Option (Int32 × Wd)
  | 0, _, _, _, _ => none
  | n + 1, w, v1, v2, v3 => (if (w.1 32 2) ≤ v3 then (k114 w) else (if (12 : Int32) ≤ v3 then (k114 w) else (if ib v3 12 = true then (Option.bind (La_leaves w (w.1 33 (Int32.toNatClampNeg v3)) v1 v2) (fun q4 => (if q4 = (0 : Int32) then (k82 w v3) else (Option.bind (La_part w (w.1 33 (Int32.toNatClampNeg v3)) (5 : Int32)) (fun q6 => (Option.bind (Ri_spend w q6) (fun q7 => (if (q7.1) = (0 : Int32) then (k82 (q7.2) v3) else (Option.bind (La_part (q7.2) (w.1 33 (Int32.toNatClampNeg v3)) (1 : Int32)) (fun q9 => (Option.bind (La_part (q7.2) (w.1 33 (Int32.toNatClampNeg v3)) (4 : Int32)) (fun q10 => (Ri_firstImpossible_L29 k82 k114 n (q7.2) q9 (v2 + q10) (v3 + (1 : Int32))))))))))))))) else none)))
set_option maxRecDepth 100000 in
set_option maxHeartbeats 4000000 in
theorem Ri_firstImpossible_L29_ok {K : Ctx} (F : Fx K cX4_firstImpossible 5 RX4 (some .int) 3 69 true [3, 4, 5, 32, 33, 34]) {k82 : Wd → Int32 → Option (Int32 × Wd)} (h82 : ∀ (w : Wd) (v3 : Int32), N K rtI (k82 w v3) w 82 [(3, .int v3)] []) {k114 : Wd → Option (Int32 × Wd)} (h114 : ∀ (w : Wd), N K rtI (k114 w) w 114 [] []) : ∀ (n : Nat) (w : Wd) (v1 : Int32) (v2 : Int32) (v3 : Int32), N K rtI (Ri_firstImpossible_L29 k82 k114 n w v1 v2 v3) w 29 [(0, .ref (gA (cg K) 32)), (1, .int v1), (2, .int v2), (3, .int v3)] [] := by
  intro n
  induction n with
  | zero => intro _ _ _ _; exact n_none
  | succ n ih =>
    intro w v1 v2 v3
    rw [Ri_firstImpossible_L29]
    refine n_iload_n F dX4_firstImpossible_29 rfl 3 rfl ?_
    refine n_aload_n F dX4_firstImpossible_30 rfl 0 rfl ?_
    refine n_get F ck_4 lf_RX4_15 (by decide) fg_32_2 (by decide) dX4_firstImpossible_31 ?_
    refine n_icmp_ge F 114 dX4_firstImpossible_34 (by decide) (fun e1 => ?_) (fun e1 => ?_)
    · rw [if_pos e1]
      exact n_sub [] rfl (h114 _)
    rw [if_neg e1]
    refine n_iload_n F dX4_firstImpossible_37 rfl 3 rfl ?_
    refine n_bipush F (12 : Int32) dX4_firstImpossible_38 (by decide) ?_
    refine n_icmp_ge F 114 dX4_firstImpossible_40 (by decide) (fun e2 => ?_) (fun e2 => ?_)
    · rw [if_pos e2]
      exact n_sub [] rfl (h114 _)
    rw [if_neg e2]
    refine n_aload_n F dX4_firstImpossible_43 rfl 0 rfl ?_
    refine n_get F ck_4 lf_RX4_9 (by decide) fg_32_1 (by decide) dX4_firstImpossible_44 ?_
    refine n_iload_n F dX4_firstImpossible_47 rfl 3 rfl ?_
    refine n_chk (fun e3 => ?_)
    refine n_iald F ar_33 (by decide) (ib_in e3) rfl dX4_firstImpossible_48 ?_
    refine n_istore F (lv' := [(4, .int (w.1 33 (Int32.toNatClampNeg v3))), (0, .ref (gA (cg K) 32)), (1, .int v1), (2, .int v2), (3, .int v3)]) dX4_firstImpossible_49 (by decide) rfl ?_
    refine n_aload_n F dX4_firstImpossible_51 rfl 1 rfl ?_
    refine n_get F ck_4 lf_RX4_29 (by decide) fg_32_0 (by decide) dX4_firstImpossible_52 ?_
    refine n_iload F dX4_firstImpossible_55 0 rfl ?_
    refine n_iload_n F dX4_firstImpossible_57 rfl 2 rfl ?_
    refine n_iload_n F dX4_firstImpossible_58 rfl 3 rfl ?_
    refine n_bind (fun q4 hq4 => ?_)
    refine n_callVi F cb_X1_leaves lm_RX4_51 ob_3 (by decide) ⟨_, _, rfl⟩ (ct_La_leaves (fx_ok F) (fx_sd F) (fx_ix F rfl) w (w.1 33 (Int32.toNatClampNeg v3)) v1 v2 hq4) rfl rfl (Nat.le_of_ble_eq_true rfl) ⟨Nat.le_of_ble_eq_true rfl, Nat.le_of_ble_eq_true rfl⟩ dX4_firstImpossible_59 ?_
    refine n_if_eq F 82 dX4_firstImpossible_62 (by decide) (fun e5 => ?_) (fun e5 => ?_)
    · rw [if_pos e5]
      exact n_sub [4] rfl (h82 _ _)
    rw [if_neg e5]
    refine n_aload_n F dX4_firstImpossible_65 rfl 1 rfl ?_
    refine n_aload_n F dX4_firstImpossible_66 rfl 1 rfl ?_
    refine n_get F ck_4 lf_RX4_29 (by decide) fg_32_0 (by decide) dX4_firstImpossible_67 ?_
    refine n_iload F dX4_firstImpossible_70 0 rfl ?_
    refine n_iconst F (5 : Int32) dX4_firstImpossible_72 (by decide) ?_
    refine n_bind (fun q6 hq6 => ?_)
    refine n_callVi F cb_X1_part lm_RX4_54 ob_3 (by decide) ⟨_, _, rfl⟩ (ct_La_part (fx_ok F) (fx_sd F) (fx_ix F rfl) w (w.1 33 (Int32.toNatClampNeg v3)) (5 : Int32) hq6) rfl rfl (Nat.le_of_ble_eq_true rfl) ⟨Nat.le_of_ble_eq_true rfl, Nat.le_of_ble_eq_true rfl⟩ dX4_firstImpossible_73 ?_
    refine n_bind (fun q7 hq7 => ?_)
    refine n_callVi F cb_X4_spend lm_RX4_58 ob_32 (by decide) ⟨_, _, rfl⟩ (ct_Ri_spend (fx_ok F) (fx_sd F) (fx_ix F rfl) w q6 hq7) rfl rfl (Nat.le_of_ble_eq_true rfl) ⟨Nat.le_of_ble_eq_true rfl, Nat.le_of_ble_eq_true rfl⟩ dX4_firstImpossible_76 ?_
    refine n_if_ne F 84 dX4_firstImpossible_79 (by decide) (fun e8 => ?_) (fun e8 => ?_)
    · rw [if_neg e8]
      refine n_aload_n F dX4_firstImpossible_84 rfl 1 rfl ?_
      refine n_get F ck_4 lf_RX4_29 (by decide) fg_32_0 (by decide) dX4_firstImpossible_85 ?_
      refine n_iload F dX4_firstImpossible_88 0 rfl ?_
      refine n_iconst F (1 : Int32) dX4_firstImpossible_90 (by decide) ?_
      refine n_bind (fun q9 hq9 => ?_)
      refine n_callVi F cb_X1_part lm_RX4_54 ob_3 (by decide) ⟨_, _, rfl⟩ (ct_La_part (fx_ok F) (fx_sd F) (fx_ix F rfl) (q7.2) (w.1 33 (Int32.toNatClampNeg v3)) (1 : Int32) hq9) rfl rfl (Nat.le_of_ble_eq_true rfl) ⟨Nat.le_of_ble_eq_true rfl, Nat.le_of_ble_eq_true rfl⟩ dX4_firstImpossible_91 ?_
      refine n_istore_n F (lv' := [(1, .int q9), (4, .int (w.1 33 (Int32.toNatClampNeg v3))), (0, .ref (gA (cg K) 32)), (2, .int v2), (3, .int v3)]) dX4_firstImpossible_94 rfl (by decide) rfl ?_
      refine n_iload_n F dX4_firstImpossible_95 rfl 3 rfl ?_
      refine n_aload_n F dX4_firstImpossible_96 rfl 2 rfl ?_
      refine n_get F ck_4 lf_RX4_29 (by decide) fg_32_0 (by decide) dX4_firstImpossible_97 ?_
      refine n_iload F dX4_firstImpossible_100 1 rfl ?_
      refine n_iconst F (4 : Int32) dX4_firstImpossible_102 (by decide) ?_
      refine n_bind (fun q10 hq10 => ?_)
      refine n_callVi F cb_X1_part lm_RX4_54 ob_3 (by decide) ⟨_, _, rfl⟩ (ct_La_part (fx_ok F) (fx_sd F) (fx_ix F rfl) (q7.2) (w.1 33 (Int32.toNatClampNeg v3)) (4 : Int32) hq10) rfl rfl (Nat.le_of_ble_eq_true rfl) ⟨Nat.le_of_ble_eq_true rfl, Nat.le_of_ble_eq_true rfl⟩ dX4_firstImpossible_103 ?_
      refine n_iadd F dX4_firstImpossible_106 ?_
      refine n_istore_n F (lv' := [(2, .int (v2 + q10)), (1, .int q9), (4, .int (w.1 33 (Int32.toNatClampNeg v3))), (0, .ref (gA (cg K) 32)), (3, .int v3)]) dX4_firstImpossible_107 rfl (by decide) rfl ?_
      refine n_iinc F (v3 + (1 : Int32)) (lv' := [(3, .int (v3 + (1 : Int32))), (2, .int (v2 + q10)), (1, .int q9), (4, .int (w.1 33 (Int32.toNatClampNeg v3))), (0, .ref (gA (cg K) 32))]) dX4_firstImpossible_108 4 rfl rfl (by decide) rfl ?_
      refine n_goto F 29 dX4_firstImpossible_111 (by decide) ?_
      exact n_sub [4, 2, 1, 0] rfl (ih _ _ _ _)
    rw [if_pos e8]
    exact n_sub [4] rfl (h82 _ _)
def Ri_firstImpossible_B82 (w : Wd) (v3 : Int32) : Option (Int32 × Wd) := some (v3, w)
set_option maxRecDepth 100000 in
set_option maxHeartbeats 4000000 in
theorem Ri_firstImpossible_B82_ok {K : Ctx} (F : Fx K cX4_firstImpossible 5 RX4 (some .int) 3 69 true [3, 4, 5, 32, 33, 34]) (w : Wd) (v3 : Int32) : N K rtI (Ri_firstImpossible_B82 w v3) w 82 [(3, .int v3)] [] := by
  rw [Ri_firstImpossible_B82]
  refine n_iload_n F dX4_firstImpossible_82 rfl 0 rfl ?_
  exact n_iret F rfl rfl dX4_firstImpossible_83
def Ri_firstImpossible_B114 (w : Wd) : Option (Int32 × Wd) := some ((-1 : Int32), w)
set_option maxRecDepth 100000 in
set_option maxHeartbeats 4000000 in
theorem Ri_firstImpossible_B114_ok {K : Ctx} (F : Fx K cX4_firstImpossible 5 RX4 (some .int) 3 69 true [3, 4, 5, 32, 33, 34]) (w : Wd) : N K rtI (Ri_firstImpossible_B114 w) w 114 [] [] := by
  rw [Ri_firstImpossible_B114]
  refine n_iconst F (-1 : Int32) dX4_firstImpossible_114 (by decide) ?_
  exact n_iret F rfl rfl dX4_firstImpossible_115
def Ri_firstImpossible (w : Wd) : Option (Int32 × Wd) := (Ri_firstImpossible_L29 Ri_firstImpossible_B82 Ri_firstImpossible_B114 FU (cI w 5 0 34 0 3) ((cI w 5 0 34 0 3).1 3 2) (0 : Int32) (0 : Int32))
set_option maxRecDepth 100000 in
set_option maxHeartbeats 4000000 in
theorem ct_Ri_firstImpossible {l : Launch} {g : GG} {σ : Sd} (hg : OKg g σ) (hb : σ.2.1 = true) (hx : ∀ c ∈ ([3, 4, 5, 32, 33, 34] : List Nat), c ∈ σ.1) (w : Wd) {q : Int32 × Wd} (hq : Ri_firstImpossible w = some q) : CT l g σ yX4_firstImpossible cX4_firstImpossible 5 (some .int) 3 69 [.ref (gA g 32)] w (some (.int q.1)) q.2 := by
  refine ct_of (rt := rtI) (res := Ri_firstImpossible w) (q := q) (own := RX4) (b := true) hg hb hx (by decide) rfl (Nat.le_of_ble_eq_true rfl) hq (fun K e1 e2 e3 F => ?_)
  subst e1 e2 e3
  rw [Ri_firstImpossible]
  show N K _ _ w 0 [(0, .ref (gA (cg K) 32))] []
  refine n_aload_n F dX4_firstImpossible_0 rfl 0 rfl ?_
  refine n_get F ck_4 lf_RX4_29 (by decide) fg_32_0 (by decide) dX4_firstImpossible_1 ?_
  refine n_getN F ck_1 lf_RX4_37 (by decide) fg_3_5 (by decide) dX4_firstImpossible_4 ?_
  refine n_iconst F (0 : Int32) dX4_firstImpossible_7 (by decide) ?_
  refine n_aload_n F dX4_firstImpossible_8 rfl 0 rfl ?_
  refine n_get F ck_4 lf_RX4_19 (by decide) fg_32_3 (by decide) dX4_firstImpossible_9 ?_
  refine n_iconst F (0 : Int32) dX4_firstImpossible_12 (by decide) ?_
  refine n_iconst F (3 : Int32) dX4_firstImpossible_13 (by decide) ?_
  refine n_copyI F ar_5 ar_34 (by decide) (by decide) 0 0 3 (by decide) (by decide) (by decide) (by decide) (by decide) (by decide) (by decide) (by decide) la_RX4_42 (Nat.le_of_ble_eq_true rfl) (Nat.le_of_ble_eq_true rfl) dX4_firstImpossible_14 ?_
  refine n_aload_n F dX4_firstImpossible_17 rfl 0 rfl ?_
  refine n_get F ck_4 lf_RX4_29 (by decide) fg_32_0 (by decide) dX4_firstImpossible_18 ?_
  refine n_get F ck_1 lf_RX4_48 (by decide) fg_3_2 (by decide) dX4_firstImpossible_21 ?_
  refine n_istore_n F (lv' := [(1, .int ((cI w 5 0 34 0 3).1 3 2)), (0, .ref (gA (cg K) 32))]) dX4_firstImpossible_24 rfl (by decide) rfl ?_
  refine n_iconst F (0 : Int32) dX4_firstImpossible_25 (by decide) ?_
  refine n_istore_n F (lv' := [(2, .int (0 : Int32)), (1, .int ((cI w 5 0 34 0 3).1 3 2)), (0, .ref (gA (cg K) 32))]) dX4_firstImpossible_26 rfl (by decide) rfl ?_
  refine n_iconst F (0 : Int32) dX4_firstImpossible_27 (by decide) ?_
  refine n_istore_n F (lv' := [(3, .int (0 : Int32)), (2, .int (0 : Int32)), (1, .int ((cI w 5 0 34 0 3).1 3 2)), (0, .ref (gA (cg K) 32))]) dX4_firstImpossible_28 rfl (by decide) rfl ?_
  exact n_sub [3, 2, 1, 0] rfl (Ri_firstImpossible_L29_ok F (Ri_firstImpossible_B82_ok F) (Ri_firstImpossible_B114_ok F) FU _ _ _ _)
theorem dJ7_fill_d0a16_0 : decode cJ7_fill_d0a16 0 = .ok (.iconst 0, 1) := by decide +kernel
theorem dJ7_fill_d0a16_1 : decode cJ7_fill_d0a16 1 = .ok (.istore_n 3, 1) := by decide +kernel
theorem dJ7_fill_d0a16_2 : decode cJ7_fill_d0a16 2 = .ok (.aload_n 0, 1) := by decide +kernel
theorem dJ7_fill_d0a16_3 : decode cJ7_fill_d0a16 3 = .ok (.arraylength, 1) := by decide +kernel
theorem dJ7_fill_d0a16_4 : decode cJ7_fill_d0a16 4 = .ok (.istore 4, 2) := by decide +kernel
theorem dJ7_fill_d0a16_6 : decode cJ7_fill_d0a16 6 = .ok (.iload_n 3, 1) := by decide +kernel
theorem dJ7_fill_d0a16_7 : decode cJ7_fill_d0a16 7 = .ok (.iload 4, 2) := by decide +kernel
theorem dJ7_fill_d0a16_9 : decode cJ7_fill_d0a16 9 = .ok (.if_icmp .ge 13, 3) := by decide +kernel
theorem dJ7_fill_d0a16_12 : decode cJ7_fill_d0a16 12 = .ok (.aload_n 0, 1) := by decide +kernel
theorem dJ7_fill_d0a16_13 : decode cJ7_fill_d0a16 13 = .ok (.iload_n 3, 1) := by decide +kernel
theorem dJ7_fill_d0a16_14 : decode cJ7_fill_d0a16 14 = .ok (.lload_n 1, 1) := by decide +kernel
theorem dJ7_fill_d0a16_15 : decode cJ7_fill_d0a16 15 = .ok (.lastore, 1) := by decide +kernel
theorem dJ7_fill_d0a16_16 : decode cJ7_fill_d0a16 16 = .ok (.iinc 3 1, 3) := by decide +kernel
theorem dJ7_fill_d0a16_19 : decode cJ7_fill_d0a16 19 = .ok (.goto (-13), 3) := by decide +kernel
theorem dJ7_fill_d0a16_22 : decode cJ7_fill_d0a16 22 = .ok (.return_, 1) := by decide +kernel
def Jd_fillL_35_L6 (k22 : Wd → Option Wd) : Nat → Wd → Int64 → Int32 → Int32 → Option Wd
  | 0, _, _, _, _ => none
  | n + 1, w, v1, v3, v4 => (if v4 ≤ v3 then (k22 w) else (if ib v3 41 = true then (Jd_fillL_35_L6 k22 n (sJ w 35 (Int32.toNatClampNeg v3) v1) v1 (v3 + (1 : Int32)) v4) else none))
set_option maxRecDepth 100000 in
set_option maxHeartbeats 4000000 in
theorem Jd_fillL_35_L6_ok {K : Ctx} (F : Fx K cJ7_fill_d0a16 5 RJ7 none 0 0 true [35]) {k22 : Wd → Option Wd} (h22 : ∀ (w : Wd), N K rtV (k22 w) w 22 [] []) : ∀ (n : Nat) (w : Wd) (v1 : Int64) (v3 : Int32) (v4 : Int32), N K rtV (Jd_fillL_35_L6 k22 n w v1 v3 v4) w 6 [(0, .ref (gA (cg K) 35)), (1, .long v1), (3, .int v3), (4, .int v4)] [] := by
  intro n
  induction n with
  | zero => intro _ _ _ _; exact n_none
  | succ n ih =>
    intro w v1 v3 v4
    rw [Jd_fillL_35_L6]
    refine n_iload_n F dJ7_fill_d0a16_6 rfl 2 rfl ?_
    refine n_iload F dJ7_fill_d0a16_7 3 rfl ?_
    refine n_icmp_ge F 22 dJ7_fill_d0a16_9 (by decide) (fun e1 => ?_) (fun e1 => ?_)
    · rw [if_pos e1]
      exact n_sub [] rfl (h22 _)
    rw [if_neg e1]
    refine n_aload_n F dJ7_fill_d0a16_12 rfl 0 rfl ?_
    refine n_iload_n F dJ7_fill_d0a16_13 rfl 2 rfl ?_
    refine n_lload_n F dJ7_fill_d0a16_14 rfl 1 rfl ?_
    refine n_chk (fun e2 => ?_)
    refine n_last F ar_35 (by decide) (ib_in e2) rfl dJ7_fill_d0a16_15 ?_
    refine n_iinc F (v3 + (1 : Int32)) (lv' := [(3, .int (v3 + (1 : Int32))), (0, .ref (gA (cg K) 35)), (1, .long v1), (4, .int v4)]) dJ7_fill_d0a16_16 2 rfl rfl (by decide) rfl ?_
    refine n_goto F 6 dJ7_fill_d0a16_19 (by decide) ?_
    exact n_sub [1, 2, 0, 3] rfl (ih _ _ _ _)
def Jd_fillL_35_B22 (w : Wd) : Option Wd := some w
set_option maxRecDepth 100000 in
set_option maxHeartbeats 4000000 in
theorem Jd_fillL_35_B22_ok {K : Ctx} (F : Fx K cJ7_fill_d0a16 5 RJ7 none 0 0 true [35]) (w : Wd) : N K rtV (Jd_fillL_35_B22 w) w 22 [] [] := by
  rw [Jd_fillL_35_B22]
  exact n_vret F rfl rfl dJ7_fill_d0a16_22
def Jd_fillL_35 (w : Wd) (a2 : Int64) : Option Wd := (Jd_fillL_35_L6 Jd_fillL_35_B22 FU w a2 (0 : Int32) (41 : Int32))
set_option maxRecDepth 100000 in
set_option maxHeartbeats 4000000 in
theorem ct_Jd_fillL_35 {l : Launch} {g : GG} {σ : Sd} (hg : OKg g σ) (hb : σ.2.1 = true) (hx : ∀ c ∈ ([35] : List Nat), c ∈ σ.1) (w : Wd) (a2 : Int64) {q : Wd} (hq : Jd_fillL_35 w a2 = some q) : CT l g σ yJ7_fill_d0a16 cJ7_fill_d0a16 5 none 0 0 [.ref (gA g 35), .long a2] w none q := by
  refine ct_of (rt := rtV) (res := Jd_fillL_35 w a2) (q := q) (own := RJ7) (b := true) hg hb hx (by decide) rfl (Nat.le_of_ble_eq_true rfl) hq (fun K e1 e2 e3 F => ?_)
  subst e1 e2 e3
  rw [Jd_fillL_35]
  show N K _ _ w 0 [(0, .ref (gA (cg K) 35)), (1, .long a2)] []
  refine n_iconst F (0 : Int32) dJ7_fill_d0a16_0 (by decide) ?_
  refine n_istore_n F (lv' := [(3, .int (0 : Int32)), (0, .ref (gA (cg K) 35)), (1, .long a2)]) dJ7_fill_d0a16_1 rfl (by decide) rfl ?_
  refine n_aload_n F dJ7_fill_d0a16_2 rfl 1 rfl ?_
  refine n_alenJ F ar_35 (by decide) (v := (41 : Int32)) (by decide) dJ7_fill_d0a16_3 ?_
  refine n_istore F (lv' := [(4, .int (41 : Int32)), (3, .int (0 : Int32)), (0, .ref (gA (cg K) 35)), (1, .long a2)]) dJ7_fill_d0a16_4 (by decide) rfl ?_
  exact n_sub [2, 3, 1, 0] rfl (Jd_fillL_35_L6_ok F (Jd_fillL_35_B22_ok F) FU _ _ _ _)
def Jd_fillL_36_L6 (k22 : Wd → Option Wd) : Nat → Wd → Int64 → Int32 → Int32 → Option Wd
  | 0, _, _, _, _ => none
  | n + 1, w, v1, v3, v4 => (if v4 ≤ v3 then (k22 w) else (if ib v3 41 = true then (Jd_fillL_36_L6 k22 n (sJ w 36 (Int32.toNatClampNeg v3) v1) v1 (v3 + (1 : Int32)) v4) else none))
set_option maxRecDepth 100000 in
set_option maxHeartbeats 4000000 in
theorem Jd_fillL_36_L6_ok {K : Ctx} (F : Fx K cJ7_fill_d0a16 5 RJ7 none 0 0 true [36]) {k22 : Wd → Option Wd} (h22 : ∀ (w : Wd), N K rtV (k22 w) w 22 [] []) : ∀ (n : Nat) (w : Wd) (v1 : Int64) (v3 : Int32) (v4 : Int32), N K rtV (Jd_fillL_36_L6 k22 n w v1 v3 v4) w 6 [(0, .ref (gA (cg K) 36)), (1, .long v1), (3, .int v3), (4, .int v4)] [] := by
  intro n
  induction n with
  | zero => intro _ _ _ _; exact n_none
  | succ n ih =>
    intro w v1 v3 v4
    rw [Jd_fillL_36_L6]
    refine n_iload_n F dJ7_fill_d0a16_6 rfl 2 rfl ?_
    refine n_iload F dJ7_fill_d0a16_7 3 rfl ?_
    refine n_icmp_ge F 22 dJ7_fill_d0a16_9 (by decide) (fun e1 => ?_) (fun e1 => ?_)
    · rw [if_pos e1]
      exact n_sub [] rfl (h22 _)
    rw [if_neg e1]
    refine n_aload_n F dJ7_fill_d0a16_12 rfl 0 rfl ?_
    refine n_iload_n F dJ7_fill_d0a16_13 rfl 2 rfl ?_
    refine n_lload_n F dJ7_fill_d0a16_14 rfl 1 rfl ?_
    refine n_chk (fun e2 => ?_)
    refine n_last F ar_36 (by decide) (ib_in e2) rfl dJ7_fill_d0a16_15 ?_
    refine n_iinc F (v3 + (1 : Int32)) (lv' := [(3, .int (v3 + (1 : Int32))), (0, .ref (gA (cg K) 36)), (1, .long v1), (4, .int v4)]) dJ7_fill_d0a16_16 2 rfl rfl (by decide) rfl ?_
    refine n_goto F 6 dJ7_fill_d0a16_19 (by decide) ?_
    exact n_sub [1, 2, 0, 3] rfl (ih _ _ _ _)
def Jd_fillL_36_B22 (w : Wd) : Option Wd := some w
set_option maxRecDepth 100000 in
set_option maxHeartbeats 4000000 in
theorem Jd_fillL_36_B22_ok {K : Ctx} (F : Fx K cJ7_fill_d0a16 5 RJ7 none 0 0 true [36]) (w : Wd) : N K rtV (Jd_fillL_36_B22 w) w 22 [] [] := by
  rw [Jd_fillL_36_B22]
  exact n_vret F rfl rfl dJ7_fill_d0a16_22
def Jd_fillL_36 (w : Wd) (a2 : Int64) : Option Wd := (Jd_fillL_36_L6 Jd_fillL_36_B22 FU w a2 (0 : Int32) (41 : Int32))
set_option maxRecDepth 100000 in
set_option maxHeartbeats 4000000 in
theorem ct_Jd_fillL_36 {l : Launch} {g : GG} {σ : Sd} (hg : OKg g σ) (hb : σ.2.1 = true) (hx : ∀ c ∈ ([36] : List Nat), c ∈ σ.1) (w : Wd) (a2 : Int64) {q : Wd} (hq : Jd_fillL_36 w a2 = some q) : CT l g σ yJ7_fill_d0a16 cJ7_fill_d0a16 5 none 0 0 [.ref (gA g 36), .long a2] w none q := by
  refine ct_of (rt := rtV) (res := Jd_fillL_36 w a2) (q := q) (own := RJ7) (b := true) hg hb hx (by decide) rfl (Nat.le_of_ble_eq_true rfl) hq (fun K e1 e2 e3 F => ?_)
  subst e1 e2 e3
  rw [Jd_fillL_36]
  show N K _ _ w 0 [(0, .ref (gA (cg K) 36)), (1, .long a2)] []
  refine n_iconst F (0 : Int32) dJ7_fill_d0a16_0 (by decide) ?_
  refine n_istore_n F (lv' := [(3, .int (0 : Int32)), (0, .ref (gA (cg K) 36)), (1, .long a2)]) dJ7_fill_d0a16_1 rfl (by decide) rfl ?_
  refine n_aload_n F dJ7_fill_d0a16_2 rfl 1 rfl ?_
  refine n_alenJ F ar_36 (by decide) (v := (41 : Int32)) (by decide) dJ7_fill_d0a16_3 ?_
  refine n_istore F (lv' := [(4, .int (41 : Int32)), (3, .int (0 : Int32)), (0, .ref (gA (cg K) 36)), (1, .long a2)]) dJ7_fill_d0a16_4 (by decide) rfl ?_
  exact n_sub [2, 3, 1, 0] rfl (Jd_fillL_36_L6_ok F (Jd_fillL_36_B22_ok F) FU _ _ _ _)
theorem dX4_arrive_0 : decode cX4_arrive 0 = .ok (.iload_n 1, 1) := by decide +kernel
theorem dX4_arrive_1 : decode cX4_arrive 1 = .ok (.iconst 0, 1) := by decide +kernel
theorem dX4_arrive_2 : decode cX4_arrive 2 = .ok (.bipush 40, 2) := by decide +kernel
theorem dX4_arrive_4 : decode cX4_arrive 4 = .ok (.invokestatic 33, 3) := by decide +kernel
theorem dX4_arrive_7 : decode cX4_arrive 7 = .ok (.ifCond .eq 13, 3) := by decide +kernel
theorem dX4_arrive_10 : decode cX4_arrive 10 = .ok (.aload_n 0, 1) := by decide +kernel
theorem dX4_arrive_11 : decode cX4_arrive 11 = .ok (.getfield 26, 3) := by decide +kernel
theorem dX4_arrive_14 : decode cX4_arrive 14 = .ok (.iload_n 1, 1) := by decide +kernel
theorem dX4_arrive_15 : decode cX4_arrive 15 = .ok (.dup2, 1) := by decide +kernel
theorem dX4_arrive_16 : decode cX4_arrive 16 = .ok (.laload, 1) := by decide +kernel
theorem dX4_arrive_17 : decode cX4_arrive 17 = .ok (.lload_n 2, 1) := by decide +kernel
theorem dX4_arrive_18 : decode cX4_arrive 18 = .ok (.ladd, 1) := by decide +kernel
theorem dX4_arrive_19 : decode cX4_arrive 19 = .ok (.lastore, 1) := by decide +kernel
theorem dX4_arrive_20 : decode cX4_arrive 20 = .ok (.return_, 1) := by decide +kernel
def Ri_arrive (w : Wd) (a1 : Int32) (a2 : Int64) : Option Wd := (if (Nt_within w a1 (0 : Int32) (40 : Int32)) = (0 : Int32) then some w else (if ib a1 41 = true then (if ib a1 41 = true then some (sJ w 36 (Int32.toNatClampNeg a1) ((w.2 36 (Int32.toNatClampNeg a1)) + a2)) else none) else none))
set_option maxRecDepth 100000 in
set_option maxHeartbeats 4000000 in
theorem ct_Ri_arrive {l : Launch} {g : GG} {σ : Sd} (hg : OKg g σ) (hb : σ.2.1 = true) (hx : ∀ c ∈ ([32, 36] : List Nat), c ∈ σ.1) (w : Wd) (a1 : Int32) (a2 : Int64) {q : Wd} (hq : Ri_arrive w a1 a2 = some q) : CT l g σ yX4_arrive cX4_arrive 4 none 1 22 [.ref (gA g 32), .int a1, .long a2] w none q := by
  refine ct_of (rt := rtV) (res := Ri_arrive w a1 a2) (q := q) (own := RX4) (b := true) hg hb hx (by decide) rfl (Nat.le_of_ble_eq_true rfl) hq (fun K e1 e2 e3 F => ?_)
  subst e1 e2 e3
  rw [Ri_arrive]
  show N K _ _ w 0 [(0, .ref (gA (cg K) 32)), (1, .int a1), (2, .long a2)] []
  refine n_iload_n F dX4_arrive_0 rfl 1 rfl ?_
  refine n_iconst F (0 : Int32) dX4_arrive_1 (by decide) ?_
  refine n_bipush F (40 : Int32) dX4_arrive_2 (by decide) ?_
  refine n_callSNi F cb_X7_within lm_RX4_33 (ct_Nt_within (fx_ok F) (fx_sd F) (fx_ix F rfl) w a1 (0 : Int32) (40 : Int32)) rfl rfl (Nat.le_of_ble_eq_true rfl) ⟨Nat.le_of_ble_eq_true rfl, Nat.le_of_ble_eq_true rfl⟩ dX4_arrive_4 ?_
  refine n_if_eq F 20 dX4_arrive_7 (by decide) (fun e1 => ?_) (fun e1 => ?_)
  · rw [if_pos e1]
    exact n_vret F rfl rfl dX4_arrive_20
  rw [if_neg e1]
  refine n_aload_n F dX4_arrive_10 rfl 0 rfl ?_
  refine n_get F ck_4 lf_RX4_26 (by decide) fg_32_5 (by decide) dX4_arrive_11 ?_
  refine n_iload_n F dX4_arrive_14 rfl 1 rfl ?_
  refine n_dup2 F dX4_arrive_15 rfl rfl ?_
  refine n_chk (fun e2 => ?_)
  refine n_lald F ar_36 (by decide) (ib_in e2) rfl dX4_arrive_16 ?_
  refine n_lload_n F dX4_arrive_17 rfl 2 rfl ?_
  refine n_ladd F dX4_arrive_18 ?_
  refine n_chk (fun e3 => ?_)
  refine n_last F ar_36 (by decide) (ib_in e3) rfl dX4_arrive_19 ?_
  exact n_vret F rfl rfl dX4_arrive_20
theorem dX4_rideOn_0 : decode cX4_rideOn 0 = .ok (.aload_n 0, 1) := by decide +kernel
theorem dX4_rideOn_1 : decode cX4_rideOn 1 = .ok (.getfield 26, 3) := by decide +kernel
theorem dX4_rideOn_4 : decode cX4_rideOn 4 = .ok (.lconst 0, 1) := by decide +kernel
theorem dX4_rideOn_5 : decode cX4_rideOn 5 = .ok (.invokestatic 62, 3) := by decide +kernel
theorem dX4_rideOn_8 : decode cX4_rideOn 8 = .ok (.bipush 41, 2) := by decide +kernel
theorem dX4_rideOn_10 : decode cX4_rideOn 10 = .ok (.istore_n 3, 1) := by decide +kernel
theorem dX4_rideOn_11 : decode cX4_rideOn 11 = .ok (.bipush 40, 2) := by decide +kernel
theorem dX4_rideOn_13 : decode cX4_rideOn 13 = .ok (.istore 4, 2) := by decide +kernel
theorem dX4_rideOn_15 : decode cX4_rideOn 15 = .ok (.iload 4, 2) := by decide +kernel
theorem dX4_rideOn_17 : decode cX4_rideOn 17 = .ok (.ifCond .lt 70, 3) := by decide +kernel
theorem dX4_rideOn_20 : decode cX4_rideOn 20 = .ok (.aload_n 0, 1) := by decide +kernel
theorem dX4_rideOn_21 : decode cX4_rideOn 21 = .ok (.getfield 29, 3) := by decide +kernel
theorem dX4_rideOn_24 : decode cX4_rideOn 24 = .ok (.iload_n 1, 1) := by decide +kernel
theorem dX4_rideOn_25 : decode cX4_rideOn 25 = .ok (.iload 4, 2) := by decide +kernel
theorem dX4_rideOn_27 : decode cX4_rideOn 27 = .ok (.invokevirtual 74, 3) := by decide +kernel
theorem dX4_rideOn_30 : decode cX4_rideOn 30 = .ok (.ifCond .eq 16, 3) := by decide +kernel
theorem dX4_rideOn_33 : decode cX4_rideOn 33 = .ok (.iload 4, 2) := by decide +kernel
theorem dX4_rideOn_35 : decode cX4_rideOn 35 = .ok (.aload_n 0, 1) := by decide +kernel
theorem dX4_rideOn_36 : decode cX4_rideOn 36 = .ok (.getfield 29, 3) := by decide +kernel
theorem dX4_rideOn_39 : decode cX4_rideOn 39 = .ok (.iload_n 1, 1) := by decide +kernel
theorem dX4_rideOn_40 : decode cX4_rideOn 40 = .ok (.iconst 4, 1) := by decide +kernel
theorem dX4_rideOn_41 : decode cX4_rideOn 41 = .ok (.invokevirtual 54, 3) := by decide +kernel
theorem dX4_rideOn_44 : decode cX4_rideOn 44 = .ok (.iadd, 1) := by decide +kernel
theorem dX4_rideOn_45 : decode cX4_rideOn 45 = .ok (.istore_n 3, 1) := by decide +kernel
theorem dX4_rideOn_46 : decode cX4_rideOn 46 = .ok (.aload_n 0, 1) := by decide +kernel
theorem dX4_rideOn_47 : decode cX4_rideOn 47 = .ok (.iload_n 3, 1) := by decide +kernel
theorem dX4_rideOn_48 : decode cX4_rideOn 48 = .ok (.aload_n 0, 1) := by decide +kernel
theorem dX4_rideOn_49 : decode cX4_rideOn 49 = .ok (.getfield 22, 3) := by decide +kernel
theorem dX4_rideOn_52 : decode cX4_rideOn 52 = .ok (.iload 4, 2) := by decide +kernel
theorem dX4_rideOn_54 : decode cX4_rideOn 54 = .ok (.laload, 1) := by decide +kernel
theorem dX4_rideOn_55 : decode cX4_rideOn 55 = .ok (.bipush 10, 2) := by decide +kernel
theorem dX4_rideOn_57 : decode cX4_rideOn 57 = .ok (.iload_n 2, 1) := by decide +kernel
theorem dX4_rideOn_58 : decode cX4_rideOn 58 = .ok (.isub, 1) := by decide +kernel
theorem dX4_rideOn_59 : decode cX4_rideOn 59 = .ok (.i2l, 1) := by decide +kernel
theorem dX4_rideOn_60 : decode cX4_rideOn 60 = .ok (.lmul, 1) := by decide +kernel
theorem dX4_rideOn_61 : decode cX4_rideOn 61 = .ok (.invokevirtual 78, 3) := by decide +kernel
theorem dX4_rideOn_64 : decode cX4_rideOn 64 = .ok (.aload_n 0, 1) := by decide +kernel
theorem dX4_rideOn_65 : decode cX4_rideOn 65 = .ok (.iload_n 3, 1) := by decide +kernel
theorem dX4_rideOn_66 : decode cX4_rideOn 66 = .ok (.iconst 1, 1) := by decide +kernel
theorem dX4_rideOn_67 : decode cX4_rideOn 67 = .ok (.iadd, 1) := by decide +kernel
theorem dX4_rideOn_68 : decode cX4_rideOn 68 = .ok (.aload_n 0, 1) := by decide +kernel
theorem dX4_rideOn_69 : decode cX4_rideOn 69 = .ok (.getfield 22, 3) := by decide +kernel
theorem dX4_rideOn_72 : decode cX4_rideOn 72 = .ok (.iload 4, 2) := by decide +kernel
theorem dX4_rideOn_74 : decode cX4_rideOn 74 = .ok (.laload, 1) := by decide +kernel
theorem dX4_rideOn_75 : decode cX4_rideOn 75 = .ok (.iload_n 2, 1) := by decide +kernel
theorem dX4_rideOn_76 : decode cX4_rideOn 76 = .ok (.i2l, 1) := by decide +kernel
theorem dX4_rideOn_77 : decode cX4_rideOn 77 = .ok (.lmul, 1) := by decide +kernel
theorem dX4_rideOn_78 : decode cX4_rideOn 78 = .ok (.invokevirtual 78, 3) := by decide +kernel
theorem dX4_rideOn_81 : decode cX4_rideOn 81 = .ok (.iinc 4 (-1), 3) := by decide +kernel
theorem dX4_rideOn_84 : decode cX4_rideOn 84 = .ok (.goto (-69), 3) := by decide +kernel
theorem dX4_rideOn_87 : decode cX4_rideOn 87 = .ok (.aload_n 0, 1) := by decide +kernel
theorem dX4_rideOn_88 : decode cX4_rideOn 88 = .ok (.getfield 26, 3) := by decide +kernel
theorem dX4_rideOn_91 : decode cX4_rideOn 91 = .ok (.iconst 0, 1) := by decide +kernel
theorem dX4_rideOn_92 : decode cX4_rideOn 92 = .ok (.aload_n 0, 1) := by decide +kernel
theorem dX4_rideOn_93 : decode cX4_rideOn 93 = .ok (.getfield 22, 3) := by decide +kernel
theorem dX4_rideOn_96 : decode cX4_rideOn 96 = .ok (.iconst 0, 1) := by decide +kernel
theorem dX4_rideOn_97 : decode cX4_rideOn 97 = .ok (.bipush 41, 2) := by decide +kernel
theorem dX4_rideOn_99 : decode cX4_rideOn 99 = .ok (.invokestatic 42, 3) := by decide +kernel
theorem dX4_rideOn_102 : decode cX4_rideOn 102 = .ok (.return_, 1) := by decide +kernel
def Ri_rideOn_B46 (k15 : Wd → Int32 → Int32 → Int32 → Int32 → Option Wd) (w : Wd) (v1 : Int32) (v2 : Int32) (v3 : Int32) (v4 : Int32) : Option Wd := (if ib v4 41 = true then (Option.bind (Ri_arrive w v3 ((w.2 35 (Int32.toNatClampNeg v4)) * (Int32.toInt64 ((10 : Int32) - v2)))) (fun q6 => (if ib v4 41 = true then (Option.bind (Ri_arrive q6 (v3 + (1 : Int32)) ((q6.2 35 (Int32.toNatClampNeg v4)) * (Int32.toInt64 v2))) (fun q8 => (k15 q8 v1 v2 v3 (v4 + (-1 : Int32))))) else none))) else none)
set_option maxRecDepth 100000 in
set_option maxHeartbeats 4000000 in
theorem Ri_rideOn_B46_ok {K : Ctx} (F : Fx K cX4_rideOn 5 RX4 none 2 46 true [3, 4, 32, 35, 36]) {k15 : Wd → Int32 → Int32 → Int32 → Int32 → Option Wd} (h15 : ∀ (w : Wd) (v1 : Int32) (v2 : Int32) (v3 : Int32) (v4 : Int32), N K rtV (k15 w v1 v2 v3 v4) w 15 [(0, .ref (gA (cg K) 32)), (1, .int v1), (2, .int v2), (3, .int v3), (4, .int v4)] []) (w : Wd) (v1 : Int32) (v2 : Int32) (v3 : Int32) (v4 : Int32) : N K rtV (Ri_rideOn_B46 k15 w v1 v2 v3 v4) w 46 [(0, .ref (gA (cg K) 32)), (1, .int v1), (2, .int v2), (3, .int v3), (4, .int v4)] [] := by
  rw [Ri_rideOn_B46]
  refine n_aload_n F dX4_rideOn_46 rfl 0 rfl ?_
  refine n_iload_n F dX4_rideOn_47 rfl 3 rfl ?_
  refine n_aload_n F dX4_rideOn_48 rfl 0 rfl ?_
  refine n_get F ck_4 lf_RX4_22 (by decide) fg_32_4 (by decide) dX4_rideOn_49 ?_
  refine n_iload F dX4_rideOn_52 4 rfl ?_
  refine n_chk (fun e5 => ?_)
  refine n_lald F ar_35 (by decide) (ib_in e5) rfl dX4_rideOn_54 ?_
  refine n_bipush F (10 : Int32) dX4_rideOn_55 (by decide) ?_
  refine n_iload_n F dX4_rideOn_57 rfl 2 rfl ?_
  refine n_isub F dX4_rideOn_58 ?_
  refine n_i2l F dX4_rideOn_59 ?_
  refine n_lmul F dX4_rideOn_60 ?_
  refine n_bind (fun q6 hq6 => ?_)
  refine n_callVv F cb_X4_arrive lm_RX4_78 ob_32 (by decide) ⟨_, _, rfl⟩ (ct_Ri_arrive (fx_ok F) (fx_sd F) (fx_ix F rfl) w v3 ((w.2 35 (Int32.toNatClampNeg v4)) * (Int32.toInt64 ((10 : Int32) - v2))) hq6) rfl rfl (Nat.le_of_ble_eq_true rfl) ⟨Nat.le_of_ble_eq_true rfl, Nat.le_of_ble_eq_true rfl⟩ dX4_rideOn_61 ?_
  refine n_aload_n F dX4_rideOn_64 rfl 0 rfl ?_
  refine n_iload_n F dX4_rideOn_65 rfl 3 rfl ?_
  refine n_iconst F (1 : Int32) dX4_rideOn_66 (by decide) ?_
  refine n_iadd F dX4_rideOn_67 ?_
  refine n_aload_n F dX4_rideOn_68 rfl 0 rfl ?_
  refine n_get F ck_4 lf_RX4_22 (by decide) fg_32_4 (by decide) dX4_rideOn_69 ?_
  refine n_iload F dX4_rideOn_72 4 rfl ?_
  refine n_chk (fun e7 => ?_)
  refine n_lald F ar_35 (by decide) (ib_in e7) rfl dX4_rideOn_74 ?_
  refine n_iload_n F dX4_rideOn_75 rfl 2 rfl ?_
  refine n_i2l F dX4_rideOn_76 ?_
  refine n_lmul F dX4_rideOn_77 ?_
  refine n_bind (fun q8 hq8 => ?_)
  refine n_callVv F cb_X4_arrive lm_RX4_78 ob_32 (by decide) ⟨_, _, rfl⟩ (ct_Ri_arrive (fx_ok F) (fx_sd F) (fx_ix F rfl) q6 (v3 + (1 : Int32)) ((q6.2 35 (Int32.toNatClampNeg v4)) * (Int32.toInt64 v2)) hq8) rfl rfl (Nat.le_of_ble_eq_true rfl) ⟨Nat.le_of_ble_eq_true rfl, Nat.le_of_ble_eq_true rfl⟩ dX4_rideOn_78 ?_
  refine n_iinc F (v4 + (-1 : Int32)) (lv' := [(4, .int (v4 + (-1 : Int32))), (0, .ref (gA (cg K) 32)), (1, .int v1), (2, .int v2), (3, .int v3)]) dX4_rideOn_81 4 rfl rfl (by decide) rfl ?_
  refine n_goto F 15 dX4_rideOn_84 (by decide) ?_
  exact n_sub [1, 2, 3, 4, 0] rfl (h15 _ _ _ _ _)
def Ri_rideOn_L15 (k87 : Wd → Option Wd) : Nat → Wd → Int32 → Int32 → Int32 → Int32 → Option Wd
  | 0, _, _, _, _, _ => none
  | n + 1, w, v1, v2, v3, v4 => (if v4 < (0 : Int32) then (k87 w) else (Option.bind (La_runsOn w v1 v4) (fun q3 => (if q3 = (0 : Int32) then (Ri_rideOn_B46 (Ri_rideOn_L15 k87 n) w v1 v2 v3 v4) else (Option.bind (La_part w v1 (4 : Int32)) (fun q9 => (Ri_rideOn_B46 (Ri_rideOn_L15 k87 n) w v1 v2 (v4 + q9) v4)))))))
set_option maxRecDepth 100000 in
set_option maxHeartbeats 4000000 in
theorem Ri_rideOn_L15_ok {K : Ctx} (F : Fx K cX4_rideOn 5 RX4 none 2 46 true [3, 4, 32, 35, 36]) {k87 : Wd → Option Wd} (h87 : ∀ (w : Wd), N K rtV (k87 w) w 87 [(0, .ref (gA (cg K) 32))] []) : ∀ (n : Nat) (w : Wd) (v1 : Int32) (v2 : Int32) (v3 : Int32) (v4 : Int32), N K rtV (Ri_rideOn_L15 k87 n w v1 v2 v3 v4) w 15 [(0, .ref (gA (cg K) 32)), (1, .int v1), (2, .int v2), (3, .int v3), (4, .int v4)] [] := by
  intro n
  induction n with
  | zero => intro _ _ _ _ _; exact n_none
  | succ n ih =>
    intro w v1 v2 v3 v4
    rw [Ri_rideOn_L15]
    refine n_iload F dX4_rideOn_15 4 rfl ?_
    refine n_if_lt F 87 dX4_rideOn_17 (by decide) (fun e2 => ?_) (fun e2 => ?_)
    · rw [if_pos e2]
      exact n_sub [0] rfl (h87 _)
    rw [if_neg e2]
    refine n_aload_n F dX4_rideOn_20 rfl 0 rfl ?_
    refine n_get F ck_4 lf_RX4_29 (by decide) fg_32_0 (by decide) dX4_rideOn_21 ?_
    refine n_iload_n F dX4_rideOn_24 rfl 1 rfl ?_
    refine n_iload F dX4_rideOn_25 4 rfl ?_
    refine n_bind (fun q3 hq3 => ?_)
    refine n_callVi F cb_X1_runsOn lm_RX4_74 ob_3 (by decide) ⟨_, _, rfl⟩ (ct_La_runsOn (fx_ok F) (fx_sd F) (fx_ix F rfl) w v1 v4 hq3) rfl rfl (Nat.le_of_ble_eq_true rfl) ⟨Nat.le_of_ble_eq_true rfl, Nat.le_of_ble_eq_true rfl⟩ dX4_rideOn_27 ?_
    refine n_if_eq F 46 dX4_rideOn_30 (by decide) (fun e4 => ?_) (fun e4 => ?_)
    · rw [if_pos e4]
      exact n_sub [0, 1, 2, 3, 4] rfl (Ri_rideOn_B46_ok F ih _ _ _ _ _)
    rw [if_neg e4]
    refine n_iload F dX4_rideOn_33 4 rfl ?_
    refine n_aload_n F dX4_rideOn_35 rfl 0 rfl ?_
    refine n_get F ck_4 lf_RX4_29 (by decide) fg_32_0 (by decide) dX4_rideOn_36 ?_
    refine n_iload_n F dX4_rideOn_39 rfl 1 rfl ?_
    refine n_iconst F (4 : Int32) dX4_rideOn_40 (by decide) ?_
    refine n_bind (fun q9 hq9 => ?_)
    refine n_callVi F cb_X1_part lm_RX4_54 ob_3 (by decide) ⟨_, _, rfl⟩ (ct_La_part (fx_ok F) (fx_sd F) (fx_ix F rfl) w v1 (4 : Int32) hq9) rfl rfl (Nat.le_of_ble_eq_true rfl) ⟨Nat.le_of_ble_eq_true rfl, Nat.le_of_ble_eq_true rfl⟩ dX4_rideOn_41 ?_
    refine n_iadd F dX4_rideOn_44 ?_
    refine n_istore_n F (lv' := [(3, .int (v4 + q9)), (0, .ref (gA (cg K) 32)), (1, .int v1), (2, .int v2), (4, .int v4)]) dX4_rideOn_45 rfl (by decide) rfl ?_
    exact n_sub [1, 2, 3, 0, 4] rfl (Ri_rideOn_B46_ok F ih _ _ _ _ _)
def Ri_rideOn_B87 (w : Wd) : Option Wd := some (cJ w 36 0 35 0 41)
set_option maxRecDepth 100000 in
set_option maxHeartbeats 4000000 in
theorem Ri_rideOn_B87_ok {K : Ctx} (F : Fx K cX4_rideOn 5 RX4 none 2 46 true [3, 4, 32, 35, 36]) (w : Wd) : N K rtV (Ri_rideOn_B87 w) w 87 [(0, .ref (gA (cg K) 32))] [] := by
  rw [Ri_rideOn_B87]
  refine n_aload_n F dX4_rideOn_87 rfl 0 rfl ?_
  refine n_get F ck_4 lf_RX4_26 (by decide) fg_32_5 (by decide) dX4_rideOn_88 ?_
  refine n_iconst F (0 : Int32) dX4_rideOn_91 (by decide) ?_
  refine n_aload_n F dX4_rideOn_92 rfl 0 rfl ?_
  refine n_get F ck_4 lf_RX4_22 (by decide) fg_32_4 (by decide) dX4_rideOn_93 ?_
  refine n_iconst F (0 : Int32) dX4_rideOn_96 (by decide) ?_
  refine n_bipush F (41 : Int32) dX4_rideOn_97 (by decide) ?_
  refine n_copyJ F ar_36 ar_35 (by decide) (by decide) 0 0 41 (by decide) (by decide) (by decide) (by decide) (by decide) (by decide) (by decide) (by decide) la_RX4_42 (Nat.le_of_ble_eq_true rfl) (Nat.le_of_ble_eq_true rfl) dX4_rideOn_99 ?_
  exact n_vret F rfl rfl dX4_rideOn_102
def Ri_rideOn (w : Wd) (a1 : Int32) (a2 : Int32) : Option Wd := (Option.bind (Jd_fillL_36 w (0 : Int64)) (fun q1 => (Ri_rideOn_L15 Ri_rideOn_B87 FU q1 a1 a2 (41 : Int32) (40 : Int32))))
set_option maxRecDepth 100000 in
set_option maxHeartbeats 4000000 in
theorem ct_Ri_rideOn {l : Launch} {g : GG} {σ : Sd} (hg : OKg g σ) (hb : σ.2.1 = true) (hx : ∀ c ∈ ([3, 4, 32, 35, 36] : List Nat), c ∈ σ.1) (w : Wd) (a1 : Int32) (a2 : Int32) {q : Wd} (hq : Ri_rideOn w a1 a2 = some q) : CT l g σ yX4_rideOn cX4_rideOn 5 none 2 46 [.ref (gA g 32), .int a1, .int a2] w none q := by
  refine ct_of (rt := rtV) (res := Ri_rideOn w a1 a2) (q := q) (own := RX4) (b := true) hg hb hx (by decide) rfl (Nat.le_of_ble_eq_true rfl) hq (fun K e1 e2 e3 F => ?_)
  subst e1 e2 e3
  rw [Ri_rideOn]
  show N K _ _ w 0 [(0, .ref (gA (cg K) 32)), (1, .int a1), (2, .int a2)] []
  refine n_aload_n F dX4_rideOn_0 rfl 0 rfl ?_
  refine n_get F ck_4 lf_RX4_26 (by decide) fg_32_5 (by decide) dX4_rideOn_1 ?_
  refine n_lconst F (0 : Int64) dX4_rideOn_4 (by decide) ?_
  refine n_bind (fun q1 hq1 => ?_)
  refine n_callSv F cb_J7_fill_d0a16 lm_RX4_62 (ct_Jd_fillL_36 (fx_ok F) (fx_sd F) (fx_ix F rfl) w (0 : Int64) hq1) rfl rfl (Nat.le_of_ble_eq_true rfl) ⟨Nat.le_of_ble_eq_true rfl, Nat.le_of_ble_eq_true rfl⟩ dX4_rideOn_5 ?_
  refine n_bipush F (41 : Int32) dX4_rideOn_8 (by decide) ?_
  refine n_istore_n F (lv' := [(3, .int (41 : Int32)), (0, .ref (gA (cg K) 32)), (1, .int a1), (2, .int a2)]) dX4_rideOn_10 rfl (by decide) rfl ?_
  refine n_bipush F (40 : Int32) dX4_rideOn_11 (by decide) ?_
  refine n_istore F (lv' := [(4, .int (40 : Int32)), (3, .int (41 : Int32)), (0, .ref (gA (cg K) 32)), (1, .int a1), (2, .int a2)]) dX4_rideOn_13 (by decide) rfl ?_
  exact n_sub [2, 3, 4, 1, 0] rfl (Ri_rideOn_L15_ok F (Ri_rideOn_B87_ok F) FU _ _ _ _ _)
theorem dX4_waysInTime_0 : decode cX4_waysInTime 0 = .ok (.aload_n 0, 1) := by decide +kernel
theorem dX4_waysInTime_1 : decode cX4_waysInTime 1 = .ok (.getfield 22, 3) := by decide +kernel
theorem dX4_waysInTime_4 : decode cX4_waysInTime 4 = .ok (.lconst 0, 1) := by decide +kernel
theorem dX4_waysInTime_5 : decode cX4_waysInTime 5 = .ok (.invokestatic 62, 3) := by decide +kernel
theorem dX4_waysInTime_8 : decode cX4_waysInTime 8 = .ok (.aload_n 0, 1) := by decide +kernel
theorem dX4_waysInTime_9 : decode cX4_waysInTime 9 = .ok (.getfield 22, 3) := by decide +kernel
theorem dX4_waysInTime_12 : decode cX4_waysInTime 12 = .ok (.iconst 0, 1) := by decide +kernel
theorem dX4_waysInTime_13 : decode cX4_waysInTime 13 = .ok (.lconst 1, 1) := by decide +kernel
theorem dX4_waysInTime_14 : decode cX4_waysInTime 14 = .ok (.lastore, 1) := by decide +kernel
theorem dX4_waysInTime_15 : decode cX4_waysInTime 15 = .ok (.aload_n 0, 1) := by decide +kernel
theorem dX4_waysInTime_16 : decode cX4_waysInTime 16 = .ok (.getfield 29, 3) := by decide +kernel
theorem dX4_waysInTime_19 : decode cX4_waysInTime 19 = .ok (.getfield 48, 3) := by decide +kernel
theorem dX4_waysInTime_22 : decode cX4_waysInTime 22 = .ok (.istore_n 3, 1) := by decide +kernel
theorem dX4_waysInTime_23 : decode cX4_waysInTime 23 = .ok (.iconst 0, 1) := by decide +kernel
theorem dX4_waysInTime_24 : decode cX4_waysInTime 24 = .ok (.istore 4, 2) := by decide +kernel
theorem dX4_waysInTime_26 : decode cX4_waysInTime 26 = .ok (.iload 4, 2) := by decide +kernel
theorem dX4_waysInTime_28 : decode cX4_waysInTime 28 = .ok (.aload_n 0, 1) := by decide +kernel
theorem dX4_waysInTime_29 : decode cX4_waysInTime 29 = .ok (.getfield 15, 3) := by decide +kernel
theorem dX4_waysInTime_32 : decode cX4_waysInTime 32 = .ok (.if_icmp .ge 65, 3) := by decide +kernel
theorem dX4_waysInTime_35 : decode cX4_waysInTime 35 = .ok (.iload 4, 2) := by decide +kernel
theorem dX4_waysInTime_37 : decode cX4_waysInTime 37 = .ok (.bipush 12, 2) := by decide +kernel
theorem dX4_waysInTime_39 : decode cX4_waysInTime 39 = .ok (.if_icmp .ge 58, 3) := by decide +kernel
theorem dX4_waysInTime_42 : decode cX4_waysInTime 42 = .ok (.aload_n 0, 1) := by decide +kernel
theorem dX4_waysInTime_43 : decode cX4_waysInTime 43 = .ok (.getfield 29, 3) := by decide +kernel
theorem dX4_waysInTime_46 : decode cX4_waysInTime 46 = .ok (.aload_n 0, 1) := by decide +kernel
theorem dX4_waysInTime_47 : decode cX4_waysInTime 47 = .ok (.getfield 9, 3) := by decide +kernel
theorem dX4_waysInTime_50 : decode cX4_waysInTime 50 = .ok (.iload 4, 2) := by decide +kernel
theorem dX4_waysInTime_52 : decode cX4_waysInTime 52 = .ok (.iaload, 1) := by decide +kernel
theorem dX4_waysInTime_53 : decode cX4_waysInTime 53 = .ok (.iconst 0, 1) := by decide +kernel
theorem dX4_waysInTime_54 : decode cX4_waysInTime 54 = .ok (.invokevirtual 54, 3) := by decide +kernel
theorem dX4_waysInTime_57 : decode cX4_waysInTime 57 = .ok (.iload_n 3, 1) := by decide +kernel
theorem dX4_waysInTime_58 : decode cX4_waysInTime 58 = .ok (.if_icmp .eq 5, 3) := by decide +kernel
theorem dX4_waysInTime_61 : decode cX4_waysInTime 61 = .ok (.lconst 0, 1) := by decide +kernel
theorem dX4_waysInTime_62 : decode cX4_waysInTime 62 = .ok (.lreturn, 1) := by decide +kernel
theorem dX4_waysInTime_63 : decode cX4_waysInTime 63 = .ok (.aload_n 0, 1) := by decide +kernel
theorem dX4_waysInTime_64 : decode cX4_waysInTime 64 = .ok (.aload_n 0, 1) := by decide +kernel
theorem dX4_waysInTime_65 : decode cX4_waysInTime 65 = .ok (.getfield 9, 3) := by decide +kernel
theorem dX4_waysInTime_68 : decode cX4_waysInTime 68 = .ok (.iload 4, 2) := by decide +kernel
theorem dX4_waysInTime_70 : decode cX4_waysInTime 70 = .ok (.iaload, 1) := by decide +kernel
theorem dX4_waysInTime_71 : decode cX4_waysInTime 71 = .ok (.iload_n 1, 1) := by decide +kernel
theorem dX4_waysInTime_72 : decode cX4_waysInTime 72 = .ok (.invokevirtual 68, 3) := by decide +kernel
theorem dX4_waysInTime_75 : decode cX4_waysInTime 75 = .ok (.aload_n 0, 1) := by decide +kernel
theorem dX4_waysInTime_76 : decode cX4_waysInTime 76 = .ok (.getfield 29, 3) := by decide +kernel
theorem dX4_waysInTime_79 : decode cX4_waysInTime 79 = .ok (.aload_n 0, 1) := by decide +kernel
theorem dX4_waysInTime_80 : decode cX4_waysInTime 80 = .ok (.getfield 9, 3) := by decide +kernel
theorem dX4_waysInTime_83 : decode cX4_waysInTime 83 = .ok (.iload 4, 2) := by decide +kernel
theorem dX4_waysInTime_85 : decode cX4_waysInTime 85 = .ok (.iaload, 1) := by decide +kernel
theorem dX4_waysInTime_86 : decode cX4_waysInTime 86 = .ok (.iconst 1, 1) := by decide +kernel
theorem dX4_waysInTime_87 : decode cX4_waysInTime 87 = .ok (.invokevirtual 54, 3) := by decide +kernel
theorem dX4_waysInTime_90 : decode cX4_waysInTime 90 = .ok (.istore_n 3, 1) := by decide +kernel
theorem dX4_waysInTime_91 : decode cX4_waysInTime 91 = .ok (.iinc 4 1, 3) := by decide +kernel
theorem dX4_waysInTime_94 : decode cX4_waysInTime 94 = .ok (.goto (-68), 3) := by decide +kernel
theorem dX4_waysInTime_97 : decode cX4_waysInTime 97 = .ok (.lconst 0, 1) := by decide +kernel
theorem dX4_waysInTime_98 : decode cX4_waysInTime 98 = .ok (.lstore 4, 2) := by decide +kernel
theorem dX4_waysInTime_100 : decode cX4_waysInTime 100 = .ok (.iconst 0, 1) := by decide +kernel
theorem dX4_waysInTime_101 : decode cX4_waysInTime 101 = .ok (.istore 6, 2) := by decide +kernel
theorem dX4_waysInTime_103 : decode cX4_waysInTime 103 = .ok (.iload 6, 2) := by decide +kernel
theorem dX4_waysInTime_105 : decode cX4_waysInTime 105 = .ok (.iload_n 2, 1) := by decide +kernel
theorem dX4_waysInTime_106 : decode cX4_waysInTime 106 = .ok (.if_icmp .gt 28, 3) := by decide +kernel
theorem dX4_waysInTime_109 : decode cX4_waysInTime 109 = .ok (.iload 6, 2) := by decide +kernel
theorem dX4_waysInTime_111 : decode cX4_waysInTime 111 = .ok (.bipush 40, 2) := by decide +kernel
theorem dX4_waysInTime_113 : decode cX4_waysInTime 113 = .ok (.if_icmp .gt 21, 3) := by decide +kernel
theorem dX4_waysInTime_116 : decode cX4_waysInTime 116 = .ok (.lload 4, 2) := by decide +kernel
theorem dX4_waysInTime_118 : decode cX4_waysInTime 118 = .ok (.aload_n 0, 1) := by decide +kernel
theorem dX4_waysInTime_119 : decode cX4_waysInTime 119 = .ok (.getfield 22, 3) := by decide +kernel
theorem dX4_waysInTime_122 : decode cX4_waysInTime 122 = .ok (.iload 6, 2) := by decide +kernel
theorem dX4_waysInTime_124 : decode cX4_waysInTime 124 = .ok (.laload, 1) := by decide +kernel
theorem dX4_waysInTime_125 : decode cX4_waysInTime 125 = .ok (.ladd, 1) := by decide +kernel
theorem dX4_waysInTime_126 : decode cX4_waysInTime 126 = .ok (.lstore 4, 2) := by decide +kernel
theorem dX4_waysInTime_128 : decode cX4_waysInTime 128 = .ok (.iinc 6 1, 3) := by decide +kernel
theorem dX4_waysInTime_131 : decode cX4_waysInTime 131 = .ok (.goto (-28), 3) := by decide +kernel
theorem dX4_waysInTime_134 : decode cX4_waysInTime 134 = .ok (.lload 4, 2) := by decide +kernel
theorem dX4_waysInTime_136 : decode cX4_waysInTime 136 = .ok (.lreturn, 1) := by decide +kernel
def Ri_waysInTime_L26 (k61 : Wd → Option (Int64 × Wd)) (k97 : Wd → Int32 → Option (Int64 × Wd)) : Nat → Wd → Int32 → Int32 → Int32 → Int32 → Option (Int64 × Wd)
  | 0, _, _, _, _, _ => none
  | n + 1, w, v1, v2, v3, v4 => (if (w.1 32 2) ≤ v4 then (k97 w v2) else (if (12 : Int32) ≤ v4 then (k97 w v2) else (if ib v4 12 = true then (Option.bind (La_part w (w.1 33 (Int32.toNatClampNeg v4)) (0 : Int32)) (fun q5 => (if q5 = v3 then (if ib v4 12 = true then (Option.bind (Ri_rideOn w (w.1 33 (Int32.toNatClampNeg v4)) v1) (fun q8 => (if ib v4 12 = true then (Option.bind (La_part q8 (q8.1 33 (Int32.toNatClampNeg v4)) (1 : Int32)) (fun q10 => (Ri_waysInTime_L26 k61 k97 n q8 v1 v2 q10 (v4 + (1 : Int32))))) else none))) else none) else (k61 w)))) else none)))
set_option maxRecDepth 100000 in
set_option maxHeartbeats 4000000 in
theorem Ri_waysInTime_L26_ok {K : Ctx} (F : Fx K cX4_waysInTime 7 RX4 (some .long) 3 70 true [3, 4, 32, 33, 35, 36]) {k61 : Wd → Option (Int64 × Wd)} (h61 : ∀ (w : Wd), N K rtJ (k61 w) w 61 [] []) {k97 : Wd → Int32 → Option (Int64 × Wd)} (h97 : ∀ (w : Wd) (v2 : Int32), N K rtJ (k97 w v2) w 97 [(0, .ref (gA (cg K) 32)), (2, .int v2)] []) : ∀ (n : Nat) (w : Wd) (v1 : Int32) (v2 : Int32) (v3 : Int32) (v4 : Int32), N K rtJ (Ri_waysInTime_L26 k61 k97 n w v1 v2 v3 v4) w 26 [(0, .ref (gA (cg K) 32)), (1, .int v1), (2, .int v2), (3, .int v3), (4, .int v4)] [] := by
  intro n
  induction n with
  | zero => intro _ _ _ _ _; exact n_none
  | succ n ih =>
    intro w v1 v2 v3 v4
    rw [Ri_waysInTime_L26]
    refine n_iload F dX4_waysInTime_26 4 rfl ?_
    refine n_aload_n F dX4_waysInTime_28 rfl 0 rfl ?_
    refine n_get F ck_4 lf_RX4_15 (by decide) fg_32_2 (by decide) dX4_waysInTime_29 ?_
    refine n_icmp_ge F 97 dX4_waysInTime_32 (by decide) (fun e2 => ?_) (fun e2 => ?_)
    · rw [if_pos e2]
      exact n_sub [0, 2] rfl (h97 _ _)
    rw [if_neg e2]
    refine n_iload F dX4_waysInTime_35 4 rfl ?_
    refine n_bipush F (12 : Int32) dX4_waysInTime_37 (by decide) ?_
    refine n_icmp_ge F 97 dX4_waysInTime_39 (by decide) (fun e3 => ?_) (fun e3 => ?_)
    · rw [if_pos e3]
      exact n_sub [0, 2] rfl (h97 _ _)
    rw [if_neg e3]
    refine n_aload_n F dX4_waysInTime_42 rfl 0 rfl ?_
    refine n_get F ck_4 lf_RX4_29 (by decide) fg_32_0 (by decide) dX4_waysInTime_43 ?_
    refine n_aload_n F dX4_waysInTime_46 rfl 0 rfl ?_
    refine n_get F ck_4 lf_RX4_9 (by decide) fg_32_1 (by decide) dX4_waysInTime_47 ?_
    refine n_iload F dX4_waysInTime_50 4 rfl ?_
    refine n_chk (fun e4 => ?_)
    refine n_iald F ar_33 (by decide) (ib_in e4) rfl dX4_waysInTime_52 ?_
    refine n_iconst F (0 : Int32) dX4_waysInTime_53 (by decide) ?_
    refine n_bind (fun q5 hq5 => ?_)
    refine n_callVi F cb_X1_part lm_RX4_54 ob_3 (by decide) ⟨_, _, rfl⟩ (ct_La_part (fx_ok F) (fx_sd F) (fx_ix F rfl) w (w.1 33 (Int32.toNatClampNeg v4)) (0 : Int32) hq5) rfl rfl (Nat.le_of_ble_eq_true rfl) ⟨Nat.le_of_ble_eq_true rfl, Nat.le_of_ble_eq_true rfl⟩ dX4_waysInTime_54 ?_
    refine n_iload_n F dX4_waysInTime_57 rfl 3 rfl ?_
    refine n_icmp_eq F 63 dX4_waysInTime_58 (by decide) (fun e6 => ?_) (fun e6 => ?_)
    · rw [if_pos e6]
      refine n_aload_n F dX4_waysInTime_63 rfl 0 rfl ?_
      refine n_aload_n F dX4_waysInTime_64 rfl 0 rfl ?_
      refine n_get F ck_4 lf_RX4_9 (by decide) fg_32_1 (by decide) dX4_waysInTime_65 ?_
      refine n_iload F dX4_waysInTime_68 4 rfl ?_
      refine n_chk (fun e7 => ?_)
      refine n_iald F ar_33 (by decide) (ib_in e7) rfl dX4_waysInTime_70 ?_
      refine n_iload_n F dX4_waysInTime_71 rfl 1 rfl ?_
      refine n_bind (fun q8 hq8 => ?_)
      refine n_callVv F cb_X4_rideOn lm_RX4_68 ob_32 (by decide) ⟨_, _, rfl⟩ (ct_Ri_rideOn (fx_ok F) (fx_sd F) (fx_ix F rfl) w (w.1 33 (Int32.toNatClampNeg v4)) v1 hq8) rfl rfl (Nat.le_of_ble_eq_true rfl) ⟨Nat.le_of_ble_eq_true rfl, Nat.le_of_ble_eq_true rfl⟩ dX4_waysInTime_72 ?_
      refine n_aload_n F dX4_waysInTime_75 rfl 0 rfl ?_
      refine n_get F ck_4 lf_RX4_29 (by decide) fg_32_0 (by decide) dX4_waysInTime_76 ?_
      refine n_aload_n F dX4_waysInTime_79 rfl 0 rfl ?_
      refine n_get F ck_4 lf_RX4_9 (by decide) fg_32_1 (by decide) dX4_waysInTime_80 ?_
      refine n_iload F dX4_waysInTime_83 4 rfl ?_
      refine n_chk (fun e9 => ?_)
      refine n_iald F ar_33 (by decide) (ib_in e9) rfl dX4_waysInTime_85 ?_
      refine n_iconst F (1 : Int32) dX4_waysInTime_86 (by decide) ?_
      refine n_bind (fun q10 hq10 => ?_)
      refine n_callVi F cb_X1_part lm_RX4_54 ob_3 (by decide) ⟨_, _, rfl⟩ (ct_La_part (fx_ok F) (fx_sd F) (fx_ix F rfl) q8 (q8.1 33 (Int32.toNatClampNeg v4)) (1 : Int32) hq10) rfl rfl (Nat.le_of_ble_eq_true rfl) ⟨Nat.le_of_ble_eq_true rfl, Nat.le_of_ble_eq_true rfl⟩ dX4_waysInTime_87 ?_
      refine n_istore_n F (lv' := [(3, .int q10), (0, .ref (gA (cg K) 32)), (1, .int v1), (2, .int v2), (4, .int v4)]) dX4_waysInTime_90 rfl (by decide) rfl ?_
      refine n_iinc F (v4 + (1 : Int32)) (lv' := [(4, .int (v4 + (1 : Int32))), (3, .int q10), (0, .ref (gA (cg K) 32)), (1, .int v1), (2, .int v2)]) dX4_waysInTime_91 4 rfl rfl (by decide) rfl ?_
      refine n_goto F 26 dX4_waysInTime_94 (by decide) ?_
      exact n_sub [2, 3, 4, 1, 0] rfl (ih _ _ _ _ _)
    rw [if_neg e6]
    exact n_sub [] rfl (h61 _)
def Ri_waysInTime_B61 (w : Wd) : Option (Int64 × Wd) := some ((0 : Int64), w)
set_option maxRecDepth 100000 in
set_option maxHeartbeats 4000000 in
theorem Ri_waysInTime_B61_ok {K : Ctx} (F : Fx K cX4_waysInTime 7 RX4 (some .long) 3 70 true [3, 4, 32, 33, 35, 36]) (w : Wd) : N K rtJ (Ri_waysInTime_B61 w) w 61 [] [] := by
  rw [Ri_waysInTime_B61]
  refine n_lconst F (0 : Int64) dX4_waysInTime_61 (by decide) ?_
  exact n_lret F rfl rfl dX4_waysInTime_62
def Ri_waysInTime_L103 (k134 : Wd → Int64 → Option (Int64 × Wd)) : Nat → Wd → Int32 → Int64 → Int32 → Option (Int64 × Wd)
  | 0, _, _, _, _ => none
  | n + 1, w, v2, v4, v6 => (if v2 < v6 then (k134 w v4) else (if (40 : Int32) < v6 then (k134 w v4) else (if ib v6 41 = true then (Ri_waysInTime_L103 k134 n w v2 (v4 + (w.2 35 (Int32.toNatClampNeg v6))) (v6 + (1 : Int32))) else none)))
set_option maxRecDepth 100000 in
set_option maxHeartbeats 4000000 in
theorem Ri_waysInTime_L103_ok {K : Ctx} (F : Fx K cX4_waysInTime 7 RX4 (some .long) 3 70 true [3, 4, 32, 33, 35, 36]) {k134 : Wd → Int64 → Option (Int64 × Wd)} (h134 : ∀ (w : Wd) (v4 : Int64), N K rtJ (k134 w v4) w 134 [(4, .long v4)] []) : ∀ (n : Nat) (w : Wd) (v2 : Int32) (v4 : Int64) (v6 : Int32), N K rtJ (Ri_waysInTime_L103 k134 n w v2 v4 v6) w 103 [(0, .ref (gA (cg K) 32)), (2, .int v2), (4, .long v4), (6, .int v6)] [] := by
  intro n
  induction n with
  | zero => intro _ _ _ _; exact n_none
  | succ n ih =>
    intro w v2 v4 v6
    rw [Ri_waysInTime_L103]
    refine n_iload F dX4_waysInTime_103 3 rfl ?_
    refine n_iload_n F dX4_waysInTime_105 rfl 1 rfl ?_
    refine n_icmp_gt F 134 dX4_waysInTime_106 (by decide) (fun e11 => ?_) (fun e11 => ?_)
    · rw [if_pos e11]
      exact n_sub [2] rfl (h134 _ _)
    rw [if_neg e11]
    refine n_iload F dX4_waysInTime_109 3 rfl ?_
    refine n_bipush F (40 : Int32) dX4_waysInTime_111 (by decide) ?_
    refine n_icmp_gt F 134 dX4_waysInTime_113 (by decide) (fun e12 => ?_) (fun e12 => ?_)
    · rw [if_pos e12]
      exact n_sub [2] rfl (h134 _ _)
    rw [if_neg e12]
    refine n_lload F dX4_waysInTime_116 2 rfl ?_
    refine n_aload_n F dX4_waysInTime_118 rfl 0 rfl ?_
    refine n_get F ck_4 lf_RX4_22 (by decide) fg_32_4 (by decide) dX4_waysInTime_119 ?_
    refine n_iload F dX4_waysInTime_122 3 rfl ?_
    refine n_chk (fun e13 => ?_)
    refine n_lald F ar_35 (by decide) (ib_in e13) rfl dX4_waysInTime_124 ?_
    refine n_ladd F dX4_waysInTime_125 ?_
    refine n_lstore F (lv' := [(4, .long (v4 + (w.2 35 (Int32.toNatClampNeg v6)))), (0, .ref (gA (cg K) 32)), (2, .int v2), (6, .int v6)]) dX4_waysInTime_126 (by decide) rfl ?_
    refine n_iinc F (v6 + (1 : Int32)) (lv' := [(6, .int (v6 + (1 : Int32))), (4, .long (v4 + (w.2 35 (Int32.toNatClampNeg v6)))), (0, .ref (gA (cg K) 32)), (2, .int v2)]) dX4_waysInTime_128 3 rfl rfl (by decide) rfl ?_
    refine n_goto F 103 dX4_waysInTime_131 (by decide) ?_
    exact n_sub [2, 3, 1, 0] rfl (ih _ _ _ _)
def Ri_waysInTime_B134 (w : Wd) (v4 : Int64) : Option (Int64 × Wd) := some (v4, w)
set_option maxRecDepth 100000 in
set_option maxHeartbeats 4000000 in
theorem Ri_waysInTime_B134_ok {K : Ctx} (F : Fx K cX4_waysInTime 7 RX4 (some .long) 3 70 true [3, 4, 32, 33, 35, 36]) (w : Wd) (v4 : Int64) : N K rtJ (Ri_waysInTime_B134 w v4) w 134 [(4, .long v4)] [] := by
  rw [Ri_waysInTime_B134]
  refine n_lload F dX4_waysInTime_134 0 rfl ?_
  exact n_lret F rfl rfl dX4_waysInTime_136
def Ri_waysInTime_B97 (w : Wd) (v2 : Int32) : Option (Int64 × Wd) := (Ri_waysInTime_L103 Ri_waysInTime_B134 FU w v2 (0 : Int64) (0 : Int32))
set_option maxRecDepth 100000 in
set_option maxHeartbeats 4000000 in
theorem Ri_waysInTime_B97_ok {K : Ctx} (F : Fx K cX4_waysInTime 7 RX4 (some .long) 3 70 true [3, 4, 32, 33, 35, 36]) (w : Wd) (v2 : Int32) : N K rtJ (Ri_waysInTime_B97 w v2) w 97 [(0, .ref (gA (cg K) 32)), (2, .int v2)] [] := by
  rw [Ri_waysInTime_B97]
  refine n_lconst F (0 : Int64) dX4_waysInTime_97 (by decide) ?_
  refine n_lstore F (lv' := [(4, .long (0 : Int64)), (0, .ref (gA (cg K) 32)), (2, .int v2)]) dX4_waysInTime_98 (by decide) rfl ?_
  refine n_iconst F (0 : Int32) dX4_waysInTime_100 (by decide) ?_
  refine n_istore F (lv' := [(6, .int (0 : Int32)), (4, .long (0 : Int64)), (0, .ref (gA (cg K) 32)), (2, .int v2)]) dX4_waysInTime_101 (by decide) rfl ?_
  exact n_sub [2, 3, 1, 0] rfl (Ri_waysInTime_L103_ok F (Ri_waysInTime_B134_ok F) FU _ _ _ _)
def Ri_waysInTime (w : Wd) (a1 : Int32) (a2 : Int32) : Option (Int64 × Wd) := (Option.bind (Jd_fillL_35 w (0 : Int64)) (fun q1 => (Ri_waysInTime_L26 Ri_waysInTime_B61 Ri_waysInTime_B97 FU (sJ q1 35 0 (1 : Int64)) a1 a2 ((sJ q1 35 0 (1 : Int64)).1 3 2) (0 : Int32))))
set_option maxRecDepth 100000 in
set_option maxHeartbeats 4000000 in
theorem ct_Ri_waysInTime {l : Launch} {g : GG} {σ : Sd} (hg : OKg g σ) (hb : σ.2.1 = true) (hx : ∀ c ∈ ([3, 4, 32, 33, 35, 36] : List Nat), c ∈ σ.1) (w : Wd) (a1 : Int32) (a2 : Int32) {q : Int64 × Wd} (hq : Ri_waysInTime w a1 a2 = some q) : CT l g σ yX4_waysInTime cX4_waysInTime 7 (some .long) 3 70 [.ref (gA g 32), .int a1, .int a2] w (some (.long q.1)) q.2 := by
  refine ct_of (rt := rtJ) (res := Ri_waysInTime w a1 a2) (q := q) (own := RX4) (b := true) hg hb hx (by decide) rfl (Nat.le_of_ble_eq_true rfl) hq (fun K e1 e2 e3 F => ?_)
  subst e1 e2 e3
  rw [Ri_waysInTime]
  show N K _ _ w 0 [(0, .ref (gA (cg K) 32)), (1, .int a1), (2, .int a2)] []
  refine n_aload_n F dX4_waysInTime_0 rfl 0 rfl ?_
  refine n_get F ck_4 lf_RX4_22 (by decide) fg_32_4 (by decide) dX4_waysInTime_1 ?_
  refine n_lconst F (0 : Int64) dX4_waysInTime_4 (by decide) ?_
  refine n_bind (fun q1 hq1 => ?_)
  refine n_callSv F cb_J7_fill_d0a16 lm_RX4_62 (ct_Jd_fillL_35 (fx_ok F) (fx_sd F) (fx_ix F rfl) w (0 : Int64) hq1) rfl rfl (Nat.le_of_ble_eq_true rfl) ⟨Nat.le_of_ble_eq_true rfl, Nat.le_of_ble_eq_true rfl⟩ dX4_waysInTime_5 ?_
  refine n_aload_n F dX4_waysInTime_8 rfl 0 rfl ?_
  refine n_get F ck_4 lf_RX4_22 (by decide) fg_32_4 (by decide) dX4_waysInTime_9 ?_
  refine n_iconst F (0 : Int32) dX4_waysInTime_12 (by decide) ?_
  refine n_lconst F (1 : Int64) dX4_waysInTime_13 (by decide) ?_
  refine n_last F ar_35 (by decide) (ib_c (n := 41) (by decide)) (j := 0) (by decide) dX4_waysInTime_14 ?_
  refine n_aload_n F dX4_waysInTime_15 rfl 0 rfl ?_
  refine n_get F ck_4 lf_RX4_29 (by decide) fg_32_0 (by decide) dX4_waysInTime_16 ?_
  refine n_get F ck_1 lf_RX4_48 (by decide) fg_3_2 (by decide) dX4_waysInTime_19 ?_
  refine n_istore_n F (lv' := [(3, .int ((sJ q1 35 0 (1 : Int64)).1 3 2)), (0, .ref (gA (cg K) 32)), (1, .int a1), (2, .int a2)]) dX4_waysInTime_22 rfl (by decide) rfl ?_
  refine n_iconst F (0 : Int32) dX4_waysInTime_23 (by decide) ?_
  refine n_istore F (lv' := [(4, .int (0 : Int32)), (3, .int ((sJ q1 35 0 (1 : Int64)).1 3 2)), (0, .ref (gA (cg K) 32)), (1, .int a1), (2, .int a2)]) dX4_waysInTime_24 (by decide) rfl ?_
  exact n_sub [2, 3, 4, 1, 0] rfl (Ri_waysInTime_L26_ok F (Ri_waysInTime_B61_ok F) (Ri_waysInTime_B97_ok F) FU _ _ _ _ _)
