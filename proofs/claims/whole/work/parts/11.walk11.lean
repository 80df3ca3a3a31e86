theorem dX8_chaseBy_0 : decode cX8_chaseBy 0 = .ok (.bipush 12, 2) := by decide +kernel
theorem dX8_chaseBy_2 : decode cX8_chaseBy 2 = .ok (.istore_n 2, 1) := by decide +kernel
theorem dX8_chaseBy_3 : decode cX8_chaseBy 3 = .ok (.iload_n 2, 1) := by decide +kernel
theorem dX8_chaseBy_4 : decode cX8_chaseBy 4 = .ok (.ifCond .lt 70, 3) := by decide +kernel
theorem dX8_chaseBy_7 : decode cX8_chaseBy 7 = .ok (.iconst 0, 1) := by decide +kernel
theorem dX8_chaseBy_8 : decode cX8_chaseBy 8 = .ok (.istore_n 3, 1) := by decide +kernel
theorem dX8_chaseBy_9 : decode cX8_chaseBy 9 = .ok (.iload_n 3, 1) := by decide +kernel
theorem dX8_chaseBy_10 : decode cX8_chaseBy 10 = .ok (.sipush 512, 3) := by decide +kernel
theorem dX8_chaseBy_13 : decode cX8_chaseBy 13 = .ok (.if_icmp .ge 55, 3) := by decide +kernel
theorem dX8_chaseBy_16 : decode cX8_chaseBy 16 = .ok (.iload_n 3, 1) := by decide +kernel
theorem dX8_chaseBy_17 : decode cX8_chaseBy 17 = .ok (.bipush 64, 2) := by decide +kernel
theorem dX8_chaseBy_19 : decode cX8_chaseBy 19 = .ok (.idiv, 1) := by decide +kernel
theorem dX8_chaseBy_20 : decode cX8_chaseBy 20 = .ok (.istore 4, 2) := by decide +kernel
theorem dX8_chaseBy_22 : decode cX8_chaseBy 22 = .ok (.iload 4, 2) := by decide +kernel
theorem dX8_chaseBy_24 : decode cX8_chaseBy 24 = .ok (.aload_n 0, 1) := by decide +kernel
theorem dX8_chaseBy_25 : decode cX8_chaseBy 25 = .ok (.getfield 23, 3) := by decide +kernel
theorem dX8_chaseBy_28 : decode cX8_chaseBy 28 = .ok (.if_icmp .ge 34, 3) := by decide +kernel
theorem dX8_chaseBy_31 : decode cX8_chaseBy 31 = .ok (.aload_n 0, 1) := by decide +kernel
theorem dX8_chaseBy_32 : decode cX8_chaseBy 32 = .ok (.getfield 39, 3) := by decide +kernel
theorem dX8_chaseBy_35 : decode cX8_chaseBy 35 = .ok (.sipush 512, 3) := by decide +kernel
theorem dX8_chaseBy_38 : decode cX8_chaseBy 38 = .ok (.iload_n 2, 1) := by decide +kernel
theorem dX8_chaseBy_39 : decode cX8_chaseBy 39 = .ok (.imul, 1) := by decide +kernel
theorem dX8_chaseBy_40 : decode cX8_chaseBy 40 = .ok (.iload_n 3, 1) := by decide +kernel
theorem dX8_chaseBy_41 : decode cX8_chaseBy 41 = .ok (.iadd, 1) := by decide +kernel
theorem dX8_chaseBy_42 : decode cX8_chaseBy 42 = .ok (.aload_n 0, 1) := by decide +kernel
theorem dX8_chaseBy_43 : decode cX8_chaseBy 43 = .ok (.iload_n 2, 1) := by decide +kernel
theorem dX8_chaseBy_44 : decode cX8_chaseBy 44 = .ok (.iload 4, 2) := by decide +kernel
theorem dX8_chaseBy_46 : decode cX8_chaseBy 46 = .ok (.iload_n 3, 1) := by decide +kernel
theorem dX8_chaseBy_47 : decode cX8_chaseBy 47 = .ok (.bipush 8, 2) := by decide +kernel
theorem dX8_chaseBy_49 : decode cX8_chaseBy 49 = .ok (.idiv, 1) := by decide +kernel
theorem dX8_chaseBy_50 : decode cX8_chaseBy 50 = .ok (.bipush 8, 2) := by decide +kernel
theorem dX8_chaseBy_52 : decode cX8_chaseBy 52 = .ok (.irem, 1) := by decide +kernel
theorem dX8_chaseBy_53 : decode cX8_chaseBy 53 = .ok (.iload_n 3, 1) := by decide +kernel
theorem dX8_chaseBy_54 : decode cX8_chaseBy 54 = .ok (.bipush 8, 2) := by decide +kernel
theorem dX8_chaseBy_56 : decode cX8_chaseBy 56 = .ok (.irem, 1) := by decide +kernel
theorem dX8_chaseBy_57 : decode cX8_chaseBy 57 = .ok (.iload_n 1, 1) := by decide +kernel
theorem dX8_chaseBy_58 : decode cX8_chaseBy 58 = .ok (.invokevirtual 203, 3) := by decide +kernel
theorem dX8_chaseBy_61 : decode cX8_chaseBy 61 = .ok (.iastore, 1) := by decide +kernel
theorem dX8_chaseBy_62 : decode cX8_chaseBy 62 = .ok (.iinc 3 1, 3) := by decide +kernel
theorem dX8_chaseBy_65 : decode cX8_chaseBy 65 = .ok (.goto (-56), 3) := by decide +kernel
theorem dX8_chaseBy_68 : decode cX8_chaseBy 68 = .ok (.iinc 2 (-1), 3) := by decide +kernel
theorem dX8_chaseBy_71 : decode cX8_chaseBy 71 = .ok (.goto (-68), 3) := by decide +kernel
theorem dX8_chaseBy_74 : decode cX8_chaseBy 74 = .ok (.aload_n 0, 1) := by decide +kernel
theorem dX8_chaseBy_75 : decode cX8_chaseBy 75 = .ok (.getfield 7, 3) := by decide +kernel
theorem dX8_chaseBy_78 : decode cX8_chaseBy 78 = .ok (.bipush 8, 2) := by decide +kernel
theorem dX8_chaseBy_80 : decode cX8_chaseBy 80 = .ok (.iaload, 1) := by decide +kernel
theorem dX8_chaseBy_81 : decode cX8_chaseBy 81 = .ok (.iconst (-1), 1) := by decide +kernel
theorem dX8_chaseBy_82 : decode cX8_chaseBy 82 = .ok (.if_icmp .ne 8, 3) := by decide +kernel
theorem dX8_chaseBy_85 : decode cX8_chaseBy 85 = .ok (.bipush 7, 2) := by decide +kernel
theorem dX8_chaseBy_87 : decode cX8_chaseBy 87 = .ok (.goto 10, 3) := by decide +kernel
theorem dX8_chaseBy_90 : decode cX8_chaseBy 90 = .ok (.aload_n 0, 1) := by decide +kernel
theorem dX8_chaseBy_91 : decode cX8_chaseBy 91 = .ok (.getfield 7, 3) := by decide +kernel
theorem dX8_chaseBy_94 : decode cX8_chaseBy 94 = .ok (.bipush 8, 2) := by decide +kernel
theorem dX8_chaseBy_96 : decode cX8_chaseBy 96 = .ok (.iaload, 1) := by decide +kernel
theorem dX8_chaseBy_97 : decode cX8_chaseBy 97 = .ok (.istore_n 2, 1) := by decide +kernel
theorem dX8_chaseBy_98 : decode cX8_chaseBy 98 = .ok (.aload_n 0, 1) := by decide +kernel
theorem dX8_chaseBy_99 : decode cX8_chaseBy 99 = .ok (.getfield 7, 3) := by decide +kernel
theorem dX8_chaseBy_102 : decode cX8_chaseBy 102 = .ok (.bipush 9, 2) := by decide +kernel
theorem dX8_chaseBy_104 : decode cX8_chaseBy 104 = .ok (.iaload, 1) := by decide +kernel
theorem dX8_chaseBy_105 : decode cX8_chaseBy 105 = .ok (.iconst (-1), 1) := by decide +kernel
theorem dX8_chaseBy_106 : decode cX8_chaseBy 106 = .ok (.if_icmp .ne 8, 3) := by decide +kernel
theorem dX8_chaseBy_109 : decode cX8_chaseBy 109 = .ok (.bipush 7, 2) := by decide +kernel
theorem dX8_chaseBy_111 : decode cX8_chaseBy 111 = .ok (.goto 10, 3) := by decide +kernel
theorem dX8_chaseBy_114 : decode cX8_chaseBy 114 = .ok (.aload_n 0, 1) := by decide +kernel
theorem dX8_chaseBy_115 : decode cX8_chaseBy 115 = .ok (.getfield 7, 3) := by decide +kernel
theorem dX8_chaseBy_118 : decode cX8_chaseBy 118 = .ok (.bipush 9, 2) := by decide +kernel
theorem dX8_chaseBy_120 : decode cX8_chaseBy 120 = .ok (.iaload, 1) := by decide +kernel
theorem dX8_chaseBy_121 : decode cX8_chaseBy 121 = .ok (.istore_n 3, 1) := by decide +kernel
theorem dX8_chaseBy_122 : decode cX8_chaseBy 122 = .ok (.aload_n 0, 1) := by decide +kernel
theorem dX8_chaseBy_123 : decode cX8_chaseBy 123 = .ok (.getfield 39, 3) := by decide +kernel
theorem dX8_chaseBy_126 : decode cX8_chaseBy 126 = .ok (.iconst 0, 1) := by decide +kernel
theorem dX8_chaseBy_127 : decode cX8_chaseBy 127 = .ok (.aload_n 0, 1) := by decide +kernel
theorem dX8_chaseBy_128 : decode cX8_chaseBy 128 = .ok (.getfield 7, 3) := by decide +kernel
theorem dX8_chaseBy_131 : decode cX8_chaseBy 131 = .ok (.iconst 1, 1) := by decide +kernel
theorem dX8_chaseBy_132 : decode cX8_chaseBy 132 = .ok (.iaload, 1) := by decide +kernel
theorem dX8_chaseBy_133 : decode cX8_chaseBy 133 = .ok (.iload_n 2, 1) := by decide +kernel
theorem dX8_chaseBy_134 : decode cX8_chaseBy 134 = .ok (.iload_n 3, 1) := by decide +kernel
theorem dX8_chaseBy_135 : decode cX8_chaseBy 135 = .ok (.invokestatic 196, 3) := by decide +kernel
theorem dX8_chaseBy_138 : decode cX8_chaseBy 138 = .ok (.iaload, 1) := by decide +kernel
theorem dX8_chaseBy_139 : decode cX8_chaseBy 139 = .ok (.istore 4, 2) := by decide +kernel
theorem dX8_chaseBy_141 : decode cX8_chaseBy 141 = .ok (.iload 4, 2) := by decide +kernel
theorem dX8_chaseBy_143 : decode cX8_chaseBy 143 = .ok (.bipush 99, 2) := by decide +kernel
theorem dX8_chaseBy_145 : decode cX8_chaseBy 145 = .ok (.if_icmp .lt 8, 3) := by decide +kernel
theorem dX8_chaseBy_148 : decode cX8_chaseBy 148 = .ok (.bipush 99, 2) := by decide +kernel
theorem dX8_chaseBy_150 : decode cX8_chaseBy 150 = .ok (.goto 5, 3) := by decide +kernel
theorem dX8_chaseBy_153 : decode cX8_chaseBy 153 = .ok (.iload 4, 2) := by decide +kernel
theorem dX8_chaseBy_155 : decode cX8_chaseBy 155 = .ok (.ireturn, 1) := by decide +kernel
def Mo_chaseBy_L9 (k68 : Wd → Int32 → Int32 → Option (Int32 × Wd)) : Nat → Wd → Int32 → Int32 → Int32 → Option (Int32 × Wd)
  | 0, _, _, _, _ => none
  | n + 1, w, v1, v2, v3 => (if (512 : Int32) ≤ v3 then (k68 w v1 v2) else (if (w.1 37 6) ≤ (v3 / (64 : Int32)) then (Mo_chaseBy_L9 k68 n w v1 v2 (v3 + (1 : Int32))) else (Option.bind (Mo_bestFrom w v2 (v3 / (64 : Int32)) ((v3 / (8 : Int32)) - (v3 / (8 : Int32)) / (8 : Int32) * (8 : Int32)) (v3 - v3 / (8 : Int32) * (8 : Int32)) v1) (fun q4 => (if ib (((512 : Int32) * v2) + v3) 6656 = true then (Mo_chaseBy_L9 k68 n (sI w 45 (Int32.toNatClampNeg (((512 : Int32) * v2) + v3)) q4) v1 v2 (v3 + (1 : Int32))) else none)))))
set_option maxRecDepth 100000 in
set_option maxHeartbeats 4000000 in
theorem Mo_chaseBy_L9_ok {K : Ctx} (F : Fx K cX8_chaseBy 5 RX8 (some .int) 4 103 false [37, 38, 42, 45]) {k68 : Wd → Int32 → Int32 → Option (Int32 × Wd)} (h68 : ∀ (w : Wd) (v1 : Int32) (v2 : Int32), N K rtI (k68 w v1 v2) w 68 [(0, .ref (gA (cg K) 37)), (1, .int v1), (2, .int v2)] []) : ∀ (n : Nat) (w : Wd) (v1 : Int32) (v2 : Int32) (v3 : Int32), N K rtI (Mo_chaseBy_L9 k68 n w v1 v2 v3) w 9 [(0, .ref (gA (cg K) 37)), (1, .int v1), (2, .int v2), (3, .int v3)] [] := by
  intro n
  induction n with
  | zero => intro _ _ _ _; exact n_none
  | succ n ih =>
    intro w v1 v2 v3
    rw [Mo_chaseBy_L9]
    refine n_iload_n F dX8_chaseBy_9 rfl 3 rfl ?_
    refine n_sipush F (512 : Int32) dX8_chaseBy_10 (by decide) ?_
    refine n_icmp_ge F 68 dX8_chaseBy_13 (by decide) (fun e2 => ?_) (fun e2 => ?_)
    · rw [if_pos e2]
      exact n_sub [0, 1, 2] rfl (h68 _ _ _)
    rw [if_neg e2]
    refine n_iload_n F dX8_chaseBy_16 rfl 3 rfl ?_
    refine n_bipush F (64 : Int32) dX8_chaseBy_17 (by decide) ?_
    refine n_idiv F dX8_chaseBy_19 (by decide) ?_
    refine n_istore F (lv' := [(4, .int (v3 / (64 : Int32))), (0, .ref (gA (cg K) 37)), (1, .int v1), (2, .int v2), (3, .int v3)]) dX8_chaseBy_20 (by decide) rfl ?_
    refine n_iload F dX8_chaseBy_22 0 rfl ?_
    refine n_aload_n F dX8_chaseBy_24 rfl 1 rfl ?_
    refine n_get F ck_8 lf_RX8_23 (by decide) fg_37_6 (by decide) dX8_chaseBy_25 ?_
    refine n_icmp_ge F 62 dX8_chaseBy_28 (by decide) (fun e3 => ?_) (fun e3 => ?_)
    · rw [if_pos e3]
      refine n_iinc F (v3 + (1 : Int32)) (lv' := [(3, .int (v3 + (1 : Int32))), (4, .int (v3 / (64 : Int32))), (0, .ref (gA (cg K) 37)), (1, .int v1), (2, .int v2)]) dX8_chaseBy_62 4 rfl rfl (by decide) rfl ?_
      refine n_goto F 9 dX8_chaseBy_65 (by decide) ?_
      exact n_sub [2, 3, 4, 0] rfl (ih _ _ _ _)
    rw [if_neg e3]
    refine n_aload_n F dX8_chaseBy_31 rfl 1 rfl ?_
    refine n_get F ck_8 lf_RX8_39 (by decide) fg_37_20 (by decide) dX8_chaseBy_32 ?_
    refine n_sipush F (512 : Int32) dX8_chaseBy_35 (by decide) ?_
    refine n_iload_n F dX8_chaseBy_38 rfl 3 rfl ?_
    refine n_imul F dX8_chaseBy_39 ?_
    refine n_iload_n F dX8_chaseBy_40 rfl 4 rfl ?_
    refine n_iadd F dX8_chaseBy_41 ?_
    refine n_aload_n F dX8_chaseBy_42 rfl 1 rfl ?_
    refine n_iload_n F dX8_chaseBy_43 rfl 3 rfl ?_
    refine n_iload F dX8_chaseBy_44 0 rfl ?_
    refine n_iload_n F dX8_chaseBy_46 rfl 4 rfl ?_
    refine n_bipush F (8 : Int32) dX8_chaseBy_47 (by decide) ?_
    refine n_idiv F dX8_chaseBy_49 (by decide) ?_
    refine n_bipush F (8 : Int32) dX8_chaseBy_50 (by decide) ?_
    refine n_irem F dX8_chaseBy_52 (by decide) ?_
    refine n_iload_n F dX8_chaseBy_53 rfl 4 rfl ?_
    refine n_bipush F (8 : Int32) dX8_chaseBy_54 (by decide) ?_
    refine n_irem F dX8_chaseBy_56 (by decide) ?_
    refine n_iload_n F dX8_chaseBy_57 rfl 2 rfl ?_
    refine n_bind (fun q4 hq4 => ?_)
    refine n_callVi F cb_X8_bestFrom lm_RX8_203 ob_37 (by decide) ⟨_, _, rfl⟩ (ct_Mo_bestFrom (fx_ok F) (fx_sd F) (fx_ix F rfl) w v2 (v3 / (64 : Int32)) ((v3 / (8 : Int32)) - (v3 / (8 : Int32)) / (8 : Int32) * (8 : Int32)) (v3 - v3 / (8 : Int32) * (8 : Int32)) v1 hq4) rfl rfl (Nat.le_of_ble_eq_true rfl) ⟨Nat.le_of_ble_eq_true rfl, Nat.le_of_ble_eq_true rfl⟩ dX8_chaseBy_58 ?_
    refine n_chk (fun e5 => ?_)
    refine n_iast F ar_45 (by decide) (ib_in e5) rfl dX8_chaseBy_61 ?_
    refine n_iinc F (v3 + (1 : Int32)) (lv' := [(3, .int (v3 + (1 : Int32))), (4, .int (v3 / (64 : Int32))), (0, .ref (gA (cg K) 37)), (1, .int v1), (2, .int v2)]) dX8_chaseBy_62 4 rfl rfl (by decide) rfl ?_
    refine n_goto F 9 dX8_chaseBy_65 (by decide) ?_
    exact n_sub [2, 3, 4, 0] rfl (ih _ _ _ _)
def Mo_chaseBy_B68 (k3 : Wd → Int32 → Int32 → Option (Int32 × Wd)) (w : Wd) (v1 : Int32) (v2 : Int32) : Option (Int32 × Wd) := (k3 w v1 (v2 + (-1 : Int32)))
set_option maxRecDepth 100000 in
set_option maxHeartbeats 4000000 in
theorem Mo_chaseBy_B68_ok {K : Ctx} (F : Fx K cX8_chaseBy 5 RX8 (some .int) 4 103 false [37, 38, 42, 45]) {k3 : Wd → Int32 → Int32 → Option (Int32 × Wd)} (h3 : ∀ (w : Wd) (v1 : Int32) (v2 : Int32), N K rtI (k3 w v1 v2) w 3 [(0, .ref (gA (cg K) 37)), (1, .int v1), (2, .int v2)] []) (w : Wd) (v1 : Int32) (v2 : Int32) : N K rtI (Mo_chaseBy_B68 k3 w v1 v2) w 68 [(0, .ref (gA (cg K) 37)), (1, .int v1), (2, .int v2)] [] := by
  rw [Mo_chaseBy_B68]
  refine n_iinc F (v2 + (-1 : Int32)) (lv' := [(2, .int (v2 + (-1 : Int32))), (0, .ref (gA (cg K) 37)), (1, .int v1)]) dX8_chaseBy_68 2 rfl rfl (by decide) rfl ?_
  refine n_goto F 3 dX8_chaseBy_71 (by decide) ?_
  exact n_sub [1, 2, 0] rfl (h3 _ _ _)
def Mo_chaseBy_L3 (k74 : Wd → Option (Int32 × Wd)) : Nat → Wd → Int32 → Int32 → Option (Int32 × Wd)
  | 0, _, _, _ => none
  | n + 1, w, v1, v2 => (if v2 < (0 : Int32) then (k74 w) else (Mo_chaseBy_L9 (Mo_chaseBy_B68 (Mo_chaseBy_L3 k74 n)) FU w v1 v2 (0 : Int32)))
set_option maxRecDepth 100000 in
set_option maxHeartbeats 4000000 in
theorem Mo_chaseBy_L3_ok {K : Ctx} (F : Fx K cX8_chaseBy 5 RX8 (some .int) 4 103 false [37, 38, 42, 45]) {k74 : Wd → Option (Int32 × Wd)} (h74 : ∀ (w : Wd), N K rtI (k74 w) w 74 [(0, .ref (gA (cg K) 37))] []) : ∀ (n : Nat) (w : Wd) (v1 : Int32) (v2 : Int32), N K rtI (Mo_chaseBy_L3 k74 n w v1 v2) w 3 [(0, .ref (gA (cg K) 37)), (1, .int v1), (2, .int v2)] [] := by
  intro n
  induction n with
  | zero => intro _ _ _; exact n_none
  | succ n ih =>
    intro w v1 v2
    rw [Mo_chaseBy_L3]
    refine n_iload_n F dX8_chaseBy_3 rfl 2 rfl ?_
    refine n_if_lt F 74 dX8_chaseBy_4 (by decide) (fun e1 => ?_) (fun e1 => ?_)
    · rw [if_pos e1]
      exact n_sub [0] rfl (h74 _)
    rw [if_neg e1]
    refine n_iconst F (0 : Int32) dX8_chaseBy_7 (by decide) ?_
    refine n_istore_n F (lv' := [(3, .int (0 : Int32)), (0, .ref (gA (cg K) 37)), (1, .int v1), (2, .int v2)]) dX8_chaseBy_8 rfl (by decide) rfl ?_
    exact n_sub [1, 2, 3, 0] rfl (Mo_chaseBy_L9_ok F (Mo_chaseBy_B68_ok F ih) FU _ _ _ _)
def Mo_chaseBy_B121 (w : Wd) (v2 : Int32) (s0 : Int32) : Option (Int32 × Wd) := (if ib (Mo_placeOf w (0 : Int32) (w.1 38 1) v2 s0) 6656 = true then (if (w.1 45 (Int32.toNatClampNeg (Mo_placeOf w (0 : Int32) (w.1 38 1) v2 s0))) < (99 : Int32) then some ((w.1 45 (Int32.toNatClampNeg (Mo_placeOf w (0 : Int32) (w.1 38 1) v2 s0))), w) else some ((99 : Int32), w)) else none)
set_option maxRecDepth 100000 in
set_option maxHeartbeats 4000000 in
theorem Mo_chaseBy_B121_ok {K : Ctx} (F : Fx K cX8_chaseBy 5 RX8 (some .int) 4 103 false [37, 38, 42, 45]) (w : Wd) (v2 : Int32) (s0 : Int32) : N K rtI (Mo_chaseBy_B121 w v2 s0) w 121 [(0, .ref (gA (cg K) 37)), (2, .int v2)] [.int s0] := by
  rw [Mo_chaseBy_B121]
  refine n_istore_n F (lv' := [(3, .int s0), (0, .ref (gA (cg K) 37)), (2, .int v2)]) dX8_chaseBy_121 rfl (by decide) rfl ?_
  refine n_aload_n F dX8_chaseBy_122 rfl 1 rfl ?_
  refine n_get F ck_8 lf_RX8_39 (by decide) fg_37_20 (by decide) dX8_chaseBy_123 ?_
  refine n_iconst F (0 : Int32) dX8_chaseBy_126 (by decide) ?_
  refine n_aload_n F dX8_chaseBy_127 rfl 1 rfl ?_
  refine n_get F ck_8 lf_RX8_7 (by decide) fg_37_0 (by decide) dX8_chaseBy_128 ?_
  refine n_iconst F (1 : Int32) dX8_chaseBy_131 (by decide) ?_
  refine n_iald F ar_38 (by decide) (ib_c (n := 45) (by decide)) (j := 1) (by decide) dX8_chaseBy_132 ?_
  refine n_iload_n F dX8_chaseBy_133 rfl 2 rfl ?_
  refine n_iload_n F dX8_chaseBy_134 rfl 0 rfl ?_
  refine n_callSi F cb_X8_placeOf lm_RX8_196 (ct_Mo_placeOf (fx_ok F) (fx_sd F) (fx_ix F rfl) w (0 : Int32) (w.1 38 1) v2 s0) rfl rfl (Nat.le_of_ble_eq_true rfl) ⟨Nat.le_of_ble_eq_true rfl, Nat.le_of_ble_eq_true rfl⟩ dX8_chaseBy_135 ?_
  refine n_chk (fun e8 => ?_)
  refine n_iald F ar_45 (by decide) (ib_in e8) rfl dX8_chaseBy_138 ?_
  refine n_istore F (lv' := [(4, .int (w.1 45 (Int32.toNatClampNeg (Mo_placeOf w (0 : Int32) (w.1 38 1) v2 s0)))), (3, .int s0), (0, .ref (gA (cg K) 37)), (2, .int v2)]) dX8_chaseBy_139 (by decide) rfl ?_
  refine n_iload F dX8_chaseBy_141 0 rfl ?_
  refine n_bipush F (99 : Int32) dX8_chaseBy_143 (by decide) ?_
  refine n_icmp_lt F 153 dX8_chaseBy_145 (by decide) (fun e9 => ?_) (fun e9 => ?_)
  · rw [if_pos e9]
    refine n_iload F dX8_chaseBy_153 0 rfl ?_
    exact n_iret F rfl rfl dX8_chaseBy_155
  rw [if_neg e9]
  refine n_bipush F (99 : Int32) dX8_chaseBy_148 (by decide) ?_
  refine n_goto F 155 dX8_chaseBy_150 (by decide) ?_
  exact n_iret F rfl rfl dX8_chaseBy_155
def Mo_chaseBy_B97 (w : Wd) (s0 : Int32) : Option (Int32 × Wd) := (Mo_chaseBy_B121 w s0 (if (w.1 38 9) = (-1 : Int32) then (7 : Int32) else (w.1 38 9)))
set_option maxRecDepth 100000 in
set_option maxHeartbeats 4000000 in
theorem Mo_chaseBy_B97_ok {K : Ctx} (F : Fx K cX8_chaseBy 5 RX8 (some .int) 4 103 false [37, 38, 42, 45]) (w : Wd) (s0 : Int32) : N K rtI (Mo_chaseBy_B97 w s0) w 97 [(0, .ref (gA (cg K) 37))] [.int s0] := by
  rw [Mo_chaseBy_B97]
  refine n_istore_n F (lv' := [(2, .int s0), (0, .ref (gA (cg K) 37))]) dX8_chaseBy_97 rfl (by decide) rfl ?_
  refine n_aload_n F dX8_chaseBy_98 rfl 1 rfl ?_
  refine n_get F ck_8 lf_RX8_7 (by decide) fg_37_0 (by decide) dX8_chaseBy_99 ?_
  refine n_bipush F (9 : Int32) dX8_chaseBy_102 (by decide) ?_
  refine n_iald F ar_38 (by decide) (ib_c (n := 45) (by decide)) (j := 9) (by decide) dX8_chaseBy_104 ?_
  refine n_iconst F (-1 : Int32) dX8_chaseBy_105 (by decide) ?_
  refine n_icmp_ne F 114 dX8_chaseBy_106 (by decide) (fun e7 => ?_) (fun e7 => ?_)
  · rw [if_neg e7]
    refine n_aload_n F dX8_chaseBy_114 rfl 1 rfl ?_
    refine n_get F ck_8 lf_RX8_7 (by decide) fg_37_0 (by decide) dX8_chaseBy_115 ?_
    refine n_bipush F (9 : Int32) dX8_chaseBy_118 (by decide) ?_
    refine n_iald F ar_38 (by decide) (ib_c (n := 45) (by decide)) (j := 9) (by decide) dX8_chaseBy_120 ?_
    exact n_sub [1, 0] rfl (Mo_chaseBy_B121_ok F _ _ _)
  rw [if_pos e7]
  refine n_bipush F (7 : Int32) dX8_chaseBy_109 (by decide) ?_
  refine n_goto F 121 dX8_chaseBy_111 (by decide) ?_
  exact n_sub [1, 0] rfl (Mo_chaseBy_B121_ok F _ _ _)
def Mo_chaseBy_B74 (w : Wd) : Option (Int32 × Wd) := (Mo_chaseBy_B97 w (if (w.1 38 8) = (-1 : Int32) then (7 : Int32) else (w.1 38 8)))
set_option maxRecDepth 100000 in
set_option maxHeartbeats 4000000 in
theorem Mo_chaseBy_B74_ok {K : Ctx} (F : Fx K cX8_chaseBy 5 RX8 (some .int) 4 103 false [37, 38, 42, 45]) (w : Wd) : N K rtI (Mo_chaseBy_B74 w) w 74 [(0, .ref (gA (cg K) 37))] [] := by
  rw [Mo_chaseBy_B74]
  refine n_aload_n F dX8_chaseBy_74 rfl 0 rfl ?_
  refine n_get F ck_8 lf_RX8_7 (by decide) fg_37_0 (by decide) dX8_chaseBy_75 ?_
  refine n_bipush F (8 : Int32) dX8_chaseBy_78 (by decide) ?_
  refine n_iald F ar_38 (by decide) (ib_c (n := 45) (by decide)) (j := 8) (by decide) dX8_chaseBy_80 ?_
  refine n_iconst F (-1 : Int32) dX8_chaseBy_81 (by decide) ?_
  refine n_icmp_ne F 90 dX8_chaseBy_82 (by decide) (fun e6 => ?_) (fun e6 => ?_)
  · rw [if_neg e6]
    refine n_aload_n F dX8_chaseBy_90 rfl 0 rfl ?_
    refine n_get F ck_8 lf_RX8_7 (by decide) fg_37_0 (by decide) dX8_chaseBy_91 ?_
    refine n_bipush F (8 : Int32) dX8_chaseBy_94 (by decide) ?_
    refine n_iald F ar_38 (by decide) (ib_c (n := 45) (by decide)) (j := 8) (by decide) dX8_chaseBy_96 ?_
    exact n_sub [0] rfl (Mo_chaseBy_B97_ok F _ _)
  rw [if_pos e6]
  refine n_bipush F (7 : Int32) dX8_chaseBy_85 (by decide) ?_
  refine n_goto F 97 dX8_chaseBy_87 (by decide) ?_
  exact n_sub [0] rfl (Mo_chaseBy_B97_ok F _ _)
def Mo_chaseBy (w : Wd) (a1 : Int32) : Option (Int32 × Wd) := (Mo_chaseBy_L3 Mo_chaseBy_B74 FU w a1 (12 : Int32))
set_option maxRecDepth 100000 in
set_option maxHeartbeats 4000000 in
theorem ct_Mo_chaseBy {l : Launch} {g : GG} {σ : Sd} (hg : OKg g σ) (hb : σ.2.1 = false) (hx : ∀ c ∈ ([37, 38, 42, 45] : List Nat), c ∈ σ.1) (w : Wd) (a1 : Int32) {q : Int32 × Wd} (hq : Mo_chaseBy w a1 = some q) : CT l g σ yX8_chaseBy cX8_chaseBy 5 (some .int) 4 103 [.ref (gA g 37), .int a1] w (some (.int q.1)) q.2 := by
  refine ct_of (rt := rtI) (res := Mo_chaseBy w a1) (q := q) (own := RX8) (b := false) hg hb hx (by decide) rfl (Nat.le_of_ble_eq_true rfl) hq (fun K e1 e2 e3 F => ?_)
  subst e1 e2 e3
  rw [Mo_chaseBy]
  show N K _ _ w 0 [(0, .ref (gA (cg K) 37)), (1, .int a1)] []
  refine n_bipush F (12 : Int32) dX8_chaseBy_0 (by decide) ?_
  refine n_istore_n F (lv' := [(2, .int (12 : Int32)), (0, .ref (gA (cg K) 37)), (1, .int a1)]) dX8_chaseBy_2 rfl (by decide) rfl ?_
  exact n_sub [1, 2, 0] rfl (Mo_chaseBy_L3_ok F (Mo_chaseBy_B74_ok F) FU _ _ _)
theorem dX8_isNoChase_0 : decode cX8_isNoChase 0 = .ok (.aload_n 0, 1) := by decide +kernel
theorem dX8_isNoChase_1 : decode cX8_isNoChase 1 = .ok (.getfield 7, 3) := by decide +kernel
theorem dX8_isNoChase_4 : decode cX8_isNoChase 4 = .ok (.iconst 2, 1) := by decide +kernel
theorem dX8_isNoChase_5 : decode cX8_isNoChase 5 = .ok (.iaload, 1) := by decide +kernel
theorem dX8_isNoChase_6 : decode cX8_isNoChase 6 = .ok (.iconst 1, 1) := by decide +kernel
theorem dX8_isNoChase_7 : decode cX8_isNoChase 7 = .ok (.if_icmp .eq 25, 3) := by decide +kernel
theorem dX8_isNoChase_10 : decode cX8_isNoChase 10 = .ok (.aload_n 0, 1) := by decide +kernel
theorem dX8_isNoChase_11 : decode cX8_isNoChase 11 = .ok (.getfield 7, 3) := by decide +kernel
theorem dX8_isNoChase_14 : decode cX8_isNoChase 14 = .ok (.bipush 8, 2) := by decide +kernel
theorem dX8_isNoChase_16 : decode cX8_isNoChase 16 = .ok (.iaload, 1) := by decide +kernel
theorem dX8_isNoChase_17 : decode cX8_isNoChase 17 = .ok (.iconst (-1), 1) := by decide +kernel
theorem dX8_isNoChase_18 : decode cX8_isNoChase 18 = .ok (.if_icmp .ne 18, 3) := by decide +kernel
theorem dX8_isNoChase_21 : decode cX8_isNoChase 21 = .ok (.aload_n 0, 1) := by decide +kernel
theorem dX8_isNoChase_22 : decode cX8_isNoChase 22 = .ok (.getfield 7, 3) := by decide +kernel
theorem dX8_isNoChase_25 : decode cX8_isNoChase 25 = .ok (.bipush 9, 2) := by decide +kernel
theorem dX8_isNoChase_27 : decode cX8_isNoChase 27 = .ok (.iaload, 1) := by decide +kernel
theorem dX8_isNoChase_28 : decode cX8_isNoChase 28 = .ok (.iconst (-1), 1) := by decide +kernel
theorem dX8_isNoChase_29 : decode cX8_isNoChase 29 = .ok (.if_icmp .ne 7, 3) := by decide +kernel
theorem dX8_isNoChase_32 : decode cX8_isNoChase 32 = .ok (.iconst 1, 1) := by decide +kernel
theorem dX8_isNoChase_33 : decode cX8_isNoChase 33 = .ok (.goto 4, 3) := by decide +kernel
theorem dX8_isNoChase_36 : decode cX8_isNoChase 36 = .ok (.iconst 0, 1) := by decide +kernel
theorem dX8_isNoChase_37 : decode cX8_isNoChase 37 = .ok (.ireturn, 1) := by decide +kernel
def Mo_isNoChase (w : Wd) : Int32 := (if (w.1 38 2) = (1 : Int32) then (1 : Int32) else (if (w.1 38 8) = (-1 : Int32) then (if (w.1 38 9) = (-1 : Int32) then (1 : Int32) else (0 : Int32)) else (0 : Int32)))
set_option maxRecDepth 100000 in
set_option maxHeartbeats 4000000 in
theorem ct_Mo_isNoChase {l : Launch} {g : GG} {σ : Sd} (hg : OKg g σ) (hb : σ.2.1 = false) (hx : ∀ c ∈ ([37, 38] : List Nat), c ∈ σ.1) (w : Wd) : CT l g σ yX8_isNoChase cX8_isNoChase 1 (some .boolean) 0 0 [.ref (gA g 37)] w (some (.int (Mo_isNoChase w))) w := by
  refine ct_of (rt := (rtP w)) (res := some (Mo_isNoChase w)) (q := (Mo_isNoChase w)) (own := RX8) (b := false) hg hb hx (by decide) rfl (Nat.le_of_ble_eq_true rfl) rfl (fun K e1 e2 e3 F => ?_)
  subst e1 e2 e3
  rw [Mo_isNoChase]
  show N K _ _ w 0 [(0, .ref (gA (cg K) 37))] []
  refine n_aload_n F dX8_isNoChase_0 rfl 0 rfl ?_
  refine n_get F ck_8 lf_RX8_7 (by decide) fg_37_0 (by decide) dX8_isNoChase_1 ?_
  refine n_iconst F (2 : Int32) dX8_isNoChase_4 (by decide) ?_
  refine n_iald F ar_38 (by decide) (ib_c (n := 45) (by decide)) (j := 2) (by decide) dX8_isNoChase_5 ?_
  refine n_iconst F (1 : Int32) dX8_isNoChase_6 (by decide) ?_
  refine n_icmp_eq F 32 dX8_isNoChase_7 (by decide) (fun e1 => ?_) (fun e1 => ?_)
  · rw [if_pos e1]
    refine n_iconst F (1 : Int32) dX8_isNoChase_32 (by decide) ?_
    refine n_goto F 37 dX8_isNoChase_33 (by decide) ?_
    exact n_zret F .boolean rfl rfl rfl dX8_isNoChase_37
  rw [if_neg e1]
  refine n_aload_n F dX8_isNoChase_10 rfl 0 rfl ?_
  refine n_get F ck_8 lf_RX8_7 (by decide) fg_37_0 (by decide) dX8_isNoChase_11 ?_
  refine n_bipush F (8 : Int32) dX8_isNoChase_14 (by decide) ?_
  refine n_iald F ar_38 (by decide) (ib_c (n := 45) (by decide)) (j := 8) (by decide) dX8_isNoChase_16 ?_
  refine n_iconst F (-1 : Int32) dX8_isNoChase_17 (by decide) ?_
  refine n_icmp_ne F 36 dX8_isNoChase_18 (by decide) (fun e2 => ?_) (fun e2 => ?_)
  · rw [if_neg e2]
    refine n_iconst F (0 : Int32) dX8_isNoChase_36 (by decide) ?_
    exact n_zret F .boolean rfl rfl rfl dX8_isNoChase_37
  rw [if_pos e2]
  refine n_aload_n F dX8_isNoChase_21 rfl 0 rfl ?_
  refine n_get F ck_8 lf_RX8_7 (by decide) fg_37_0 (by decide) dX8_isNoChase_22 ?_
  refine n_bipush F (9 : Int32) dX8_isNoChase_25 (by decide) ?_
  refine n_iald F ar_38 (by decide) (ib_c (n := 45) (by decide)) (j := 9) (by decide) dX8_isNoChase_27 ?_
  refine n_iconst F (-1 : Int32) dX8_isNoChase_28 (by decide) ?_
  refine n_icmp_ne F 36 dX8_isNoChase_29 (by decide) (fun e3 => ?_) (fun e3 => ?_)
  · rw [if_neg e3]
    refine n_iconst F (0 : Int32) dX8_isNoChase_36 (by decide) ?_
    exact n_zret F .boolean rfl rfl rfl dX8_isNoChase_37
  rw [if_pos e3]
  refine n_iconst F (1 : Int32) dX8_isNoChase_32 (by decide) ?_
  refine n_goto F 37 dX8_isNoChase_33 (by decide) ?_
  exact n_zret F .boolean rfl rfl rfl dX8_isNoChase_37
theorem bz_Mo_isNoChase (w : Wd) : (Mo_isNoChase w) &&& (1 : Int32) = (Mo_isNoChase w) := by
  unfold Mo_isNoChase
  first | exact bz_auto | (repeat' split) <;> first | rfl | assumption
theorem dX8_chase_0 : decode cX8_chase 0 = .ok (.aload_n 0, 1) := by decide +kernel
theorem dX8_chase_1 : decode cX8_chase 1 = .ok (.getfield 7, 3) := by decide +kernel
theorem dX8_chase_4 : decode cX8_chase 4 = .ok (.iconst 3, 1) := by decide +kernel
theorem dX8_chase_5 : decode cX8_chase 5 = .ok (.iaload, 1) := by decide +kernel
theorem dX8_chase_6 : decode cX8_chase 6 = .ok (.iconst 1, 1) := by decide +kernel
theorem dX8_chase_7 : decode cX8_chase 7 = .ok (.if_icmp .ne 5, 3) := by decide +kernel
theorem dX8_chase_10 : decode cX8_chase 10 = .ok (.iconst 0, 1) := by decide +kernel
theorem dX8_chase_11 : decode cX8_chase 11 = .ok (.ireturn, 1) := by decide +kernel
theorem dX8_chase_12 : decode cX8_chase 12 = .ok (.aload_n 0, 1) := by decide +kernel
theorem dX8_chase_13 : decode cX8_chase 13 = .ok (.invokevirtual 207, 3) := by decide +kernel
theorem dX8_chase_16 : decode cX8_chase 16 = .ok (.ifCond .eq 6, 3) := by decide +kernel
theorem dX8_chase_19 : decode cX8_chase 19 = .ok (.bipush (-4), 2) := by decide +kernel
theorem dX8_chase_21 : decode cX8_chase 21 = .ok (.ireturn, 1) := by decide +kernel
theorem dX8_chase_22 : decode cX8_chase 22 = .ok (.aload_n 0, 1) := by decide +kernel
theorem dX8_chase_23 : decode cX8_chase 23 = .ok (.iconst (-1), 1) := by decide +kernel
theorem dX8_chase_24 : decode cX8_chase 24 = .ok (.invokevirtual 210, 3) := by decide +kernel
theorem dX8_chase_27 : decode cX8_chase 27 = .ok (.istore_n 1, 1) := by decide +kernel
theorem dX8_chase_28 : decode cX8_chase 28 = .ok (.iload_n 1, 1) := by decide +kernel
theorem dX8_chase_29 : decode cX8_chase 29 = .ok (.bipush 99, 2) := by decide +kernel
theorem dX8_chase_31 : decode cX8_chase 31 = .ok (.if_icmp .ne 7, 3) := by decide +kernel
theorem dX8_chase_34 : decode cX8_chase 34 = .ok (.iconst (-1), 1) := by decide +kernel
theorem dX8_chase_35 : decode cX8_chase 35 = .ok (.goto 4, 3) := by decide +kernel
theorem dX8_chase_38 : decode cX8_chase 38 = .ok (.iload_n 1, 1) := by decide +kernel
theorem dX8_chase_39 : decode cX8_chase 39 = .ok (.ireturn, 1) := by decide +kernel
def Mo_chase (w : Wd) : Option (Int32 × Wd) := (if (w.1 38 3) = (1 : Int32) then some ((0 : Int32), w) else (if (Mo_isNoChase w) = (0 : Int32) then (Option.bind (Mo_chaseBy w (-1 : Int32)) (fun q3 => (if (q3.1) = (99 : Int32) then some ((-1 : Int32), (q3.2)) else some ((q3.1), (q3.2))))) else some ((-4 : Int32), w)))
set_option maxRecDepth 100000 in
set_option maxHeartbeats 4000000 in
theorem ct_Mo_chase {l : Launch} {g : GG} {σ : Sd} (hg : OKg g σ) (hb : σ.2.1 = false) (hx : ∀ c ∈ ([37, 38, 42, 45] : List Nat), c ∈ σ.1) (w : Wd) {q : Int32 × Wd} (hq : Mo_chase w = some q) : CT l g σ yX8_chase cX8_chase 2 (some .int) 5 127 [.ref (gA g 37)] w (some (.int q.1)) q.2 := by
  refine ct_of (rt := rtI) (res := Mo_chase w) (q := q) (own := RX8) (b := false) hg hb hx (by decide) rfl (Nat.le_of_ble_eq_true rfl) hq (fun K e1 e2 e3 F => ?_)
  subst e1 e2 e3
  rw [Mo_chase]
  show N K _ _ w 0 [(0, .ref (gA (cg K) 37))] []
  refine n_aload_n F dX8_chase_0 rfl 0 rfl ?_
  refine n_get F ck_8 lf_RX8_7 (by decide) fg_37_0 (by decide) dX8_chase_1 ?_
  refine n_iconst F (3 : Int32) dX8_chase_4 (by decide) ?_
  refine n_iald F ar_38 (by decide) (ib_c (n := 45) (by decide)) (j := 3) (by decide) dX8_chase_5 ?_
  refine n_iconst F (1 : Int32) dX8_chase_6 (by decide) ?_
  refine n_icmp_ne F 12 dX8_chase_7 (by decide) (fun e1 => ?_) (fun e1 => ?_)
  · rw [if_neg e1]
    refine n_aload_n F dX8_chase_12 rfl 0 rfl ?_
    refine n_callVi F cb_X8_isNoChase lm_RX8_207 ob_37 (by decide) ⟨_, _, rfl⟩ (ct_Mo_isNoChase (fx_ok F) (fx_sd F) (fx_ix F rfl) w) rfl rfl (Nat.le_of_ble_eq_true rfl) ⟨Nat.le_of_ble_eq_true rfl, Nat.le_of_ble_eq_true rfl⟩ dX8_chase_13 ?_
    refine n_if_eq F 22 dX8_chase_16 (by decide) (fun e2 => ?_) (fun e2 => ?_)
    · rw [if_pos e2]
      refine n_aload_n F dX8_chase_22 rfl 0 rfl ?_
      refine n_iconst F (-1 : Int32) dX8_chase_23 (by decide) ?_
      refine n_bind (fun q3 hq3 => ?_)
      refine n_callVi F cb_X8_chaseBy lm_RX8_210 ob_37 (by decide) ⟨_, _, rfl⟩ (ct_Mo_chaseBy (fx_ok F) (fx_sd F) (fx_ix F rfl) w (-1 : Int32) hq3) rfl rfl (Nat.le_of_ble_eq_true rfl) ⟨Nat.le_of_ble_eq_true rfl, Nat.le_of_ble_eq_true rfl⟩ dX8_chase_24 ?_
      refine n_istore_n F (lv' := [(1, .int (q3.1)), (0, .ref (gA (cg K) 37))]) dX8_chase_27 rfl (by decide) rfl ?_
      refine n_iload_n F dX8_chase_28 rfl 0 rfl ?_
      refine n_bipush F (99 : Int32) dX8_chase_29 (by decide) ?_
      refine n_icmp_ne F 38 dX8_chase_31 (by decide) (fun e4 => ?_) (fun e4 => ?_)
      · rw [if_neg e4]
        refine n_iload_n F dX8_chase_38 rfl 0 rfl ?_
        exact n_iret F rfl rfl dX8_chase_39
      rw [if_pos e4]
      refine n_iconst F (-1 : Int32) dX8_chase_34 (by decide) ?_
      refine n_goto F 39 dX8_chase_35 (by decide) ?_
      exact n_iret F rfl rfl dX8_chase_39
    rw [if_neg e2]
    refine n_bipush F (-4 : Int32) dX8_chase_19 (by decide) ?_
    exact n_iret F rfl rfl dX8_chase_21
  rw [if_pos e1]
  refine n_iconst F (0 : Int32) dX8_chase_10 (by decide) ?_
  exact n_iret F rfl rfl dX8_chase_11
theorem dX8_closed_0 : decode cX8_closed 0 = .ok (.iload_n 1, 1) := by decide +kernel
theorem dX8_closed_1 : decode cX8_closed 1 = .ok (.i2l, 1) := by decide +kernel
theorem dX8_closed_2 : decode cX8_closed 2 = .ok (.lconst 0, 1) := by decide +kernel
theorem dX8_closed_3 : decode cX8_closed 3 = .ok (.lconst 1, 1) := by decide +kernel
theorem dX8_closed_4 : decode cX8_closed 4 = .ok (.invokestatic 63, 3) := by decide +kernel
theorem dX8_closed_7 : decode cX8_closed 7 = .ok (.ifCond .ne 6, 3) := by decide +kernel
theorem dX8_closed_10 : decode cX8_closed 10 = .ok (.bipush (-3), 2) := by decide +kernel
theorem dX8_closed_12 : decode cX8_closed 12 = .ok (.ireturn, 1) := by decide +kernel
theorem dX8_closed_13 : decode cX8_closed 13 = .ok (.aload_n 0, 1) := by decide +kernel
theorem dX8_closed_14 : decode cX8_closed 14 = .ok (.getfield 7, 3) := by decide +kernel
theorem dX8_closed_17 : decode cX8_closed 17 = .ok (.iconst 3, 1) := by decide +kernel
theorem dX8_closed_18 : decode cX8_closed 18 = .ok (.iaload, 1) := by decide +kernel
theorem dX8_closed_19 : decode cX8_closed 19 = .ok (.ifCond .ne 13, 3) := by decide +kernel
theorem dX8_closed_22 : decode cX8_closed 22 = .ok (.aload_n 0, 1) := by decide +kernel
theorem dX8_closed_23 : decode cX8_closed 23 = .ok (.invokevirtual 207, 3) := by decide +kernel
theorem dX8_closed_26 : decode cX8_closed 26 = .ok (.ifCond .eq 6, 3) := by decide +kernel
theorem dX8_closed_29 : decode cX8_closed 29 = .ok (.bipush (-4), 2) := by decide +kernel
theorem dX8_closed_31 : decode cX8_closed 31 = .ok (.ireturn, 1) := by decide +kernel
theorem dX8_closed_32 : decode cX8_closed 32 = .ok (.iconst (-1), 1) := by decide +kernel
theorem dX8_closed_33 : decode cX8_closed 33 = .ok (.istore_n 2, 1) := by decide +kernel
theorem dX8_closed_34 : decode cX8_closed 34 = .ok (.bipush 100, 2) := by decide +kernel
theorem dX8_closed_36 : decode cX8_closed 36 = .ok (.istore_n 3, 1) := by decide +kernel
theorem dX8_closed_37 : decode cX8_closed 37 = .ok (.iconst 0, 1) := by decide +kernel
theorem dX8_closed_38 : decode cX8_closed 38 = .ok (.istore 4, 2) := by decide +kernel
theorem dX8_closed_40 : decode cX8_closed 40 = .ok (.iload 4, 2) := by decide +kernel
theorem dX8_closed_42 : decode cX8_closed 42 = .ok (.aload_n 0, 1) := by decide +kernel
theorem dX8_closed_43 : decode cX8_closed 43 = .ok (.getfield 131, 3) := by decide +kernel
theorem dX8_closed_46 : decode cX8_closed 46 = .ok (.if_icmp .ge 57, 3) := by decide +kernel
theorem dX8_closed_49 : decode cX8_closed 49 = .ok (.aload_n 0, 1) := by decide +kernel
theorem dX8_closed_50 : decode cX8_closed 50 = .ok (.getfield 7, 3) := by decide +kernel
theorem dX8_closed_53 : decode cX8_closed 53 = .ok (.iconst 3, 1) := by decide +kernel
theorem dX8_closed_54 : decode cX8_closed 54 = .ok (.iaload, 1) := by decide +kernel
theorem dX8_closed_55 : decode cX8_closed 55 = .ok (.iconst 1, 1) := by decide +kernel
theorem dX8_closed_56 : decode cX8_closed 56 = .ok (.if_icmp .ne 7, 3) := by decide +kernel
theorem dX8_closed_59 : decode cX8_closed 59 = .ok (.iconst 0, 1) := by decide +kernel
theorem dX8_closed_60 : decode cX8_closed 60 = .ok (.goto 9, 3) := by decide +kernel
theorem dX8_closed_63 : decode cX8_closed 63 = .ok (.aload_n 0, 1) := by decide +kernel
theorem dX8_closed_64 : decode cX8_closed 64 = .ok (.iload 4, 2) := by decide +kernel
theorem dX8_closed_66 : decode cX8_closed 66 = .ok (.invokevirtual 210, 3) := by decide +kernel
theorem dX8_closed_69 : decode cX8_closed 69 = .ok (.istore 5, 2) := by decide +kernel
theorem dX8_closed_71 : decode cX8_closed 71 = .ok (.iload 5, 2) := by decide +kernel
theorem dX8_closed_73 : decode cX8_closed 73 = .ok (.iload_n 3, 1) := by decide +kernel
theorem dX8_closed_74 : decode cX8_closed 74 = .ok (.if_icmp .ge 8, 3) := by decide +kernel
theorem dX8_closed_77 : decode cX8_closed 77 = .ok (.iload 4, 2) := by decide +kernel
theorem dX8_closed_79 : decode cX8_closed 79 = .ok (.goto 4, 3) := by decide +kernel
theorem dX8_closed_82 : decode cX8_closed 82 = .ok (.iload_n 2, 1) := by decide +kernel
theorem dX8_closed_83 : decode cX8_closed 83 = .ok (.istore_n 2, 1) := by decide +kernel
theorem dX8_closed_84 : decode cX8_closed 84 = .ok (.iload 5, 2) := by decide +kernel
theorem dX8_closed_86 : decode cX8_closed 86 = .ok (.iload_n 3, 1) := by decide +kernel
theorem dX8_closed_87 : decode cX8_closed 87 = .ok (.if_icmp .ge 8, 3) := by decide +kernel
theorem dX8_closed_90 : decode cX8_closed 90 = .ok (.iload 5, 2) := by decide +kernel
theorem dX8_closed_92 : decode cX8_closed 92 = .ok (.goto 4, 3) := by decide +kernel
theorem dX8_closed_95 : decode cX8_closed 95 = .ok (.iload_n 3, 1) := by decide +kernel
theorem dX8_closed_96 : decode cX8_closed 96 = .ok (.istore_n 3, 1) := by decide +kernel
theorem dX8_closed_97 : decode cX8_closed 97 = .ok (.iinc 4 1, 3) := by decide +kernel
theorem dX8_closed_100 : decode cX8_closed 100 = .ok (.goto (-60), 3) := by decide +kernel
theorem dX8_closed_103 : decode cX8_closed 103 = .ok (.iload_n 1, 1) := by decide +kernel
theorem dX8_closed_104 : decode cX8_closed 104 = .ok (.ifCond .ne 7, 3) := by decide +kernel
theorem dX8_closed_107 : decode cX8_closed 107 = .ok (.iload_n 2, 1) := by decide +kernel
theorem dX8_closed_108 : decode cX8_closed 108 = .ok (.goto 14, 3) := by decide +kernel
theorem dX8_closed_111 : decode cX8_closed 111 = .ok (.iload_n 3, 1) := by decide +kernel
theorem dX8_closed_112 : decode cX8_closed 112 = .ok (.bipush 99, 2) := by decide +kernel
theorem dX8_closed_114 : decode cX8_closed 114 = .ok (.if_icmp .lt 7, 3) := by decide +kernel
theorem dX8_closed_117 : decode cX8_closed 117 = .ok (.iconst (-1), 1) := by decide +kernel
theorem dX8_closed_118 : decode cX8_closed 118 = .ok (.goto 4, 3) := by decide +kernel
theorem dX8_closed_121 : decode cX8_closed 121 = .ok (.iload_n 3, 1) := by decide +kernel
theorem dX8_closed_122 : decode cX8_closed 122 = .ok (.ireturn, 1) := by decide +kernel
def Mo_closed_B83 (k40 : Wd → Int32 → Int32 → Int32 → Int32 → Option (Int32 × Wd)) (w : Wd) (v1 : Int32) (v3 : Int32) (v4 : Int32) (v5 : Int32) (s0 : Int32) : Option (Int32 × Wd) := (k40 w v1 s0 (if v3 ≤ v5 then v3 else v5) (v4 + (1 : Int32)))
set_option maxRecDepth 100000 in
set_option maxHeartbeats 4000000 in
theorem Mo_closed_B83_ok {K : Ctx} (F : Fx K cX8_closed 6 RX8 (some .int) 5 127 false [37, 38, 42, 45]) {k40 : Wd → Int32 → Int32 → Int32 → Int32 → Option (Int32 × Wd)} (h40 : ∀ (w : Wd) (v1 : Int32) (v2 : Int32) (v3 : Int32) (v4 : Int32), N K rtI (k40 w v1 v2 v3 v4) w 40 [(0, .ref (gA (cg K) 37)), (1, .int v1), (2, .int v2), (3, .int v3), (4, .int v4)] []) (w : Wd) (v1 : Int32) (v3 : Int32) (v4 : Int32) (v5 : Int32) (s0 : Int32) : N K rtI (Mo_closed_B83 k40 w v1 v3 v4 v5 s0) w 83 [(0, .ref (gA (cg K) 37)), (1, .int v1), (3, .int v3), (4, .int v4), (5, .int v5)] [.int s0] := by
  rw [Mo_closed_B83]
  refine n_istore_n F (lv' := [(2, .int s0), (0, .ref (gA (cg K) 37)), (1, .int v1), (3, .int v3), (4, .int v4), (5, .int v5)]) dX8_closed_83 rfl (by decide) rfl ?_
  refine n_iload F dX8_closed_84 5 rfl ?_
  refine n_iload_n F dX8_closed_86 rfl 3 rfl ?_
  refine n_icmp_ge F 95 dX8_closed_87 (by decide) (fun e7 => ?_) (fun e7 => ?_)
  · rw [if_pos e7]
    refine n_iload_n F dX8_closed_95 rfl 3 rfl ?_
    refine n_istore_n F (lv' := [(3, .int v3), (2, .int s0), (0, .ref (gA (cg K) 37)), (1, .int v1), (4, .int v4), (5, .int v5)]) dX8_closed_96 rfl (by decide) rfl ?_
    refine n_iinc F (v4 + (1 : Int32)) (lv' := [(4, .int (v4 + (1 : Int32))), (3, .int v3), (2, .int s0), (0, .ref (gA (cg K) 37)), (1, .int v1), (5, .int v5)]) dX8_closed_97 4 rfl rfl (by decide) rfl ?_
    refine n_goto F 40 dX8_closed_100 (by decide) ?_
    exact n_sub [3, 4, 2, 1, 0] rfl (h40 _ _ _ _ _)
  rw [if_neg e7]
  refine n_iload F dX8_closed_90 5 rfl ?_
  refine n_goto F 96 dX8_closed_92 (by decide) ?_
  refine n_istore_n F (lv' := [(3, .int v5), (2, .int s0), (0, .ref (gA (cg K) 37)), (1, .int v1), (4, .int v4), (5, .int v5)]) dX8_closed_96 rfl (by decide) rfl ?_
  refine n_iinc F (v4 + (1 : Int32)) (lv' := [(4, .int (v4 + (1 : Int32))), (3, .int v5), (2, .int s0), (0, .ref (gA (cg K) 37)), (1, .int v1), (5, .int v5)]) dX8_closed_97 4 rfl rfl (by decide) rfl ?_
  refine n_goto F 40 dX8_closed_100 (by decide) ?_
  exact n_sub [3, 4, 2, 1, 0] rfl (h40 _ _ _ _ _)
def Mo_closed_B69 (k40 : Wd → Int32 → Int32 → Int32 → Int32 → Option (Int32 × Wd)) (w : Wd) (v1 : Int32) (v2 : Int32) (v3 : Int32) (v4 : Int32) (s0 : Int32) : Option (Int32 × Wd) := (Mo_closed_B83 k40 w v1 v3 v4 s0 (if v3 ≤ s0 then v2 else v4))
set_option maxRecDepth 100000 in
set_option maxHeartbeats 4000000 in
theorem Mo_closed_B69_ok {K : Ctx} (F : Fx K cX8_closed 6 RX8 (some .int) 5 127 false [37, 38, 42, 45]) {k40 : Wd → Int32 → Int32 → Int32 → Int32 → Option (Int32 × Wd)} (h40 : ∀ (w : Wd) (v1 : Int32) (v2 : Int32) (v3 : Int32) (v4 : Int32), N K rtI (k40 w v1 v2 v3 v4) w 40 [(0, .ref (gA (cg K) 37)), (1, .int v1), (2, .int v2), (3, .int v3), (4, .int v4)] []) (w : Wd) (v1 : Int32) (v2 : Int32) (v3 : Int32) (v4 : Int32) (s0 : Int32) : N K rtI (Mo_closed_B69 k40 w v1 v2 v3 v4 s0) w 69 [(0, .ref (gA (cg K) 37)), (1, .int v1), (2, .int v2), (3, .int v3), (4, .int v4)] [.int s0] := by
  rw [Mo_closed_B69]
  refine n_istore F (lv' := [(5, .int s0), (0, .ref (gA (cg K) 37)), (1, .int v1), (2, .int v2), (3, .int v3), (4, .int v4)]) dX8_closed_69 (by decide) rfl ?_
  refine n_iload F dX8_closed_71 0 rfl ?_
  refine n_iload_n F dX8_closed_73 rfl 4 rfl ?_
  refine n_icmp_ge F 82 dX8_closed_74 (by decide) (fun e6 => ?_) (fun e6 => ?_)
  · rw [if_pos e6]
    refine n_iload_n F dX8_closed_82 rfl 3 rfl ?_
    exact n_sub [1, 2, 4, 5, 0] rfl (Mo_closed_B83_ok F h40 _ _ _ _ _ _)
  rw [if_neg e6]
  refine n_iload F dX8_closed_77 5 rfl ?_
  refine n_goto F 83 dX8_closed_79 (by decide) ?_
  exact n_sub [1, 2, 4, 5, 0] rfl (Mo_closed_B83_ok F h40 _ _ _ _ _ _)
def Mo_closed_L40 (k103 : Wd → Int32 → Int32 → Int32 → Option (Int32 × Wd)) : Nat → Wd → Int32 → Int32 → Int32 → Int32 → Option (Int32 × Wd)
  | 0, _, _, _, _, _ => none
  | n + 1, w, v1, v2, v3, v4 => (if (w.1 37 8) ≤ v4 then (k103 w v1 v2 v3) else (if (w.1 38 3) = (1 : Int32) then (Mo_closed_B69 (Mo_closed_L40 k103 n) w v1 v2 v3 v4 (0 : Int32)) else (Option.bind (Mo_chaseBy w v4) (fun q5 => (Mo_closed_B69 (Mo_closed_L40 k103 n) (q5.2) v1 v2 v3 v4 (q5.1))))))
set_option maxRecDepth 100000 in
set_option maxHeartbeats 4000000 in
theorem Mo_closed_L40_ok {K : Ctx} (F : Fx K cX8_closed 6 RX8 (some .int) 5 127 false [37, 38, 42, 45]) {k103 : Wd → Int32 → Int32 → Int32 → Option (Int32 × Wd)} (h103 : ∀ (w : Wd) (v1 : Int32) (v2 : Int32) (v3 : Int32), N K rtI (k103 w v1 v2 v3) w 103 [(1, .int v1), (2, .int v2), (3, .int v3)] []) : ∀ (n : Nat) (w : Wd) (v1 : Int32) (v2 : Int32) (v3 : Int32) (v4 : Int32), N K rtI (Mo_closed_L40 k103 n w v1 v2 v3 v4) w 40 [(0, .ref (gA (cg K) 37)), (1, .int v1), (2, .int v2), (3, .int v3), (4, .int v4)] [] := by
  intro n
  induction n with
  | zero => intro _ _ _ _ _; exact n_none
  | succ n ih =>
    intro w v1 v2 v3 v4
    rw [Mo_closed_L40]
    refine n_iload F dX8_closed_40 4 rfl ?_
    refine n_aload_n F dX8_closed_42 rfl 0 rfl ?_
    refine n_get F ck_8 lf_RX8_131 (by decide) fg_37_8 (by decide) dX8_closed_43 ?_
    refine n_icmp_ge F 103 dX8_closed_46 (by decide) (fun e3 => ?_) (fun e3 => ?_)
    · rw [if_pos e3]
      exact n_sub [1, 2, 3] rfl (h103 _ _ _ _)
    rw [if_neg e3]
    refine n_aload_n F dX8_closed_49 rfl 0 rfl ?_
    refine n_get F ck_8 lf_RX8_7 (by decide) fg_37_0 (by decide) dX8_closed_50 ?_
    refine n_iconst F (3 : Int32) dX8_closed_53 (by decide) ?_
    refine n_iald F ar_38 (by decide) (ib_c (n := 45) (by decide)) (j := 3) (by decide) dX8_closed_54 ?_
    refine n_iconst F (1 : Int32) dX8_closed_55 (by decide) ?_
    refine n_icmp_ne F 63 dX8_closed_56 (by decide) (fun e4 => ?_) (fun e4 => ?_)
    · rw [if_neg e4]
      refine n_aload_n F dX8_closed_63 rfl 0 rfl ?_
      refine n_iload F dX8_closed_64 4 rfl ?_
      refine n_bind (fun q5 hq5 => ?_)
      refine n_callVi F cb_X8_chaseBy lm_RX8_210 ob_37 (by decide) ⟨_, _, rfl⟩ (ct_Mo_chaseBy (fx_ok F) (fx_sd F) (fx_ix F rfl) w v4 hq5) rfl rfl (Nat.le_of_ble_eq_true rfl) ⟨Nat.le_of_ble_eq_true rfl, Nat.le_of_ble_eq_true rfl⟩ dX8_closed_66 ?_
      exact n_sub [0, 1, 2, 3, 4] rfl (Mo_closed_B69_ok F ih _ _ _ _ _ _)
    rw [if_pos e4]
    refine n_iconst F (0 : Int32) dX8_closed_59 (by decide) ?_
    refine n_goto F 69 dX8_closed_60 (by decide) ?_
    exact n_sub [0, 1, 2, 3, 4] rfl (Mo_closed_B69_ok F ih _ _ _ _ _ _)
def Mo_closed_B103 (w : Wd) (v1 : Int32) (v2 : Int32) (v3 : Int32) : Option (Int32 × Wd) := (if v1 = (0 : Int32) then some (v2, w) else (if v3 < (99 : Int32) then some (v3, w) else some ((-1 : Int32), w)))
set_option maxRecDepth 100000 in
set_option maxHeartbeats 4000000 in
theorem Mo_closed_B103_ok {K : Ctx} (F : Fx K cX8_closed 6 RX8 (some .int) 5 127 false [37, 38, 42, 45]) (w : Wd) (v1 : Int32) (v2 : Int32) (v3 : Int32) : N K rtI (Mo_closed_B103 w v1 v2 v3) w 103 [(1, .int v1), (2, .int v2), (3, .int v3)] [] := by
  rw [Mo_closed_B103]
  refine n_iload_n F dX8_closed_103 rfl 0 rfl ?_
  refine n_if_ne F 111 dX8_closed_104 (by decide) (fun e8 => ?_) (fun e8 => ?_)
  · rw [if_neg e8]
    refine n_iload_n F dX8_closed_111 rfl 2 rfl ?_
    refine n_bipush F (99 : Int32) dX8_closed_112 (by decide) ?_
    refine n_icmp_lt F 121 dX8_closed_114 (by decide) (fun e9 => ?_) (fun e9 => ?_)
    · rw [if_pos e9]
      refine n_iload_n F dX8_closed_121 rfl 2 rfl ?_
      exact n_iret F rfl rfl dX8_closed_122
    rw [if_neg e9]
    refine n_iconst F (-1 : Int32) dX8_closed_117 (by decide) ?_
    refine n_goto F 122 dX8_closed_118 (by decide) ?_
    exact n_iret F rfl rfl dX8_closed_122
  rw [if_pos e8]
  refine n_iload_n F dX8_closed_107 rfl 1 rfl ?_
  refine n_goto F 122 dX8_closed_108 (by decide) ?_
  exact n_iret F rfl rfl dX8_closed_122
def Mo_closed_B32 (w : Wd) (v1 : Int32) : Option (Int32 × Wd) := (Mo_closed_L40 Mo_closed_B103 FU w v1 (-1 : Int32) (100 : Int32) (0 : Int32))
set_option maxRecDepth 100000 in
set_option maxHeartbeats 4000000 in
theorem Mo_closed_B32_ok {K : Ctx} (F : Fx K cX8_closed 6 RX8 (some .int) 5 127 false [37, 38, 42, 45]) (w : Wd) (v1 : Int32) : N K rtI (Mo_closed_B32 w v1) w 32 [(0, .ref (gA (cg K) 37)), (1, .int v1)] [] := by
  rw [Mo_closed_B32]
  refine n_iconst F (-1 : Int32) dX8_closed_32 (by decide) ?_
  refine n_istore_n F (lv' := [(2, .int (-1 : Int32)), (0, .ref (gA (cg K) 37)), (1, .int v1)]) dX8_closed_33 rfl (by decide) rfl ?_
  refine n_bipush F (100 : Int32) dX8_closed_34 (by decide) ?_
  refine n_istore_n F (lv' := [(3, .int (100 : Int32)), (2, .int (-1 : Int32)), (0, .ref (gA (cg K) 37)), (1, .int v1)]) dX8_closed_36 rfl (by decide) rfl ?_
  refine n_iconst F (0 : Int32) dX8_closed_37 (by decide) ?_
  refine n_istore F (lv' := [(4, .int (0 : Int32)), (3, .int (100 : Int32)), (2, .int (-1 : Int32)), (0, .ref (gA (cg K) 37)), (1, .int v1)]) dX8_closed_38 (by decide) rfl ?_
  exact n_sub [3, 4, 2, 1, 0] rfl (Mo_closed_L40_ok F (Mo_closed_B103_ok F) FU _ _ _ _ _)
def Mo_closed (w : Wd) (a1 : Int32) : Option (Int32 × Wd) := (if (Mo_in w (Int32.toInt64 a1) (0 : Int64) (1 : Int64)) = (0 : Int32) then some ((-3 : Int32), w) else (if (w.1 38 3) = (0 : Int32) then (if (Mo_isNoChase w) = (0 : Int32) then (Mo_closed_B32 w a1) else some ((-4 : Int32), w)) else (Mo_closed_B32 w a1)))
set_option maxRecDepth 100000 in
set_option maxHeartbeats 4000000 in
theorem ct_Mo_closed {l : Launch} {g : GG} {σ : Sd} (hg : OKg g σ) (hb : σ.2.1 = false) (hx : ∀ c ∈ ([37, 38, 42, 45] : List Nat), c ∈ σ.1) (w : Wd) (a1 : Int32) {q : Int32 × Wd} (hq : Mo_closed w a1 = some q) : CT l g σ yX8_closed cX8_closed 6 (some .int) 5 127 [.ref (gA g 37), .int a1] w (some (.int q.1)) q.2 := by
  refine ct_of (rt := rtI) (res := Mo_closed w a1) (q := q) (own := RX8) (b := false) hg hb hx (by decide) rfl (Nat.le_of_ble_eq_true rfl) hq (fun K e1 e2 e3 F => ?_)
  subst e1 e2 e3
  rw [Mo_closed]
  show N K _ _ w 0 [(0, .ref (gA (cg K) 37)), (1, .int a1)] []
  refine n_iload_n F dX8_closed_0 rfl 1 rfl ?_
  refine n_i2l F dX8_closed_1 ?_
  refine n_lconst F (0 : Int64) dX8_closed_2 (by decide) ?_
  refine n_lconst F (1 : Int64) dX8_closed_3 (by decide) ?_
  refine n_callSi F cb_X8_in lm_RX8_63 (ct_Mo_in (fx_ok F) (fx_sd F) (fx_ix F rfl) w (Int32.toInt64 a1) (0 : Int64) (1 : Int64)) rfl rfl (Nat.le_of_ble_eq_true rfl) ⟨Nat.le_of_ble_eq_true rfl, Nat.le_of_ble_eq_true rfl⟩ dX8_closed_4 ?_
  refine n_if_ne F 13 dX8_closed_7 (by decide) (fun e1 => ?_) (fun e1 => ?_)
  · rw [if_neg e1]
    refine n_aload_n F dX8_closed_13 rfl 0 rfl ?_
    refine n_get F ck_8 lf_RX8_7 (by decide) fg_37_0 (by decide) dX8_closed_14 ?_
    refine n_iconst F (3 : Int32) dX8_closed_17 (by decide) ?_
    refine n_iald F ar_38 (by decide) (ib_c (n := 45) (by decide)) (j := 3) (by decide) dX8_closed_18 ?_
    refine n_if_ne F 32 dX8_closed_19 (by decide) (fun e2 => ?_) (fun e2 => ?_)
    · rw [if_neg e2]
      exact n_sub [0, 1] rfl (Mo_closed_B32_ok F _ _)
    rw [if_pos e2]
    refine n_aload_n F dX8_closed_22 rfl 0 rfl ?_
    refine n_callVi F cb_X8_isNoChase lm_RX8_207 ob_37 (by decide) ⟨_, _, rfl⟩ (ct_Mo_isNoChase (fx_ok F) (fx_sd F) (fx_ix F rfl) w) rfl rfl (Nat.le_of_ble_eq_true rfl) ⟨Nat.le_of_ble_eq_true rfl, Nat.le_of_ble_eq_true rfl⟩ dX8_closed_23 ?_
    refine n_if_eq F 32 dX8_closed_26 (by decide) (fun e10 => ?_) (fun e10 => ?_)
    · rw [if_pos e10]
      exact n_sub [0, 1] rfl (Mo_closed_B32_ok F _ _)
    rw [if_neg e10]
    refine n_bipush F (-4 : Int32) dX8_closed_29 (by decide) ?_
    exact n_iret F rfl rfl dX8_closed_31
  rw [if_pos e1]
  refine n_bipush F (-3 : Int32) dX8_closed_10 (by decide) ?_
  exact n_iret F rfl rfl dX8_closed_12
theorem dX8_log_0 : decode cX8_log 0 = .ok (.aload_n 0, 1) := by decide +kernel
theorem dX8_log_1 : decode cX8_log 1 = .ok (.iload_n 1, 1) := by decide +kernel
theorem dX8_log_2 : decode cX8_log 2 = .ok (.invokevirtual 147, 3) := by decide +kernel
theorem dX8_log_5 : decode cX8_log 5 = .ok (.ifCond .ne 6, 3) := by decide +kernel
theorem dX8_log_8 : decode cX8_log 8 = .ok (.bipush (-2), 2) := by decide +kernel
theorem dX8_log_10 : decode cX8_log 10 = .ok (.ireturn, 1) := by decide +kernel
theorem dX8_log_11 : decode cX8_log 11 = .ok (.aload_n 0, 1) := by decide +kernel
theorem dX8_log_12 : decode cX8_log 12 = .ok (.getfield 144, 3) := by decide +kernel
theorem dX8_log_15 : decode cX8_log 15 = .ok (.bipush 12, 2) := by decide +kernel
theorem dX8_log_17 : decode cX8_log 17 = .ok (.if_icmp .ne 6, 3) := by decide +kernel
theorem dX8_log_20 : decode cX8_log 20 = .ok (.bipush (-5), 2) := by decide +kernel
theorem dX8_log_22 : decode cX8_log 22 = .ok (.ireturn, 1) := by decide +kernel
theorem dX8_log_23 : decode cX8_log 23 = .ok (.aload_n 0, 1) := by decide +kernel
theorem dX8_log_24 : decode cX8_log 24 = .ok (.getfield 42, 3) := by decide +kernel
theorem dX8_log_27 : decode cX8_log 27 = .ok (.aload_n 0, 1) := by decide +kernel
theorem dX8_log_28 : decode cX8_log 28 = .ok (.getfield 144, 3) := by decide +kernel
theorem dX8_log_31 : decode cX8_log 31 = .ok (.iload_n 1, 1) := by decide +kernel
theorem dX8_log_32 : decode cX8_log 32 = .ok (.iastore, 1) := by decide +kernel
theorem dX8_log_33 : decode cX8_log 33 = .ok (.aload_n 0, 1) := by decide +kernel
theorem dX8_log_34 : decode cX8_log 34 = .ok (.dup, 1) := by decide +kernel
theorem dX8_log_35 : decode cX8_log 35 = .ok (.getfield 144, 3) := by decide +kernel
theorem dX8_log_38 : decode cX8_log 38 = .ok (.iconst 1, 1) := by decide +kernel
theorem dX8_log_39 : decode cX8_log 39 = .ok (.iadd, 1) := by decide +kernel
theorem dX8_log_40 : decode cX8_log 40 = .ok (.putfield 144, 3) := by decide +kernel
theorem dX8_log_43 : decode cX8_log 43 = .ok (.aload_n 0, 1) := by decide +kernel
theorem dX8_log_44 : decode cX8_log 44 = .ok (.getfield 144, 3) := by decide +kernel
theorem dX8_log_47 : decode cX8_log 47 = .ok (.ireturn, 1) := by decide +kernel
def Mo_log (w : Wd) (a1 : Int32) : Option (Int32 × Wd) := (if (Mo_isTrain w a1) = (0 : Int32) then some ((-2 : Int32), w) else (if (w.1 37 22) = (12 : Int32) then some ((-5 : Int32), w) else (if ib (w.1 37 22) 12 = true then some (((sI (sI w 46 (Int32.toNatClampNeg (w.1 37 22)) a1) 37 22 (((sI w 46 (Int32.toNatClampNeg (w.1 37 22)) a1).1 37 22) + (1 : Int32))).1 37 22), (sI (sI w 46 (Int32.toNatClampNeg (w.1 37 22)) a1) 37 22 (((sI w 46 (Int32.toNatClampNeg (w.1 37 22)) a1).1 37 22) + (1 : Int32)))) else none)))
set_option maxRecDepth 100000 in
set_option maxHeartbeats 4000000 in
theorem ct_Mo_log {l : Launch} {g : GG} {σ : Sd} (hg : OKg g σ) (hb : σ.2.1 = false) (hx : ∀ c ∈ ([37, 46] : List Nat), c ∈ σ.1) (w : Wd) (a1 : Int32) {q : Int32 × Wd} (hq : Mo_log w a1 = some q) : CT l g σ yX8_log cX8_log 2 (some .int) 2 46 [.ref (gA g 37), .int a1] w (some (.int q.1)) q.2 := by
  refine ct_of (rt := rtI) (res := Mo_log w a1) (q := q) (own := RX8) (b := false) hg hb hx (by decide) rfl (Nat.le_of_ble_eq_true rfl) hq (fun K e1 e2 e3 F => ?_)
  subst e1 e2 e3
  rw [Mo_log]
  show N K _ _ w 0 [(0, .ref (gA (cg K) 37)), (1, .int a1)] []
  refine n_aload_n F dX8_log_0 rfl 0 rfl ?_
  refine n_iload_n F dX8_log_1 rfl 1 rfl ?_
  refine n_callVi F cb_X8_isTrain lm_RX8_147 ob_37 (by decide) ⟨_, _, rfl⟩ (ct_Mo_isTrain (fx_ok F) (fx_sd F) (fx_ix F rfl) w a1) rfl rfl (Nat.le_of_ble_eq_true rfl) ⟨Nat.le_of_ble_eq_true rfl, Nat.le_of_ble_eq_true rfl⟩ dX8_log_2 ?_
  refine n_if_ne F 11 dX8_log_5 (by decide) (fun e1 => ?_) (fun e1 => ?_)
  · rw [if_neg e1]
    refine n_aload_n F dX8_log_11 rfl 0 rfl ?_
    refine n_get F ck_8 lf_RX8_144 (by decide) fg_37_22 (by decide) dX8_log_12 ?_
    refine n_bipush F (12 : Int32) dX8_log_15 (by decide) ?_
    refine n_icmp_ne F 23 dX8_log_17 (by decide) (fun e2 => ?_) (fun e2 => ?_)
    · rw [if_neg e2]
      refine n_aload_n F dX8_log_23 rfl 0 rfl ?_
      refine n_get F ck_8 lf_RX8_42 (by decide) fg_37_21 (by decide) dX8_log_24 ?_
      refine n_aload_n F dX8_log_27 rfl 0 rfl ?_
      refine n_get F ck_8 lf_RX8_144 (by decide) fg_37_22 (by decide) dX8_log_28 ?_
      refine n_iload_n F dX8_log_31 rfl 1 rfl ?_
      refine n_chk (fun e3 => ?_)
      refine n_iast F ar_46 (by decide) (ib_in e3) rfl dX8_log_32 ?_
      refine n_aload_n F dX8_log_33 rfl 0 rfl ?_
      refine n_dup F dX8_log_34 rfl ?_
      refine n_get F ck_8 lf_RX8_144 (by decide) fg_37_22 (by decide) dX8_log_35 ?_
      refine n_iconst F (1 : Int32) dX8_log_38 (by decide) ?_
      refine n_iadd F dX8_log_39 ?_
      refine n_put F ck_8 lf_RX8_144 (by decide) rfl fp_37_22 (by decide) rfl rfl dX8_log_40 ?_
      refine n_aload_n F dX8_log_43 rfl 0 rfl ?_
      refine n_get F ck_8 lf_RX8_144 (by decide) fg_37_22 (by decide) dX8_log_44 ?_
      exact n_iret F rfl rfl dX8_log_47
    rw [if_pos e2]
    refine n_bipush F (-5 : Int32) dX8_log_20 (by decide) ?_
    exact n_iret F rfl rfl dX8_log_22
  rw [if_pos e1]
  refine n_bipush F (-2 : Int32) dX8_log_8 (by decide) ?_
  exact n_iret F rfl rfl dX8_log_10
theorem dX8_burn_0 : decode cX8_burn 0 = .ok (.aload_n 0, 1) := by decide +kernel
theorem dX8_burn_1 : decode cX8_burn 1 = .ok (.getfield 144, 3) := by decide +kernel
theorem dX8_burn_4 : decode cX8_burn 4 = .ok (.istore_n 1, 1) := by decide +kernel
theorem dX8_burn_5 : decode cX8_burn 5 = .ok (.aload_n 0, 1) := by decide +kernel
theorem dX8_burn_6 : decode cX8_burn 6 = .ok (.iconst 0, 1) := by decide +kernel
theorem dX8_burn_7 : decode cX8_burn 7 = .ok (.putfield 144, 3) := by decide +kernel
theorem dX8_burn_10 : decode cX8_burn 10 = .ok (.iload_n 1, 1) := by decide +kernel
theorem dX8_burn_11 : decode cX8_burn 11 = .ok (.ireturn, 1) := by decide +kernel
def Mo_burn (w : Wd) : Int32 × Wd := ((w.1 37 22), (sI w 37 22 (0 : Int32)))
set_option maxRecDepth 100000 in
set_option maxHeartbeats 4000000 in
theorem ct_Mo_burn {l : Launch} {g : GG} {σ : Sd} (hg : OKg g σ) (hb : σ.2.1 = false) (hx : ∀ c ∈ ([37] : List Nat), c ∈ σ.1) (w : Wd) : CT l g σ yX8_burn cX8_burn 2 (some .int) 0 0 [.ref (gA g 37)] w (some (.int (Mo_burn w).1)) (Mo_burn w).2 := by
  refine ct_of (rt := rtI) (res := some (Mo_burn w)) (q := (Mo_burn w)) (own := RX8) (b := false) hg hb hx (by decide) rfl (Nat.le_of_ble_eq_true rfl) rfl (fun K e1 e2 e3 F => ?_)
  subst e1 e2 e3
  rw [Mo_burn]
  show N K _ _ w 0 [(0, .ref (gA (cg K) 37))] []
  refine n_aload_n F dX8_burn_0 rfl 0 rfl ?_
  refine n_get F ck_8 lf_RX8_144 (by decide) fg_37_22 (by decide) dX8_burn_1 ?_
  refine n_istore_n F (lv' := [(1, .int (w.1 37 22)), (0, .ref (gA (cg K) 37))]) dX8_burn_4 rfl (by decide) rfl ?_
  refine n_aload_n F dX8_burn_5 rfl 1 rfl ?_
  refine n_iconst F (0 : Int32) dX8_burn_6 (by decide) ?_
  refine n_put F ck_8 lf_RX8_144 (by decide) rfl fp_37_22 (by decide) rfl rfl dX8_burn_7 ?_
  refine n_iload_n F dX8_burn_10 rfl 0 rfl ?_
  exact n_iret F rfl rfl dX8_burn_11
theorem dX8_judge_0 : decode cX8_judge 0 = .ok (.iconst 0, 1) := by decide +kernel
theorem dX8_judge_1 : decode cX8_judge 1 = .ok (.istore_n 1, 1) := by decide +kernel
theorem dX8_judge_2 : decode cX8_judge 2 = .ok (.iload_n 1, 1) := by decide +kernel
theorem dX8_judge_3 : decode cX8_judge 3 = .ok (.iconst 3, 1) := by decide +kernel
theorem dX8_judge_4 : decode cX8_judge 4 = .ok (.if_icmp .ge 21, 3) := by decide +kernel
theorem dX8_judge_7 : decode cX8_judge 7 = .ok (.aload_n 0, 1) := by decide +kernel
theorem dX8_judge_8 : decode cX8_judge 8 = .ok (.getfield 45, 3) := by decide +kernel
theorem dX8_judge_11 : decode cX8_judge 11 = .ok (.iload_n 1, 1) := by decide +kernel
theorem dX8_judge_12 : decode cX8_judge 12 = .ok (.aload_n 0, 1) := by decide +kernel
theorem dX8_judge_13 : decode cX8_judge 13 = .ok (.getfield 30, 3) := by decide +kernel
theorem dX8_judge_16 : decode cX8_judge 16 = .ok (.iload_n 1, 1) := by decide +kernel
theorem dX8_judge_17 : decode cX8_judge 17 = .ok (.iaload, 1) := by decide +kernel
theorem dX8_judge_18 : decode cX8_judge 18 = .ok (.iastore, 1) := by decide +kernel
theorem dX8_judge_19 : decode cX8_judge 19 = .ok (.iinc 1 1, 3) := by decide +kernel
theorem dX8_judge_22 : decode cX8_judge 22 = .ok (.goto (-20), 3) := by decide +kernel
theorem dX8_judge_25 : decode cX8_judge 25 = .ok (.aload_n 0, 1) := by decide +kernel
theorem dX8_judge_26 : decode cX8_judge 26 = .ok (.getfield 58, 3) := by decide +kernel
theorem dX8_judge_29 : decode cX8_judge 29 = .ok (.istore_n 1, 1) := by decide +kernel
theorem dX8_judge_30 : decode cX8_judge 30 = .ok (.iconst 0, 1) := by decide +kernel
theorem dX8_judge_31 : decode cX8_judge 31 = .ok (.istore_n 2, 1) := by decide +kernel
theorem dX8_judge_32 : decode cX8_judge 32 = .ok (.iconst 0, 1) := by decide +kernel
theorem dX8_judge_33 : decode cX8_judge 33 = .ok (.istore_n 3, 1) := by decide +kernel
theorem dX8_judge_34 : decode cX8_judge 34 = .ok (.iload_n 3, 1) := by decide +kernel
theorem dX8_judge_35 : decode cX8_judge 35 = .ok (.aload_n 0, 1) := by decide +kernel
theorem dX8_judge_36 : decode cX8_judge 36 = .ok (.getfield 144, 3) := by decide +kernel
theorem dX8_judge_39 : decode cX8_judge 39 = .ok (.if_icmp .ge 93, 3) := by decide +kernel
theorem dX8_judge_42 : decode cX8_judge 42 = .ok (.aload_n 0, 1) := by decide +kernel
theorem dX8_judge_43 : decode cX8_judge 43 = .ok (.getfield 42, 3) := by decide +kernel
theorem dX8_judge_46 : decode cX8_judge 46 = .ok (.iload_n 3, 1) := by decide +kernel
theorem dX8_judge_47 : decode cX8_judge 47 = .ok (.iaload, 1) := by decide +kernel
theorem dX8_judge_48 : decode cX8_judge 48 = .ok (.istore 4, 2) := by decide +kernel
theorem dX8_judge_50 : decode cX8_judge 50 = .ok (.aload_n 0, 1) := by decide +kernel
theorem dX8_judge_51 : decode cX8_judge 51 = .ok (.getfield 27, 3) := by decide +kernel
theorem dX8_judge_54 : decode cX8_judge 54 = .ok (.bipush 6, 2) := by decide +kernel
theorem dX8_judge_56 : decode cX8_judge 56 = .ok (.iload 4, 2) := by decide +kernel
theorem dX8_judge_58 : decode cX8_judge 58 = .ok (.imul, 1) := by decide +kernel
theorem dX8_judge_59 : decode cX8_judge 59 = .ok (.iconst 5, 1) := by decide +kernel
theorem dX8_judge_60 : decode cX8_judge 60 = .ok (.iadd, 1) := by decide +kernel
theorem dX8_judge_61 : decode cX8_judge 61 = .ok (.iaload, 1) := by decide +kernel
theorem dX8_judge_62 : decode cX8_judge 62 = .ok (.istore 5, 2) := by decide +kernel
theorem dX8_judge_64 : decode cX8_judge 64 = .ok (.aload_n 0, 1) := by decide +kernel
theorem dX8_judge_65 : decode cX8_judge 65 = .ok (.iload 4, 2) := by decide +kernel
theorem dX8_judge_67 : decode cX8_judge 67 = .ok (.iload_n 1, 1) := by decide +kernel
theorem dX8_judge_68 : decode cX8_judge 68 = .ok (.iload_n 2, 1) := by decide +kernel
theorem dX8_judge_69 : decode cX8_judge 69 = .ok (.invokevirtual 152, 3) := by decide +kernel
theorem dX8_judge_72 : decode cX8_judge 72 = .ok (.ifCond .eq 13, 3) := by decide +kernel
theorem dX8_judge_75 : decode cX8_judge 75 = .ok (.aload_n 0, 1) := by decide +kernel
theorem dX8_judge_76 : decode cX8_judge 76 = .ok (.getfield 45, 3) := by decide +kernel
theorem dX8_judge_79 : decode cX8_judge 79 = .ok (.iload 5, 2) := by decide +kernel
theorem dX8_judge_81 : decode cX8_judge 81 = .ok (.iaload, 1) := by decide +kernel
theorem dX8_judge_82 : decode cX8_judge 82 = .ok (.ifCond .ne 5, 3) := by decide +kernel
theorem dX8_judge_85 : decode cX8_judge 85 = .ok (.iload_n 3, 1) := by decide +kernel
theorem dX8_judge_86 : decode cX8_judge 86 = .ok (.ireturn, 1) := by decide +kernel
theorem dX8_judge_87 : decode cX8_judge 87 = .ok (.aload_n 0, 1) := by decide +kernel
theorem dX8_judge_88 : decode cX8_judge 88 = .ok (.getfield 45, 3) := by decide +kernel
theorem dX8_judge_91 : decode cX8_judge 91 = .ok (.iload 5, 2) := by decide +kernel
theorem dX8_judge_93 : decode cX8_judge 93 = .ok (.dup2, 1) := by decide +kernel
theorem dX8_judge_94 : decode cX8_judge 94 = .ok (.iaload, 1) := by decide +kernel
theorem dX8_judge_95 : decode cX8_judge 95 = .ok (.iconst 1, 1) := by decide +kernel
theorem dX8_judge_96 : decode cX8_judge 96 = .ok (.isub, 1) := by decide +kernel
theorem dX8_judge_97 : decode cX8_judge 97 = .ok (.iastore, 1) := by decide +kernel
theorem dX8_judge_98 : decode cX8_judge 98 = .ok (.aload_n 0, 1) := by decide +kernel
theorem dX8_judge_99 : decode cX8_judge 99 = .ok (.getfield 27, 3) := by decide +kernel
theorem dX8_judge_102 : decode cX8_judge 102 = .ok (.bipush 6, 2) := by decide +kernel
theorem dX8_judge_104 : decode cX8_judge 104 = .ok (.iload 4, 2) := by decide +kernel
theorem dX8_judge_106 : decode cX8_judge 106 = .ok (.imul, 1) := by decide +kernel
theorem dX8_judge_107 : decode cX8_judge 107 = .ok (.iconst 1, 1) := by decide +kernel
theorem dX8_judge_108 : decode cX8_judge 108 = .ok (.iadd, 1) := by decide +kernel
theorem dX8_judge_109 : decode cX8_judge 109 = .ok (.iaload, 1) := by decide +kernel
theorem dX8_judge_110 : decode cX8_judge 110 = .ok (.istore_n 1, 1) := by decide +kernel
theorem dX8_judge_111 : decode cX8_judge 111 = .ok (.iload_n 2, 1) := by decide +kernel
theorem dX8_judge_112 : decode cX8_judge 112 = .ok (.aload_n 0, 1) := by decide +kernel
theorem dX8_judge_113 : decode cX8_judge 113 = .ok (.getfield 27, 3) := by decide +kernel
theorem dX8_judge_116 : decode cX8_judge 116 = .ok (.bipush 6, 2) := by decide +kernel
theorem dX8_judge_118 : decode cX8_judge 118 = .ok (.iload 4, 2) := by decide +kernel
theorem dX8_judge_120 : decode cX8_judge 120 = .ok (.imul, 1) := by decide +kernel
theorem dX8_judge_121 : decode cX8_judge 121 = .ok (.iconst 4, 1) := by decide +kernel
theorem dX8_judge_122 : decode cX8_judge 122 = .ok (.iadd, 1) := by decide +kernel
theorem dX8_judge_123 : decode cX8_judge 123 = .ok (.iaload, 1) := by decide +kernel
theorem dX8_judge_124 : decode cX8_judge 124 = .ok (.iadd, 1) := by decide +kernel
theorem dX8_judge_125 : decode cX8_judge 125 = .ok (.istore_n 2, 1) := by decide +kernel
theorem dX8_judge_126 : decode cX8_judge 126 = .ok (.iinc 3 1, 3) := by decide +kernel
theorem dX8_judge_129 : decode cX8_judge 129 = .ok (.goto (-95), 3) := by decide +kernel
theorem dX8_judge_132 : decode cX8_judge 132 = .ok (.iconst (-1), 1) := by decide +kernel
theorem dX8_judge_133 : decode cX8_judge 133 = .ok (.ireturn, 1) := by decide +kernel
def Mo_judge_L2 (k25 : Wd → Option (Int32 × Wd)) : Nat → Wd → Int32 → Option (Int32 × Wd)
  | 0, _, _ => none
  | n + 1, w, v1 => (if (3 : Int32) ≤ v1 then (k25 w) else (if ib v1 3 = true then (if ib v1 3 = true then (Mo_judge_L2 k25 n (sI w 47 (Int32.toNatClampNeg v1) (w.1 43 (Int32.toNatClampNeg v1))) (v1 + (1 : Int32))) else none) else none))
set_option maxRecDepth 100000 in
set_option maxHeartbeats 4000000 in
theorem Mo_judge_L2_ok {K : Ctx} (F : Fx K cX8_judge 6 RX8 (some .int) 1 23 false [37, 42, 43, 46, 47]) {k25 : Wd → Option (Int32 × Wd)} (h25 : ∀ (w : Wd), N K rtI (k25 w) w 25 [(0, .ref (gA (cg K) 37))] []) : ∀ (n : Nat) (w : Wd) (v1 : Int32), N K rtI (Mo_judge_L2 k25 n w v1) w 2 [(0, .ref (gA (cg K) 37)), (1, .int v1)] [] := by
  intro n
  induction n with
  | zero => intro _ _; exact n_none
  | succ n ih =>
    intro w v1
    rw [Mo_judge_L2]
    refine n_iload_n F dX8_judge_2 rfl 1 rfl ?_
    refine n_iconst F (3 : Int32) dX8_judge_3 (by decide) ?_
    refine n_icmp_ge F 25 dX8_judge_4 (by decide) (fun e1 => ?_) (fun e1 => ?_)
    · rw [if_pos e1]
      exact n_sub [0] rfl (h25 _)
    rw [if_neg e1]
    refine n_aload_n F dX8_judge_7 rfl 0 rfl ?_
    refine n_get F ck_8 lf_RX8_45 (by decide) fg_37_23 (by decide) dX8_judge_8 ?_
    refine n_iload_n F dX8_judge_11 rfl 1 rfl ?_
    refine n_aload_n F dX8_judge_12 rfl 0 rfl ?_
    refine n_get F ck_8 lf_RX8_30 (by decide) fg_37_10 (by decide) dX8_judge_13 ?_
    refine n_iload_n F dX8_judge_16 rfl 1 rfl ?_
    refine n_chk (fun e2 => ?_)
    refine n_iald F ar_43 (by decide) (ib_in e2) rfl dX8_judge_17 ?_
    refine n_chk (fun e3 => ?_)
    refine n_iast F ar_47 (by decide) (ib_in e3) rfl dX8_judge_18 ?_
    refine n_iinc F (v1 + (1 : Int32)) (lv' := [(1, .int (v1 + (1 : Int32))), (0, .ref (gA (cg K) 37))]) dX8_judge_19 1 rfl rfl (by decide) rfl ?_
    refine n_goto F 2 dX8_judge_22 (by decide) ?_
    exact n_sub [1, 0] rfl (ih _ _)
def Mo_judge_L34 (k85 : Wd → Int32 → Option (Int32 × Wd)) (k132 : Wd → Option (Int32 × Wd)) : Nat → Wd → Int32 → Int32 → Int32 → Option (Int32 × Wd)
  | 0, _, _, _, _ => none
  | n + 1, w, v1, v2, v3 => (if (w.1 37 22) ≤ v3 then (k132 w) else (if ib v3 12 = true then (if ib (((6 : Int32) * (w.1 46 (Int32.toNatClampNeg v3))) + (5 : Int32)) 72 = true then (Option.bind (Mo_leaves w (w.1 46 (Int32.toNatClampNeg v3)) v1 v2) (fun q7 => (if q7 = (0 : Int32) then (k85 w v3) else (if ib (w.1 42 (Int32.toNatClampNeg (((6 : Int32) * (w.1 46 (Int32.toNatClampNeg v3))) + (5 : Int32)))) 3 = true then (if (w.1 47 (Int32.toNatClampNeg (w.1 42 (Int32.toNatClampNeg (((6 : Int32) * (w.1 46 (Int32.toNatClampNeg v3))) + (5 : Int32)))))) = (0 : Int32) then (k85 w v3) else (if ib (w.1 42 (Int32.toNatClampNeg (((6 : Int32) * (w.1 46 (Int32.toNatClampNeg v3))) + (5 : Int32)))) 3 = true then (if ib (w.1 42 (Int32.toNatClampNeg (((6 : Int32) * (w.1 46 (Int32.toNatClampNeg v3))) + (5 : Int32)))) 3 = true then (if ib (((6 : Int32) * (w.1 46 (Int32.toNatClampNeg v3))) + (1 : Int32)) 72 = true then (if ib (((6 : Int32) * (w.1 46 (Int32.toNatClampNeg v3))) + (4 : Int32)) 72 = true then (Mo_judge_L34 k85 k132 n (sI w 47 (Int32.toNatClampNeg (w.1 42 (Int32.toNatClampNeg (((6 : Int32) * (w.1 46 (Int32.toNatClampNeg v3))) + (5 : Int32))))) ((w.1 47 (Int32.toNatClampNeg (w.1 42 (Int32.toNatClampNeg (((6 : Int32) * (w.1 46 (Int32.toNatClampNeg v3))) + (5 : Int32)))))) - (1 : Int32))) ((sI w 47 (Int32.toNatClampNeg (w.1 42 (Int32.toNatClampNeg (((6 : Int32) * (w.1 46 (Int32.toNatClampNeg v3))) + (5 : Int32))))) ((w.1 47 (Int32.toNatClampNeg (w.1 42 (Int32.toNatClampNeg (((6 : Int32) * (w.1 46 (Int32.toNatClampNeg v3))) + (5 : Int32)))))) - (1 : Int32))).1 42 (Int32.toNatClampNeg (((6 : Int32) * (w.1 46 (Int32.toNatClampNeg v3))) + (1 : Int32)))) (v2 + ((sI w 47 (Int32.toNatClampNeg (w.1 42 (Int32.toNatClampNeg (((6 : Int32) * (w.1 46 (Int32.toNatClampNeg v3))) + (5 : Int32))))) ((w.1 47 (Int32.toNatClampNeg (w.1 42 (Int32.toNatClampNeg (((6 : Int32) * (w.1 46 (Int32.toNatClampNeg v3))) + (5 : Int32)))))) - (1 : Int32))).1 42 (Int32.toNatClampNeg (((6 : Int32) * (w.1 46 (Int32.toNatClampNeg v3))) + (4 : Int32))))) (v3 + (1 : Int32))) else none) else none) else none) else none)) else none)))) else none) else none))
set_option maxRecDepth 100000 in
set_option maxHeartbeats 4000000 in
theorem Mo_judge_L34_ok {K : Ctx} (F : Fx K cX8_judge 6 RX8 (some .int) 1 23 false [37, 42, 43, 46, 47]) {k85 : Wd → Int32 → Option (Int32 × Wd)} (h85 : ∀ (w : Wd) (v3 : Int32), N K rtI (k85 w v3) w 85 [(3, .int v3)] []) {k132 : Wd → Option (Int32 × Wd)} (h132 : ∀ (w : Wd), N K rtI (k132 w) w 132 [] []) : ∀ (n : Nat) (w : Wd) (v1 : Int32) (v2 : Int32) (v3 : Int32), N K rtI (Mo_judge_L34 k85 k132 n w v1 v2 v3) w 34 [(0, .ref (gA (cg K) 37)), (1, .int v1), (2, .int v2), (3, .int v3)] [] := by
  intro n
  induction n with
  | zero => intro _ _ _ _; exact n_none
  | succ n ih =>
    intro w v1 v2 v3
    rw [Mo_judge_L34]
    refine n_iload_n F dX8_judge_34 rfl 3 rfl ?_
    refine n_aload_n F dX8_judge_35 rfl 0 rfl ?_
    refine n_get F ck_8 lf_RX8_144 (by decide) fg_37_22 (by decide) dX8_judge_36 ?_
    refine n_icmp_ge F 132 dX8_judge_39 (by decide) (fun e4 => ?_) (fun e4 => ?_)
    · rw [if_pos e4]
      exact n_sub [] rfl (h132 _)
    rw [if_neg e4]
    refine n_aload_n F dX8_judge_42 rfl 0 rfl ?_
    refine n_get F ck_8 lf_RX8_42 (by decide) fg_37_21 (by decide) dX8_judge_43 ?_
    refine n_iload_n F dX8_judge_46 rfl 3 rfl ?_
    refine n_chk (fun e5 => ?_)
    refine n_iald F ar_46 (by decide) (ib_in e5) rfl dX8_judge_47 ?_
    refine n_istore F (lv' := [(4, .int (w.1 46 (Int32.toNatClampNeg v3))), (0, .ref (gA (cg K) 37)), (1, .int v1), (2, .int v2), (3, .int v3)]) dX8_judge_48 (by decide) rfl ?_
    refine n_aload_n F dX8_judge_50 rfl 1 rfl ?_
    refine n_get F ck_8 lf_RX8_27 (by decide) fg_37_7 (by decide) dX8_judge_51 ?_
    refine n_bipush F (6 : Int32) dX8_judge_54 (by decide) ?_
    refine n_iload F dX8_judge_56 0 rfl ?_
    refine n_imul F dX8_judge_58 ?_
    refine n_iconst F (5 : Int32) dX8_judge_59 (by decide) ?_
    refine n_iadd F dX8_judge_60 ?_
    refine n_chk (fun e6 => ?_)
    refine n_iald F ar_42 (by decide) (ib_in e6) rfl dX8_judge_61 ?_
    refine n_istore F (lv' := [(5, .int (w.1 42 (Int32.toNatClampNeg (((6 : Int32) * (w.1 46 (Int32.toNatClampNeg v3))) + (5 : Int32))))), (4, .int (w.1 46 (Int32.toNatClampNeg v3))), (0, .ref (gA (cg K) 37)), (1, .int v1), (2, .int v2), (3, .int v3)]) dX8_judge_62 (by decide) rfl ?_
    refine n_aload_n F dX8_judge_64 rfl 2 rfl ?_
    refine n_iload F dX8_judge_65 1 rfl ?_
    refine n_iload_n F dX8_judge_67 rfl 3 rfl ?_
    refine n_iload_n F dX8_judge_68 rfl 4 rfl ?_
    refine n_bind (fun q7 hq7 => ?_)
    refine n_callVi F cb_X8_leaves lm_RX8_152 ob_37 (by decide) ⟨_, _, rfl⟩ (ct_Mo_leaves (fx_ok F) (fx_sd F) (fx_ix F rfl) w (w.1 46 (Int32.toNatClampNeg v3)) v1 v2 hq7) rfl rfl (Nat.le_of_ble_eq_true rfl) ⟨Nat.le_of_ble_eq_true rfl, Nat.le_of_ble_eq_true rfl⟩ dX8_judge_69 ?_
    refine n_if_eq F 85 dX8_judge_72 (by decide) (fun e8 => ?_) (fun e8 => ?_)
    · rw [if_pos e8]
      exact n_sub [5] rfl (h85 _ _)
    rw [if_neg e8]
    refine n_aload_n F dX8_judge_75 rfl 2 rfl ?_
    refine n_get F ck_8 lf_RX8_45 (by decide) fg_37_23 (by decide) dX8_judge_76 ?_
    refine n_iload F dX8_judge_79 0 rfl ?_
    refine n_chk (fun e9 => ?_)
    refine n_iald F ar_47 (by decide) (ib_in e9) rfl dX8_judge_81 ?_
    refine n_if_ne F 87 dX8_judge_82 (by decide) (fun e10 => ?_) (fun e10 => ?_)
    · rw [if_neg e10]
      refine n_aload_n F dX8_judge_87 rfl 2 rfl ?_
      refine n_get F ck_8 lf_RX8_45 (by decide) fg_37_23 (by decide) dX8_judge_88 ?_
      refine n_iload F dX8_judge_91 0 rfl ?_
      refine n_dup2 F dX8_judge_93 rfl rfl ?_
      refine n_chk (fun e11 => ?_)
      refine n_iald F ar_47 (by decide) (ib_in e11) rfl dX8_judge_94 ?_
      refine n_iconst F (1 : Int32) dX8_judge_95 (by decide) ?_
      refine n_isub F dX8_judge_96 ?_
      refine n_chk (fun e12 => ?_)
      refine n_iast F ar_47 (by decide) (ib_in e12) rfl dX8_judge_97 ?_
      refine n_aload_n F dX8_judge_98 rfl 2 rfl ?_
      refine n_get F ck_8 lf_RX8_27 (by decide) fg_37_7 (by decide) dX8_judge_99 ?_
      refine n_bipush F (6 : Int32) dX8_judge_102 (by decide) ?_
      refine n_iload F dX8_judge_104 1 rfl ?_
      refine n_imul F dX8_judge_106 ?_
      refine n_iconst F (1 : Int32) dX8_judge_107 (by decide) ?_
      refine n_iadd F dX8_judge_108 ?_
      refine n_chk (fun e13 => ?_)
      refine n_iald F ar_42 (by decide) (ib_in e13) rfl dX8_judge_109 ?_
      refine n_istore_n F (lv' := [(1, .int ((sI w 47 (Int32.toNatClampNeg (w.1 42 (Int32.toNatClampNeg (((6 : Int32) * (w.1 46 (Int32.toNatClampNeg v3))) + (5 : Int32))))) ((w.1 47 (Int32.toNatClampNeg (w.1 42 (Int32.toNatClampNeg (((6 : Int32) * (w.1 46 (Int32.toNatClampNeg v3))) + (5 : Int32)))))) - (1 : Int32))).1 42 (Int32.toNatClampNeg (((6 : Int32) * (w.1 46 (Int32.toNatClampNeg v3))) + (1 : Int32))))), (5, .int (w.1 42 (Int32.toNatClampNeg (((6 : Int32) * (w.1 46 (Int32.toNatClampNeg v3))) + (5 : Int32))))), (4, .int (w.1 46 (Int32.toNatClampNeg v3))), (0, .ref (gA (cg K) 37)), (2, .int v2), (3, .int v3)]) dX8_judge_110 rfl (by decide) rfl ?_
      refine n_iload_n F dX8_judge_111 rfl 4 rfl ?_
      refine n_aload_n F dX8_judge_112 rfl 3 rfl ?_
      refine n_get F ck_8 lf_RX8_27 (by decide) fg_37_7 (by decide) dX8_judge_113 ?_
      refine n_bipush F (6 : Int32) dX8_judge_116 (by decide) ?_
      refine n_iload F dX8_judge_118 2 rfl ?_
      refine n_imul F dX8_judge_120 ?_
      refine n_iconst F (4 : Int32) dX8_judge_121 (by decide) ?_
      refine n_iadd F dX8_judge_122 ?_
      refine n_chk (fun e14 => ?_)
      refine n_iald F ar_42 (by decide) (ib_in e14) rfl dX8_judge_123 ?_
      refine n_iadd F dX8_judge_124 ?_
      refine n_istore_n F (lv' := [(2, .int (v2 + ((sI w 47 (Int32.toNatClampNeg (w.1 42 (Int32.toNatClampNeg (((6 : Int32) * (w.1 46 (Int32.toNatClampNeg v3))) + (5 : Int32))))) ((w.1 47 (Int32.toNatClampNeg (w.1 42 (Int32.toNatClampNeg (((6 : Int32) * (w.1 46 (Int32.toNatClampNeg v3))) + (5 : Int32)))))) - (1 : Int32))).1 42 (Int32.toNatClampNeg (((6 : Int32) * (w.1 46 (Int32.toNatClampNeg v3))) + (4 : Int32)))))), (1, .int ((sI w 47 (Int32.toNatClampNeg (w.1 42 (Int32.toNatClampNeg (((6 : Int32) * (w.1 46 (Int32.toNatClampNeg v3))) + (5 : Int32))))) ((w.1 47 (Int32.toNatClampNeg (w.1 42 (Int32.toNatClampNeg (((6 : Int32) * (w.1 46 (Int32.toNatClampNeg v3))) + (5 : Int32)))))) - (1 : Int32))).1 42 (Int32.toNatClampNeg (((6 : Int32) * (w.1 46 (Int32.toNatClampNeg v3))) + (1 : Int32))))), (5, .int (w.1 42 (Int32.toNatClampNeg (((6 : Int32) * (w.1 46 (Int32.toNatClampNeg v3))) + (5 : Int32))))), (4, .int (w.1 46 (Int32.toNatClampNeg v3))), (0, .ref (gA (cg K) 37)), (3, .int v3)]) dX8_judge_125 rfl (by decide) rfl ?_
      refine n_iinc F (v3 + (1 : Int32)) (lv' := [(3, .int (v3 + (1 : Int32))), (2, .int (v2 + ((sI w 47 (Int32.toNatClampNeg (w.1 42 (Int32.toNatClampNeg (((6 : Int32) * (w.1 46 (Int32.toNatClampNeg v3))) + (5 : Int32))))) ((w.1 47 (Int32.toNatClampNeg (w.1 42 (Int32.toNatClampNeg (((6 : Int32) * (w.1 46 (Int32.toNatClampNeg v3))) + (5 : Int32)))))) - (1 : Int32))).1 42 (Int32.toNatClampNeg (((6 : Int32) * (w.1 46 (Int32.toNatClampNeg v3))) + (4 : Int32)))))), (1, .int ((sI w 47 (Int32.toNatClampNeg (w.1 42 (Int32.toNatClampNeg (((6 : Int32) * (w.1 46 (Int32.toNatClampNeg v3))) + (5 : Int32))))) ((w.1 47 (Int32.toNatClampNeg (w.1 42 (Int32.toNatClampNeg (((6 : Int32) * (w.1 46 (Int32.toNatClampNeg v3))) + (5 : Int32)))))) - (1 : Int32))).1 42 (Int32.toNatClampNeg (((6 : Int32) * (w.1 46 (Int32.toNatClampNeg v3))) + (1 : Int32))))), (5, .int (w.1 42 (Int32.toNatClampNeg (((6 : Int32) * (w.1 46 (Int32.toNatClampNeg v3))) + (5 : Int32))))), (4, .int (w.1 46 (Int32.toNatClampNeg v3))), (0, .ref (gA (cg K) 37))]) dX8_judge_126 5 rfl rfl (by decide) rfl ?_
      refine n_goto F 34 dX8_judge_129 (by decide) ?_
      exact n_sub [5, 2, 1, 0] rfl (ih _ _ _ _)
    rw [if_pos e10]
    exact n_sub [5] rfl (h85 _ _)
def Mo_judge_B85 (w : Wd) (v3 : Int32) : Option (Int32 × Wd) := some (v3, w)
set_option maxRecDepth 100000 in
set_option maxHeartbeats 4000000 in
theorem Mo_judge_B85_ok {K : Ctx} (F : Fx K cX8_judge 6 RX8 (some .int) 1 23 false [37, 42, 43, 46, 47]) (w : Wd) (v3 : Int32) : N K rtI (Mo_judge_B85 w v3) w 85 [(3, .int v3)] [] := by
  rw [Mo_judge_B85]
  refine n_iload_n F dX8_judge_85 rfl 0 rfl ?_
  exact n_iret F rfl rfl dX8_judge_86
def Mo_judge_B132 (w : Wd) : Option (Int32 × Wd) := some ((-1 : Int32), w)
set_option maxRecDepth 100000 in
set_option maxHeartbeats 4000000 in
theorem Mo_judge_B132_ok {K : Ctx} (F : Fx K cX8_judge 6 RX8 (some .int) 1 23 false [37, 42, 43, 46, 47]) (w : Wd) : N K rtI (Mo_judge_B132 w) w 132 [] [] := by
  rw [Mo_judge_B132]
  refine n_iconst F (-1 : Int32) dX8_judge_132 (by decide) ?_
  exact n_iret F rfl rfl dX8_judge_133
def Mo_judge_B25 (w : Wd) : Option (Int32 × Wd) := (Mo_judge_L34 Mo_judge_B85 Mo_judge_B132 FU w (w.1 37 9) (0 : Int32) (0 : Int32))
set_option maxRecDepth 100000 in
set_option maxHeartbeats 4000000 in
theorem Mo_judge_B25_ok {K : Ctx} (F : Fx K cX8_judge 6 RX8 (some .int) 1 23 false [37, 42, 43, 46, 47]) (w : Wd) : N K rtI (Mo_judge_B25 w) w 25 [(0, .ref (gA (cg K) 37))] [] := by
  rw [Mo_judge_B25]
  refine n_aload_n F dX8_judge_25 rfl 0 rfl ?_
  refine n_get F ck_8 lf_RX8_58 (by decide) fg_37_9 (by decide) dX8_judge_26 ?_
  refine n_istore_n F (lv' := [(1, .int (w.1 37 9)), (0, .ref (gA (cg K) 37))]) dX8_judge_29 rfl (by decide) rfl ?_
  refine n_iconst F (0 : Int32) dX8_judge_30 (by decide) ?_
  refine n_istore_n F (lv' := [(2, .int (0 : Int32)), (1, .int (w.1 37 9)), (0, .ref (gA (cg K) 37))]) dX8_judge_31 rfl (by decide) rfl ?_
  refine n_iconst F (0 : Int32) dX8_judge_32 (by decide) ?_
  refine n_istore_n F (lv' := [(3, .int (0 : Int32)), (2, .int (0 : Int32)), (1, .int (w.1 37 9)), (0, .ref (gA (cg K) 37))]) dX8_judge_33 rfl (by decide) rfl ?_
  exact n_sub [3, 2, 1, 0] rfl (Mo_judge_L34_ok F (Mo_judge_B85_ok F) (Mo_judge_B132_ok F) FU _ _ _ _)
def Mo_judge (w : Wd) : Option (Int32 × Wd) := (Mo_judge_L2 Mo_judge_B25 FU w (0 : Int32))
set_option maxRecDepth 100000 in
set_option maxHeartbeats 4000000 in
theorem ct_Mo_judge {l : Launch} {g : GG} {σ : Sd} (hg : OKg g σ) (hb : σ.2.1 = false) (hx : ∀ c ∈ ([37, 42, 43, 46, 47] : List Nat), c ∈ σ.1) (w : Wd) {q : Int32 × Wd} (hq : Mo_judge w = some q) : CT l g σ yX8_judge cX8_judge 6 (some .int) 1 23 [.ref (gA g 37)] w (some (.int q.1)) q.2 := by
  refine ct_of (rt := rtI) (res := Mo_judge w) (q := q) (own := RX8) (b := false) hg hb hx (by decide) rfl (Nat.le_of_ble_eq_true rfl) hq (fun K e1 e2 e3 F => ?_)
  subst e1 e2 e3
  rw [Mo_judge]
  show N K _ _ w 0 [(0, .ref (gA (cg K) 37))] []
  refine n_iconst F (0 : Int32) dX8_judge_0 (by decide) ?_
  refine n_istore_n F (lv' := [(1, .int (0 : Int32)), (0, .ref (gA (cg K) 37))]) dX8_judge_1 rfl (by decide) rfl ?_
  exact n_sub [1, 0] rfl (Mo_judge_L2_ok F (Mo_judge_B25_ok F) FU _ _)
theorem dX8_addThen_0 : decode cX8_addThen 0 = .ok (.iload_n 1, 1) := by decide +kernel
theorem dX8_addThen_1 : decode cX8_addThen 1 = .ok (.bipush 41, 2) := by decide +kernel
theorem dX8_addThen_3 : decode cX8_addThen 3 = .ok (.if_icmp .ge 13, 3) := by decide +kernel
theorem dX8_addThen_6 : decode cX8_addThen 6 = .ok (.aload_n 0, 1) := by decide +kernel
theorem dX8_addThen_7 : decode cX8_addThen 7 = .ok (.getfield 52, 3) := by decide +kernel
theorem dX8_addThen_10 : decode cX8_addThen 10 = .ok (.iload_n 1, 1) := by decide +kernel
theorem dX8_addThen_11 : decode cX8_addThen 11 = .ok (.dup2, 1) := by decide +kernel
theorem dX8_addThen_12 : decode cX8_addThen 12 = .ok (.laload, 1) := by decide +kernel
theorem dX8_addThen_13 : decode cX8_addThen 13 = .ok (.lload_n 2, 1) := by decide +kernel
theorem dX8_addThen_14 : decode cX8_addThen 14 = .ok (.ladd, 1) := by decide +kernel
theorem dX8_addThen_15 : decode cX8_addThen 15 = .ok (.lastore, 1) := by decide +kernel
theorem dX8_addThen_16 : decode cX8_addThen 16 = .ok (.return_, 1) := by decide +kernel
def Mo_addThen (w : Wd) (a1 : Int32) (a2 : Int64) : Option Wd := (if (41 : Int32) ≤ a1 then some w else (if ib a1 41 = true then (if ib a1 41 = true then some (sJ w 49 (Int32.toNatClampNeg a1) ((w.2 49 (Int32.toNatClampNeg a1)) + a2)) else none) else none))
set_option maxRecDepth 100000 in
set_option maxHeartbeats 4000000 in
theorem ct_Mo_addThen {l : Launch} {g : GG} {σ : Sd} (hg : OKg g σ) (hb : σ.2.1 = false) (hx : ∀ c ∈ ([37, 49] : List Nat), c ∈ σ.1) (w : Wd) (a1 : Int32) (a2 : Int64) {q : Wd} (hq : Mo_addThen w a1 a2 = some q) : CT l g σ yX8_addThen cX8_addThen 4 none 0 0 [.ref (gA g 37), .int a1, .long a2] w none q := by
  refine ct_of (rt := rtV) (res := Mo_addThen w a1 a2) (q := q) (own := RX8) (b := false) hg hb hx (by decide) rfl (Nat.le_of_ble_eq_true rfl) hq (fun K e1 e2 e3 F => ?_)
  subst e1 e2 e3
  rw [Mo_addThen]
  show N K _ _ w 0 [(0, .ref (gA (cg K) 37)), (1, .int a1), (2, .long a2)] []
  refine n_iload_n F dX8_addThen_0 rfl 1 rfl ?_
  refine n_bipush F (41 : Int32) dX8_addThen_1 (by decide) ?_
  refine n_icmp_ge F 16 dX8_addThen_3 (by decide) (fun e1 => ?_) (fun e1 => ?_)
  · rw [if_pos e1]
    exact n_vret F rfl rfl dX8_addThen_16
  rw [if_neg e1]
  refine n_aload_n F dX8_addThen_6 rfl 0 rfl ?_
  refine n_get F ck_8 lf_RX8_52 (by decide) fg_37_25 (by decide) dX8_addThen_7 ?_
  refine n_iload_n F dX8_addThen_10 rfl 1 rfl ?_
  refine n_dup2 F dX8_addThen_11 rfl rfl ?_
  refine n_chk (fun e2 => ?_)
  refine n_lald F ar_49 (by decide) (ib_in e2) rfl dX8_addThen_12 ?_
  refine n_lload_n F dX8_addThen_13 rfl 2 rfl ?_
  refine n_ladd F dX8_addThen_14 ?_
  refine n_chk (fun e3 => ?_)
  refine n_last F ar_49 (by decide) (ib_in e3) rfl dX8_addThen_15 ?_
  exact n_vret F rfl rfl dX8_addThen_16
theorem dX8_rideLate_0 : decode cX8_rideLate 0 = .ok (.iconst 0, 1) := by decide +kernel
theorem dX8_rideLate_1 : decode cX8_rideLate 1 = .ok (.istore_n 3, 1) := by decide +kernel
theorem dX8_rideLate_2 : decode cX8_rideLate 2 = .ok (.iload_n 3, 1) := by decide +kernel
theorem dX8_rideLate_3 : decode cX8_rideLate 3 = .ok (.bipush 41, 2) := by decide +kernel
theorem dX8_rideLate_5 : decode cX8_rideLate 5 = .ok (.if_icmp .ge 16, 3) := by decide +kernel
theorem dX8_rideLate_8 : decode cX8_rideLate 8 = .ok (.aload_n 0, 1) := by decide +kernel
theorem dX8_rideLate_9 : decode cX8_rideLate 9 = .ok (.getfield 52, 3) := by decide +kernel
theorem dX8_rideLate_12 : decode cX8_rideLate 12 = .ok (.iload_n 3, 1) := by decide +kernel
theorem dX8_rideLate_13 : decode cX8_rideLate 13 = .ok (.lconst 0, 1) := by decide +kernel
theorem dX8_rideLate_14 : decode cX8_rideLate 14 = .ok (.lastore, 1) := by decide +kernel
theorem dX8_rideLate_15 : decode cX8_rideLate 15 = .ok (.iinc 3 1, 3) := by decide +kernel
theorem dX8_rideLate_18 : decode cX8_rideLate 18 = .ok (.goto (-16), 3) := by decide +kernel
theorem dX8_rideLate_21 : decode cX8_rideLate 21 = .ok (.iconst 0, 1) := by decide +kernel
theorem dX8_rideLate_22 : decode cX8_rideLate 22 = .ok (.istore_n 3, 1) := by decide +kernel
theorem dX8_rideLate_23 : decode cX8_rideLate 23 = .ok (.iload_n 3, 1) := by decide +kernel
theorem dX8_rideLate_24 : decode cX8_rideLate 24 = .ok (.bipush 41, 2) := by decide +kernel
theorem dX8_rideLate_26 : decode cX8_rideLate 26 = .ok (.if_icmp .ge 97, 3) := by decide +kernel
theorem dX8_rideLate_29 : decode cX8_rideLate 29 = .ok (.iload_n 3, 1) := by decide +kernel
theorem dX8_rideLate_30 : decode cX8_rideLate 30 = .ok (.istore 4, 2) := by decide +kernel
theorem dX8_rideLate_32 : decode cX8_rideLate 32 = .ok (.iload 4, 2) := by decide +kernel
theorem dX8_rideLate_34 : decode cX8_rideLate 34 = .ok (.aload_n 0, 1) := by decide +kernel
theorem dX8_rideLate_35 : decode cX8_rideLate 35 = .ok (.getfield 27, 3) := by decide +kernel
theorem dX8_rideLate_38 : decode cX8_rideLate 38 = .ok (.bipush 6, 2) := by decide +kernel
theorem dX8_rideLate_40 : decode cX8_rideLate 40 = .ok (.iload_n 1, 1) := by decide +kernel
theorem dX8_rideLate_41 : decode cX8_rideLate 41 = .ok (.imul, 1) := by decide +kernel
theorem dX8_rideLate_42 : decode cX8_rideLate 42 = .ok (.iconst 2, 1) := by decide +kernel
theorem dX8_rideLate_43 : decode cX8_rideLate 43 = .ok (.iadd, 1) := by decide +kernel
theorem dX8_rideLate_44 : decode cX8_rideLate 44 = .ok (.iaload, 1) := by decide +kernel
theorem dX8_rideLate_45 : decode cX8_rideLate 45 = .ok (.irem, 1) := by decide +kernel
theorem dX8_rideLate_46 : decode cX8_rideLate 46 = .ok (.aload_n 0, 1) := by decide +kernel
theorem dX8_rideLate_47 : decode cX8_rideLate 47 = .ok (.getfield 27, 3) := by decide +kernel
theorem dX8_rideLate_50 : decode cX8_rideLate 50 = .ok (.bipush 6, 2) := by decide +kernel
theorem dX8_rideLate_52 : decode cX8_rideLate 52 = .ok (.iload_n 1, 1) := by decide +kernel
theorem dX8_rideLate_53 : decode cX8_rideLate 53 = .ok (.imul, 1) := by decide +kernel
theorem dX8_rideLate_54 : decode cX8_rideLate 54 = .ok (.iconst 3, 1) := by decide +kernel
theorem dX8_rideLate_55 : decode cX8_rideLate 55 = .ok (.iadd, 1) := by decide +kernel
theorem dX8_rideLate_56 : decode cX8_rideLate 56 = .ok (.iaload, 1) := by decide +kernel
theorem dX8_rideLate_57 : decode cX8_rideLate 57 = .ok (.if_icmp .eq 9, 3) := by decide +kernel
theorem dX8_rideLate_60 : decode cX8_rideLate 60 = .ok (.iinc 4 1, 3) := by decide +kernel
theorem dX8_rideLate_63 : decode cX8_rideLate 63 = .ok (.goto (-31), 3) := by decide +kernel
theorem dX8_rideLate_66 : decode cX8_rideLate 66 = .ok (.iload 4, 2) := by decide +kernel
theorem dX8_rideLate_68 : decode cX8_rideLate 68 = .ok (.aload_n 0, 1) := by decide +kernel
theorem dX8_rideLate_69 : decode cX8_rideLate 69 = .ok (.getfield 27, 3) := by decide +kernel
theorem dX8_rideLate_72 : decode cX8_rideLate 72 = .ok (.bipush 6, 2) := by decide +kernel
theorem dX8_rideLate_74 : decode cX8_rideLate 74 = .ok (.iload_n 1, 1) := by decide +kernel
theorem dX8_rideLate_75 : decode cX8_rideLate 75 = .ok (.imul, 1) := by decide +kernel
theorem dX8_rideLate_76 : decode cX8_rideLate 76 = .ok (.iconst 4, 1) := by decide +kernel
theorem dX8_rideLate_77 : decode cX8_rideLate 77 = .ok (.iadd, 1) := by decide +kernel
theorem dX8_rideLate_78 : decode cX8_rideLate 78 = .ok (.iaload, 1) := by decide +kernel
theorem dX8_rideLate_79 : decode cX8_rideLate 79 = .ok (.iadd, 1) := by decide +kernel
theorem dX8_rideLate_80 : decode cX8_rideLate 80 = .ok (.istore 5, 2) := by decide +kernel
theorem dX8_rideLate_82 : decode cX8_rideLate 82 = .ok (.aload_n 0, 1) := by decide +kernel
theorem dX8_rideLate_83 : decode cX8_rideLate 83 = .ok (.iload 5, 2) := by decide +kernel
theorem dX8_rideLate_85 : decode cX8_rideLate 85 = .ok (.aload_n 0, 1) := by decide +kernel
theorem dX8_rideLate_86 : decode cX8_rideLate 86 = .ok (.getfield 48, 3) := by decide +kernel
theorem dX8_rideLate_89 : decode cX8_rideLate 89 = .ok (.iload_n 3, 1) := by decide +kernel
theorem dX8_rideLate_90 : decode cX8_rideLate 90 = .ok (.laload, 1) := by decide +kernel
theorem dX8_rideLate_91 : decode cX8_rideLate 91 = .ok (.bipush 10, 2) := by decide +kernel
theorem dX8_rideLate_93 : decode cX8_rideLate 93 = .ok (.iload_n 2, 1) := by decide +kernel
theorem dX8_rideLate_94 : decode cX8_rideLate 94 = .ok (.isub, 1) := by decide +kernel
theorem dX8_rideLate_95 : decode cX8_rideLate 95 = .ok (.i2l, 1) := by decide +kernel
theorem dX8_rideLate_96 : decode cX8_rideLate 96 = .ok (.lmul, 1) := by decide +kernel
theorem dX8_rideLate_97 : decode cX8_rideLate 97 = .ok (.invokevirtual 213, 3) := by decide +kernel
theorem dX8_rideLate_100 : decode cX8_rideLate 100 = .ok (.aload_n 0, 1) := by decide +kernel
theorem dX8_rideLate_101 : decode cX8_rideLate 101 = .ok (.iload 5, 2) := by decide +kernel
theorem dX8_rideLate_103 : decode cX8_rideLate 103 = .ok (.iconst 1, 1) := by decide +kernel
theorem dX8_rideLate_104 : decode cX8_rideLate 104 = .ok (.iadd, 1) := by decide +kernel
theorem dX8_rideLate_105 : decode cX8_rideLate 105 = .ok (.aload_n 0, 1) := by decide +kernel
theorem dX8_rideLate_106 : decode cX8_rideLate 106 = .ok (.getfield 48, 3) := by decide +kernel
theorem dX8_rideLate_109 : decode cX8_rideLate 109 = .ok (.iload_n 3, 1) := by decide +kernel
theorem dX8_rideLate_110 : decode cX8_rideLate 110 = .ok (.laload, 1) := by decide +kernel
theorem dX8_rideLate_111 : decode cX8_rideLate 111 = .ok (.iload_n 2, 1) := by decide +kernel
theorem dX8_rideLate_112 : decode cX8_rideLate 112 = .ok (.i2l, 1) := by decide +kernel
theorem dX8_rideLate_113 : decode cX8_rideLate 113 = .ok (.lmul, 1) := by decide +kernel
theorem dX8_rideLate_114 : decode cX8_rideLate 114 = .ok (.invokevirtual 213, 3) := by decide +kernel
theorem dX8_rideLate_117 : decode cX8_rideLate 117 = .ok (.iinc 3 1, 3) := by decide +kernel
theorem dX8_rideLate_120 : decode cX8_rideLate 120 = .ok (.goto (-97), 3) := by decide +kernel
theorem dX8_rideLate_123 : decode cX8_rideLate 123 = .ok (.iconst 0, 1) := by decide +kernel
theorem dX8_rideLate_124 : decode cX8_rideLate 124 = .ok (.istore_n 3, 1) := by decide +kernel
theorem dX8_rideLate_125 : decode cX8_rideLate 125 = .ok (.iload_n 3, 1) := by decide +kernel
theorem dX8_rideLate_126 : decode cX8_rideLate 126 = .ok (.bipush 41, 2) := by decide +kernel
theorem dX8_rideLate_128 : decode cX8_rideLate 128 = .ok (.if_icmp .ge 21, 3) := by decide +kernel
theorem dX8_rideLate_131 : decode cX8_rideLate 131 = .ok (.aload_n 0, 1) := by decide +kernel
theorem dX8_rideLate_132 : decode cX8_rideLate 132 = .ok (.getfield 48, 3) := by decide +kernel
theorem dX8_rideLate_135 : decode cX8_rideLate 135 = .ok (.iload_n 3, 1) := by decide +kernel
theorem dX8_rideLate_136 : decode cX8_rideLate 136 = .ok (.aload_n 0, 1) := by decide +kernel
theorem dX8_rideLate_137 : decode cX8_rideLate 137 = .ok (.getfield 52, 3) := by decide +kernel
theorem dX8_rideLate_140 : decode cX8_rideLate 140 = .ok (.iload_n 3, 1) := by decide +kernel
theorem dX8_rideLate_141 : decode cX8_rideLate 141 = .ok (.laload, 1) := by decide +kernel
theorem dX8_rideLate_142 : decode cX8_rideLate 142 = .ok (.lastore, 1) := by decide +kernel
theorem dX8_rideLate_143 : decode cX8_rideLate 143 = .ok (.iinc 3 1, 3) := by decide +kernel
theorem dX8_rideLate_146 : decode cX8_rideLate 146 = .ok (.goto (-21), 3) := by decide +kernel
theorem dX8_rideLate_149 : decode cX8_rideLate 149 = .ok (.return_, 1) := by decide +kernel
def Mo_rideLate_L2 (k21 : Wd → Int32 → Int32 → Option Wd) : Nat → Wd → Int32 → Int32 → Int32 → Option Wd
  | 0, _, _, _, _ => none
  | n + 1, w, v1, v2, v3 => (if (41 : Int32) ≤ v3 then (k21 w v1 v2) else (if ib v3 41 = true then (Mo_rideLate_L2 k21 n (sJ w 49 (Int32.toNatClampNeg v3) (0 : Int64)) v1 v2 (v3 + (1 : Int32))) else none))
set_option maxRecDepth 100000 in
set_option maxHeartbeats 4000000 in
theorem Mo_rideLate_L2_ok {K : Ctx} (F : Fx K cX8_rideLate 6 RX8 none 1 23 false [37, 42, 48, 49]) {k21 : Wd → Int32 → Int32 → Option Wd} (h21 : ∀ (w : Wd) (v1 : Int32) (v2 : Int32), N K rtV (k21 w v1 v2) w 21 [(0, .ref (gA (cg K) 37)), (1, .int v1), (2, .int v2)] []) : ∀ (n : Nat) (w : Wd) (v1 : Int32) (v2 : Int32) (v3 : Int32), N K rtV (Mo_rideLate_L2 k21 n w v1 v2 v3) w 2 [(0, .ref (gA (cg K) 37)), (1, .int v1), (2, .int v2), (3, .int v3)] [] := by
  intro n
  induction n with
  | zero => intro _ _ _ _; exact n_none
  | succ n ih =>
    intro w v1 v2 v3
    rw [Mo_rideLate_L2]
    refine n_iload_n F dX8_rideLate_2 rfl 3 rfl ?_
    refine n_bipush F (41 : Int32) dX8_rideLate_3 (by decide) ?_
    refine n_icmp_ge F 21 dX8_rideLate_5 (by decide) (fun e1 => ?_) (fun e1 => ?_)
    · rw [if_pos e1]
      exact n_sub [0, 1, 2] rfl (h21 _ _ _)
    rw [if_neg e1]
    refine n_aload_n F dX8_rideLate_8 rfl 0 rfl ?_
    refine n_get F ck_8 lf_RX8_52 (by decide) fg_37_25 (by decide) dX8_rideLate_9 ?_
    refine n_iload_n F dX8_rideLate_12 rfl 3 rfl ?_
    refine n_lconst F (0 : Int64) dX8_rideLate_13 (by decide) ?_
    refine n_chk (fun e2 => ?_)
    refine n_last F ar_49 (by decide) (ib_in e2) rfl dX8_rideLate_14 ?_
    refine n_iinc F (v3 + (1 : Int32)) (lv' := [(3, .int (v3 + (1 : Int32))), (0, .ref (gA (cg K) 37)), (1, .int v1), (2, .int v2)]) dX8_rideLate_15 3 rfl rfl (by decide) rfl ?_
    refine n_goto F 2 dX8_rideLate_18 (by decide) ?_
    exact n_sub [1, 2, 3, 0] rfl (ih _ _ _ _)
def Mo_rideLate_L32 (k66 : Wd → Int32 → Int32 → Int32 → Int32 → Option Wd) : Nat → Wd → Int32 → Int32 → Int32 → Int32 → Option Wd
  | 0, _, _, _, _, _ => none
  | n + 1, w, v1, v2, v3, v4 => (if ib (((6 : Int32) * v1) + (2 : Int32)) 72 = true then (if ¬ (w.1 42 (Int32.toNatClampNeg (((6 : Int32) * v1) + (2 : Int32)))) = (0 : Int32) then (if ib (((6 : Int32) * v1) + (3 : Int32)) 72 = true then (if (v4 - v4 / (w.1 42 (Int32.toNatClampNeg (((6 : Int32) * v1) + (2 : Int32)))) * (w.1 42 (Int32.toNatClampNeg (((6 : Int32) * v1) + (2 : Int32))))) = (w.1 42 (Int32.toNatClampNeg (((6 : Int32) * v1) + (3 : Int32)))) then (k66 w v1 v2 v3 v4) else (Mo_rideLate_L32 k66 n w v1 v2 v3 (v4 + (1 : Int32)))) else none) else none) else none)
set_option maxRecDepth 100000 in
set_option maxHeartbeats 4000000 in
theorem Mo_rideLate_L32_ok {K : Ctx} (F : Fx K cX8_rideLate 6 RX8 none 1 23 false [37, 42, 48, 49]) {k66 : Wd → Int32 → Int32 → Int32 → Int32 → Option Wd} (h66 : ∀ (w : Wd) (v1 : Int32) (v2 : Int32) (v3 : Int32) (v4 : Int32), N K rtV (k66 w v1 v2 v3 v4) w 66 [(0, .ref (gA (cg K) 37)), (1, .int v1), (2, .int v2), (3, .int v3), (4, .int v4)] []) : ∀ (n : Nat) (w : Wd) (v1 : Int32) (v2 : Int32) (v3 : Int32) (v4 : Int32), N K rtV (Mo_rideLate_L32 k66 n w v1 v2 v3 v4) w 32 [(0, .ref (gA (cg K) 37)), (1, .int v1), (2, .int v2), (3, .int v3), (4, .int v4)] [] := by
  intro n
  induction n with
  | zero => intro _ _ _ _ _; exact n_none
  | succ n ih =>
    intro w v1 v2 v3 v4
    rw [Mo_rideLate_L32]
    refine n_iload F dX8_rideLate_32 4 rfl ?_
    refine n_aload_n F dX8_rideLate_34 rfl 0 rfl ?_
    refine n_get F ck_8 lf_RX8_27 (by decide) fg_37_7 (by decide) dX8_rideLate_35 ?_
    refine n_bipush F (6 : Int32) dX8_rideLate_38 (by decide) ?_
    refine n_iload_n F dX8_rideLate_40 rfl 1 rfl ?_
    refine n_imul F dX8_rideLate_41 ?_
    refine n_iconst F (2 : Int32) dX8_rideLate_42 (by decide) ?_
    refine n_iadd F dX8_rideLate_43 ?_
    refine n_chk (fun e4 => ?_)
    refine n_iald F ar_42 (by decide) (ib_in e4) rfl dX8_rideLate_44 ?_
    refine n_chk (fun e5 => ?_)
    refine n_irem F dX8_rideLate_45 e5 ?_
    refine n_aload_n F dX8_rideLate_46 rfl 0 rfl ?_
    refine n_get F ck_8 lf_RX8_27 (by decide) fg_37_7 (by decide) dX8_rideLate_47 ?_
    refine n_bipush F (6 : Int32) dX8_rideLate_50 (by decide) ?_
    refine n_iload_n F dX8_rideLate_52 rfl 1 rfl ?_
    refine n_imul F dX8_rideLate_53 ?_
    refine n_iconst F (3 : Int32) dX8_rideLate_54 (by decide) ?_
    refine n_iadd F dX8_rideLate_55 ?_
    refine n_chk (fun e6 => ?_)
    refine n_iald F ar_42 (by decide) (ib_in e6) rfl dX8_rideLate_56 ?_
    refine n_icmp_eq F 66 dX8_rideLate_57 (by decide) (fun e7 => ?_) (fun e7 => ?_)
    · rw [if_pos e7]
      exact n_sub [0, 1, 2, 3, 4] rfl (h66 _ _ _ _ _)
    rw [if_neg e7]
    refine n_iinc F (v4 + (1 : Int32)) (lv' := [(4, .int (v4 + (1 : Int32))), (0, .ref (gA (cg K) 37)), (1, .int v1), (2, .int v2), (3, .int v3)]) dX8_rideLate_60 4 rfl rfl (by decide) rfl ?_
    refine n_goto F 32 dX8_rideLate_63 (by decide) ?_
    exact n_sub [1, 2, 3, 4, 0] rfl (ih _ _ _ _ _)
def Mo_rideLate_B66 (k23 : Wd → Int32 → Int32 → Int32 → Option Wd) (w : Wd) (v1 : Int32) (v2 : Int32) (v3 : Int32) (v4 : Int32) : Option Wd := (if ib (((6 : Int32) * v1) + (4 : Int32)) 72 = true then (if ib v3 41 = true then (Option.bind (Mo_addThen w (v4 + (w.1 42 (Int32.toNatClampNeg (((6 : Int32) * v1) + (4 : Int32))))) ((w.2 48 (Int32.toNatClampNeg v3)) * (Int32.toInt64 ((10 : Int32) - v2)))) (fun q10 => (if ib v3 41 = true then (Option.bind (Mo_addThen q10 ((v4 + (w.1 42 (Int32.toNatClampNeg (((6 : Int32) * v1) + (4 : Int32))))) + (1 : Int32)) ((q10.2 48 (Int32.toNatClampNeg v3)) * (Int32.toInt64 v2))) (fun q12 => (k23 q12 v1 v2 (v3 + (1 : Int32))))) else none))) else none) else none)
set_option maxRecDepth 100000 in
set_option maxHeartbeats 4000000 in
theorem Mo_rideLate_B66_ok {K : Ctx} (F : Fx K cX8_rideLate 6 RX8 none 1 23 false [37, 42, 48, 49]) {k23 : Wd → Int32 → Int32 → Int32 → Option Wd} (h23 : ∀ (w : Wd) (v1 : Int32) (v2 : Int32) (v3 : Int32), N K rtV (k23 w v1 v2 v3) w 23 [(0, .ref (gA (cg K) 37)), (1, .int v1), (2, .int v2), (3, .int v3)] []) (w : Wd) (v1 : Int32) (v2 : Int32) (v3 : Int32) (v4 : Int32) : N K rtV (Mo_rideLate_B66 k23 w v1 v2 v3 v4) w 66 [(0, .ref (gA (cg K) 37)), (1, .int v1), (2, .int v2), (3, .int v3), (4, .int v4)] [] := by
  rw [Mo_rideLate_B66]
  refine n_iload F dX8_rideLate_66 4 rfl ?_
  refine n_aload_n F dX8_rideLate_68 rfl 0 rfl ?_
  refine n_get F ck_8 lf_RX8_27 (by decide) fg_37_7 (by decide) dX8_rideLate_69 ?_
  refine n_bipush F (6 : Int32) dX8_rideLate_72 (by decide) ?_
  refine n_iload_n F dX8_rideLate_74 rfl 1 rfl ?_
  refine n_imul F dX8_rideLate_75 ?_
  refine n_iconst F (4 : Int32) dX8_rideLate_76 (by decide) ?_
  refine n_iadd F dX8_rideLate_77 ?_
  refine n_chk (fun e8 => ?_)
  refine n_iald F ar_42 (by decide) (ib_in e8) rfl dX8_rideLate_78 ?_
  refine n_iadd F dX8_rideLate_79 ?_
  refine n_istore F (lv' := [(5, .int (v4 + (w.1 42 (Int32.toNatClampNeg (((6 : Int32) * v1) + (4 : Int32)))))), (0, .ref (gA (cg K) 37)), (1, .int v1), (2, .int v2), (3, .int v3), (4, .int v4)]) dX8_rideLate_80 (by decide) rfl ?_
  refine n_aload_n F dX8_rideLate_82 rfl 1 rfl ?_
  refine n_iload F dX8_rideLate_83 0 rfl ?_
  refine n_aload_n F dX8_rideLate_85 rfl 1 rfl ?_
  refine n_get F ck_8 lf_RX8_48 (by decide) fg_37_24 (by decide) dX8_rideLate_86 ?_
  refine n_iload_n F dX8_rideLate_89 rfl 4 rfl ?_
  refine n_chk (fun e9 => ?_)
  refine n_lald F ar_48 (by decide) (ib_in e9) rfl dX8_rideLate_90 ?_
  refine n_bipush F (10 : Int32) dX8_rideLate_91 (by decide) ?_
  refine n_iload_n F dX8_rideLate_93 rfl 3 rfl ?_
  refine n_isub F dX8_rideLate_94 ?_
  refine n_i2l F dX8_rideLate_95 ?_
  refine n_lmul F dX8_rideLate_96 ?_
  refine n_bind (fun q10 hq10 => ?_)
  refine n_callVv F cb_X8_addThen lm_RX8_213 ob_37 (by decide) ⟨_, _, rfl⟩ (ct_Mo_addThen (fx_ok F) (fx_sd F) (fx_ix F rfl) w (v4 + (w.1 42 (Int32.toNatClampNeg (((6 : Int32) * v1) + (4 : Int32))))) ((w.2 48 (Int32.toNatClampNeg v3)) * (Int32.toInt64 ((10 : Int32) - v2))) hq10) rfl rfl (Nat.le_of_ble_eq_true rfl) ⟨Nat.le_of_ble_eq_true rfl, Nat.le_of_ble_eq_true rfl⟩ dX8_rideLate_97 ?_
  refine n_aload_n F dX8_rideLate_100 rfl 1 rfl ?_
  refine n_iload F dX8_rideLate_101 0 rfl ?_
  refine n_iconst F (1 : Int32) dX8_rideLate_103 (by decide) ?_
  refine n_iadd F dX8_rideLate_104 ?_
  refine n_aload_n F dX8_rideLate_105 rfl 1 rfl ?_
  refine n_get F ck_8 lf_RX8_48 (by decide) fg_37_24 (by decide) dX8_rideLate_106 ?_
  refine n_iload_n F dX8_rideLate_109 rfl 4 rfl ?_
  refine n_chk (fun e11 => ?_)
  refine n_lald F ar_48 (by decide) (ib_in e11) rfl dX8_rideLate_110 ?_
  refine n_iload_n F dX8_rideLate_111 rfl 3 rfl ?_
  refine n_i2l F dX8_rideLate_112 ?_
  refine n_lmul F dX8_rideLate_113 ?_
  refine n_bind (fun q12 hq12 => ?_)
  refine n_callVv F cb_X8_addThen lm_RX8_213 ob_37 (by decide) ⟨_, _, rfl⟩ (ct_Mo_addThen (fx_ok F) (fx_sd F) (fx_ix F rfl) q10 ((v4 + (w.1 42 (Int32.toNatClampNeg (((6 : Int32) * v1) + (4 : Int32))))) + (1 : Int32)) ((q10.2 48 (Int32.toNatClampNeg v3)) * (Int32.toInt64 v2)) hq12) rfl rfl (Nat.le_of_ble_eq_true rfl) ⟨Nat.le_of_ble_eq_true rfl, Nat.le_of_ble_eq_true rfl⟩ dX8_rideLate_114 ?_
  refine n_iinc F (v3 + (1 : Int32)) (lv' := [(3, .int (v3 + (1 : Int32))), (5, .int (v4 + (w.1 42 (Int32.toNatClampNeg (((6 : Int32) * v1) + (4 : Int32)))))), (0, .ref (gA (cg K) 37)), (1, .int v1), (2, .int v2), (4, .int v4)]) dX8_rideLate_117 4 rfl rfl (by decide) rfl ?_
  refine n_goto F 23 dX8_rideLate_120 (by decide) ?_
  exact n_sub [2, 3, 4, 0] rfl (h23 _ _ _ _)
def Mo_rideLate_L23 (k123 : Wd → Option Wd) : Nat → Wd → Int32 → Int32 → Int32 → Option Wd
  | 0, _, _, _, _ => none
  | n + 1, w, v1, v2, v3 => (if (41 : Int32) ≤ v3 then (k123 w) else (Mo_rideLate_L32 (Mo_rideLate_B66 (Mo_rideLate_L23 k123 n)) FU w v1 v2 v3 v3))
set_option maxRecDepth 100000 in
set_option maxHeartbeats 4000000 in
theorem Mo_rideLate_L23_ok {K : Ctx} (F : Fx K cX8_rideLate 6 RX8 none 1 23 false [37, 42, 48, 49]) {k123 : Wd → Option Wd} (h123 : ∀ (w : Wd), N K rtV (k123 w) w 123 [(0, .ref (gA (cg K) 37))] []) : ∀ (n : Nat) (w : Wd) (v1 : Int32) (v2 : Int32) (v3 : Int32), N K rtV (Mo_rideLate_L23 k123 n w v1 v2 v3) w 23 [(0, .ref (gA (cg K) 37)), (1, .int v1), (2, .int v2), (3, .int v3)] [] := by
  intro n
  induction n with
  | zero => intro _ _ _ _; exact n_none
  | succ n ih =>
    intro w v1 v2 v3
    rw [Mo_rideLate_L23]
    refine n_iload_n F dX8_rideLate_23 rfl 3 rfl ?_
    refine n_bipush F (41 : Int32) dX8_rideLate_24 (by decide) ?_
    refine n_icmp_ge F 123 dX8_rideLate_26 (by decide) (fun e3 => ?_) (fun e3 => ?_)
    · rw [if_pos e3]
      exact n_sub [0] rfl (h123 _)
    rw [if_neg e3]
    refine n_iload_n F dX8_rideLate_29 rfl 3 rfl ?_
    refine n_istore F (lv' := [(4, .int v3), (0, .ref (gA (cg K) 37)), (1, .int v1), (2, .int v2), (3, .int v3)]) dX8_rideLate_30 (by decide) rfl ?_
    exact n_sub [1, 2, 3, 4, 0] rfl (Mo_rideLate_L32_ok F (Mo_rideLate_B66_ok F ih) FU _ _ _ _ _)
def Mo_rideLate_L125 (k149 : Wd → Option Wd) : Nat → Wd → Int32 → Option Wd
  | 0, _, _ => none
  | n + 1, w, v3 => (if (41 : Int32) ≤ v3 then (k149 w) else (if ib v3 41 = true then (if ib v3 41 = true then (Mo_rideLate_L125 k149 n (sJ w 48 (Int32.toNatClampNeg v3) (w.2 49 (Int32.toNatClampNeg v3))) (v3 + (1 : Int32))) else none) else none))
set_option maxRecDepth 100000 in
set_option maxHeartbeats 4000000 in
theorem Mo_rideLate_L125_ok {K : Ctx} (F : Fx K cX8_rideLate 6 RX8 none 1 23 false [37, 42, 48, 49]) {k149 : Wd → Option Wd} (h149 : ∀ (w : Wd), N K rtV (k149 w) w 149 [] []) : ∀ (n : Nat) (w : Wd) (v3 : Int32), N K rtV (Mo_rideLate_L125 k149 n w v3) w 125 [(0, .ref (gA (cg K) 37)), (3, .int v3)] [] := by
  intro n
  induction n with
  | zero => intro _ _; exact n_none
  | succ n ih =>
    intro w v3
    rw [Mo_rideLate_L125]
    refine n_iload_n F dX8_rideLate_125 rfl 1 rfl ?_
    refine n_bipush F (41 : Int32) dX8_rideLate_126 (by decide) ?_
    refine n_icmp_ge F 149 dX8_rideLate_128 (by decide) (fun e13 => ?_) (fun e13 => ?_)
    · rw [if_pos e13]
      exact n_sub [] rfl (h149 _)
    rw [if_neg e13]
    refine n_aload_n F dX8_rideLate_131 rfl 0 rfl ?_
    refine n_get F ck_8 lf_RX8_48 (by decide) fg_37_24 (by decide) dX8_rideLate_132 ?_
    refine n_iload_n F dX8_rideLate_135 rfl 1 rfl ?_
    refine n_aload_n F dX8_rideLate_136 rfl 0 rfl ?_
    refine n_get F ck_8 lf_RX8_52 (by decide) fg_37_25 (by decide) dX8_rideLate_137 ?_
    refine n_iload_n F dX8_rideLate_140 rfl 1 rfl ?_
    refine n_chk (fun e14 => ?_)
    refine n_lald F ar_49 (by decide) (ib_in e14) rfl dX8_rideLate_141 ?_
    refine n_chk (fun e15 => ?_)
    refine n_last F ar_48 (by decide) (ib_in e15) rfl dX8_rideLate_142 ?_
    refine n_iinc F (v3 + (1 : Int32)) (lv' := [(3, .int (v3 + (1 : Int32))), (0, .ref (gA (cg K) 37))]) dX8_rideLate_143 1 rfl rfl (by decide) rfl ?_
    refine n_goto F 125 dX8_rideLate_146 (by decide) ?_
    exact n_sub [1, 0] rfl (ih _ _)
def Mo_rideLate_B149 (w : Wd) : Option Wd := some w
set_option maxRecDepth 100000 in
set_option maxHeartbeats 4000000 in
theorem Mo_rideLate_B149_ok {K : Ctx} (F : Fx K cX8_rideLate 6 RX8 none 1 23 false [37, 42, 48, 49]) (w : Wd) : N K rtV (Mo_rideLate_B149 w) w 149 [] [] := by
  rw [Mo_rideLate_B149]
  exact n_vret F rfl rfl dX8_rideLate_149
def Mo_rideLate_B123 (w : Wd) : Option Wd := (Mo_rideLate_L125 Mo_rideLate_B149 FU w (0 : Int32))
set_option maxRecDepth 100000 in
set_option maxHeartbeats 4000000 in
theorem Mo_rideLate_B123_ok {K : Ctx} (F : Fx K cX8_rideLate 6 RX8 none 1 23 false [37, 42, 48, 49]) (w : Wd) : N K rtV (Mo_rideLate_B123 w) w 123 [(0, .ref (gA (cg K) 37))] [] := by
  rw [Mo_rideLate_B123]
  refine n_iconst F (0 : Int32) dX8_rideLate_123 (by decide) ?_
  refine n_istore_n F (lv' := [(3, .int (0 : Int32)), (0, .ref (gA (cg K) 37))]) dX8_rideLate_124 rfl (by decide) rfl ?_
  exact n_sub [1, 0] rfl (Mo_rideLate_L125_ok F (Mo_rideLate_B149_ok F) FU _ _)
def Mo_rideLate_B21 (w : Wd) (v1 : Int32) (v2 : Int32) : Option Wd := (Mo_rideLate_L23 Mo_rideLate_B123 FU w v1 v2 (0 : Int32))
set_option maxRecDepth 100000 in
set_option maxHeartbeats 4000000 in
theorem Mo_rideLate_B21_ok {K : Ctx} (F : Fx K cX8_rideLate 6 RX8 none 1 23 false [37, 42, 48, 49]) (w : Wd) (v1 : Int32) (v2 : Int32) : N K rtV (Mo_rideLate_B21 w v1 v2) w 21 [(0, .ref (gA (cg K) 37)), (1, .int v1), (2, .int v2)] [] := by
  rw [Mo_rideLate_B21]
  refine n_iconst F (0 : Int32) dX8_rideLate_21 (by decide) ?_
  refine n_istore_n F (lv' := [(3, .int (0 : Int32)), (0, .ref (gA (cg K) 37)), (1, .int v1), (2, .int v2)]) dX8_rideLate_22 rfl (by decide) rfl ?_
  exact n_sub [1, 2, 3, 0] rfl (Mo_rideLate_L23_ok F (Mo_rideLate_B123_ok F) FU _ _ _ _)
def Mo_rideLate (w : Wd) (a1 : Int32) (a2 : Int32) : Option Wd := (Mo_rideLate_L2 Mo_rideLate_B21 FU w a1 a2 (0 : Int32))
set_option maxRecDepth 100000 in
set_option maxHeartbeats 4000000 in
theorem ct_Mo_rideLate {l : Launch} {g : GG} {σ : Sd} (hg : OKg g σ) (hb : σ.2.1 = false) (hx : ∀ c ∈ ([37, 42, 48, 49] : List Nat), c ∈ σ.1) (w : Wd) (a1 : Int32) (a2 : Int32) {q : Wd} (hq : Mo_rideLate w a1 a2 = some q) : CT l g σ yX8_rideLate cX8_rideLate 6 none 1 23 [.ref (gA g 37), .int a1, .int a2] w none q := by
  refine ct_of (rt := rtV) (res := Mo_rideLate w a1 a2) (q := q) (own := RX8) (b := false) hg hb hx (by decide) rfl (Nat.le_of_ble_eq_true rfl) hq (fun K e1 e2 e3 F => ?_)
  subst e1 e2 e3
  rw [Mo_rideLate]
  show N K _ _ w 0 [(0, .ref (gA (cg K) 37)), (1, .int a1), (2, .int a2)] []
  refine n_iconst F (0 : Int32) dX8_rideLate_0 (by decide) ?_
  refine n_istore_n F (lv' := [(3, .int (0 : Int32)), (0, .ref (gA (cg K) 37)), (1, .int a1), (2, .int a2)]) dX8_rideLate_1 rfl (by decide) rfl ?_
  exact n_sub [1, 2, 3, 0] rfl (Mo_rideLate_L2_ok F (Mo_rideLate_B21_ok F) FU _ _ _ _)
theorem dX8_divisor_0 : decode cX8_divisor 0 = .ok (.lload_n 0, 1) := by decide +kernel
theorem dX8_divisor_1 : decode cX8_divisor 1 = .ok (.lstore 4, 2) := by decide +kernel
theorem dX8_divisor_3 : decode cX8_divisor 3 = .ok (.lload_n 2, 1) := by decide +kernel
theorem dX8_divisor_4 : decode cX8_divisor 4 = .ok (.lstore 6, 2) := by decide +kernel
theorem dX8_divisor_6 : decode cX8_divisor 6 = .ok (.lload 6, 2) := by decide +kernel
theorem dX8_divisor_8 : decode cX8_divisor 8 = .ok (.lconst 0, 1) := by decide +kernel
theorem dX8_divisor_9 : decode cX8_divisor 9 = .ok (.lcmp, 1) := by decide +kernel
theorem dX8_divisor_10 : decode cX8_divisor 10 = .ok (.ifCond .eq 21, 3) := by decide +kernel
theorem dX8_divisor_13 : decode cX8_divisor 13 = .ok (.lload 4, 2) := by decide +kernel
theorem dX8_divisor_15 : decode cX8_divisor 15 = .ok (.lload 6, 2) := by decide +kernel
theorem dX8_divisor_17 : decode cX8_divisor 17 = .ok (.lrem, 1) := by decide +kernel
theorem dX8_divisor_18 : decode cX8_divisor 18 = .ok (.lstore 8, 2) := by decide +kernel
theorem dX8_divisor_20 : decode cX8_divisor 20 = .ok (.lload 6, 2) := by decide +kernel
theorem dX8_divisor_22 : decode cX8_divisor 22 = .ok (.lstore 4, 2) := by decide +kernel
theorem dX8_divisor_24 : decode cX8_divisor 24 = .ok (.lload 8, 2) := by decide +kernel
theorem dX8_divisor_26 : decode cX8_divisor 26 = .ok (.lstore 6, 2) := by decide +kernel
theorem dX8_divisor_28 : decode cX8_divisor 28 = .ok (.goto (-22), 3) := by decide +kernel
theorem dX8_divisor_31 : decode cX8_divisor 31 = .ok (.lload 4, 2) := by decide +kernel
theorem dX8_divisor_33 : decode cX8_divisor 33 = .ok (.lreturn, 1) := by decide +kernel
def Mo_divisor_L6 (w : Wd) (k31 : Int64 → Option Int64) : Nat → Int64 → Int64 → Option Int64
  | 0, _, _ => none
  | n + 1, v4, v6 => (if (lg_cmp v6 (0 : Int64)) = (0 : Int32) then (k31 v4) else (if ¬ v6 = (0 : Int64) then (Mo_divisor_L6 w k31 n v6 (v4 - v4 / v6 * v6)) else none))
set_option maxRecDepth 100000 in
set_option maxHeartbeats 4000000 in
theorem Mo_divisor_L6_ok {K : Ctx} (F : Fx K cX8_divisor 10 RX8 (some .long) 0 0 false []) (w : Wd) {k31 : Int64 → Option Int64} (h31 : ∀ (v4 : Int64), N K (rtQ w) (k31 v4) w 31 [(4, .long v4)] []) : ∀ (n : Nat) (v4 : Int64) (v6 : Int64), N K (rtQ w) (Mo_divisor_L6 w k31 n v4 v6) w 6 [(4, .long v4), (6, .long v6)] [] := by
  intro n
  induction n with
  | zero => intro _ _; exact n_none
  | succ n ih =>
    intro v4 v6
    rw [Mo_divisor_L6]
    refine n_lload F dX8_divisor_6 1 rfl ?_
    refine n_lconst F (0 : Int64) dX8_divisor_8 (by decide) ?_
    refine n_lcmp F dX8_divisor_9 ?_
    refine n_if_eq F 31 dX8_divisor_10 (by decide) (fun e1 => ?_) (fun e1 => ?_)
    · rw [if_pos e1]
      exact n_sub [0] rfl (h31 _)
    rw [if_neg e1]
    refine n_lload F dX8_divisor_13 0 rfl ?_
    refine n_lload F dX8_divisor_15 1 rfl ?_
    refine n_chk (fun e2 => ?_)
    refine n_lrem F dX8_divisor_17 e2 ?_
    refine n_lstore F (lv' := [(8, .long (v4 - v4 / v6 * v6)), (4, .long v4), (6, .long v6)]) dX8_divisor_18 (by decide) rfl ?_
    refine n_lload F dX8_divisor_20 2 rfl ?_
    refine n_lstore F (lv' := [(4, .long v6), (8, .long (v4 - v4 / v6 * v6)), (6, .long v6)]) dX8_divisor_22 (by decide) rfl ?_
    refine n_lload F dX8_divisor_24 1 rfl ?_
    refine n_lstore F (lv' := [(6, .long (v4 - v4 / v6 * v6)), (4, .long v6), (8, .long (v4 - v4 / v6 * v6))]) dX8_divisor_26 (by decide) rfl ?_
    refine n_goto F 6 dX8_divisor_28 (by decide) ?_
    exact n_sub [1, 0] rfl (ih _ _)
def Mo_divisor_B31 (w : Wd) (v4 : Int64) : Option Int64 := some v4
set_option maxRecDepth 100000 in
set_option maxHeartbeats 4000000 in
theorem Mo_divisor_B31_ok {K : Ctx} (F : Fx K cX8_divisor 10 RX8 (some .long) 0 0 false []) (w : Wd) (v4 : Int64) : N K (rtQ w) (Mo_divisor_B31 w v4) w 31 [(4, .long v4)] [] := by
  rw [Mo_divisor_B31]
  refine n_lload F dX8_divisor_31 0 rfl ?_
  exact n_lret F rfl rfl dX8_divisor_33
def Mo_divisor (w : Wd) (a1 : Int64) (a2 : Int64) : Option Int64 := (Mo_divisor_L6 w (Mo_divisor_B31 w) FU a1 a2)
set_option maxRecDepth 100000 in
set_option maxHeartbeats 4000000 in
theorem ct_Mo_divisor {l : Launch} {g : GG} {σ : Sd} (hg : OKg g σ) (hb : σ.2.1 = false) (hx : ∀ c ∈ ([] : List Nat), c ∈ σ.1) (w : Wd) (a1 : Int64) (a2 : Int64) {q : Int64} (hq : Mo_divisor w a1 a2 = some q) : CT l g σ yX8_divisor cX8_divisor 10 (some .long) 0 0 [.long a1, .long a2] w (some (.long q)) w := by
  refine ct_of (rt := (rtQ w)) (res := Mo_divisor w a1 a2) (q := q) (own := RX8) (b := false) hg hb hx (by decide) rfl (Nat.le_of_ble_eq_true rfl) hq (fun K e1 e2 e3 F => ?_)
  subst e1 e2 e3
  rw [Mo_divisor]
  show N K _ _ w 0 [(0, .long a1), (2, .long a2)] []
  refine n_lload_n F dX8_divisor_0 rfl 0 rfl ?_
  refine n_lstore F (lv' := [(4, .long a1), (0, .long a1), (2, .long a2)]) dX8_divisor_1 (by decide) rfl ?_
  refine n_lload_n F dX8_divisor_3 rfl 2 rfl ?_
  refine n_lstore F (lv' := [(6, .long a2), (4, .long a1), (0, .long a1), (2, .long a2)]) dX8_divisor_4 (by decide) rfl ?_
  exact n_sub [1, 0] rfl (Mo_divisor_L6_ok F w (Mo_divisor_B31_ok F w) FU _ _)
theorem dX8_late_0 : decode cX8_late 0 = .ok (.iload_n 1, 1) := by decide +kernel
theorem dX8_late_1 : decode cX8_late 1 = .ok (.i2l, 1) := by decide +kernel
theorem dX8_late_2 : decode cX8_late 2 = .ok (.lconst 0, 1) := by decide +kernel
theorem dX8_late_3 : decode cX8_late 3 = .ok (.ldc2_w 217, 3) := by decide +kernel
theorem dX8_late_6 : decode cX8_late 6 = .ok (.invokestatic 63, 3) := by decide +kernel
theorem dX8_late_9 : decode cX8_late 9 = .ok (.ifCond .eq 25, 3) := by decide +kernel
theorem dX8_late_12 : decode cX8_late 12 = .ok (.iload_n 2, 1) := by decide +kernel
theorem dX8_late_13 : decode cX8_late 13 = .ok (.i2l, 1) := by decide +kernel
theorem dX8_late_14 : decode cX8_late 14 = .ok (.lconst 0, 1) := by decide +kernel
theorem dX8_late_15 : decode cX8_late 15 = .ok (.ldc2_w 219, 3) := by decide +kernel
theorem dX8_late_18 : decode cX8_late 18 = .ok (.invokestatic 63, 3) := by decide +kernel
theorem dX8_late_21 : decode cX8_late 21 = .ok (.ifCond .eq 13, 3) := by decide +kernel
theorem dX8_late_24 : decode cX8_late 24 = .ok (.iload_n 3, 1) := by decide +kernel
theorem dX8_late_25 : decode cX8_late 25 = .ok (.i2l, 1) := by decide +kernel
theorem dX8_late_26 : decode cX8_late 26 = .ok (.lconst 0, 1) := by decide +kernel
theorem dX8_late_27 : decode cX8_late 27 = .ok (.lconst 1, 1) := by decide +kernel
theorem dX8_late_28 : decode cX8_late 28 = .ok (.invokestatic 63, 3) := by decide +kernel
theorem dX8_late_31 : decode cX8_late 31 = .ok (.ifCond .ne 7, 3) := by decide +kernel
theorem dX8_late_34 : decode cX8_late 34 = .ok (.ldc2_w 221, 3) := by decide +kernel
theorem dX8_late_37 : decode cX8_late 37 = .ok (.lreturn, 1) := by decide +kernel
theorem dX8_late_38 : decode cX8_late 38 = .ok (.iconst 0, 1) := by decide +kernel
theorem dX8_late_39 : decode cX8_late 39 = .ok (.istore 4, 2) := by decide +kernel
theorem dX8_late_41 : decode cX8_late 41 = .ok (.iload 4, 2) := by decide +kernel
theorem dX8_late_43 : decode cX8_late 43 = .ok (.bipush 41, 2) := by decide +kernel
theorem dX8_late_45 : decode cX8_late 45 = .ok (.if_icmp .ge 26, 3) := by decide +kernel
theorem dX8_late_48 : decode cX8_late 48 = .ok (.aload_n 0, 1) := by decide +kernel
theorem dX8_late_49 : decode cX8_late 49 = .ok (.getfield 48, 3) := by decide +kernel
theorem dX8_late_52 : decode cX8_late 52 = .ok (.iload 4, 2) := by decide +kernel
theorem dX8_late_54 : decode cX8_late 54 = .ok (.iload 4, 2) := by decide +kernel
theorem dX8_late_56 : decode cX8_late 56 = .ok (.ifCond .ne 7, 3) := by decide +kernel
theorem dX8_late_59 : decode cX8_late 59 = .ok (.lconst 1, 1) := by decide +kernel
theorem dX8_late_60 : decode cX8_late 60 = .ok (.goto 4, 3) := by decide +kernel
theorem dX8_late_63 : decode cX8_late 63 = .ok (.lconst 0, 1) := by decide +kernel
theorem dX8_late_64 : decode cX8_late 64 = .ok (.lastore, 1) := by decide +kernel
theorem dX8_late_65 : decode cX8_late 65 = .ok (.iinc 4 1, 3) := by decide +kernel
theorem dX8_late_68 : decode cX8_late 68 = .ok (.goto (-27), 3) := by decide +kernel
theorem dX8_late_71 : decode cX8_late 71 = .ok (.aload_n 0, 1) := by decide +kernel
theorem dX8_late_72 : decode cX8_late 72 = .ok (.getfield 58, 3) := by decide +kernel
theorem dX8_late_75 : decode cX8_late 75 = .ok (.istore 4, 2) := by decide +kernel
theorem dX8_late_77 : decode cX8_late 77 = .ok (.lconst 1, 1) := by decide +kernel
theorem dX8_late_78 : decode cX8_late 78 = .ok (.lstore 5, 2) := by decide +kernel
theorem dX8_late_80 : decode cX8_late 80 = .ok (.iconst 1, 1) := by decide +kernel
theorem dX8_late_81 : decode cX8_late 81 = .ok (.istore 7, 2) := by decide +kernel
theorem dX8_late_83 : decode cX8_late 83 = .ok (.iconst 0, 1) := by decide +kernel
theorem dX8_late_84 : decode cX8_late 84 = .ok (.istore 8, 2) := by decide +kernel
theorem dX8_late_86 : decode cX8_late 86 = .ok (.iload 8, 2) := by decide +kernel
theorem dX8_late_88 : decode cX8_late 88 = .ok (.aload_n 0, 1) := by decide +kernel
theorem dX8_late_89 : decode cX8_late 89 = .ok (.getfield 144, 3) := by decide +kernel
theorem dX8_late_92 : decode cX8_late 92 = .ok (.if_icmp .ge 82, 3) := by decide +kernel
theorem dX8_late_95 : decode cX8_late 95 = .ok (.iload 7, 2) := by decide +kernel
theorem dX8_late_97 : decode cX8_late 97 = .ok (.ifCond .eq 29, 3) := by decide +kernel
theorem dX8_late_100 : decode cX8_late 100 = .ok (.aload_n 0, 1) := by decide +kernel
theorem dX8_late_101 : decode cX8_late 101 = .ok (.getfield 27, 3) := by decide +kernel
theorem dX8_late_104 : decode cX8_late 104 = .ok (.bipush 6, 2) := by decide +kernel
theorem dX8_late_106 : decode cX8_late 106 = .ok (.aload_n 0, 1) := by decide +kernel
theorem dX8_late_107 : decode cX8_late 107 = .ok (.getfield 42, 3) := by decide +kernel
theorem dX8_late_110 : decode cX8_late 110 = .ok (.iload 8, 2) := by decide +kernel
theorem dX8_late_112 : decode cX8_late 112 = .ok (.iaload, 1) := by decide +kernel
theorem dX8_late_113 : decode cX8_late 113 = .ok (.imul, 1) := by decide +kernel
theorem dX8_late_114 : decode cX8_late 114 = .ok (.iconst 0, 1) := by decide +kernel
theorem dX8_late_115 : decode cX8_late 115 = .ok (.iadd, 1) := by decide +kernel
theorem dX8_late_116 : decode cX8_late 116 = .ok (.iaload, 1) := by decide +kernel
theorem dX8_late_117 : decode cX8_late 117 = .ok (.iload 4, 2) := by decide +kernel
theorem dX8_late_119 : decode cX8_late 119 = .ok (.if_icmp .ne 7, 3) := by decide +kernel
theorem dX8_late_122 : decode cX8_late 122 = .ok (.iconst 1, 1) := by decide +kernel
theorem dX8_late_123 : decode cX8_late 123 = .ok (.goto 4, 3) := by decide +kernel
theorem dX8_late_126 : decode cX8_late 126 = .ok (.iconst 0, 1) := by decide +kernel
theorem dX8_late_127 : decode cX8_late 127 = .ok (.istore 7, 2) := by decide +kernel
theorem dX8_late_129 : decode cX8_late 129 = .ok (.aload_n 0, 1) := by decide +kernel
theorem dX8_late_130 : decode cX8_late 130 = .ok (.getfield 27, 3) := by decide +kernel
theorem dX8_late_133 : decode cX8_late 133 = .ok (.bipush 6, 2) := by decide +kernel
theorem dX8_late_135 : decode cX8_late 135 = .ok (.aload_n 0, 1) := by decide +kernel
theorem dX8_late_136 : decode cX8_late 136 = .ok (.getfield 42, 3) := by decide +kernel
theorem dX8_late_139 : decode cX8_late 139 = .ok (.iload 8, 2) := by decide +kernel
theorem dX8_late_141 : decode cX8_late 141 = .ok (.iaload, 1) := by decide +kernel
theorem dX8_late_142 : decode cX8_late 142 = .ok (.imul, 1) := by decide +kernel
theorem dX8_late_143 : decode cX8_late 143 = .ok (.iconst 1, 1) := by decide +kernel
theorem dX8_late_144 : decode cX8_late 144 = .ok (.iadd, 1) := by decide +kernel
theorem dX8_late_145 : decode cX8_late 145 = .ok (.iaload, 1) := by decide +kernel
theorem dX8_late_146 : decode cX8_late 146 = .ok (.istore 4, 2) := by decide +kernel
theorem dX8_late_148 : decode cX8_late 148 = .ok (.aload_n 0, 1) := by decide +kernel
theorem dX8_late_149 : decode cX8_late 149 = .ok (.aload_n 0, 1) := by decide +kernel
theorem dX8_late_150 : decode cX8_late 150 = .ok (.getfield 42, 3) := by decide +kernel
theorem dX8_late_153 : decode cX8_late 153 = .ok (.iload 8, 2) := by decide +kernel
theorem dX8_late_155 : decode cX8_late 155 = .ok (.iaload, 1) := by decide +kernel
theorem dX8_late_156 : decode cX8_late 156 = .ok (.iload_n 1, 1) := by decide +kernel
theorem dX8_late_157 : decode cX8_late 157 = .ok (.invokevirtual 223, 3) := by decide +kernel
theorem dX8_late_160 : decode cX8_late 160 = .ok (.lload 5, 2) := by decide +kernel
theorem dX8_late_162 : decode cX8_late 162 = .ok (.ldc2_w 217, 3) := by decide +kernel
theorem dX8_late_165 : decode cX8_late 165 = .ok (.lmul, 1) := by decide +kernel
theorem dX8_late_166 : decode cX8_late 166 = .ok (.lstore 5, 2) := by decide +kernel
theorem dX8_late_168 : decode cX8_late 168 = .ok (.iinc 8 1, 3) := by decide +kernel
theorem dX8_late_171 : decode cX8_late 171 = .ok (.goto (-85), 3) := by decide +kernel
theorem dX8_late_174 : decode cX8_late 174 = .ok (.lconst 0, 1) := by decide +kernel
theorem dX8_late_175 : decode cX8_late 175 = .ok (.lstore 8, 2) := by decide +kernel
theorem dX8_late_177 : decode cX8_late 177 = .ok (.iconst 0, 1) := by decide +kernel
theorem dX8_late_178 : decode cX8_late 178 = .ok (.istore 10, 2) := by decide +kernel
theorem dX8_late_180 : decode cX8_late 180 = .ok (.iload 10, 2) := by decide +kernel
theorem dX8_late_182 : decode cX8_late 182 = .ok (.iload_n 2, 1) := by decide +kernel
theorem dX8_late_183 : decode cX8_late 183 = .ok (.if_icmp .gt 26, 3) := by decide +kernel
theorem dX8_late_186 : decode cX8_late 186 = .ok (.iload 7, 2) := by decide +kernel
theorem dX8_late_188 : decode cX8_late 188 = .ok (.ifCond .eq 21, 3) := by decide +kernel
theorem dX8_late_191 : decode cX8_late 191 = .ok (.lload 8, 2) := by decide +kernel
theorem dX8_late_193 : decode cX8_late 193 = .ok (.aload_n 0, 1) := by decide +kernel
theorem dX8_late_194 : decode cX8_late 194 = .ok (.getfield 48, 3) := by decide +kernel
theorem dX8_late_197 : decode cX8_late 197 = .ok (.iload 10, 2) := by decide +kernel
theorem dX8_late_199 : decode cX8_late 199 = .ok (.laload, 1) := by decide +kernel
theorem dX8_late_200 : decode cX8_late 200 = .ok (.ladd, 1) := by decide +kernel
theorem dX8_late_201 : decode cX8_late 201 = .ok (.lstore 8, 2) := by decide +kernel
theorem dX8_late_203 : decode cX8_late 203 = .ok (.iinc 10 1, 3) := by decide +kernel
theorem dX8_late_206 : decode cX8_late 206 = .ok (.goto (-26), 3) := by decide +kernel
theorem dX8_late_209 : decode cX8_late 209 = .ok (.lload 8, 2) := by decide +kernel
theorem dX8_late_211 : decode cX8_late 211 = .ok (.lload 5, 2) := by decide +kernel
theorem dX8_late_213 : decode cX8_late 213 = .ok (.invokestatic 227, 3) := by decide +kernel
theorem dX8_late_216 : decode cX8_late 216 = .ok (.lstore 10, 2) := by decide +kernel
theorem dX8_late_218 : decode cX8_late 218 = .ok (.iload_n 3, 1) := by decide +kernel
theorem dX8_late_219 : decode cX8_late 219 = .ok (.ifCond .ne 11, 3) := by decide +kernel
theorem dX8_late_222 : decode cX8_late 222 = .ok (.lload 8, 2) := by decide +kernel
theorem dX8_late_224 : decode cX8_late 224 = .ok (.lload 10, 2) := by decide +kernel
theorem dX8_late_226 : decode cX8_late 226 = .ok (.ldiv, 1) := by decide +kernel
theorem dX8_late_227 : decode cX8_late 227 = .ok (.goto 8, 3) := by decide +kernel
theorem dX8_late_230 : decode cX8_late 230 = .ok (.lload 5, 2) := by decide +kernel
theorem dX8_late_232 : decode cX8_late 232 = .ok (.lload 10, 2) := by decide +kernel
theorem dX8_late_234 : decode cX8_late 234 = .ok (.ldiv, 1) := by decide +kernel
theorem dX8_late_235 : decode cX8_late 235 = .ok (.lreturn, 1) := by decide +kernel
def Mo_late_L41 (k71 : Wd → Int32 → Int32 → Int32 → Option (Int64 × Wd)) : Nat → Wd → Int32 → Int32 → Int32 → Int32 → Option (Int64 × Wd)
  | 0, _, _, _, _, _ => none
  | n + 1, w, v1, v2, v3, v4 => (if (41 : Int32) ≤ v4 then (k71 w v1 v2 v3) else (if v4 = (0 : Int32) then (if ib v4 41 = true then (Mo_late_L41 k71 n (sJ w 48 (Int32.toNatClampNeg v4) (1 : Int64)) v1 v2 v3 (v4 + (1 : Int32))) else none) else (if ib v4 41 = true then (Mo_late_L41 k71 n (sJ w 48 (Int32.toNatClampNeg v4) (0 : Int64)) v1 v2 v3 (v4 + (1 : Int32))) else none)))
set_option maxRecDepth 100000 in
set_option maxHeartbeats 4000000 in
theorem Mo_late_L41_ok {K : Ctx} (F : Fx K cX8_late 12 RX8 (some .long) 2 48 false [37, 42, 46, 48, 49]) {k71 : Wd → Int32 → Int32 → Int32 → Option (Int64 × Wd)} (h71 : ∀ (w : Wd) (v1 : Int32) (v2 : Int32) (v3 : Int32), N K rtJ (k71 w v1 v2 v3) w 71 [(0, .ref (gA (cg K) 37)), (1, .int v1), (2, .int v2), (3, .int v3)] []) : ∀ (n : Nat) (w : Wd) (v1 : Int32) (v2 : Int32) (v3 : Int32) (v4 : Int32), N K rtJ (Mo_late_L41 k71 n w v1 v2 v3 v4) w 41 [(0, .ref (gA (cg K) 37)), (1, .int v1), (2, .int v2), (3, .int v3), (4, .int v4)] [] := by
  intro n
  induction n with
  | zero => intro _ _ _ _ _; exact n_none
  | succ n ih =>
    intro w v1 v2 v3 v4
    rw [Mo_late_L41]
    refine n_iload F dX8_late_41 4 rfl ?_
    refine n_bipush F (41 : Int32) dX8_late_43 (by decide) ?_
    refine n_icmp_ge F 71 dX8_late_45 (by decide) (fun e4 => ?_) (fun e4 => ?_)
    · rw [if_pos e4]
      exact n_sub [0, 1, 2, 3] rfl (h71 _ _ _ _)
    rw [if_neg e4]
    refine n_aload_n F dX8_late_48 rfl 0 rfl ?_
    refine n_get F ck_8 lf_RX8_48 (by decide) fg_37_24 (by decide) dX8_late_49 ?_
    refine n_iload F dX8_late_52 4 rfl ?_
    refine n_iload F dX8_late_54 4 rfl ?_
    refine n_if_ne F 63 dX8_late_56 (by decide) (fun e5 => ?_) (fun e5 => ?_)
    · rw [if_neg e5]
      refine n_lconst F (0 : Int64) dX8_late_63 (by decide) ?_
      refine n_chk (fun e6 => ?_)
      refine n_last F ar_48 (by decide) (ib_in e6) rfl dX8_late_64 ?_
      refine n_iinc F (v4 + (1 : Int32)) (lv' := [(4, .int (v4 + (1 : Int32))), (0, .ref (gA (cg K) 37)), (1, .int v1), (2, .int v2), (3, .int v3)]) dX8_late_65 4 rfl rfl (by decide) rfl ?_
      refine n_goto F 41 dX8_late_68 (by decide) ?_
      exact n_sub [1, 2, 3, 4, 0] rfl (ih _ _ _ _ _)
    rw [if_pos e5]
    refine n_lconst F (1 : Int64) dX8_late_59 (by decide) ?_
    refine n_goto F 64 dX8_late_60 (by decide) ?_
    refine n_chk (fun e7 => ?_)
    refine n_last F ar_48 (by decide) (ib_in e7) rfl dX8_late_64 ?_
    refine n_iinc F (v4 + (1 : Int32)) (lv' := [(4, .int (v4 + (1 : Int32))), (0, .ref (gA (cg K) 37)), (1, .int v1), (2, .int v2), (3, .int v3)]) dX8_late_65 4 rfl rfl (by decide) rfl ?_
    refine n_goto F 41 dX8_late_68 (by decide) ?_
    exact n_sub [1, 2, 3, 4, 0] rfl (ih _ _ _ _ _)
def Mo_late_B127 (k86 : Wd → Int32 → Int32 → Int32 → Int32 → Int64 → Int32 → Int32 → Option (Int64 × Wd)) (w : Wd) (v1 : Int32) (v2 : Int32) (v3 : Int32) (v5 : Int64) (v8 : Int32) (s0 : Int32) : Option (Int64 × Wd) := (if ib v8 12 = true then (if ib (((6 : Int32) * (w.1 46 (Int32.toNatClampNeg v8))) + (1 : Int32)) 72 = true then (if ib v8 12 = true then (Option.bind (Mo_rideLate w (w.1 46 (Int32.toNatClampNeg v8)) v1) (fun q13 => (k86 q13 v1 v2 v3 (w.1 42 (Int32.toNatClampNeg (((6 : Int32) * (w.1 46 (Int32.toNatClampNeg v8))) + (1 : Int32)))) (v5 * (10 : Int64)) s0 (v8 + (1 : Int32))))) else none) else none) else none)
set_option maxRecDepth 100000 in
set_option maxHeartbeats 4000000 in
theorem Mo_late_B127_ok {K : Ctx} (F : Fx K cX8_late 12 RX8 (some .long) 2 48 false [37, 42, 46, 48, 49]) {k86 : Wd → Int32 → Int32 → Int32 → Int32 → Int64 → Int32 → Int32 → Option (Int64 × Wd)} (h86 : ∀ (w : Wd) (v1 : Int32) (v2 : Int32) (v3 : Int32) (v4 : Int32) (v5 : Int64) (v7 : Int32) (v8 : Int32), N K rtJ (k86 w v1 v2 v3 v4 v5 v7 v8) w 86 [(0, .ref (gA (cg K) 37)), (1, .int v1), (2, .int v2), (3, .int v3), (4, .int v4), (5, .long v5), (7, .int v7), (8, .int v8)] []) (w : Wd) (v1 : Int32) (v2 : Int32) (v3 : Int32) (v5 : Int64) (v8 : Int32) (s0 : Int32) : N K rtJ (Mo_late_B127 k86 w v1 v2 v3 v5 v8 s0) w 127 [(0, .ref (gA (cg K) 37)), (1, .int v1), (2, .int v2), (3, .int v3), (5, .long v5), (8, .int v8)] [.int s0] := by
  rw [Mo_late_B127]
  refine n_istore F (lv' := [(7, .int s0), (0, .ref (gA (cg K) 37)), (1, .int v1), (2, .int v2), (3, .int v3), (5, .long v5), (8, .int v8)]) dX8_late_127 (by decide) rfl ?_
  refine n_aload_n F dX8_late_129 rfl 1 rfl ?_
  refine n_get F ck_8 lf_RX8_27 (by decide) fg_37_7 (by decide) dX8_late_130 ?_
  refine n_bipush F (6 : Int32) dX8_late_133 (by decide) ?_
  refine n_aload_n F dX8_late_135 rfl 1 rfl ?_
  refine n_get F ck_8 lf_RX8_42 (by decide) fg_37_21 (by decide) dX8_late_136 ?_
  refine n_iload F dX8_late_139 6 rfl ?_
  refine n_chk (fun e10 => ?_)
  refine n_iald F ar_46 (by decide) (ib_in e10) rfl dX8_late_141 ?_
  refine n_imul F dX8_late_142 ?_
  refine n_iconst F (1 : Int32) dX8_late_143 (by decide) ?_
  refine n_iadd F dX8_late_144 ?_
  refine n_chk (fun e11 => ?_)
  refine n_iald F ar_42 (by decide) (ib_in e11) rfl dX8_late_145 ?_
  refine n_istore F (lv' := [(4, .int (w.1 42 (Int32.toNatClampNeg (((6 : Int32) * (w.1 46 (Int32.toNatClampNeg v8))) + (1 : Int32))))), (7, .int s0), (0, .ref (gA (cg K) 37)), (1, .int v1), (2, .int v2), (3, .int v3), (5, .long v5), (8, .int v8)]) dX8_late_146 (by decide) rfl ?_
  refine n_aload_n F dX8_late_148 rfl 2 rfl ?_
  refine n_aload_n F dX8_late_149 rfl 2 rfl ?_
  refine n_get F ck_8 lf_RX8_42 (by decide) fg_37_21 (by decide) dX8_late_150 ?_
  refine n_iload F dX8_late_153 7 rfl ?_
  refine n_chk (fun e12 => ?_)
  refine n_iald F ar_46 (by decide) (ib_in e12) rfl dX8_late_155 ?_
  refine n_iload_n F dX8_late_156 rfl 3 rfl ?_
  refine n_bind (fun q13 hq13 => ?_)
  refine n_callVv F cb_X8_rideLate lm_RX8_223 ob_37 (by decide) ⟨_, _, rfl⟩ (ct_Mo_rideLate (fx_ok F) (fx_sd F) (fx_ix F rfl) w (w.1 46 (Int32.toNatClampNeg v8)) v1 hq13) rfl rfl (Nat.le_of_ble_eq_true rfl) ⟨Nat.le_of_ble_eq_true rfl, Nat.le_of_ble_eq_true rfl⟩ dX8_late_157 ?_
  refine n_lload F dX8_late_160 6 rfl ?_
  refine n_ldc2 F (10 : Int64) dX8_late_162 kc_RX8_217 ?_
  refine n_lmul F dX8_late_165 ?_
  refine n_lstore F (lv' := [(5, .long (v5 * (10 : Int64))), (4, .int (w.1 42 (Int32.toNatClampNeg (((6 : Int32) * (w.1 46 (Int32.toNatClampNeg v8))) + (1 : Int32))))), (7, .int s0), (0, .ref (gA (cg K) 37)), (1, .int v1), (2, .int v2), (3, .int v3), (8, .int v8)]) dX8_late_166 (by decide) rfl ?_
  refine n_iinc F (v8 + (1 : Int32)) (lv' := [(8, .int (v8 + (1 : Int32))), (5, .long (v5 * (10 : Int64))), (4, .int (w.1 42 (Int32.toNatClampNeg (((6 : Int32) * (w.1 46 (Int32.toNatClampNeg v8))) + (1 : Int32))))), (7, .int s0), (0, .ref (gA (cg K) 37)), (1, .int v1), (2, .int v2), (3, .int v3)]) dX8_late_168 7 rfl rfl (by decide) rfl ?_
  refine n_goto F 86 dX8_late_171 (by decide) ?_
  exact n_sub [4, 5, 6, 7, 2, 1, 3, 0] rfl (h86 _ _ _ _ _ _ _ _)
def Mo_late_L86 (k174 : Wd → Int32 → Int32 → Int64 → Int32 → Option (Int64 × Wd)) : Nat → Wd → Int32 → Int32 → Int32 → Int32 → Int64 → Int32 → Int32 → Option (Int64 × Wd)
  | 0, _, _, _, _, _, _, _, _ => none
  | n + 1, w, v1, v2, v3, v4, v5, v7, v8 => (if (w.1 37 22) ≤ v8 then (k174 w v2 v3 v5 v7) else (if v7 = (0 : Int32) then (Mo_late_B127 (Mo_late_L86 k174 n) w v1 v2 v3 v5 v8 (0 : Int32)) else (if ib v8 12 = true then (if ib (((6 : Int32) * (w.1 46 (Int32.toNatClampNeg v8))) + (0 : Int32)) 72 = true then (Mo_late_B127 (Mo_late_L86 k174 n) w v1 v2 v3 v5 v8 (if (w.1 42 (Int32.toNatClampNeg (((6 : Int32) * (w.1 46 (Int32.toNatClampNeg v8))) + (0 : Int32)))) = v4 then (1 : Int32) else (0 : Int32))) else none) else none)))
set_option maxRecDepth 100000 in
set_option maxHeartbeats 4000000 in
theorem Mo_late_L86_ok {K : Ctx} (F : Fx K cX8_late 12 RX8 (some .long) 2 48 false [37, 42, 46, 48, 49]) {k174 : Wd → Int32 → Int32 → Int64 → Int32 → Option (Int64 × Wd)} (h174 : ∀ (w : Wd) (v2 : Int32) (v3 : Int32) (v5 : Int64) (v7 : Int32), N K rtJ (k174 w v2 v3 v5 v7) w 174 [(0, .ref (gA (cg K) 37)), (2, .int v2), (3, .int v3), (5, .long v5), (7, .int v7)] []) : ∀ (n : Nat) (w : Wd) (v1 : Int32) (v2 : Int32) (v3 : Int32) (v4 : Int32) (v5 : Int64) (v7 : Int32) (v8 : Int32), N K rtJ (Mo_late_L86 k174 n w v1 v2 v3 v4 v5 v7 v8) w 86 [(0, .ref (gA (cg K) 37)), (1, .int v1), (2, .int v2), (3, .int v3), (4, .int v4), (5, .long v5), (7, .int v7), (8, .int v8)] [] := by
  intro n
  induction n with
  | zero => intro _ _ _ _ _ _ _ _; exact n_none
  | succ n ih =>
    intro w v1 v2 v3 v4 v5 v7 v8
    rw [Mo_late_L86]
    refine n_iload F dX8_late_86 7 rfl ?_
    refine n_aload_n F dX8_late_88 rfl 0 rfl ?_
    refine n_get F ck_8 lf_RX8_144 (by decide) fg_37_22 (by decide) dX8_late_89 ?_
    refine n_icmp_ge F 174 dX8_late_92 (by decide) (fun e8 => ?_) (fun e8 => ?_)
    · rw [if_pos e8]
      exact n_sub [0, 2, 3, 5, 6] rfl (h174 _ _ _ _ _)
    rw [if_neg e8]
    refine n_iload F dX8_late_95 6 rfl ?_
    refine n_if_eq F 126 dX8_late_97 (by decide) (fun e9 => ?_) (fun e9 => ?_)
    · rw [if_pos e9]
      refine n_iconst F (0 : Int32) dX8_late_126 (by decide) ?_
      exact n_sub [0, 1, 2, 3, 5, 7] rfl (Mo_late_B127_ok F ih _ _ _ _ _ _ _)
    rw [if_neg e9]
    refine n_aload_n F dX8_late_100 rfl 0 rfl ?_
    refine n_get F ck_8 lf_RX8_27 (by decide) fg_37_7 (by decide) dX8_late_101 ?_
    refine n_bipush F (6 : Int32) dX8_late_104 (by decide) ?_
    refine n_aload_n F dX8_late_106 rfl 0 rfl ?_
    refine n_get F ck_8 lf_RX8_42 (by decide) fg_37_21 (by decide) dX8_late_107 ?_
    refine n_iload F dX8_late_110 7 rfl ?_
    refine n_chk (fun e14 => ?_)
    refine n_iald F ar_46 (by decide) (ib_in e14) rfl dX8_late_112 ?_
    refine n_imul F dX8_late_113 ?_
    refine n_iconst F (0 : Int32) dX8_late_114 (by decide) ?_
    refine n_iadd F dX8_late_115 ?_
    refine n_chk (fun e15 => ?_)
    refine n_iald F ar_42 (by decide) (ib_in e15) rfl dX8_late_116 ?_
    refine n_iload F dX8_late_117 4 rfl ?_
    refine n_icmp_ne F 126 dX8_late_119 (by decide) (fun e16 => ?_) (fun e16 => ?_)
    · rw [if_neg e16]
      refine n_iconst F (0 : Int32) dX8_late_126 (by decide) ?_
      exact n_sub [0, 1, 2, 3, 5, 7] rfl (Mo_late_B127_ok F ih _ _ _ _ _ _ _)
    rw [if_pos e16]
    refine n_iconst F (1 : Int32) dX8_late_122 (by decide) ?_
    refine n_goto F 127 dX8_late_123 (by decide) ?_
    exact n_sub [0, 1, 2, 3, 5, 7] rfl (Mo_late_B127_ok F ih _ _ _ _ _ _ _)
def Mo_late_L180 (k209 : Wd → Int32 → Int64 → Int64 → Option (Int64 × Wd)) : Nat → Wd → Int32 → Int32 → Int64 → Int32 → Int64 → Int32 → Option (Int64 × Wd)
  | 0, _, _, _, _, _, _, _ => none
  | n + 1, w, v2, v3, v5, v7, v8, v10 => (if v2 < v10 then (k209 w v3 v5 v8) else (if v7 = (0 : Int32) then (k209 w v3 v5 v8) else (if ib v10 41 = true then (Mo_late_L180 k209 n w v2 v3 v5 v7 (v8 + (w.2 48 (Int32.toNatClampNeg v10))) (v10 + (1 : Int32))) else none)))
set_option maxRecDepth 100000 in
set_option maxHeartbeats 4000000 in
theorem Mo_late_L180_ok {K : Ctx} (F : Fx K cX8_late 12 RX8 (some .long) 2 48 false [37, 42, 46, 48, 49]) {k209 : Wd → Int32 → Int64 → Int64 → Option (Int64 × Wd)} (h209 : ∀ (w : Wd) (v3 : Int32) (v5 : Int64) (v8 : Int64), N K rtJ (k209 w v3 v5 v8) w 209 [(3, .int v3), (5, .long v5), (8, .long v8)] []) : ∀ (n : Nat) (w : Wd) (v2 : Int32) (v3 : Int32) (v5 : Int64) (v7 : Int32) (v8 : Int64) (v10 : Int32), N K rtJ (Mo_late_L180 k209 n w v2 v3 v5 v7 v8 v10) w 180 [(0, .ref (gA (cg K) 37)), (2, .int v2), (3, .int v3), (5, .long v5), (7, .int v7), (8, .long v8), (10, .int v10)] [] := by
  intro n
  induction n with
  | zero => intro _ _ _ _ _ _ _; exact n_none
  | succ n ih =>
    intro w v2 v3 v5 v7 v8 v10
    rw [Mo_late_L180]
    refine n_iload F dX8_late_180 6 rfl ?_
    refine n_iload_n F dX8_late_182 rfl 1 rfl ?_
    refine n_icmp_gt F 209 dX8_late_183 (by decide) (fun e17 => ?_) (fun e17 => ?_)
    · rw [if_pos e17]
      exact n_sub [2, 3, 5] rfl (h209 _ _ _ _)
    rw [if_neg e17]
    refine n_iload F dX8_late_186 4 rfl ?_
    refine n_if_eq F 209 dX8_late_188 (by decide) (fun e18 => ?_) (fun e18 => ?_)
    · rw [if_pos e18]
      exact n_sub [2, 3, 5] rfl (h209 _ _ _ _)
    rw [if_neg e18]
    refine n_lload F dX8_late_191 5 rfl ?_
    refine n_aload_n F dX8_late_193 rfl 0 rfl ?_
    refine n_get F ck_8 lf_RX8_48 (by decide) fg_37_24 (by decide) dX8_late_194 ?_
    refine n_iload F dX8_late_197 6 rfl ?_
    refine n_chk (fun e19 => ?_)
    refine n_lald F ar_48 (by decide) (ib_in e19) rfl dX8_late_199 ?_
    refine n_ladd F dX8_late_200 ?_
    refine n_lstore F (lv' := [(8, .long (v8 + (w.2 48 (Int32.toNatClampNeg v10)))), (0, .ref (gA (cg K) 37)), (2, .int v2), (3, .int v3), (5, .long v5), (7, .int v7), (10, .int v10)]) dX8_late_201 (by decide) rfl ?_
    refine n_iinc F (v10 + (1 : Int32)) (lv' := [(10, .int (v10 + (1 : Int32))), (8, .long (v8 + (w.2 48 (Int32.toNatClampNeg v10)))), (0, .ref (gA (cg K) 37)), (2, .int v2), (3, .int v3), (5, .long v5), (7, .int v7)]) dX8_late_203 6 rfl rfl (by decide) rfl ?_
    refine n_goto F 180 dX8_late_206 (by decide) ?_
    exact n_sub [2, 3, 4, 5, 6, 1, 0] rfl (ih _ _ _ _ _ _ _)
def Mo_late_B209 (w : Wd) (v3 : Int32) (v5 : Int64) (v8 : Int64) : Option (Int64 × Wd) := (Option.bind (Mo_divisor w v8 v5) (fun q20 => (if v3 = (0 : Int32) then (if ¬ q20 = (0 : Int64) then some ((v8 / q20), w) else none) else (if ¬ q20 = (0 : Int64) then some ((v5 / q20), w) else none))))
set_option maxRecDepth 100000 in
set_option maxHeartbeats 4000000 in
theorem Mo_late_B209_ok {K : Ctx} (F : Fx K cX8_late 12 RX8 (some .long) 2 48 false [37, 42, 46, 48, 49]) (w : Wd) (v3 : Int32) (v5 : Int64) (v8 : Int64) : N K rtJ (Mo_late_B209 w v3 v5 v8) w 209 [(3, .int v3), (5, .long v5), (8, .long v8)] [] := by
  rw [Mo_late_B209]
  refine n_lload F dX8_late_209 2 rfl ?_
  refine n_lload F dX8_late_211 1 rfl ?_
  refine n_bind (fun q20 hq20 => ?_)
  refine n_callSl F cb_X8_divisor lm_RX8_227 (ct_Mo_divisor (fx_ok F) (fx_sd F) (fx_ix F rfl) w v8 v5 hq20) rfl rfl (Nat.le_of_ble_eq_true rfl) ⟨Nat.le_of_ble_eq_true rfl, Nat.le_of_ble_eq_true rfl⟩ dX8_late_213 ?_
  refine n_lstore F (lv' := [(10, .long q20), (3, .int v3), (5, .long v5), (8, .long v8)]) dX8_late_216 (by decide) rfl ?_
  refine n_iload_n F dX8_late_218 rfl 1 rfl ?_
  refine n_if_ne F 230 dX8_late_219 (by decide) (fun e21 => ?_) (fun e21 => ?_)
  · rw [if_neg e21]
    refine n_lload F dX8_late_230 2 rfl ?_
    refine n_lload F dX8_late_232 0 rfl ?_
    refine n_chk (fun e22 => ?_)
    refine n_ldiv F dX8_late_234 e22 ?_
    exact n_lret F rfl rfl dX8_late_235
  rw [if_pos e21]
  refine n_lload F dX8_late_222 3 rfl ?_
  refine n_lload F dX8_late_224 0 rfl ?_
  refine n_chk (fun e23 => ?_)
  refine n_ldiv F dX8_late_226 e23 ?_
  refine n_goto F 235 dX8_late_227 (by decide) ?_
  exact n_lret F rfl rfl dX8_late_235
def Mo_late_B174 (w : Wd) (v2 : Int32) (v3 : Int32) (v5 : Int64) (v7 : Int32) : Option (Int64 × Wd) := (Mo_late_L180 Mo_late_B209 FU w v2 v3 v5 v7 (0 : Int64) (0 : Int32))
set_option maxRecDepth 100000 in
set_option maxHeartbeats 4000000 in
theorem Mo_late_B174_ok {K : Ctx} (F : Fx K cX8_late 12 RX8 (some .long) 2 48 false [37, 42, 46, 48, 49]) (w : Wd) (v2 : Int32) (v3 : Int32) (v5 : Int64) (v7 : Int32) : N K rtJ (Mo_late_B174 w v2 v3 v5 v7) w 174 [(0, .ref (gA (cg K) 37)), (2, .int v2), (3, .int v3), (5, .long v5), (7, .int v7)] [] := by
  rw [Mo_late_B174]
  refine n_lconst F (0 : Int64) dX8_late_174 (by decide) ?_
  refine n_lstore F (lv' := [(8, .long (0 : Int64)), (0, .ref (gA (cg K) 37)), (2, .int v2), (3, .int v3), (5, .long v5), (7, .int v7)]) dX8_late_175 (by decide) rfl ?_
  refine n_iconst F (0 : Int32) dX8_late_177 (by decide) ?_
  refine n_istore F (lv' := [(10, .int (0 : Int32)), (8, .long (0 : Int64)), (0, .ref (gA (cg K) 37)), (2, .int v2), (3, .int v3), (5, .long v5), (7, .int v7)]) dX8_late_178 (by decide) rfl ?_
  exact n_sub [2, 3, 4, 5, 6, 1, 0] rfl (Mo_late_L180_ok F (Mo_late_B209_ok F) FU _ _ _ _ _ _ _)
def Mo_late_B71 (w : Wd) (v1 : Int32) (v2 : Int32) (v3 : Int32) : Option (Int64 × Wd) := (Mo_late_L86 Mo_late_B174 FU w v1 v2 v3 (w.1 37 9) (1 : Int64) (1 : Int32) (0 : Int32))
set_option maxRecDepth 100000 in
set_option maxHeartbeats 4000000 in
theorem Mo_late_B71_ok {K : Ctx} (F : Fx K cX8_late 12 RX8 (some .long) 2 48 false [37, 42, 46, 48, 49]) (w : Wd) (v1 : Int32) (v2 : Int32) (v3 : Int32) : N K rtJ (Mo_late_B71 w v1 v2 v3) w 71 [(0, .ref (gA (cg K) 37)), (1, .int v1), (2, .int v2), (3, .int v3)] [] := by
  rw [Mo_late_B71]
  refine n_aload_n F dX8_late_71 rfl 0 rfl ?_
  refine n_get F ck_8 lf_RX8_58 (by decide) fg_37_9 (by decide) dX8_late_72 ?_
  refine n_istore F (lv' := [(4, .int (w.1 37 9)), (0, .ref (gA (cg K) 37)), (1, .int v1), (2, .int v2), (3, .int v3)]) dX8_late_75 (by decide) rfl ?_
  refine n_lconst F (1 : Int64) dX8_late_77 (by decide) ?_
  refine n_lstore F (lv' := [(5, .long (1 : Int64)), (4, .int (w.1 37 9)), (0, .ref (gA (cg K) 37)), (1, .int v1), (2, .int v2), (3, .int v3)]) dX8_late_78 (by decide) rfl ?_
  refine n_iconst F (1 : Int32) dX8_late_80 (by decide) ?_
  refine n_istore F (lv' := [(7, .int (1 : Int32)), (5, .long (1 : Int64)), (4, .int (w.1 37 9)), (0, .ref (gA (cg K) 37)), (1, .int v1), (2, .int v2), (3, .int v3)]) dX8_late_81 (by decide) rfl ?_
  refine n_iconst F (0 : Int32) dX8_late_83 (by decide) ?_
  refine n_istore F (lv' := [(8, .int (0 : Int32)), (7, .int (1 : Int32)), (5, .long (1 : Int64)), (4, .int (w.1 37 9)), (0, .ref (gA (cg K) 37)), (1, .int v1), (2, .int v2), (3, .int v3)]) dX8_late_84 (by decide) rfl ?_
  exact n_sub [4, 5, 6, 7, 3, 2, 1, 0] rfl (Mo_late_L86_ok F (Mo_late_B174_ok F) FU _ _ _ _ _ _ _ _)
def Mo_late (w : Wd) (a1 : Int32) (a2 : Int32) (a3 : Int32) : Option (Int64 × Wd) := (if (Mo_in w (Int32.toInt64 a1) (0 : Int64) (10 : Int64)) = (0 : Int32) then some ((-3 : Int64), w) else (if (Mo_in w (Int32.toInt64 a2) (0 : Int64) (40 : Int64)) = (0 : Int32) then some ((-3 : Int64), w) else (if (Mo_in w (Int32.toInt64 a3) (0 : Int64) (1 : Int64)) = (0 : Int32) then some ((-3 : Int64), w) else (Mo_late_L41 Mo_late_B71 FU w a1 a2 a3 (0 : Int32)))))
set_option maxRecDepth 100000 in
set_option maxHeartbeats 4000000 in
theorem ct_Mo_late {l : Launch} {g : GG} {σ : Sd} (hg : OKg g σ) (hb : σ.2.1 = false) (hx : ∀ c ∈ ([37, 42, 46, 48, 49] : List Nat), c ∈ σ.1) (w : Wd) (a1 : Int32) (a2 : Int32) (a3 : Int32) {q : Int64 × Wd} (hq : Mo_late w a1 a2 a3 = some q) : CT l g σ yX8_late cX8_late 12 (some .long) 2 48 [.ref (gA g 37), .int a1, .int a2, .int a3] w (some (.long q.1)) q.2 := by
  refine ct_of (rt := rtJ) (res := Mo_late w a1 a2 a3) (q := q) (own := RX8) (b := false) hg hb hx (by decide) rfl (Nat.le_of_ble_eq_true rfl) hq (fun K e1 e2 e3 F => ?_)
  subst e1 e2 e3
  rw [Mo_late]
  show N K _ _ w 0 [(0, .ref (gA (cg K) 37)), (1, .int a1), (2, .int a2), (3, .int a3)] []
  refine n_iload_n F dX8_late_0 rfl 1 rfl ?_
  refine n_i2l F dX8_late_1 ?_
  refine n_lconst F (0 : Int64) dX8_late_2 (by decide) ?_
  refine n_ldc2 F (10 : Int64) dX8_late_3 kc_RX8_217 ?_
  refine n_callSi F cb_X8_in lm_RX8_63 (ct_Mo_in (fx_ok F) (fx_sd F) (fx_ix F rfl) w (Int32.toInt64 a1) (0 : Int64) (10 : Int64)) rfl rfl (Nat.le_of_ble_eq_true rfl) ⟨Nat.le_of_ble_eq_true rfl, Nat.le_of_ble_eq_true rfl⟩ dX8_late_6 ?_
  refine n_if_eq F 34 dX8_late_9 (by decide) (fun e1 => ?_) (fun e1 => ?_)
  · rw [if_pos e1]
    refine n_ldc2 F (-3 : Int64) dX8_late_34 kc_RX8_221 ?_
    exact n_lret F rfl rfl dX8_late_37
  rw [if_neg e1]
  refine n_iload_n F dX8_late_12 rfl 2 rfl ?_
  refine n_i2l F dX8_late_13 ?_
  refine n_lconst F (0 : Int64) dX8_late_14 (by decide) ?_
  refine n_ldc2 F (40 : Int64) dX8_late_15 kc_RX8_219 ?_
  refine n_callSi F cb_X8_in lm_RX8_63 (ct_Mo_in (fx_ok F) (fx_sd F) (fx_ix F rfl) w (Int32.toInt64 a2) (0 : Int64) (40 : Int64)) rfl rfl (Nat.le_of_ble_eq_true rfl) ⟨Nat.le_of_ble_eq_true rfl, Nat.le_of_ble_eq_true rfl⟩ dX8_late_18 ?_
  refine n_if_eq F 34 dX8_late_21 (by decide) (fun e2 => ?_) (fun e2 => ?_)
  · rw [if_pos e2]
    refine n_ldc2 F (-3 : Int64) dX8_late_34 kc_RX8_221 ?_
    exact n_lret F rfl rfl dX8_late_37
  rw [if_neg e2]
  refine n_iload_n F dX8_late_24 rfl 3 rfl ?_
  refine n_i2l F dX8_late_25 ?_
  refine n_lconst F (0 : Int64) dX8_late_26 (by decide) ?_
  refine n_lconst F (1 : Int64) dX8_late_27 (by decide) ?_
  refine n_callSi F cb_X8_in lm_RX8_63 (ct_Mo_in (fx_ok F) (fx_sd F) (fx_ix F rfl) w (Int32.toInt64 a3) (0 : Int64) (1 : Int64)) rfl rfl (Nat.le_of_ble_eq_true rfl) ⟨Nat.le_of_ble_eq_true rfl, Nat.le_of_ble_eq_true rfl⟩ dX8_late_28 ?_
  refine n_if_ne F 38 dX8_late_31 (by decide) (fun e3 => ?_) (fun e3 => ?_)
  · rw [if_neg e3]
    refine n_iconst F (0 : Int32) dX8_late_38 (by decide) ?_
    refine n_istore F (lv' := [(4, .int (0 : Int32)), (0, .ref (gA (cg K) 37)), (1, .int a1), (2, .int a2), (3, .int a3)]) dX8_late_39 (by decide) rfl ?_
    exact n_sub [1, 2, 3, 4, 0] rfl (Mo_late_L41_ok F (Mo_late_B71_ok F) FU _ _ _ _ _)
  rw [if_pos e3]
  refine n_ldc2 F (-3 : Int64) dX8_late_34 kc_RX8_221 ?_
  exact n_lret F rfl rfl dX8_late_37
