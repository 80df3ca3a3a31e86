theorem dX8_write_0 : decode cX8_write 0 = .ok (.iload_n 3, 1) := by decide +kernel
theorem dX8_write_1 : decode cX8_write 1 = .ok (.i2l, 1) := by decide +kernel
theorem dX8_write_2 : decode cX8_write 2 = .ok (.lconst 1, 1) := by decide +kernel
theorem dX8_write_3 : decode cX8_write 3 = .ok (.ldc2_w 61, 3) := by decide +kernel
theorem dX8_write_6 : decode cX8_write 6 = .ok (.invokestatic 63, 3) := by decide +kernel
theorem dX8_write_9 : decode cX8_write 9 = .ok (.ifCond .ne 6, 3) := by decide +kernel
theorem dX8_write_12 : decode cX8_write 12 = .ok (.bipush (-3), 2) := by decide +kernel
theorem dX8_write_14 : decode cX8_write 14 = .ok (.ireturn, 1) := by decide +kernel
theorem dX8_write_15 : decode cX8_write 15 = .ok (.aload_n 0, 1) := by decide +kernel
theorem dX8_write_16 : decode cX8_write 16 = .ok (.getfield 67, 3) := by decide +kernel
theorem dX8_write_19 : decode cX8_write 19 = .ok (.iload_n 3, 1) := by decide +kernel
theorem dX8_write_20 : decode cX8_write 20 = .ok (.iadd, 1) := by decide +kernel
theorem dX8_write_21 : decode cX8_write 21 = .ok (.sipush 200, 3) := by decide +kernel
theorem dX8_write_24 : decode cX8_write 24 = .ok (.if_icmp .le 6, 3) := by decide +kernel
theorem dX8_write_27 : decode cX8_write 27 = .ok (.bipush (-5), 2) := by decide +kernel
theorem dX8_write_29 : decode cX8_write 29 = .ok (.ireturn, 1) := by decide +kernel
theorem dX8_write_30 : decode cX8_write 30 = .ok (.iconst 0, 1) := by decide +kernel
theorem dX8_write_31 : decode cX8_write 31 = .ok (.istore 4, 2) := by decide +kernel
theorem dX8_write_33 : decode cX8_write 33 = .ok (.iload 4, 2) := by decide +kernel
theorem dX8_write_35 : decode cX8_write 35 = .ok (.iload_n 3, 1) := by decide +kernel
theorem dX8_write_36 : decode cX8_write 36 = .ok (.if_icmp .ge 40, 3) := by decide +kernel
theorem dX8_write_39 : decode cX8_write 39 = .ok (.aload_n 0, 1) := by decide +kernel
theorem dX8_write_40 : decode cX8_write 40 = .ok (.getfield 17, 3) := by decide +kernel
theorem dX8_write_43 : decode cX8_write 43 = .ok (.aload_n 0, 1) := by decide +kernel
theorem dX8_write_44 : decode cX8_write 44 = .ok (.getfield 67, 3) := by decide +kernel
theorem dX8_write_47 : decode cX8_write 47 = .ok (.lload_n 1, 1) := by decide +kernel
theorem dX8_write_48 : decode cX8_write 48 = .ok (.bipush 8, 2) := by decide +kernel
theorem dX8_write_50 : decode cX8_write 50 = .ok (.iload 4, 2) := by decide +kernel
theorem dX8_write_52 : decode cX8_write 52 = .ok (.imul, 1) := by decide +kernel
theorem dX8_write_53 : decode cX8_write 53 = .ok (.lshr, 1) := by decide +kernel
theorem dX8_write_54 : decode cX8_write 54 = .ok (.ldc2_w 70, 3) := by decide +kernel
theorem dX8_write_57 : decode cX8_write 57 = .ok (.land, 1) := by decide +kernel
theorem dX8_write_58 : decode cX8_write 58 = .ok (.l2i, 1) := by decide +kernel
theorem dX8_write_59 : decode cX8_write 59 = .ok (.iastore, 1) := by decide +kernel
theorem dX8_write_60 : decode cX8_write 60 = .ok (.aload_n 0, 1) := by decide +kernel
theorem dX8_write_61 : decode cX8_write 61 = .ok (.dup, 1) := by decide +kernel
theorem dX8_write_62 : decode cX8_write 62 = .ok (.getfield 67, 3) := by decide +kernel
theorem dX8_write_65 : decode cX8_write 65 = .ok (.iconst 1, 1) := by decide +kernel
theorem dX8_write_66 : decode cX8_write 66 = .ok (.iadd, 1) := by decide +kernel
theorem dX8_write_67 : decode cX8_write 67 = .ok (.putfield 67, 3) := by decide +kernel
theorem dX8_write_70 : decode cX8_write 70 = .ok (.iinc 4 1, 3) := by decide +kernel
theorem dX8_write_73 : decode cX8_write 73 = .ok (.goto (-40), 3) := by decide +kernel
theorem dX8_write_76 : decode cX8_write 76 = .ok (.aload_n 0, 1) := by decide +kernel
theorem dX8_write_77 : decode cX8_write 77 = .ok (.getfield 67, 3) := by decide +kernel
theorem dX8_write_80 : decode cX8_write 80 = .ok (.ireturn, 1) := by decide +kernel
def Mo_write_L33 (k76 : Wd → Option (Int32 × Wd)) : Nat → Wd → Int64 → Int32 → Int32 → Option (Int32 × Wd)
  | 0, _, _, _, _ => none
  | n + 1, w, v1, v3, v4 => (if v3 ≤ v4 then (k76 w) else (if ib (w.1 37 3) 200 = true then (Mo_write_L33 k76 n (sI (sI w 40 (Int32.toNatClampNeg (w.1 37 3)) (Int64.toInt32 ((v1 >>> (Int32.toInt64 ((8 : Int32) * v4) &&& (63 : Int64))) &&& (255 : Int64)))) 37 3 (((sI w 40 (Int32.toNatClampNeg (w.1 37 3)) (Int64.toInt32 ((v1 >>> (Int32.toInt64 ((8 : Int32) * v4) &&& (63 : Int64))) &&& (255 : Int64)))).1 37 3) + (1 : Int32))) v1 v3 (v4 + (1 : Int32))) else none))
set_option maxRecDepth 100000 in
set_option maxHeartbeats 4000000 in
theorem Mo_write_L33_ok {K : Ctx} (F : Fx K cX8_write 5 RX8 (some .int) 1 25 false [37, 40]) {k76 : Wd → Option (Int32 × Wd)} (h76 : ∀ (w : Wd), N K rtI (k76 w) w 76 [(0, .ref (gA (cg K) 37))] []) : ∀ (n : Nat) (w : Wd) (v1 : Int64) (v3 : Int32) (v4 : Int32), N K rtI (Mo_write_L33 k76 n w v1 v3 v4) w 33 [(0, .ref (gA (cg K) 37)), (1, .long v1), (3, .int v3), (4, .int v4)] [] := by
  intro n
  induction n with
  | zero => intro _ _ _ _; exact n_none
  | succ n ih =>
    intro w v1 v3 v4
    rw [Mo_write_L33]
    refine n_iload F dX8_write_33 3 rfl ?_
    refine n_iload_n F dX8_write_35 rfl 2 rfl ?_
    refine n_icmp_ge F 76 dX8_write_36 (by decide) (fun e3 => ?_) (fun e3 => ?_)
    · rw [if_pos e3]
      exact n_sub [0] rfl (h76 _)
    rw [if_neg e3]
    refine n_aload_n F dX8_write_39 rfl 0 rfl ?_
    refine n_get F ck_8 lf_RX8_17 (by decide) fg_37_2 (by decide) dX8_write_40 ?_
    refine n_aload_n F dX8_write_43 rfl 0 rfl ?_
    refine n_get F ck_8 lf_RX8_67 (by decide) fg_37_3 (by decide) dX8_write_44 ?_
    refine n_lload_n F dX8_write_47 rfl 1 rfl ?_
    refine n_bipush F (8 : Int32) dX8_write_48 (by decide) ?_
    refine n_iload F dX8_write_50 3 rfl ?_
    refine n_imul F dX8_write_52 ?_
    refine n_lshr F dX8_write_53 ?_
    refine n_ldc2 F (255 : Int64) dX8_write_54 kc_RX8_70 ?_
    refine n_land F dX8_write_57 ?_
    refine n_l2i F dX8_write_58 ?_
    refine n_chk (fun e4 => ?_)
    refine n_iast F ar_40 (by decide) (ib_in e4) rfl dX8_write_59 ?_
    refine n_aload_n F dX8_write_60 rfl 0 rfl ?_
    refine n_dup F dX8_write_61 rfl ?_
    refine n_get F ck_8 lf_RX8_67 (by decide) fg_37_3 (by decide) dX8_write_62 ?_
    refine n_iconst F (1 : Int32) dX8_write_65 (by decide) ?_
    refine n_iadd F dX8_write_66 ?_
    refine n_put F ck_8 lf_RX8_67 (by decide) rfl fp_37_3 (by decide) rfl rfl dX8_write_67 ?_
    refine n_iinc F (v4 + (1 : Int32)) (lv' := [(4, .int (v4 + (1 : Int32))), (0, .ref (gA (cg K) 37)), (1, .long v1), (3, .int v3)]) dX8_write_70 3 rfl rfl (by decide) rfl ?_
    refine n_goto F 33 dX8_write_73 (by decide) ?_
    exact n_sub [1, 2, 3, 0] rfl (ih _ _ _ _)
def Mo_write_B76 (w : Wd) : Option (Int32 × Wd) := some ((w.1 37 3), w)
set_option maxRecDepth 100000 in
set_option maxHeartbeats 4000000 in
theorem Mo_write_B76_ok {K : Ctx} (F : Fx K cX8_write 5 RX8 (some .int) 1 25 false [37, 40]) (w : Wd) : N K rtI (Mo_write_B76 w) w 76 [(0, .ref (gA (cg K) 37))] [] := by
  rw [Mo_write_B76]
  refine n_aload_n F dX8_write_76 rfl 0 rfl ?_
  refine n_get F ck_8 lf_RX8_67 (by decide) fg_37_3 (by decide) dX8_write_77 ?_
  exact n_iret F rfl rfl dX8_write_80
def Mo_write (w : Wd) (a1 : Int64) (a2 : Int32) : Option (Int32 × Wd) := (if (Mo_in w (Int32.toInt64 a2) (1 : Int64) (8 : Int64)) = (0 : Int32) then some ((-3 : Int32), w) else (if ((w.1 37 3) + a2) ≤ (200 : Int32) then (Mo_write_L33 Mo_write_B76 FU w a1 a2 (0 : Int32)) else some ((-5 : Int32), w)))
set_option maxRecDepth 100000 in
set_option maxHeartbeats 4000000 in
theorem ct_Mo_write {l : Launch} {g : GG} {σ : Sd} (hg : OKg g σ) (hb : σ.2.1 = false) (hx : ∀ c ∈ ([37, 40] : List Nat), c ∈ σ.1) (w : Wd) (a1 : Int64) (a2 : Int32) {q : Int32 × Wd} (hq : Mo_write w a1 a2 = some q) : CT l g σ yX8_write cX8_write 5 (some .int) 1 25 [.ref (gA g 37), .long a1, .int a2] w (some (.int q.1)) q.2 := by
  refine ct_of (rt := rtI) (res := Mo_write w a1 a2) (q := q) (own := RX8) (b := false) hg hb hx (by decide) rfl (Nat.le_of_ble_eq_true rfl) hq (fun K e1 e2 e3 F => ?_)
  subst e1 e2 e3
  rw [Mo_write]
  show N K _ _ w 0 [(0, .ref (gA (cg K) 37)), (1, .long a1), (3, .int a2)] []
  refine n_iload_n F dX8_write_0 rfl 2 rfl ?_
  refine n_i2l F dX8_write_1 ?_
  refine n_lconst F (1 : Int64) dX8_write_2 (by decide) ?_
  refine n_ldc2 F (8 : Int64) dX8_write_3 kc_RX8_61 ?_
  refine n_callSi F cb_X8_in lm_RX8_63 (ct_Mo_in (fx_ok F) (fx_sd F) (fx_ix F rfl) w (Int32.toInt64 a2) (1 : Int64) (8 : Int64)) rfl rfl (Nat.le_of_ble_eq_true rfl) ⟨Nat.le_of_ble_eq_true rfl, Nat.le_of_ble_eq_true rfl⟩ dX8_write_6 ?_
  refine n_if_ne F 15 dX8_write_9 (by decide) (fun e1 => ?_) (fun e1 => ?_)
  · rw [if_neg e1]
    refine n_aload_n F dX8_write_15 rfl 0 rfl ?_
    refine n_get F ck_8 lf_RX8_67 (by decide) fg_37_3 (by decide) dX8_write_16 ?_
    refine n_iload_n F dX8_write_19 rfl 2 rfl ?_
    refine n_iadd F dX8_write_20 ?_
    refine n_sipush F (200 : Int32) dX8_write_21 (by decide) ?_
    refine n_icmp_le F 30 dX8_write_24 (by decide) (fun e2 => ?_) (fun e2 => ?_)
    · rw [if_pos e2]
      refine n_iconst F (0 : Int32) dX8_write_30 (by decide) ?_
      refine n_istore F (lv' := [(4, .int (0 : Int32)), (0, .ref (gA (cg K) 37)), (1, .long a1), (3, .int a2)]) dX8_write_31 (by decide) rfl ?_
      exact n_sub [1, 2, 3, 0] rfl (Mo_write_L33_ok F (Mo_write_B76_ok F) FU _ _ _ _)
    rw [if_neg e2]
    refine n_bipush F (-5 : Int32) dX8_write_27 (by decide) ?_
    exact n_iret F rfl rfl dX8_write_29
  rw [if_pos e1]
  refine n_bipush F (-3 : Int32) dX8_write_12 (by decide) ?_
  exact n_iret F rfl rfl dX8_write_14
theorem dX8_erase_0 : decode cX8_erase 0 = .ok (.aload_n 0, 1) := by decide +kernel
theorem dX8_erase_1 : decode cX8_erase 1 = .ok (.getfield 67, 3) := by decide +kernel
theorem dX8_erase_4 : decode cX8_erase 4 = .ok (.istore_n 1, 1) := by decide +kernel
theorem dX8_erase_5 : decode cX8_erase 5 = .ok (.aload_n 0, 1) := by decide +kernel
theorem dX8_erase_6 : decode cX8_erase 6 = .ok (.iconst 0, 1) := by decide +kernel
theorem dX8_erase_7 : decode cX8_erase 7 = .ok (.putfield 67, 3) := by decide +kernel
theorem dX8_erase_10 : decode cX8_erase 10 = .ok (.iload_n 1, 1) := by decide +kernel
theorem dX8_erase_11 : decode cX8_erase 11 = .ok (.ireturn, 1) := by decide +kernel
def Mo_erase (w : Wd) : Int32 × Wd := ((w.1 37 3), (sI w 37 3 (0 : Int32)))
set_option maxRecDepth 100000 in
set_option maxHeartbeats 4000000 in
theorem ct_Mo_erase {l : Launch} {g : GG} {σ : Sd} (hg : OKg g σ) (hb : σ.2.1 = false) (hx : ∀ c ∈ ([37] : List Nat), c ∈ σ.1) (w : Wd) : CT l g σ yX8_erase cX8_erase 2 (some .int) 0 0 [.ref (gA g 37)] w (some (.int (Mo_erase w).1)) (Mo_erase w).2 := by
  refine ct_of (rt := rtI) (res := some (Mo_erase w)) (q := (Mo_erase w)) (own := RX8) (b := false) hg hb hx (by decide) rfl (Nat.le_of_ble_eq_true rfl) rfl (fun K e1 e2 e3 F => ?_)
  subst e1 e2 e3
  rw [Mo_erase]
  show N K _ _ w 0 [(0, .ref (gA (cg K) 37))] []
  refine n_aload_n F dX8_erase_0 rfl 0 rfl ?_
  refine n_get F ck_8 lf_RX8_67 (by decide) fg_37_3 (by decide) dX8_erase_1 ?_
  refine n_istore_n F (lv' := [(1, .int (w.1 37 3)), (0, .ref (gA (cg K) 37))]) dX8_erase_4 rfl (by decide) rfl ?_
  refine n_aload_n F dX8_erase_5 rfl 1 rfl ?_
  refine n_iconst F (0 : Int32) dX8_erase_6 (by decide) ?_
  refine n_put F ck_8 lf_RX8_67 (by decide) rfl fp_37_3 (by decide) rfl rfl dX8_erase_7 ?_
  refine n_iload_n F dX8_erase_10 rfl 0 rfl ?_
  exact n_iret F rfl rfl dX8_erase_11
theorem dX8_sort_0 : decode cX8_sort 0 = .ok (.iload_n 0, 1) := by decide +kernel
theorem dX8_sort_1 : decode cX8_sort 1 = .ok (.bipush 97, 2) := by decide +kernel
theorem dX8_sort_3 : decode cX8_sort 3 = .ok (.if_icmp .lt 13, 3) := by decide +kernel
theorem dX8_sort_6 : decode cX8_sort 6 = .ok (.iload_n 0, 1) := by decide +kernel
theorem dX8_sort_7 : decode cX8_sort 7 = .ok (.bipush 122, 2) := by decide +kernel
theorem dX8_sort_9 : decode cX8_sort 9 = .ok (.if_icmp .gt 7, 3) := by decide +kernel
theorem dX8_sort_12 : decode cX8_sort 12 = .ok (.iconst 1, 1) := by decide +kernel
theorem dX8_sort_13 : decode cX8_sort 13 = .ok (.goto 20, 3) := by decide +kernel
theorem dX8_sort_16 : decode cX8_sort 16 = .ok (.iload_n 0, 1) := by decide +kernel
theorem dX8_sort_17 : decode cX8_sort 17 = .ok (.bipush 48, 2) := by decide +kernel
theorem dX8_sort_19 : decode cX8_sort 19 = .ok (.if_icmp .lt 13, 3) := by decide +kernel
theorem dX8_sort_22 : decode cX8_sort 22 = .ok (.iload_n 0, 1) := by decide +kernel
theorem dX8_sort_23 : decode cX8_sort 23 = .ok (.bipush 57, 2) := by decide +kernel
theorem dX8_sort_25 : decode cX8_sort 25 = .ok (.if_icmp .gt 7, 3) := by decide +kernel
theorem dX8_sort_28 : decode cX8_sort 28 = .ok (.iconst 2, 1) := by decide +kernel
theorem dX8_sort_29 : decode cX8_sort 29 = .ok (.goto 4, 3) := by decide +kernel
theorem dX8_sort_32 : decode cX8_sort 32 = .ok (.iconst 0, 1) := by decide +kernel
theorem dX8_sort_33 : decode cX8_sort 33 = .ok (.ireturn, 1) := by decide +kernel
def Mo_sort_B16 (w : Wd) (v0 : Int32) : Int32 := (if v0 < (48 : Int32) then (0 : Int32) else (if (57 : Int32) < v0 then (0 : Int32) else (2 : Int32)))
set_option maxRecDepth 100000 in
set_option maxHeartbeats 4000000 in
theorem Mo_sort_B16_ok {K : Ctx} (F : Fx K cX8_sort 1 RX8 (some .int) 0 0 false []) (w : Wd) (v0 : Int32) : N K (rtP w) (some (Mo_sort_B16 w v0)) w 16 [(0, .int v0)] [] := by
  rw [Mo_sort_B16]
  refine n_iload_n F dX8_sort_16 rfl 0 rfl ?_
  refine n_bipush F (48 : Int32) dX8_sort_17 (by decide) ?_
  refine n_icmp_lt F 32 dX8_sort_19 (by decide) (fun e2 => ?_) (fun e2 => ?_)
  · rw [if_pos e2]
    refine n_iconst F (0 : Int32) dX8_sort_32 (by decide) ?_
    exact n_iret F rfl rfl dX8_sort_33
  rw [if_neg e2]
  refine n_iload_n F dX8_sort_22 rfl 0 rfl ?_
  refine n_bipush F (57 : Int32) dX8_sort_23 (by decide) ?_
  refine n_icmp_gt F 32 dX8_sort_25 (by decide) (fun e3 => ?_) (fun e3 => ?_)
  · rw [if_pos e3]
    refine n_iconst F (0 : Int32) dX8_sort_32 (by decide) ?_
    exact n_iret F rfl rfl dX8_sort_33
  rw [if_neg e3]
  refine n_iconst F (2 : Int32) dX8_sort_28 (by decide) ?_
  refine n_goto F 33 dX8_sort_29 (by decide) ?_
  exact n_iret F rfl rfl dX8_sort_33
def Mo_sort (w : Wd) (a1 : Int32) : Int32 := (if a1 < (97 : Int32) then (Mo_sort_B16 w a1) else (if (122 : Int32) < a1 then (Mo_sort_B16 w a1) else (1 : Int32)))
set_option maxRecDepth 100000 in
set_option maxHeartbeats 4000000 in
theorem ct_Mo_sort {l : Launch} {g : GG} {σ : Sd} (hg : OKg g σ) (hb : σ.2.1 = false) (hx : ∀ c ∈ ([] : List Nat), c ∈ σ.1) (w : Wd) (a1 : Int32) : CT l g σ yX8_sort cX8_sort 1 (some .int) 0 0 [.int a1] w (some (.int (Mo_sort w a1))) w := by
  refine ct_of (rt := (rtP w)) (res := some (Mo_sort w a1)) (q := (Mo_sort w a1)) (own := RX8) (b := false) hg hb hx (by decide) rfl (Nat.le_of_ble_eq_true rfl) rfl (fun K e1 e2 e3 F => ?_)
  subst e1 e2 e3
  rw [Mo_sort]
  show N K _ _ w 0 [(0, .int a1)] []
  refine n_iload_n F dX8_sort_0 rfl 0 rfl ?_
  refine n_bipush F (97 : Int32) dX8_sort_1 (by decide) ?_
  refine n_icmp_lt F 16 dX8_sort_3 (by decide) (fun e1 => ?_) (fun e1 => ?_)
  · rw [if_pos e1]
    exact n_sub [0] rfl (Mo_sort_B16_ok F w _)
  rw [if_neg e1]
  refine n_iload_n F dX8_sort_6 rfl 0 rfl ?_
  refine n_bipush F (122 : Int32) dX8_sort_7 (by decide) ?_
  refine n_icmp_gt F 16 dX8_sort_9 (by decide) (fun e4 => ?_) (fun e4 => ?_)
  · rw [if_pos e4]
    exact n_sub [0] rfl (Mo_sort_B16_ok F w _)
  rw [if_neg e4]
  refine n_iconst F (1 : Int32) dX8_sort_12 (by decide) ?_
  refine n_goto F 33 dX8_sort_13 (by decide) ?_
  exact n_iret F rfl rfl dX8_sort_33
theorem dX8_token_0 : decode cX8_token 0 = .ok (.aload_n 0, 1) := by decide +kernel
theorem dX8_token_1 : decode cX8_token 1 = .ok (.getfield 72, 3) := by decide +kernel
theorem dX8_token_4 : decode cX8_token 4 = .ok (.aload_n 0, 1) := by decide +kernel
theorem dX8_token_5 : decode cX8_token 5 = .ok (.getfield 67, 3) := by decide +kernel
theorem dX8_token_8 : decode cX8_token 8 = .ok (.if_icmp .ge 30, 3) := by decide +kernel
theorem dX8_token_11 : decode cX8_token 11 = .ok (.aload_n 0, 1) := by decide +kernel
theorem dX8_token_12 : decode cX8_token 12 = .ok (.getfield 17, 3) := by decide +kernel
theorem dX8_token_15 : decode cX8_token 15 = .ok (.aload_n 0, 1) := by decide +kernel
theorem dX8_token_16 : decode cX8_token 16 = .ok (.getfield 72, 3) := by decide +kernel
theorem dX8_token_19 : decode cX8_token 19 = .ok (.iaload, 1) := by decide +kernel
theorem dX8_token_20 : decode cX8_token 20 = .ok (.bipush 32, 2) := by decide +kernel
theorem dX8_token_22 : decode cX8_token 22 = .ok (.if_icmp .ne 16, 3) := by decide +kernel
theorem dX8_token_25 : decode cX8_token 25 = .ok (.aload_n 0, 1) := by decide +kernel
theorem dX8_token_26 : decode cX8_token 26 = .ok (.dup, 1) := by decide +kernel
theorem dX8_token_27 : decode cX8_token 27 = .ok (.getfield 72, 3) := by decide +kernel
theorem dX8_token_30 : decode cX8_token 30 = .ok (.iconst 1, 1) := by decide +kernel
theorem dX8_token_31 : decode cX8_token 31 = .ok (.iadd, 1) := by decide +kernel
theorem dX8_token_32 : decode cX8_token 32 = .ok (.putfield 72, 3) := by decide +kernel
theorem dX8_token_35 : decode cX8_token 35 = .ok (.goto (-35), 3) := by decide +kernel
theorem dX8_token_38 : decode cX8_token 38 = .ok (.aload_n 0, 1) := by decide +kernel
theorem dX8_token_39 : decode cX8_token 39 = .ok (.aload_n 0, 1) := by decide +kernel
theorem dX8_token_40 : decode cX8_token 40 = .ok (.getfield 72, 3) := by decide +kernel
theorem dX8_token_43 : decode cX8_token 43 = .ok (.putfield 75, 3) := by decide +kernel
theorem dX8_token_46 : decode cX8_token 46 = .ok (.aload_n 0, 1) := by decide +kernel
theorem dX8_token_47 : decode cX8_token 47 = .ok (.dup, 1) := by decide +kernel
theorem dX8_token_48 : decode cX8_token 48 = .ok (.getfield 72, 3) := by decide +kernel
theorem dX8_token_51 : decode cX8_token 51 = .ok (.aload_n 0, 1) := by decide +kernel
theorem dX8_token_52 : decode cX8_token 52 = .ok (.getfield 72, 3) := by decide +kernel
theorem dX8_token_55 : decode cX8_token 55 = .ok (.aload_n 0, 1) := by decide +kernel
theorem dX8_token_56 : decode cX8_token 56 = .ok (.getfield 67, 3) := by decide +kernel
theorem dX8_token_59 : decode cX8_token 59 = .ok (.if_icmp .ge 7, 3) := by decide +kernel
theorem dX8_token_62 : decode cX8_token 62 = .ok (.iconst 1, 1) := by decide +kernel
theorem dX8_token_63 : decode cX8_token 63 = .ok (.goto 4, 3) := by decide +kernel
theorem dX8_token_66 : decode cX8_token 66 = .ok (.iconst 0, 1) := by decide +kernel
theorem dX8_token_67 : decode cX8_token 67 = .ok (.iadd, 1) := by decide +kernel
theorem dX8_token_68 : decode cX8_token 68 = .ok (.putfield 72, 3) := by decide +kernel
theorem dX8_token_71 : decode cX8_token 71 = .ok (.aload_n 0, 1) := by decide +kernel
theorem dX8_token_72 : decode cX8_token 72 = .ok (.getfield 72, 3) := by decide +kernel
theorem dX8_token_75 : decode cX8_token 75 = .ok (.aload_n 0, 1) := by decide +kernel
theorem dX8_token_76 : decode cX8_token 76 = .ok (.getfield 67, 3) := by decide +kernel
theorem dX8_token_79 : decode cX8_token 79 = .ok (.if_icmp .ge 58, 3) := by decide +kernel
theorem dX8_token_82 : decode cX8_token 82 = .ok (.aload_n 0, 1) := by decide +kernel
theorem dX8_token_83 : decode cX8_token 83 = .ok (.getfield 17, 3) := by decide +kernel
theorem dX8_token_86 : decode cX8_token 86 = .ok (.aload_n 0, 1) := by decide +kernel
theorem dX8_token_87 : decode cX8_token 87 = .ok (.getfield 75, 3) := by decide +kernel
theorem dX8_token_90 : decode cX8_token 90 = .ok (.iaload, 1) := by decide +kernel
theorem dX8_token_91 : decode cX8_token 91 = .ok (.invokestatic 78, 3) := by decide +kernel
theorem dX8_token_94 : decode cX8_token 94 = .ok (.ifCond .le 43, 3) := by decide +kernel
theorem dX8_token_97 : decode cX8_token 97 = .ok (.aload_n 0, 1) := by decide +kernel
theorem dX8_token_98 : decode cX8_token 98 = .ok (.getfield 17, 3) := by decide +kernel
theorem dX8_token_101 : decode cX8_token 101 = .ok (.aload_n 0, 1) := by decide +kernel
theorem dX8_token_102 : decode cX8_token 102 = .ok (.getfield 72, 3) := by decide +kernel
theorem dX8_token_105 : decode cX8_token 105 = .ok (.iaload, 1) := by decide +kernel
theorem dX8_token_106 : decode cX8_token 106 = .ok (.invokestatic 78, 3) := by decide +kernel
theorem dX8_token_109 : decode cX8_token 109 = .ok (.aload_n 0, 1) := by decide +kernel
theorem dX8_token_110 : decode cX8_token 110 = .ok (.getfield 17, 3) := by decide +kernel
theorem dX8_token_113 : decode cX8_token 113 = .ok (.aload_n 0, 1) := by decide +kernel
theorem dX8_token_114 : decode cX8_token 114 = .ok (.getfield 75, 3) := by decide +kernel
theorem dX8_token_117 : decode cX8_token 117 = .ok (.iaload, 1) := by decide +kernel
theorem dX8_token_118 : decode cX8_token 118 = .ok (.invokestatic 78, 3) := by decide +kernel
theorem dX8_token_121 : decode cX8_token 121 = .ok (.if_icmp .ne 16, 3) := by decide +kernel
theorem dX8_token_124 : decode cX8_token 124 = .ok (.aload_n 0, 1) := by decide +kernel
theorem dX8_token_125 : decode cX8_token 125 = .ok (.dup, 1) := by decide +kernel
theorem dX8_token_126 : decode cX8_token 126 = .ok (.getfield 72, 3) := by decide +kernel
theorem dX8_token_129 : decode cX8_token 129 = .ok (.iconst 1, 1) := by decide +kernel
theorem dX8_token_130 : decode cX8_token 130 = .ok (.iadd, 1) := by decide +kernel
theorem dX8_token_131 : decode cX8_token 131 = .ok (.putfield 72, 3) := by decide +kernel
theorem dX8_token_134 : decode cX8_token 134 = .ok (.goto (-63), 3) := by decide +kernel
theorem dX8_token_137 : decode cX8_token 137 = .ok (.aload_n 0, 1) := by decide +kernel
theorem dX8_token_138 : decode cX8_token 138 = .ok (.aload_n 0, 1) := by decide +kernel
theorem dX8_token_139 : decode cX8_token 139 = .ok (.getfield 72, 3) := by decide +kernel
theorem dX8_token_142 : decode cX8_token 142 = .ok (.putfield 82, 3) := by decide +kernel
theorem dX8_token_145 : decode cX8_token 145 = .ok (.return_, 1) := by decide +kernel
def Mo_token_L0 (k38 : Wd → Option Wd) : Nat → Wd → Option Wd
  | 0, _ => none
  | n + 1, w => (if (w.1 37 3) ≤ (w.1 37 13) then (k38 w) else (if ib (w.1 37 13) 200 = true then (if (w.1 40 (Int32.toNatClampNeg (w.1 37 13))) = (32 : Int32) then (Mo_token_L0 k38 n (sI w 37 13 ((w.1 37 13) + (1 : Int32)))) else (k38 w)) else none))
set_option maxRecDepth 100000 in
set_option maxHeartbeats 4000000 in
theorem Mo_token_L0_ok {K : Ctx} (F : Fx K cX8_token 1 RX8 none 1 20 false [37, 40]) {k38 : Wd → Option Wd} (h38 : ∀ (w : Wd), N K rtV (k38 w) w 38 [(0, .ref (gA (cg K) 37))] []) : ∀ (n : Nat) (w : Wd), N K rtV (Mo_token_L0 k38 n w) w 0 [(0, .ref (gA (cg K) 37))] [] := by
  intro n
  induction n with
  | zero => intro _; exact n_none
  | succ n ih =>
    intro w
    rw [Mo_token_L0]
    refine n_aload_n F dX8_token_0 rfl 0 rfl ?_
    refine n_get F ck_8 lf_RX8_72 (by decide) fg_37_13 (by decide) dX8_token_1 ?_
    refine n_aload_n F dX8_token_4 rfl 0 rfl ?_
    refine n_get F ck_8 lf_RX8_67 (by decide) fg_37_3 (by decide) dX8_token_5 ?_
    refine n_icmp_ge F 38 dX8_token_8 (by decide) (fun e1 => ?_) (fun e1 => ?_)
    · rw [if_pos e1]
      exact n_sub [0] rfl (h38 _)
    rw [if_neg e1]
    refine n_aload_n F dX8_token_11 rfl 0 rfl ?_
    refine n_get F ck_8 lf_RX8_17 (by decide) fg_37_2 (by decide) dX8_token_12 ?_
    refine n_aload_n F dX8_token_15 rfl 0 rfl ?_
    refine n_get F ck_8 lf_RX8_72 (by decide) fg_37_13 (by decide) dX8_token_16 ?_
    refine n_chk (fun e2 => ?_)
    refine n_iald F ar_40 (by decide) (ib_in e2) rfl dX8_token_19 ?_
    refine n_bipush F (32 : Int32) dX8_token_20 (by decide) ?_
    refine n_icmp_ne F 38 dX8_token_22 (by decide) (fun e3 => ?_) (fun e3 => ?_)
    · rw [if_neg e3]
      exact n_sub [0] rfl (h38 _)
    rw [if_pos e3]
    refine n_aload_n F dX8_token_25 rfl 0 rfl ?_
    refine n_dup F dX8_token_26 rfl ?_
    refine n_get F ck_8 lf_RX8_72 (by decide) fg_37_13 (by decide) dX8_token_27 ?_
    refine n_iconst F (1 : Int32) dX8_token_30 (by decide) ?_
    refine n_iadd F dX8_token_31 ?_
    refine n_put F ck_8 lf_RX8_72 (by decide) rfl fp_37_13 (by decide) rfl rfl dX8_token_32 ?_
    refine n_goto F 0 dX8_token_35 (by decide) ?_
    exact n_sub [0] rfl (ih _)
def Mo_token_L71 (k137 : Wd → Option Wd) : Nat → Wd → Option Wd
  | 0, _ => none
  | n + 1, w => (if (w.1 37 3) ≤ (w.1 37 13) then (k137 w) else (if ib (w.1 37 14) 200 = true then (if (Mo_sort w (w.1 40 (Int32.toNatClampNeg (w.1 37 14)))) ≤ (0 : Int32) then (k137 w) else (if ib (w.1 37 13) 200 = true then (if ib (w.1 37 14) 200 = true then (if (Mo_sort w (w.1 40 (Int32.toNatClampNeg (w.1 37 13)))) = (Mo_sort w (w.1 40 (Int32.toNatClampNeg (w.1 37 14)))) then (Mo_token_L71 k137 n (sI w 37 13 ((w.1 37 13) + (1 : Int32)))) else (k137 w)) else none) else none)) else none))
set_option maxRecDepth 100000 in
set_option maxHeartbeats 4000000 in
theorem Mo_token_L71_ok {K : Ctx} (F : Fx K cX8_token 1 RX8 none 1 20 false [37, 40]) {k137 : Wd → Option Wd} (h137 : ∀ (w : Wd), N K rtV (k137 w) w 137 [(0, .ref (gA (cg K) 37))] []) : ∀ (n : Nat) (w : Wd), N K rtV (Mo_token_L71 k137 n w) w 71 [(0, .ref (gA (cg K) 37))] [] := by
  intro n
  induction n with
  | zero => intro _; exact n_none
  | succ n ih =>
    intro w
    rw [Mo_token_L71]
    refine n_aload_n F dX8_token_71 rfl 0 rfl ?_
    refine n_get F ck_8 lf_RX8_72 (by decide) fg_37_13 (by decide) dX8_token_72 ?_
    refine n_aload_n F dX8_token_75 rfl 0 rfl ?_
    refine n_get F ck_8 lf_RX8_67 (by decide) fg_37_3 (by decide) dX8_token_76 ?_
    refine n_icmp_ge F 137 dX8_token_79 (by decide) (fun e5 => ?_) (fun e5 => ?_)
    · rw [if_pos e5]
      exact n_sub [0] rfl (h137 _)
    rw [if_neg e5]
    refine n_aload_n F dX8_token_82 rfl 0 rfl ?_
    refine n_get F ck_8 lf_RX8_17 (by decide) fg_37_2 (by decide) dX8_token_83 ?_
    refine n_aload_n F dX8_token_86 rfl 0 rfl ?_
    refine n_get F ck_8 lf_RX8_75 (by decide) fg_37_14 (by decide) dX8_token_87 ?_
    refine n_chk (fun e6 => ?_)
    refine n_iald F ar_40 (by decide) (ib_in e6) rfl dX8_token_90 ?_
    refine n_callSi F cb_X8_sort lm_RX8_78 (ct_Mo_sort (fx_ok F) (fx_sd F) (fx_ix F rfl) w (w.1 40 (Int32.toNatClampNeg (w.1 37 14)))) rfl rfl (Nat.le_of_ble_eq_true rfl) ⟨Nat.le_of_ble_eq_true rfl, Nat.le_of_ble_eq_true rfl⟩ dX8_token_91 ?_
    refine n_if_le F 137 dX8_token_94 (by decide) (fun e7 => ?_) (fun e7 => ?_)
    · rw [if_pos e7]
      exact n_sub [0] rfl (h137 _)
    rw [if_neg e7]
    refine n_aload_n F dX8_token_97 rfl 0 rfl ?_
    refine n_get F ck_8 lf_RX8_17 (by decide) fg_37_2 (by decide) dX8_token_98 ?_
    refine n_aload_n F dX8_token_101 rfl 0 rfl ?_
    refine n_get F ck_8 lf_RX8_72 (by decide) fg_37_13 (by decide) dX8_token_102 ?_
    refine n_chk (fun e8 => ?_)
    refine n_iald F ar_40 (by decide) (ib_in e8) rfl dX8_token_105 ?_
    refine n_callSi F cb_X8_sort lm_RX8_78 (ct_Mo_sort (fx_ok F) (fx_sd F) (fx_ix F rfl) w (w.1 40 (Int32.toNatClampNeg (w.1 37 13)))) rfl rfl (Nat.le_of_ble_eq_true rfl) ⟨Nat.le_of_ble_eq_true rfl, Nat.le_of_ble_eq_true rfl⟩ dX8_token_106 ?_
    refine n_aload_n F dX8_token_109 rfl 0 rfl ?_
    refine n_get F ck_8 lf_RX8_17 (by decide) fg_37_2 (by decide) dX8_token_110 ?_
    refine n_aload_n F dX8_token_113 rfl 0 rfl ?_
    refine n_get F ck_8 lf_RX8_75 (by decide) fg_37_14 (by decide) dX8_token_114 ?_
    refine n_chk (fun e9 => ?_)
    refine n_iald F ar_40 (by decide) (ib_in e9) rfl dX8_token_117 ?_
    refine n_callSi F cb_X8_sort lm_RX8_78 (ct_Mo_sort (fx_ok F) (fx_sd F) (fx_ix F rfl) w (w.1 40 (Int32.toNatClampNeg (w.1 37 14)))) rfl rfl (Nat.le_of_ble_eq_true rfl) ⟨Nat.le_of_ble_eq_true rfl, Nat.le_of_ble_eq_true rfl⟩ dX8_token_118 ?_
    refine n_icmp_ne F 137 dX8_token_121 (by decide) (fun e10 => ?_) (fun e10 => ?_)
    · rw [if_neg e10]
      exact n_sub [0] rfl (h137 _)
    rw [if_pos e10]
    refine n_aload_n F dX8_token_124 rfl 0 rfl ?_
    refine n_dup F dX8_token_125 rfl ?_
    refine n_get F ck_8 lf_RX8_72 (by decide) fg_37_13 (by decide) dX8_token_126 ?_
    refine n_iconst F (1 : Int32) dX8_token_129 (by decide) ?_
    refine n_iadd F dX8_token_130 ?_
    refine n_put F ck_8 lf_RX8_72 (by decide) rfl fp_37_13 (by decide) rfl rfl dX8_token_131 ?_
    refine n_goto F 71 dX8_token_134 (by decide) ?_
    exact n_sub [0] rfl (ih _)
def Mo_token_B137 (w : Wd) : Option Wd := some (sI w 37 15 (w.1 37 13))
set_option maxRecDepth 100000 in
set_option maxHeartbeats 4000000 in
theorem Mo_token_B137_ok {K : Ctx} (F : Fx K cX8_token 1 RX8 none 1 20 false [37, 40]) (w : Wd) : N K rtV (Mo_token_B137 w) w 137 [(0, .ref (gA (cg K) 37))] [] := by
  rw [Mo_token_B137]
  refine n_aload_n F dX8_token_137 rfl 0 rfl ?_
  refine n_aload_n F dX8_token_138 rfl 0 rfl ?_
  refine n_get F ck_8 lf_RX8_72 (by decide) fg_37_13 (by decide) dX8_token_139 ?_
  refine n_put F ck_8 lf_RX8_82 (by decide) rfl fp_37_15 (by decide) rfl rfl dX8_token_142 ?_
  exact n_vret F rfl rfl dX8_token_145
def Mo_token_B38 (w : Wd) : Option Wd := (Mo_token_L71 Mo_token_B137 FU (if ((sI w 37 14 (w.1 37 13)).1 37 3) ≤ ((sI w 37 14 (w.1 37 13)).1 37 13) then (sI (sI w 37 14 (w.1 37 13)) 37 13 (((sI w 37 14 (w.1 37 13)).1 37 13) + (0 : Int32))) else (sI (sI w 37 14 (w.1 37 13)) 37 13 (((sI w 37 14 (w.1 37 13)).1 37 13) + (1 : Int32)))))
set_option maxRecDepth 100000 in
set_option maxHeartbeats 4000000 in
theorem Mo_token_B38_ok {K : Ctx} (F : Fx K cX8_token 1 RX8 none 1 20 false [37, 40]) (w : Wd) : N K rtV (Mo_token_B38 w) w 38 [(0, .ref (gA (cg K) 37))] [] := by
  rw [Mo_token_B38]
  refine n_aload_n F dX8_token_38 rfl 0 rfl ?_
  refine n_aload_n F dX8_token_39 rfl 0 rfl ?_
  refine n_get F ck_8 lf_RX8_72 (by decide) fg_37_13 (by decide) dX8_token_40 ?_
  refine n_put F ck_8 lf_RX8_75 (by decide) rfl fp_37_14 (by decide) rfl rfl dX8_token_43 ?_
  refine n_aload_n F dX8_token_46 rfl 0 rfl ?_
  refine n_dup F dX8_token_47 rfl ?_
  refine n_get F ck_8 lf_RX8_72 (by decide) fg_37_13 (by decide) dX8_token_48 ?_
  refine n_aload_n F dX8_token_51 rfl 0 rfl ?_
  refine n_get F ck_8 lf_RX8_72 (by decide) fg_37_13 (by decide) dX8_token_52 ?_
  refine n_aload_n F dX8_token_55 rfl 0 rfl ?_
  refine n_get F ck_8 lf_RX8_67 (by decide) fg_37_3 (by decide) dX8_token_56 ?_
  refine n_icmp_ge F 66 dX8_token_59 (by decide) (fun e4 => ?_) (fun e4 => ?_)
  · rw [if_pos e4]
    refine n_iconst F (0 : Int32) dX8_token_66 (by decide) ?_
    refine n_iadd F dX8_token_67 ?_
    refine n_put F ck_8 lf_RX8_72 (by decide) rfl fp_37_13 (by decide) rfl rfl dX8_token_68 ?_
    exact n_sub [0] rfl (Mo_token_L71_ok F (Mo_token_B137_ok F) FU _)
  rw [if_neg e4]
  refine n_iconst F (1 : Int32) dX8_token_62 (by decide) ?_
  refine n_goto F 67 dX8_token_63 (by decide) ?_
  refine n_iadd F dX8_token_67 ?_
  refine n_put F ck_8 lf_RX8_72 (by decide) rfl fp_37_13 (by decide) rfl rfl dX8_token_68 ?_
  exact n_sub [0] rfl (Mo_token_L71_ok F (Mo_token_B137_ok F) FU _)
def Mo_token (w : Wd) : Option Wd := (Mo_token_L0 Mo_token_B38 FU w)
set_option maxRecDepth 100000 in
set_option maxHeartbeats 4000000 in
theorem ct_Mo_token {l : Launch} {g : GG} {σ : Sd} (hg : OKg g σ) (hb : σ.2.1 = false) (hx : ∀ c ∈ ([37, 40] : List Nat), c ∈ σ.1) (w : Wd) {q : Wd} (hq : Mo_token w = some q) : CT l g σ yX8_token cX8_token 1 none 1 20 [.ref (gA g 37)] w none q := by
  refine ct_of (rt := rtV) (res := Mo_token w) (q := q) (own := RX8) (b := false) hg hb hx (by decide) rfl (Nat.le_of_ble_eq_true rfl) hq (fun K e1 e2 e3 F => ?_)
  subst e1 e2 e3
  rw [Mo_token]
  show N K _ _ w 0 [(0, .ref (gA (cg K) 37))] []
  exact n_sub [0] rfl (Mo_token_L0_ok F (Mo_token_B38_ok F) FU _)
theorem dX8_isWord_0 : decode cX8_isWord 0 = .ok (.aload_n 0, 1) := by decide +kernel
theorem dX8_isWord_1 : decode cX8_isWord 1 = .ok (.getfield 82, 3) := by decide +kernel
theorem dX8_isWord_4 : decode cX8_isWord 4 = .ok (.aload_n 0, 1) := by decide +kernel
theorem dX8_isWord_5 : decode cX8_isWord 5 = .ok (.getfield 75, 3) := by decide +kernel
theorem dX8_isWord_8 : decode cX8_isWord 8 = .ok (.isub, 1) := by decide +kernel
theorem dX8_isWord_9 : decode cX8_isWord 9 = .ok (.iload_n 3, 1) := by decide +kernel
theorem dX8_isWord_10 : decode cX8_isWord 10 = .ok (.if_icmp .ne 7, 3) := by decide +kernel
theorem dX8_isWord_13 : decode cX8_isWord 13 = .ok (.iconst 1, 1) := by decide +kernel
theorem dX8_isWord_14 : decode cX8_isWord 14 = .ok (.goto 4, 3) := by decide +kernel
theorem dX8_isWord_17 : decode cX8_isWord 17 = .ok (.iconst 0, 1) := by decide +kernel
theorem dX8_isWord_18 : decode cX8_isWord 18 = .ok (.istore 4, 2) := by decide +kernel
theorem dX8_isWord_20 : decode cX8_isWord 20 = .ok (.iconst 0, 1) := by decide +kernel
theorem dX8_isWord_21 : decode cX8_isWord 21 = .ok (.istore 5, 2) := by decide +kernel
theorem dX8_isWord_23 : decode cX8_isWord 23 = .ok (.iload 4, 2) := by decide +kernel
theorem dX8_isWord_25 : decode cX8_isWord 25 = .ok (.ifCond .eq 51, 3) := by decide +kernel
theorem dX8_isWord_28 : decode cX8_isWord 28 = .ok (.iload 5, 2) := by decide +kernel
theorem dX8_isWord_30 : decode cX8_isWord 30 = .ok (.iload_n 3, 1) := by decide +kernel
theorem dX8_isWord_31 : decode cX8_isWord 31 = .ok (.if_icmp .ge 45, 3) := by decide +kernel
theorem dX8_isWord_34 : decode cX8_isWord 34 = .ok (.aload_n 0, 1) := by decide +kernel
theorem dX8_isWord_35 : decode cX8_isWord 35 = .ok (.getfield 17, 3) := by decide +kernel
theorem dX8_isWord_38 : decode cX8_isWord 38 = .ok (.aload_n 0, 1) := by decide +kernel
theorem dX8_isWord_39 : decode cX8_isWord 39 = .ok (.getfield 75, 3) := by decide +kernel
theorem dX8_isWord_42 : decode cX8_isWord 42 = .ok (.iload 5, 2) := by decide +kernel
theorem dX8_isWord_44 : decode cX8_isWord 44 = .ok (.iadd, 1) := by decide +kernel
theorem dX8_isWord_45 : decode cX8_isWord 45 = .ok (.iaload, 1) := by decide +kernel
theorem dX8_isWord_46 : decode cX8_isWord 46 = .ok (.bipush 96, 2) := by decide +kernel
theorem dX8_isWord_48 : decode cX8_isWord 48 = .ok (.lload_n 1, 1) := by decide +kernel
theorem dX8_isWord_49 : decode cX8_isWord 49 = .ok (.iconst 5, 1) := by decide +kernel
theorem dX8_isWord_50 : decode cX8_isWord 50 = .ok (.iload 5, 2) := by decide +kernel
theorem dX8_isWord_52 : decode cX8_isWord 52 = .ok (.imul, 1) := by decide +kernel
theorem dX8_isWord_53 : decode cX8_isWord 53 = .ok (.lshr, 1) := by decide +kernel
theorem dX8_isWord_54 : decode cX8_isWord 54 = .ok (.ldc2_w 85, 3) := by decide +kernel
theorem dX8_isWord_57 : decode cX8_isWord 57 = .ok (.land, 1) := by decide +kernel
theorem dX8_isWord_58 : decode cX8_isWord 58 = .ok (.l2i, 1) := by decide +kernel
theorem dX8_isWord_59 : decode cX8_isWord 59 = .ok (.iadd, 1) := by decide +kernel
theorem dX8_isWord_60 : decode cX8_isWord 60 = .ok (.if_icmp .ne 7, 3) := by decide +kernel
theorem dX8_isWord_63 : decode cX8_isWord 63 = .ok (.iconst 1, 1) := by decide +kernel
theorem dX8_isWord_64 : decode cX8_isWord 64 = .ok (.goto 4, 3) := by decide +kernel
theorem dX8_isWord_67 : decode cX8_isWord 67 = .ok (.iconst 0, 1) := by decide +kernel
theorem dX8_isWord_68 : decode cX8_isWord 68 = .ok (.istore 4, 2) := by decide +kernel
theorem dX8_isWord_70 : decode cX8_isWord 70 = .ok (.iinc 5 1, 3) := by decide +kernel
theorem dX8_isWord_73 : decode cX8_isWord 73 = .ok (.goto (-50), 3) := by decide +kernel
theorem dX8_isWord_76 : decode cX8_isWord 76 = .ok (.iload 4, 2) := by decide +kernel
theorem dX8_isWord_78 : decode cX8_isWord 78 = .ok (.ireturn, 1) := by decide +kernel
def Mo_isWord_L23 (w : Wd) (k76 : Int32 → Option Int32) : Nat → Int64 → Int32 → Int32 → Int32 → Option Int32
  | 0, _, _, _, _ => none
  | n + 1, v1, v3, v4, v5 => (if v4 = (0 : Int32) then (k76 v4) else (if v3 ≤ v5 then (k76 v4) else (if ib ((w.1 37 14) + v5) 200 = true then (Mo_isWord_L23 w k76 n v1 v3 (if (w.1 40 (Int32.toNatClampNeg ((w.1 37 14) + v5))) = ((96 : Int32) + (Int64.toInt32 ((v1 >>> (Int32.toInt64 ((5 : Int32) * v5) &&& (63 : Int64))) &&& (31 : Int64)))) then (1 : Int32) else (0 : Int32)) (v5 + (1 : Int32))) else none)))
set_option maxRecDepth 100000 in
set_option maxHeartbeats 4000000 in
theorem Mo_isWord_L23_ok {K : Ctx} (F : Fx K cX8_isWord 6 RX8 (some .boolean) 0 0 false [37, 40]) (w : Wd) {k76 : Int32 → Option Int32} (h76 : ∀ (v4 : Int32), N K (rtP w) (k76 v4) w 76 [(4, .int v4)] []) : ∀ (n : Nat) (v1 : Int64) (v3 : Int32) (v4 : Int32) (v5 : Int32), N K (rtP w) (Mo_isWord_L23 w k76 n v1 v3 v4 v5) w 23 [(0, .ref (gA (cg K) 37)), (1, .long v1), (3, .int v3), (4, .int v4), (5, .int v5)] [] := by
  intro n
  induction n with
  | zero => intro _ _ _ _; exact n_none
  | succ n ih =>
    intro v1 v3 v4 v5
    rw [Mo_isWord_L23]
    refine n_iload F dX8_isWord_23 3 rfl ?_
    refine n_if_eq F 76 dX8_isWord_25 (by decide) (fun e2 => ?_) (fun e2 => ?_)
    · rw [if_pos e2]
      exact n_sub [3] rfl (h76 _)
    rw [if_neg e2]
    refine n_iload F dX8_isWord_28 4 rfl ?_
    refine n_iload_n F dX8_isWord_30 rfl 2 rfl ?_
    refine n_icmp_ge F 76 dX8_isWord_31 (by decide) (fun e3 => ?_) (fun e3 => ?_)
    · rw [if_pos e3]
      exact n_sub [3] rfl (h76 _)
    rw [if_neg e3]
    refine n_aload_n F dX8_isWord_34 rfl 0 rfl ?_
    refine n_get F ck_8 lf_RX8_17 (by decide) fg_37_2 (by decide) dX8_isWord_35 ?_
    refine n_aload_n F dX8_isWord_38 rfl 0 rfl ?_
    refine n_get F ck_8 lf_RX8_75 (by decide) fg_37_14 (by decide) dX8_isWord_39 ?_
    refine n_iload F dX8_isWord_42 4 rfl ?_
    refine n_iadd F dX8_isWord_44 ?_
    refine n_chk (fun e4 => ?_)
    refine n_iald F ar_40 (by decide) (ib_in e4) rfl dX8_isWord_45 ?_
    refine n_bipush F (96 : Int32) dX8_isWord_46 (by decide) ?_
    refine n_lload_n F dX8_isWord_48 rfl 1 rfl ?_
    refine n_iconst F (5 : Int32) dX8_isWord_49 (by decide) ?_
    refine n_iload F dX8_isWord_50 4 rfl ?_
    refine n_imul F dX8_isWord_52 ?_
    refine n_lshr F dX8_isWord_53 ?_
    refine n_ldc2 F (31 : Int64) dX8_isWord_54 kc_RX8_85 ?_
    refine n_land F dX8_isWord_57 ?_
    refine n_l2i F dX8_isWord_58 ?_
    refine n_iadd F dX8_isWord_59 ?_
    refine n_icmp_ne F 67 dX8_isWord_60 (by decide) (fun e5 => ?_) (fun e5 => ?_)
    · rw [if_neg e5]
      refine n_iconst F (0 : Int32) dX8_isWord_67 (by decide) ?_
      refine n_istore F (lv' := [(4, .int (0 : Int32)), (0, .ref (gA (cg K) 37)), (1, .long v1), (3, .int v3), (5, .int v5)]) dX8_isWord_68 (by decide) rfl ?_
      refine n_iinc F (v5 + (1 : Int32)) (lv' := [(5, .int (v5 + (1 : Int32))), (4, .int (0 : Int32)), (0, .ref (gA (cg K) 37)), (1, .long v1), (3, .int v3)]) dX8_isWord_70 4 rfl rfl (by decide) rfl ?_
      refine n_goto F 23 dX8_isWord_73 (by decide) ?_
      exact n_sub [2, 3, 4, 1, 0] rfl (ih _ _ _ _)
    rw [if_pos e5]
    refine n_iconst F (1 : Int32) dX8_isWord_63 (by decide) ?_
    refine n_goto F 68 dX8_isWord_64 (by decide) ?_
    refine n_istore F (lv' := [(4, .int (1 : Int32)), (0, .ref (gA (cg K) 37)), (1, .long v1), (3, .int v3), (5, .int v5)]) dX8_isWord_68 (by decide) rfl ?_
    refine n_iinc F (v5 + (1 : Int32)) (lv' := [(5, .int (v5 + (1 : Int32))), (4, .int (1 : Int32)), (0, .ref (gA (cg K) 37)), (1, .long v1), (3, .int v3)]) dX8_isWord_70 4 rfl rfl (by decide) rfl ?_
    refine n_goto F 23 dX8_isWord_73 (by decide) ?_
    exact n_sub [2, 3, 4, 1, 0] rfl (ih _ _ _ _)
def Mo_isWord_B76 (w : Wd) (v4 : Int32) : Option Int32 := (if v4 &&& (1 : Int32) = v4 then some v4 else none)
set_option maxRecDepth 100000 in
set_option maxHeartbeats 4000000 in
theorem Mo_isWord_B76_ok {K : Ctx} (F : Fx K cX8_isWord 6 RX8 (some .boolean) 0 0 false [37, 40]) (w : Wd) (v4 : Int32) : N K (rtP w) (Mo_isWord_B76 w v4) w 76 [(4, .int v4)] [] := by
  rw [Mo_isWord_B76]
  refine n_iload F dX8_isWord_76 0 rfl ?_
  refine n_chk (fun e6 => ?_)
  exact n_zret F .boolean rfl (bz_n e6) rfl dX8_isWord_78
def Mo_isWord (w : Wd) (a1 : Int64) (a2 : Int32) : Option Int32 := (Mo_isWord_L23 w (Mo_isWord_B76 w) FU a1 a2 (if ((w.1 37 15) - (w.1 37 14)) = a2 then (1 : Int32) else (0 : Int32)) (0 : Int32))
set_option maxRecDepth 100000 in
set_option maxHeartbeats 4000000 in
theorem ct_Mo_isWord {l : Launch} {g : GG} {σ : Sd} (hg : OKg g σ) (hb : σ.2.1 = false) (hx : ∀ c ∈ ([37, 40] : List Nat), c ∈ σ.1) (w : Wd) (a1 : Int64) (a2 : Int32) {q : Int32} (hq : Mo_isWord w a1 a2 = some q) : CT l g σ yX8_isWord cX8_isWord 6 (some .boolean) 0 0 [.ref (gA g 37), .long a1, .int a2] w (some (.int q)) w := by
  refine ct_of (rt := (rtP w)) (res := Mo_isWord w a1 a2) (q := q) (own := RX8) (b := false) hg hb hx (by decide) rfl (Nat.le_of_ble_eq_true rfl) hq (fun K e1 e2 e3 F => ?_)
  subst e1 e2 e3
  rw [Mo_isWord]
  show N K _ _ w 0 [(0, .ref (gA (cg K) 37)), (1, .long a1), (3, .int a2)] []
  refine n_aload_n F dX8_isWord_0 rfl 0 rfl ?_
  refine n_get F ck_8 lf_RX8_82 (by decide) fg_37_15 (by decide) dX8_isWord_1 ?_
  refine n_aload_n F dX8_isWord_4 rfl 0 rfl ?_
  refine n_get F ck_8 lf_RX8_75 (by decide) fg_37_14 (by decide) dX8_isWord_5 ?_
  refine n_isub F dX8_isWord_8 ?_
  refine n_iload_n F dX8_isWord_9 rfl 2 rfl ?_
  refine n_icmp_ne F 17 dX8_isWord_10 (by decide) (fun e1 => ?_) (fun e1 => ?_)
  · rw [if_neg e1]
    refine n_iconst F (0 : Int32) dX8_isWord_17 (by decide) ?_
    refine n_istore F (lv' := [(4, .int (0 : Int32)), (0, .ref (gA (cg K) 37)), (1, .long a1), (3, .int a2)]) dX8_isWord_18 (by decide) rfl ?_
    refine n_iconst F (0 : Int32) dX8_isWord_20 (by decide) ?_
    refine n_istore F (lv' := [(5, .int (0 : Int32)), (4, .int (0 : Int32)), (0, .ref (gA (cg K) 37)), (1, .long a1), (3, .int a2)]) dX8_isWord_21 (by decide) rfl ?_
    exact n_sub [2, 3, 4, 1, 0] rfl (Mo_isWord_L23_ok F w (Mo_isWord_B76_ok F w) FU _ _ _ _)
  rw [if_pos e1]
  refine n_iconst F (1 : Int32) dX8_isWord_13 (by decide) ?_
  refine n_goto F 18 dX8_isWord_14 (by decide) ?_
  refine n_istore F (lv' := [(4, .int (1 : Int32)), (0, .ref (gA (cg K) 37)), (1, .long a1), (3, .int a2)]) dX8_isWord_18 (by decide) rfl ?_
  refine n_iconst F (0 : Int32) dX8_isWord_20 (by decide) ?_
  refine n_istore F (lv' := [(5, .int (0 : Int32)), (4, .int (1 : Int32)), (0, .ref (gA (cg K) 37)), (1, .long a1), (3, .int a2)]) dX8_isWord_21 (by decide) rfl ?_
  exact n_sub [2, 3, 4, 1, 0] rfl (Mo_isWord_L23_ok F w (Mo_isWord_B76_ok F w) FU _ _ _ _)
theorem dX8_wordOf_0 : decode cX8_wordOf 0 = .ok (.aload_n 0, 1) := by decide +kernel
theorem dX8_wordOf_1 : decode cX8_wordOf 1 = .ok (.ldc2_w 87, 3) := by decide +kernel
theorem dX8_wordOf_4 : decode cX8_wordOf 4 = .ok (.iconst 4, 1) := by decide +kernel
theorem dX8_wordOf_5 : decode cX8_wordOf 5 = .ok (.invokevirtual 89, 3) := by decide +kernel
theorem dX8_wordOf_8 : decode cX8_wordOf 8 = .ok (.ifCond .eq 7, 3) := by decide +kernel
theorem dX8_wordOf_11 : decode cX8_wordOf 11 = .ok (.iconst 0, 1) := by decide +kernel
theorem dX8_wordOf_12 : decode cX8_wordOf 12 = .ok (.goto 81, 3) := by decide +kernel
theorem dX8_wordOf_15 : decode cX8_wordOf 15 = .ok (.aload_n 0, 1) := by decide +kernel
theorem dX8_wordOf_16 : decode cX8_wordOf 16 = .ok (.ldc2_w 93, 3) := by decide +kernel
theorem dX8_wordOf_19 : decode cX8_wordOf 19 = .ok (.iconst 5, 1) := by decide +kernel
theorem dX8_wordOf_20 : decode cX8_wordOf 20 = .ok (.invokevirtual 89, 3) := by decide +kernel
theorem dX8_wordOf_23 : decode cX8_wordOf 23 = .ok (.ifCond .eq 7, 3) := by decide +kernel
theorem dX8_wordOf_26 : decode cX8_wordOf 26 = .ok (.iconst 1, 1) := by decide +kernel
theorem dX8_wordOf_27 : decode cX8_wordOf 27 = .ok (.goto 66, 3) := by decide +kernel
theorem dX8_wordOf_30 : decode cX8_wordOf 30 = .ok (.aload_n 0, 1) := by decide +kernel
theorem dX8_wordOf_31 : decode cX8_wordOf 31 = .ok (.ldc2_w 95, 3) := by decide +kernel
theorem dX8_wordOf_34 : decode cX8_wordOf 34 = .ok (.iconst 5, 1) := by decide +kernel
theorem dX8_wordOf_35 : decode cX8_wordOf 35 = .ok (.invokevirtual 89, 3) := by decide +kernel
theorem dX8_wordOf_38 : decode cX8_wordOf 38 = .ok (.ifCond .eq 7, 3) := by decide +kernel
theorem dX8_wordOf_41 : decode cX8_wordOf 41 = .ok (.iconst 2, 1) := by decide +kernel
theorem dX8_wordOf_42 : decode cX8_wordOf 42 = .ok (.goto 51, 3) := by decide +kernel
theorem dX8_wordOf_45 : decode cX8_wordOf 45 = .ok (.aload_n 0, 1) := by decide +kernel
theorem dX8_wordOf_46 : decode cX8_wordOf 46 = .ok (.ldc2_w 97, 3) := by decide +kernel
theorem dX8_wordOf_49 : decode cX8_wordOf 49 = .ok (.bipush 7, 2) := by decide +kernel
theorem dX8_wordOf_51 : decode cX8_wordOf 51 = .ok (.invokevirtual 89, 3) := by decide +kernel
theorem dX8_wordOf_54 : decode cX8_wordOf 54 = .ok (.ifCond .eq 7, 3) := by decide +kernel
theorem dX8_wordOf_57 : decode cX8_wordOf 57 = .ok (.iconst 3, 1) := by decide +kernel
theorem dX8_wordOf_58 : decode cX8_wordOf 58 = .ok (.goto 35, 3) := by decide +kernel
theorem dX8_wordOf_61 : decode cX8_wordOf 61 = .ok (.aload_n 0, 1) := by decide +kernel
theorem dX8_wordOf_62 : decode cX8_wordOf 62 = .ok (.ldc2_w 99, 3) := by decide +kernel
theorem dX8_wordOf_65 : decode cX8_wordOf 65 = .ok (.iconst 4, 1) := by decide +kernel
theorem dX8_wordOf_66 : decode cX8_wordOf 66 = .ok (.invokevirtual 89, 3) := by decide +kernel
theorem dX8_wordOf_69 : decode cX8_wordOf 69 = .ok (.ifCond .eq 7, 3) := by decide +kernel
theorem dX8_wordOf_72 : decode cX8_wordOf 72 = .ok (.iconst 4, 1) := by decide +kernel
theorem dX8_wordOf_73 : decode cX8_wordOf 73 = .ok (.goto 20, 3) := by decide +kernel
theorem dX8_wordOf_76 : decode cX8_wordOf 76 = .ok (.aload_n 0, 1) := by decide +kernel
theorem dX8_wordOf_77 : decode cX8_wordOf 77 = .ok (.ldc2_w 101, 3) := by decide +kernel
theorem dX8_wordOf_80 : decode cX8_wordOf 80 = .ok (.bipush 6, 2) := by decide +kernel
theorem dX8_wordOf_82 : decode cX8_wordOf 82 = .ok (.invokevirtual 89, 3) := by decide +kernel
theorem dX8_wordOf_85 : decode cX8_wordOf 85 = .ok (.ifCond .eq 7, 3) := by decide +kernel
theorem dX8_wordOf_88 : decode cX8_wordOf 88 = .ok (.iconst 5, 1) := by decide +kernel
theorem dX8_wordOf_89 : decode cX8_wordOf 89 = .ok (.goto 4, 3) := by decide +kernel
theorem dX8_wordOf_92 : decode cX8_wordOf 92 = .ok (.iconst (-1), 1) := by decide +kernel
theorem dX8_wordOf_93 : decode cX8_wordOf 93 = .ok (.ireturn, 1) := by decide +kernel
def Mo_wordOf (w : Wd) : Option Int32 := (Option.bind (Mo_isWord w (145452 : Int64) (4 : Int32)) (fun q1 => (if q1 = (0 : Int32) then (Option.bind (Mo_isWord w (14976596 : Int64) (5 : Int32)) (fun q3 => (if q3 = (0 : Int32) then (Option.bind (Mo_isWord w (21563027 : Int64) (5 : Int32)) (fun q5 => (if q5 = (0 : Int32) then (Option.bind (Mo_isWord w (21077790004 : Int64) (7 : Int32)) (fun q7 => (if q7 = (0 : Int32) then (Option.bind (Mo_isWord w (769299 : Int64) (4 : Int32)) (fun q9 => (if q9 = (0 : Int32) then (Option.bind (Mo_isWord w (609588403 : Int64) (6 : Int32)) (fun q11 => (if q11 = (0 : Int32) then some (-1 : Int32) else some (5 : Int32)))) else some (4 : Int32)))) else some (3 : Int32)))) else some (2 : Int32)))) else some (1 : Int32)))) else some (0 : Int32))))
set_option maxRecDepth 100000 in
set_option maxHeartbeats 4000000 in
theorem ct_Mo_wordOf {l : Launch} {g : GG} {σ : Sd} (hg : OKg g σ) (hb : σ.2.1 = false) (hx : ∀ c ∈ ([37, 40] : List Nat), c ∈ σ.1) (w : Wd) {q : Int32} (hq : Mo_wordOf w = some q) : CT l g σ yX8_wordOf cX8_wordOf 1 (some .int) 1 25 [.ref (gA g 37)] w (some (.int q)) w := by
  refine ct_of (rt := (rtP w)) (res := Mo_wordOf w) (q := q) (own := RX8) (b := false) hg hb hx (by decide) rfl (Nat.le_of_ble_eq_true rfl) hq (fun K e1 e2 e3 F => ?_)
  subst e1 e2 e3
  rw [Mo_wordOf]
  show N K _ _ w 0 [(0, .ref (gA (cg K) 37))] []
  refine n_aload_n F dX8_wordOf_0 rfl 0 rfl ?_
  refine n_ldc2 F (145452 : Int64) dX8_wordOf_1 kc_RX8_87 ?_
  refine n_iconst F (4 : Int32) dX8_wordOf_4 (by decide) ?_
  refine n_bind (fun q1 hq1 => ?_)
  refine n_callVi F cb_X8_isWord lm_RX8_89 ob_37 (by decide) ⟨_, _, rfl⟩ (ct_Mo_isWord (fx_ok F) (fx_sd F) (fx_ix F rfl) w (145452 : Int64) (4 : Int32) hq1) rfl rfl (Nat.le_of_ble_eq_true rfl) ⟨Nat.le_of_ble_eq_true rfl, Nat.le_of_ble_eq_true rfl⟩ dX8_wordOf_5 ?_
  refine n_if_eq F 15 dX8_wordOf_8 (by decide) (fun e2 => ?_) (fun e2 => ?_)
  · rw [if_pos e2]
    refine n_aload_n F dX8_wordOf_15 rfl 0 rfl ?_
    refine n_ldc2 F (14976596 : Int64) dX8_wordOf_16 kc_RX8_93 ?_
    refine n_iconst F (5 : Int32) dX8_wordOf_19 (by decide) ?_
    refine n_bind (fun q3 hq3 => ?_)
    refine n_callVi F cb_X8_isWord lm_RX8_89 ob_37 (by decide) ⟨_, _, rfl⟩ (ct_Mo_isWord (fx_ok F) (fx_sd F) (fx_ix F rfl) w (14976596 : Int64) (5 : Int32) hq3) rfl rfl (Nat.le_of_ble_eq_true rfl) ⟨Nat.le_of_ble_eq_true rfl, Nat.le_of_ble_eq_true rfl⟩ dX8_wordOf_20 ?_
    refine n_if_eq F 30 dX8_wordOf_23 (by decide) (fun e4 => ?_) (fun e4 => ?_)
    · rw [if_pos e4]
      refine n_aload_n F dX8_wordOf_30 rfl 0 rfl ?_
      refine n_ldc2 F (21563027 : Int64) dX8_wordOf_31 kc_RX8_95 ?_
      refine n_iconst F (5 : Int32) dX8_wordOf_34 (by decide) ?_
      refine n_bind (fun q5 hq5 => ?_)
      refine n_callVi F cb_X8_isWord lm_RX8_89 ob_37 (by decide) ⟨_, _, rfl⟩ (ct_Mo_isWord (fx_ok F) (fx_sd F) (fx_ix F rfl) w (21563027 : Int64) (5 : Int32) hq5) rfl rfl (Nat.le_of_ble_eq_true rfl) ⟨Nat.le_of_ble_eq_true rfl, Nat.le_of_ble_eq_true rfl⟩ dX8_wordOf_35 ?_
      refine n_if_eq F 45 dX8_wordOf_38 (by decide) (fun e6 => ?_) (fun e6 => ?_)
      · rw [if_pos e6]
        refine n_aload_n F dX8_wordOf_45 rfl 0 rfl ?_
        refine n_ldc2 F (21077790004 : Int64) dX8_wordOf_46 kc_RX8_97 ?_
        refine n_bipush F (7 : Int32) dX8_wordOf_49 (by decide) ?_
        refine n_bind (fun q7 hq7 => ?_)
        refine n_callVi F cb_X8_isWord lm_RX8_89 ob_37 (by decide) ⟨_, _, rfl⟩ (ct_Mo_isWord (fx_ok F) (fx_sd F) (fx_ix F rfl) w (21077790004 : Int64) (7 : Int32) hq7) rfl rfl (Nat.le_of_ble_eq_true rfl) ⟨Nat.le_of_ble_eq_true rfl, Nat.le_of_ble_eq_true rfl⟩ dX8_wordOf_51 ?_
        refine n_if_eq F 61 dX8_wordOf_54 (by decide) (fun e8 => ?_) (fun e8 => ?_)
        · rw [if_pos e8]
          refine n_aload_n F dX8_wordOf_61 rfl 0 rfl ?_
          refine n_ldc2 F (769299 : Int64) dX8_wordOf_62 kc_RX8_99 ?_
          refine n_iconst F (4 : Int32) dX8_wordOf_65 (by decide) ?_
          refine n_bind (fun q9 hq9 => ?_)
          refine n_callVi F cb_X8_isWord lm_RX8_89 ob_37 (by decide) ⟨_, _, rfl⟩ (ct_Mo_isWord (fx_ok F) (fx_sd F) (fx_ix F rfl) w (769299 : Int64) (4 : Int32) hq9) rfl rfl (Nat.le_of_ble_eq_true rfl) ⟨Nat.le_of_ble_eq_true rfl, Nat.le_of_ble_eq_true rfl⟩ dX8_wordOf_66 ?_
          refine n_if_eq F 76 dX8_wordOf_69 (by decide) (fun e10 => ?_) (fun e10 => ?_)
          · rw [if_pos e10]
            refine n_aload_n F dX8_wordOf_76 rfl 0 rfl ?_
            refine n_ldc2 F (609588403 : Int64) dX8_wordOf_77 kc_RX8_101 ?_
            refine n_bipush F (6 : Int32) dX8_wordOf_80 (by decide) ?_
            refine n_bind (fun q11 hq11 => ?_)
            refine n_callVi F cb_X8_isWord lm_RX8_89 ob_37 (by decide) ⟨_, _, rfl⟩ (ct_Mo_isWord (fx_ok F) (fx_sd F) (fx_ix F rfl) w (609588403 : Int64) (6 : Int32) hq11) rfl rfl (Nat.le_of_ble_eq_true rfl) ⟨Nat.le_of_ble_eq_true rfl, Nat.le_of_ble_eq_true rfl⟩ dX8_wordOf_82 ?_
            refine n_if_eq F 92 dX8_wordOf_85 (by decide) (fun e12 => ?_) (fun e12 => ?_)
            · rw [if_pos e12]
              refine n_iconst F (-1 : Int32) dX8_wordOf_92 (by decide) ?_
              exact n_iret F rfl rfl dX8_wordOf_93
            rw [if_neg e12]
            refine n_iconst F (5 : Int32) dX8_wordOf_88 (by decide) ?_
            refine n_goto F 93 dX8_wordOf_89 (by decide) ?_
            exact n_iret F rfl rfl dX8_wordOf_93
          rw [if_neg e10]
          refine n_iconst F (4 : Int32) dX8_wordOf_72 (by decide) ?_
          refine n_goto F 93 dX8_wordOf_73 (by decide) ?_
          exact n_iret F rfl rfl dX8_wordOf_93
        rw [if_neg e8]
        refine n_iconst F (3 : Int32) dX8_wordOf_57 (by decide) ?_
        refine n_goto F 93 dX8_wordOf_58 (by decide) ?_
        exact n_iret F rfl rfl dX8_wordOf_93
      rw [if_neg e6]
      refine n_iconst F (2 : Int32) dX8_wordOf_41 (by decide) ?_
      refine n_goto F 93 dX8_wordOf_42 (by decide) ?_
      exact n_iret F rfl rfl dX8_wordOf_93
    rw [if_neg e4]
    refine n_iconst F (1 : Int32) dX8_wordOf_26 (by decide) ?_
    refine n_goto F 93 dX8_wordOf_27 (by decide) ?_
    exact n_iret F rfl rfl dX8_wordOf_93
  rw [if_neg e2]
  refine n_iconst F (0 : Int32) dX8_wordOf_11 (by decide) ?_
  refine n_goto F 93 dX8_wordOf_12 (by decide) ?_
  exact n_iret F rfl rfl dX8_wordOf_93
theorem dX8_reads_0 : decode cX8_reads 0 = .ok (.aload_n 0, 1) := by decide +kernel
theorem dX8_reads_1 : decode cX8_reads 1 = .ok (.getfield 75, 3) := by decide +kernel
theorem dX8_reads_4 : decode cX8_reads 4 = .ok (.aload_n 0, 1) := by decide +kernel
theorem dX8_reads_5 : decode cX8_reads 5 = .ok (.getfield 67, 3) := by decide +kernel
theorem dX8_reads_8 : decode cX8_reads 8 = .ok (.if_icmp .eq 32, 3) := by decide +kernel
theorem dX8_reads_11 : decode cX8_reads 11 = .ok (.aload_n 0, 1) := by decide +kernel
theorem dX8_reads_12 : decode cX8_reads 12 = .ok (.getfield 17, 3) := by decide +kernel
theorem dX8_reads_15 : decode cX8_reads 15 = .ok (.aload_n 0, 1) := by decide +kernel
theorem dX8_reads_16 : decode cX8_reads 16 = .ok (.getfield 75, 3) := by decide +kernel
theorem dX8_reads_19 : decode cX8_reads 19 = .ok (.iaload, 1) := by decide +kernel
theorem dX8_reads_20 : decode cX8_reads 20 = .ok (.invokestatic 78, 3) := by decide +kernel
theorem dX8_reads_23 : decode cX8_reads 23 = .ok (.iconst 2, 1) := by decide +kernel
theorem dX8_reads_24 : decode cX8_reads 24 = .ok (.if_icmp .ne 16, 3) := by decide +kernel
theorem dX8_reads_27 : decode cX8_reads 27 = .ok (.aload_n 0, 1) := by decide +kernel
theorem dX8_reads_28 : decode cX8_reads 28 = .ok (.getfield 82, 3) := by decide +kernel
theorem dX8_reads_31 : decode cX8_reads 31 = .ok (.aload_n 0, 1) := by decide +kernel
theorem dX8_reads_32 : decode cX8_reads 32 = .ok (.getfield 75, 3) := by decide +kernel
theorem dX8_reads_35 : decode cX8_reads 35 = .ok (.isub, 1) := by decide +kernel
theorem dX8_reads_36 : decode cX8_reads 36 = .ok (.iconst 2, 1) := by decide +kernel
theorem dX8_reads_37 : decode cX8_reads 37 = .ok (.if_icmp .le 5, 3) := by decide +kernel
theorem dX8_reads_40 : decode cX8_reads 40 = .ok (.iconst 0, 1) := by decide +kernel
theorem dX8_reads_41 : decode cX8_reads 41 = .ok (.ireturn, 1) := by decide +kernel
theorem dX8_reads_42 : decode cX8_reads 42 = .ok (.iconst 0, 1) := by decide +kernel
theorem dX8_reads_43 : decode cX8_reads 43 = .ok (.istore 5, 2) := by decide +kernel
theorem dX8_reads_45 : decode cX8_reads 45 = .ok (.aload_n 0, 1) := by decide +kernel
theorem dX8_reads_46 : decode cX8_reads 46 = .ok (.getfield 75, 3) := by decide +kernel
theorem dX8_reads_49 : decode cX8_reads 49 = .ok (.istore 6, 2) := by decide +kernel
theorem dX8_reads_51 : decode cX8_reads 51 = .ok (.iload 6, 2) := by decide +kernel
theorem dX8_reads_53 : decode cX8_reads 53 = .ok (.aload_n 0, 1) := by decide +kernel
theorem dX8_reads_54 : decode cX8_reads 54 = .ok (.getfield 82, 3) := by decide +kernel
theorem dX8_reads_57 : decode cX8_reads 57 = .ok (.if_icmp .ge 27, 3) := by decide +kernel
theorem dX8_reads_60 : decode cX8_reads 60 = .ok (.bipush 10, 2) := by decide +kernel
theorem dX8_reads_62 : decode cX8_reads 62 = .ok (.iload 5, 2) := by decide +kernel
theorem dX8_reads_64 : decode cX8_reads 64 = .ok (.imul, 1) := by decide +kernel
theorem dX8_reads_65 : decode cX8_reads 65 = .ok (.aload_n 0, 1) := by decide +kernel
theorem dX8_reads_66 : decode cX8_reads 66 = .ok (.getfield 17, 3) := by decide +kernel
theorem dX8_reads_69 : decode cX8_reads 69 = .ok (.iload 6, 2) := by decide +kernel
theorem dX8_reads_71 : decode cX8_reads 71 = .ok (.iaload, 1) := by decide +kernel
theorem dX8_reads_72 : decode cX8_reads 72 = .ok (.iadd, 1) := by decide +kernel
theorem dX8_reads_73 : decode cX8_reads 73 = .ok (.bipush 48, 2) := by decide +kernel
theorem dX8_reads_75 : decode cX8_reads 75 = .ok (.isub, 1) := by decide +kernel
theorem dX8_reads_76 : decode cX8_reads 76 = .ok (.istore 5, 2) := by decide +kernel
theorem dX8_reads_78 : decode cX8_reads 78 = .ok (.iinc 6 1, 3) := by decide +kernel
theorem dX8_reads_81 : decode cX8_reads 81 = .ok (.goto (-30), 3) := by decide +kernel
theorem dX8_reads_84 : decode cX8_reads 84 = .ok (.iload 5, 2) := by decide +kernel
theorem dX8_reads_86 : decode cX8_reads 86 = .ok (.i2l, 1) := by decide +kernel
theorem dX8_reads_87 : decode cX8_reads 87 = .ok (.iload_n 2, 1) := by decide +kernel
theorem dX8_reads_88 : decode cX8_reads 88 = .ok (.i2l, 1) := by decide +kernel
theorem dX8_reads_89 : decode cX8_reads 89 = .ok (.iload_n 3, 1) := by decide +kernel
theorem dX8_reads_90 : decode cX8_reads 90 = .ok (.i2l, 1) := by decide +kernel
theorem dX8_reads_91 : decode cX8_reads 91 = .ok (.invokestatic 63, 3) := by decide +kernel
theorem dX8_reads_94 : decode cX8_reads 94 = .ok (.ifCond .eq 10, 3) := by decide +kernel
theorem dX8_reads_97 : decode cX8_reads 97 = .ok (.iload 5, 2) := by decide +kernel
theorem dX8_reads_99 : decode cX8_reads 99 = .ok (.iload 4, 2) := by decide +kernel
theorem dX8_reads_101 : decode cX8_reads 101 = .ok (.if_icmp .ne 5, 3) := by decide +kernel
theorem dX8_reads_104 : decode cX8_reads 104 = .ok (.iconst 0, 1) := by decide +kernel
theorem dX8_reads_105 : decode cX8_reads 105 = .ok (.ireturn, 1) := by decide +kernel
theorem dX8_reads_106 : decode cX8_reads 106 = .ok (.aload_n 0, 1) := by decide +kernel
theorem dX8_reads_107 : decode cX8_reads 107 = .ok (.getfield 20, 3) := by decide +kernel
theorem dX8_reads_110 : decode cX8_reads 110 = .ok (.bipush 7, 2) := by decide +kernel
theorem dX8_reads_112 : decode cX8_reads 112 = .ok (.aload_n 0, 1) := by decide +kernel
theorem dX8_reads_113 : decode cX8_reads 113 = .ok (.getfield 103, 3) := by decide +kernel
theorem dX8_reads_116 : decode cX8_reads 116 = .ok (.imul, 1) := by decide +kernel
theorem dX8_reads_117 : decode cX8_reads 117 = .ok (.iconst 1, 1) := by decide +kernel
theorem dX8_reads_118 : decode cX8_reads 118 = .ok (.iadd, 1) := by decide +kernel
theorem dX8_reads_119 : decode cX8_reads 119 = .ok (.iload_n 1, 1) := by decide +kernel
theorem dX8_reads_120 : decode cX8_reads 120 = .ok (.iadd, 1) := by decide +kernel
theorem dX8_reads_121 : decode cX8_reads 121 = .ok (.iload 5, 2) := by decide +kernel
theorem dX8_reads_123 : decode cX8_reads 123 = .ok (.iastore, 1) := by decide +kernel
theorem dX8_reads_124 : decode cX8_reads 124 = .ok (.aload_n 0, 1) := by decide +kernel
theorem dX8_reads_125 : decode cX8_reads 125 = .ok (.invokevirtual 106, 3) := by decide +kernel
theorem dX8_reads_128 : decode cX8_reads 128 = .ok (.iconst 1, 1) := by decide +kernel
theorem dX8_reads_129 : decode cX8_reads 129 = .ok (.ireturn, 1) := by decide +kernel
def Mo_reads_L51 (k84 : Wd → Int32 → Int32 → Int32 → Int32 → Int32 → Option (Int32 × Wd)) : Nat → Wd → Int32 → Int32 → Int32 → Int32 → Int32 → Int32 → Option (Int32 × Wd)
  | 0, _, _, _, _, _, _, _ => none
  | n + 1, w, v1, v2, v3, v4, v5, v6 => (if (w.1 37 15) ≤ v6 then (k84 w v1 v2 v3 v4 v5) else (if ib v6 200 = true then (Mo_reads_L51 k84 n w v1 v2 v3 v4 ((((10 : Int32) * v5) + (w.1 40 (Int32.toNatClampNeg v6))) - (48 : Int32)) (v6 + (1 : Int32))) else none))
set_option maxRecDepth 100000 in
set_option maxHeartbeats 4000000 in
theorem Mo_reads_L51_ok {K : Ctx} (F : Fx K cX8_reads 7 RX8 (some .boolean) 2 40 false [37, 40, 41]) {k84 : Wd → Int32 → Int32 → Int32 → Int32 → Int32 → Option (Int32 × Wd)} (h84 : ∀ (w : Wd) (v1 : Int32) (v2 : Int32) (v3 : Int32) (v4 : Int32) (v5 : Int32), N K rtI (k84 w v1 v2 v3 v4 v5) w 84 [(0, .ref (gA (cg K) 37)), (1, .int v1), (2, .int v2), (3, .int v3), (4, .int v4), (5, .int v5)] []) : ∀ (n : Nat) (w : Wd) (v1 : Int32) (v2 : Int32) (v3 : Int32) (v4 : Int32) (v5 : Int32) (v6 : Int32), N K rtI (Mo_reads_L51 k84 n w v1 v2 v3 v4 v5 v6) w 51 [(0, .ref (gA (cg K) 37)), (1, .int v1), (2, .int v2), (3, .int v3), (4, .int v4), (5, .int v5), (6, .int v6)] [] := by
  intro n
  induction n with
  | zero => intro _ _ _ _ _ _ _; exact n_none
  | succ n ih =>
    intro w v1 v2 v3 v4 v5 v6
    rw [Mo_reads_L51]
    refine n_iload F dX8_reads_51 6 rfl ?_
    refine n_aload_n F dX8_reads_53 rfl 0 rfl ?_
    refine n_get F ck_8 lf_RX8_82 (by decide) fg_37_15 (by decide) dX8_reads_54 ?_
    refine n_icmp_ge F 84 dX8_reads_57 (by decide) (fun e5 => ?_) (fun e5 => ?_)
    · rw [if_pos e5]
      exact n_sub [0, 1, 2, 3, 4, 5] rfl (h84 _ _ _ _ _ _)
    rw [if_neg e5]
    refine n_bipush F (10 : Int32) dX8_reads_60 (by decide) ?_
    refine n_iload F dX8_reads_62 5 rfl ?_
    refine n_imul F dX8_reads_64 ?_
    refine n_aload_n F dX8_reads_65 rfl 0 rfl ?_
    refine n_get F ck_8 lf_RX8_17 (by decide) fg_37_2 (by decide) dX8_reads_66 ?_
    refine n_iload F dX8_reads_69 6 rfl ?_
    refine n_chk (fun e6 => ?_)
    refine n_iald F ar_40 (by decide) (ib_in e6) rfl dX8_reads_71 ?_
    refine n_iadd F dX8_reads_72 ?_
    refine n_bipush F (48 : Int32) dX8_reads_73 (by decide) ?_
    refine n_isub F dX8_reads_75 ?_
    refine n_istore F (lv' := [(5, .int ((((10 : Int32) * v5) + (w.1 40 (Int32.toNatClampNeg v6))) - (48 : Int32))), (0, .ref (gA (cg K) 37)), (1, .int v1), (2, .int v2), (3, .int v3), (4, .int v4), (6, .int v6)]) dX8_reads_76 (by decide) rfl ?_
    refine n_iinc F (v6 + (1 : Int32)) (lv' := [(6, .int (v6 + (1 : Int32))), (5, .int ((((10 : Int32) * v5) + (w.1 40 (Int32.toNatClampNeg v6))) - (48 : Int32))), (0, .ref (gA (cg K) 37)), (1, .int v1), (2, .int v2), (3, .int v3), (4, .int v4)]) dX8_reads_78 6 rfl rfl (by decide) rfl ?_
    refine n_goto F 51 dX8_reads_81 (by decide) ?_
    exact n_sub [2, 3, 4, 5, 6, 1, 0] rfl (ih _ _ _ _ _ _ _)
def Mo_reads_B84 (w : Wd) (v1 : Int32) (v2 : Int32) (v3 : Int32) (v4 : Int32) (v5 : Int32) : Option (Int32 × Wd) := (if (Mo_in w (Int32.toInt64 v5) (Int32.toInt64 v2) (Int32.toInt64 v3)) = (0 : Int32) then some ((0 : Int32), w) else (if v5 = v4 then some ((0 : Int32), w) else (if ib ((((7 : Int32) * (w.1 37 5)) + (1 : Int32)) + v1) 70 = true then (Option.bind (Mo_token (sI w 41 (Int32.toNatClampNeg ((((7 : Int32) * (w.1 37 5)) + (1 : Int32)) + v1)) v5)) (fun q10 => some ((1 : Int32), q10))) else none)))
set_option maxRecDepth 100000 in
set_option maxHeartbeats 4000000 in
theorem Mo_reads_B84_ok {K : Ctx} (F : Fx K cX8_reads 7 RX8 (some .boolean) 2 40 false [37, 40, 41]) (w : Wd) (v1 : Int32) (v2 : Int32) (v3 : Int32) (v4 : Int32) (v5 : Int32) : N K rtI (Mo_reads_B84 w v1 v2 v3 v4 v5) w 84 [(0, .ref (gA (cg K) 37)), (1, .int v1), (2, .int v2), (3, .int v3), (4, .int v4), (5, .int v5)] [] := by
  rw [Mo_reads_B84]
  refine n_iload F dX8_reads_84 5 rfl ?_
  refine n_i2l F dX8_reads_86 ?_
  refine n_iload_n F dX8_reads_87 rfl 2 rfl ?_
  refine n_i2l F dX8_reads_88 ?_
  refine n_iload_n F dX8_reads_89 rfl 3 rfl ?_
  refine n_i2l F dX8_reads_90 ?_
  refine n_callSi F cb_X8_in lm_RX8_63 (ct_Mo_in (fx_ok F) (fx_sd F) (fx_ix F rfl) w (Int32.toInt64 v5) (Int32.toInt64 v2) (Int32.toInt64 v3)) rfl rfl (Nat.le_of_ble_eq_true rfl) ⟨Nat.le_of_ble_eq_true rfl, Nat.le_of_ble_eq_true rfl⟩ dX8_reads_91 ?_
  refine n_if_eq F 104 dX8_reads_94 (by decide) (fun e7 => ?_) (fun e7 => ?_)
  · rw [if_pos e7]
    refine n_iconst F (0 : Int32) dX8_reads_104 (by decide) ?_
    exact n_zret F .boolean rfl rfl rfl dX8_reads_105
  rw [if_neg e7]
  refine n_iload F dX8_reads_97 5 rfl ?_
  refine n_iload F dX8_reads_99 4 rfl ?_
  refine n_icmp_ne F 106 dX8_reads_101 (by decide) (fun e8 => ?_) (fun e8 => ?_)
  · rw [if_neg e8]
    refine n_aload_n F dX8_reads_106 rfl 0 rfl ?_
    refine n_get F ck_8 lf_RX8_20 (by decide) fg_37_4 (by decide) dX8_reads_107 ?_
    refine n_bipush F (7 : Int32) dX8_reads_110 (by decide) ?_
    refine n_aload_n F dX8_reads_112 rfl 0 rfl ?_
    refine n_get F ck_8 lf_RX8_103 (by decide) fg_37_5 (by decide) dX8_reads_113 ?_
    refine n_imul F dX8_reads_116 ?_
    refine n_iconst F (1 : Int32) dX8_reads_117 (by decide) ?_
    refine n_iadd F dX8_reads_118 ?_
    refine n_iload_n F dX8_reads_119 rfl 1 rfl ?_
    refine n_iadd F dX8_reads_120 ?_
    refine n_iload F dX8_reads_121 5 rfl ?_
    refine n_chk (fun e9 => ?_)
    refine n_iast F ar_41 (by decide) (ib_in e9) rfl dX8_reads_123 ?_
    refine n_aload_n F dX8_reads_124 rfl 0 rfl ?_
    refine n_bind (fun q10 hq10 => ?_)
    refine n_callVv F cb_X8_token lm_RX8_106 ob_37 (by decide) ⟨_, _, rfl⟩ (ct_Mo_token (fx_ok F) (fx_sd F) (fx_ix F rfl) (sI w 41 (Int32.toNatClampNeg ((((7 : Int32) * (w.1 37 5)) + (1 : Int32)) + v1)) v5) hq10) rfl rfl (Nat.le_of_ble_eq_true rfl) ⟨Nat.le_of_ble_eq_true rfl, Nat.le_of_ble_eq_true rfl⟩ dX8_reads_125 ?_
    refine n_iconst F (1 : Int32) dX8_reads_128 (by decide) ?_
    exact n_zret F .boolean rfl rfl rfl dX8_reads_129
  rw [if_pos e8]
  refine n_iconst F (0 : Int32) dX8_reads_104 (by decide) ?_
  exact n_zret F .boolean rfl rfl rfl dX8_reads_105
def Mo_reads (w : Wd) (a1 : Int32) (a2 : Int32) (a3 : Int32) (a4 : Int32) : Option (Int32 × Wd) := (if (w.1 37 14) = (w.1 37 3) then some ((0 : Int32), w) else (if ib (w.1 37 14) 200 = true then (if (Mo_sort w (w.1 40 (Int32.toNatClampNeg (w.1 37 14)))) = (2 : Int32) then (if ((w.1 37 15) - (w.1 37 14)) ≤ (2 : Int32) then (Mo_reads_L51 Mo_reads_B84 FU w a1 a2 a3 a4 (0 : Int32) (w.1 37 14)) else some ((0 : Int32), w)) else some ((0 : Int32), w)) else none))
set_option maxRecDepth 100000 in
set_option maxHeartbeats 4000000 in
theorem ct_Mo_reads {l : Launch} {g : GG} {σ : Sd} (hg : OKg g σ) (hb : σ.2.1 = false) (hx : ∀ c ∈ ([37, 40, 41] : List Nat), c ∈ σ.1) (w : Wd) (a1 : Int32) (a2 : Int32) (a3 : Int32) (a4 : Int32) {q : Int32 × Wd} (hq : Mo_reads w a1 a2 a3 a4 = some q) : CT l g σ yX8_reads cX8_reads 7 (some .boolean) 2 40 [.ref (gA g 37), .int a1, .int a2, .int a3, .int a4] w (some (.int q.1)) q.2 := by
  refine ct_of (rt := rtI) (res := Mo_reads w a1 a2 a3 a4) (q := q) (own := RX8) (b := false) hg hb hx (by decide) rfl (Nat.le_of_ble_eq_true rfl) hq (fun K e1 e2 e3 F => ?_)
  subst e1 e2 e3
  rw [Mo_reads]
  show N K _ _ w 0 [(0, .ref (gA (cg K) 37)), (1, .int a1), (2, .int a2), (3, .int a3), (4, .int a4)] []
  refine n_aload_n F dX8_reads_0 rfl 0 rfl ?_
  refine n_get F ck_8 lf_RX8_75 (by decide) fg_37_14 (by decide) dX8_reads_1 ?_
  refine n_aload_n F dX8_reads_4 rfl 0 rfl ?_
  refine n_get F ck_8 lf_RX8_67 (by decide) fg_37_3 (by decide) dX8_reads_5 ?_
  refine n_icmp_eq F 40 dX8_reads_8 (by decide) (fun e1 => ?_) (fun e1 => ?_)
  · rw [if_pos e1]
    refine n_iconst F (0 : Int32) dX8_reads_40 (by decide) ?_
    exact n_zret F .boolean rfl rfl rfl dX8_reads_41
  rw [if_neg e1]
  refine n_aload_n F dX8_reads_11 rfl 0 rfl ?_
  refine n_get F ck_8 lf_RX8_17 (by decide) fg_37_2 (by decide) dX8_reads_12 ?_
  refine n_aload_n F dX8_reads_15 rfl 0 rfl ?_
  refine n_get F ck_8 lf_RX8_75 (by decide) fg_37_14 (by decide) dX8_reads_16 ?_
  refine n_chk (fun e2 => ?_)
  refine n_iald F ar_40 (by decide) (ib_in e2) rfl dX8_reads_19 ?_
  refine n_callSi F cb_X8_sort lm_RX8_78 (ct_Mo_sort (fx_ok F) (fx_sd F) (fx_ix F rfl) w (w.1 40 (Int32.toNatClampNeg (w.1 37 14)))) rfl rfl (Nat.le_of_ble_eq_true rfl) ⟨Nat.le_of_ble_eq_true rfl, Nat.le_of_ble_eq_true rfl⟩ dX8_reads_20 ?_
  refine n_iconst F (2 : Int32) dX8_reads_23 (by decide) ?_
  refine n_icmp_ne F 40 dX8_reads_24 (by decide) (fun e3 => ?_) (fun e3 => ?_)
  · rw [if_neg e3]
    refine n_iconst F (0 : Int32) dX8_reads_40 (by decide) ?_
    exact n_zret F .boolean rfl rfl rfl dX8_reads_41
  rw [if_pos e3]
  refine n_aload_n F dX8_reads_27 rfl 0 rfl ?_
  refine n_get F ck_8 lf_RX8_82 (by decide) fg_37_15 (by decide) dX8_reads_28 ?_
  refine n_aload_n F dX8_reads_31 rfl 0 rfl ?_
  refine n_get F ck_8 lf_RX8_75 (by decide) fg_37_14 (by decide) dX8_reads_32 ?_
  refine n_isub F dX8_reads_35 ?_
  refine n_iconst F (2 : Int32) dX8_reads_36 (by decide) ?_
  refine n_icmp_le F 42 dX8_reads_37 (by decide) (fun e4 => ?_) (fun e4 => ?_)
  · rw [if_pos e4]
    refine n_iconst F (0 : Int32) dX8_reads_42 (by decide) ?_
    refine n_istore F (lv' := [(5, .int (0 : Int32)), (0, .ref (gA (cg K) 37)), (1, .int a1), (2, .int a2), (3, .int a3), (4, .int a4)]) dX8_reads_43 (by decide) rfl ?_
    refine n_aload_n F dX8_reads_45 rfl 1 rfl ?_
    refine n_get F ck_8 lf_RX8_75 (by decide) fg_37_14 (by decide) dX8_reads_46 ?_
    refine n_istore F (lv' := [(6, .int (w.1 37 14)), (5, .int (0 : Int32)), (0, .ref (gA (cg K) 37)), (1, .int a1), (2, .int a2), (3, .int a3), (4, .int a4)]) dX8_reads_49 (by decide) rfl ?_
    exact n_sub [2, 3, 4, 5, 6, 1, 0] rfl (Mo_reads_L51_ok F (Mo_reads_B84_ok F) FU _ _ _ _ _ _ _)
  rw [if_neg e4]
  refine n_iconst F (0 : Int32) dX8_reads_40 (by decide) ?_
  exact n_zret F .boolean rfl rfl rfl dX8_reads_41
theorem dX8_readsTrain_0 : decode cX8_readsTrain 0 = .ok (.bipush 7, 2) := by decide +kernel
theorem dX8_readsTrain_2 : decode cX8_readsTrain 2 = .ok (.aload_n 0, 1) := by decide +kernel
theorem dX8_readsTrain_3 : decode cX8_readsTrain 3 = .ok (.getfield 103, 3) := by decide +kernel
theorem dX8_readsTrain_6 : decode cX8_readsTrain 6 = .ok (.imul, 1) := by decide +kernel
theorem dX8_readsTrain_7 : decode cX8_readsTrain 7 = .ok (.iconst 1, 1) := by decide +kernel
theorem dX8_readsTrain_8 : decode cX8_readsTrain 8 = .ok (.iadd, 1) := by decide +kernel
theorem dX8_readsTrain_9 : decode cX8_readsTrain 9 = .ok (.istore_n 1, 1) := by decide +kernel
theorem dX8_readsTrain_10 : decode cX8_readsTrain 10 = .ok (.aload_n 0, 1) := by decide +kernel
theorem dX8_readsTrain_11 : decode cX8_readsTrain 11 = .ok (.getfield 109, 3) := by decide +kernel
theorem dX8_readsTrain_14 : decode cX8_readsTrain 14 = .ok (.iconst 1, 1) := by decide +kernel
theorem dX8_readsTrain_15 : decode cX8_readsTrain 15 = .ok (.isub, 1) := by decide +kernel
theorem dX8_readsTrain_16 : decode cX8_readsTrain 16 = .ok (.istore_n 2, 1) := by decide +kernel
theorem dX8_readsTrain_17 : decode cX8_readsTrain 17 = .ok (.aload_n 0, 1) := by decide +kernel
theorem dX8_readsTrain_18 : decode cX8_readsTrain 18 = .ok (.iconst 0, 1) := by decide +kernel
theorem dX8_readsTrain_19 : decode cX8_readsTrain 19 = .ok (.iconst 0, 1) := by decide +kernel
theorem dX8_readsTrain_20 : decode cX8_readsTrain 20 = .ok (.iload_n 2, 1) := by decide +kernel
theorem dX8_readsTrain_21 : decode cX8_readsTrain 21 = .ok (.iconst (-1), 1) := by decide +kernel
theorem dX8_readsTrain_22 : decode cX8_readsTrain 22 = .ok (.invokevirtual 112, 3) := by decide +kernel
theorem dX8_readsTrain_25 : decode cX8_readsTrain 25 = .ok (.ifCond .eq 76, 3) := by decide +kernel
theorem dX8_readsTrain_28 : decode cX8_readsTrain 28 = .ok (.aload_n 0, 1) := by decide +kernel
theorem dX8_readsTrain_29 : decode cX8_readsTrain 29 = .ok (.iconst 1, 1) := by decide +kernel
theorem dX8_readsTrain_30 : decode cX8_readsTrain 30 = .ok (.iconst 0, 1) := by decide +kernel
theorem dX8_readsTrain_31 : decode cX8_readsTrain 31 = .ok (.iload_n 2, 1) := by decide +kernel
theorem dX8_readsTrain_32 : decode cX8_readsTrain 32 = .ok (.aload_n 0, 1) := by decide +kernel
theorem dX8_readsTrain_33 : decode cX8_readsTrain 33 = .ok (.getfield 20, 3) := by decide +kernel
theorem dX8_readsTrain_36 : decode cX8_readsTrain 36 = .ok (.iload_n 1, 1) := by decide +kernel
theorem dX8_readsTrain_37 : decode cX8_readsTrain 37 = .ok (.iaload, 1) := by decide +kernel
theorem dX8_readsTrain_38 : decode cX8_readsTrain 38 = .ok (.invokevirtual 112, 3) := by decide +kernel
theorem dX8_readsTrain_41 : decode cX8_readsTrain 41 = .ok (.ifCond .eq 60, 3) := by decide +kernel
theorem dX8_readsTrain_44 : decode cX8_readsTrain 44 = .ok (.aload_n 0, 1) := by decide +kernel
theorem dX8_readsTrain_45 : decode cX8_readsTrain 45 = .ok (.iconst 2, 1) := by decide +kernel
theorem dX8_readsTrain_46 : decode cX8_readsTrain 46 = .ok (.iconst 1, 1) := by decide +kernel
theorem dX8_readsTrain_47 : decode cX8_readsTrain 47 = .ok (.iconst 4, 1) := by decide +kernel
theorem dX8_readsTrain_48 : decode cX8_readsTrain 48 = .ok (.iconst (-1), 1) := by decide +kernel
theorem dX8_readsTrain_49 : decode cX8_readsTrain 49 = .ok (.invokevirtual 112, 3) := by decide +kernel
theorem dX8_readsTrain_52 : decode cX8_readsTrain 52 = .ok (.ifCond .eq 49, 3) := by decide +kernel
theorem dX8_readsTrain_55 : decode cX8_readsTrain 55 = .ok (.aload_n 0, 1) := by decide +kernel
theorem dX8_readsTrain_56 : decode cX8_readsTrain 56 = .ok (.iconst 3, 1) := by decide +kernel
theorem dX8_readsTrain_57 : decode cX8_readsTrain 57 = .ok (.iconst 0, 1) := by decide +kernel
theorem dX8_readsTrain_58 : decode cX8_readsTrain 58 = .ok (.aload_n 0, 1) := by decide +kernel
theorem dX8_readsTrain_59 : decode cX8_readsTrain 59 = .ok (.getfield 20, 3) := by decide +kernel
theorem dX8_readsTrain_62 : decode cX8_readsTrain 62 = .ok (.iload_n 1, 1) := by decide +kernel
theorem dX8_readsTrain_63 : decode cX8_readsTrain 63 = .ok (.iconst 2, 1) := by decide +kernel
theorem dX8_readsTrain_64 : decode cX8_readsTrain 64 = .ok (.iadd, 1) := by decide +kernel
theorem dX8_readsTrain_65 : decode cX8_readsTrain 65 = .ok (.iaload, 1) := by decide +kernel
theorem dX8_readsTrain_66 : decode cX8_readsTrain 66 = .ok (.iconst 1, 1) := by decide +kernel
theorem dX8_readsTrain_67 : decode cX8_readsTrain 67 = .ok (.isub, 1) := by decide +kernel
theorem dX8_readsTrain_68 : decode cX8_readsTrain 68 = .ok (.iconst (-1), 1) := by decide +kernel
theorem dX8_readsTrain_69 : decode cX8_readsTrain 69 = .ok (.invokevirtual 112, 3) := by decide +kernel
theorem dX8_readsTrain_72 : decode cX8_readsTrain 72 = .ok (.ifCond .eq 29, 3) := by decide +kernel
theorem dX8_readsTrain_75 : decode cX8_readsTrain 75 = .ok (.aload_n 0, 1) := by decide +kernel
theorem dX8_readsTrain_76 : decode cX8_readsTrain 76 = .ok (.iconst 4, 1) := by decide +kernel
theorem dX8_readsTrain_77 : decode cX8_readsTrain 77 = .ok (.iconst 1, 1) := by decide +kernel
theorem dX8_readsTrain_78 : decode cX8_readsTrain 78 = .ok (.iconst 2, 1) := by decide +kernel
theorem dX8_readsTrain_79 : decode cX8_readsTrain 79 = .ok (.iconst (-1), 1) := by decide +kernel
theorem dX8_readsTrain_80 : decode cX8_readsTrain 80 = .ok (.invokevirtual 112, 3) := by decide +kernel
theorem dX8_readsTrain_83 : decode cX8_readsTrain 83 = .ok (.ifCond .eq 18, 3) := by decide +kernel
theorem dX8_readsTrain_86 : decode cX8_readsTrain 86 = .ok (.aload_n 0, 1) := by decide +kernel
theorem dX8_readsTrain_87 : decode cX8_readsTrain 87 = .ok (.iconst 5, 1) := by decide +kernel
theorem dX8_readsTrain_88 : decode cX8_readsTrain 88 = .ok (.iconst 0, 1) := by decide +kernel
theorem dX8_readsTrain_89 : decode cX8_readsTrain 89 = .ok (.iconst 2, 1) := by decide +kernel
theorem dX8_readsTrain_90 : decode cX8_readsTrain 90 = .ok (.iconst (-1), 1) := by decide +kernel
theorem dX8_readsTrain_91 : decode cX8_readsTrain 91 = .ok (.invokevirtual 112, 3) := by decide +kernel
theorem dX8_readsTrain_94 : decode cX8_readsTrain 94 = .ok (.ifCond .eq 7, 3) := by decide +kernel
theorem dX8_readsTrain_97 : decode cX8_readsTrain 97 = .ok (.iconst 1, 1) := by decide +kernel
theorem dX8_readsTrain_98 : decode cX8_readsTrain 98 = .ok (.goto 4, 3) := by decide +kernel
theorem dX8_readsTrain_101 : decode cX8_readsTrain 101 = .ok (.iconst 0, 1) := by decide +kernel
theorem dX8_readsTrain_102 : decode cX8_readsTrain 102 = .ok (.ireturn, 1) := by decide +kernel
def Mo_readsTrain (w : Wd) : Option (Int32 × Wd) := (Option.bind (Mo_reads w (0 : Int32) (0 : Int32) ((w.1 37 16) - (1 : Int32)) (-1 : Int32)) (fun q1 => (if (q1.1) = (0 : Int32) then some ((0 : Int32), (q1.2)) else (if ib (((7 : Int32) * (w.1 37 5)) + (1 : Int32)) 70 = true then (Option.bind (Mo_reads (q1.2) (1 : Int32) (0 : Int32) ((w.1 37 16) - (1 : Int32)) ((q1.2).1 41 (Int32.toNatClampNeg (((7 : Int32) * (w.1 37 5)) + (1 : Int32))))) (fun q4 => (if (q4.1) = (0 : Int32) then some ((0 : Int32), (q4.2)) else (Option.bind (Mo_reads (q4.2) (2 : Int32) (1 : Int32) (4 : Int32) (-1 : Int32)) (fun q6 => (if (q6.1) = (0 : Int32) then some ((0 : Int32), (q6.2)) else (if ib ((((7 : Int32) * (w.1 37 5)) + (1 : Int32)) + (2 : Int32)) 70 = true then (Option.bind (Mo_reads (q6.2) (3 : Int32) (0 : Int32) (((q6.2).1 41 (Int32.toNatClampNeg ((((7 : Int32) * (w.1 37 5)) + (1 : Int32)) + (2 : Int32)))) - (1 : Int32)) (-1 : Int32)) (fun q9 => (if (q9.1) = (0 : Int32) then some ((0 : Int32), (q9.2)) else (Option.bind (Mo_reads (q9.2) (4 : Int32) (1 : Int32) (2 : Int32) (-1 : Int32)) (fun q11 => (if (q11.1) = (0 : Int32) then some ((0 : Int32), (q11.2)) else (Option.bind (Mo_reads (q11.2) (5 : Int32) (0 : Int32) (2 : Int32) (-1 : Int32)) (fun q13 => (if (q13.1) = (0 : Int32) then some ((0 : Int32), (q13.2)) else some ((1 : Int32), (q13.2))))))))))) else none))))))) else none))))
set_option maxRecDepth 100000 in
set_option maxHeartbeats 4000000 in
theorem ct_Mo_readsTrain {l : Launch} {g : GG} {σ : Sd} (hg : OKg g σ) (hb : σ.2.1 = false) (hx : ∀ c ∈ ([37, 40, 41] : List Nat), c ∈ σ.1) (w : Wd) {q : Int32 × Wd} (hq : Mo_readsTrain w = some q) : CT l g σ yX8_readsTrain cX8_readsTrain 3 (some .boolean) 3 66 [.ref (gA g 37)] w (some (.int q.1)) q.2 := by
  refine ct_of (rt := rtI) (res := Mo_readsTrain w) (q := q) (own := RX8) (b := false) hg hb hx (by decide) rfl (Nat.le_of_ble_eq_true rfl) hq (fun K e1 e2 e3 F => ?_)
  subst e1 e2 e3
  rw [Mo_readsTrain]
  show N K _ _ w 0 [(0, .ref (gA (cg K) 37))] []
  refine n_bipush F (7 : Int32) dX8_readsTrain_0 (by decide) ?_
  refine n_aload_n F dX8_readsTrain_2 rfl 0 rfl ?_
  refine n_get F ck_8 lf_RX8_103 (by decide) fg_37_5 (by decide) dX8_readsTrain_3 ?_
  refine n_imul F dX8_readsTrain_6 ?_
  refine n_iconst F (1 : Int32) dX8_readsTrain_7 (by decide) ?_
  refine n_iadd F dX8_readsTrain_8 ?_
  refine n_istore_n F (lv' := [(1, .int (((7 : Int32) * (w.1 37 5)) + (1 : Int32))), (0, .ref (gA (cg K) 37))]) dX8_readsTrain_9 rfl (by decide) rfl ?_
  refine n_aload_n F dX8_readsTrain_10 rfl 1 rfl ?_
  refine n_get F ck_8 lf_RX8_109 (by decide) fg_37_16 (by decide) dX8_readsTrain_11 ?_
  refine n_iconst F (1 : Int32) dX8_readsTrain_14 (by decide) ?_
  refine n_isub F dX8_readsTrain_15 ?_
  refine n_istore_n F (lv' := [(2, .int ((w.1 37 16) - (1 : Int32))), (1, .int (((7 : Int32) * (w.1 37 5)) + (1 : Int32))), (0, .ref (gA (cg K) 37))]) dX8_readsTrain_16 rfl (by decide) rfl ?_
  refine n_aload_n F dX8_readsTrain_17 rfl 2 rfl ?_
  refine n_iconst F (0 : Int32) dX8_readsTrain_18 (by decide) ?_
  refine n_iconst F (0 : Int32) dX8_readsTrain_19 (by decide) ?_
  refine n_iload_n F dX8_readsTrain_20 rfl 0 rfl ?_
  refine n_iconst F (-1 : Int32) dX8_readsTrain_21 (by decide) ?_
  refine n_bind (fun q1 hq1 => ?_)
  refine n_callVi F cb_X8_reads lm_RX8_112 ob_37 (by decide) ⟨_, _, rfl⟩ (ct_Mo_reads (fx_ok F) (fx_sd F) (fx_ix F rfl) w (0 : Int32) (0 : Int32) ((w.1 37 16) - (1 : Int32)) (-1 : Int32) hq1) rfl rfl (Nat.le_of_ble_eq_true rfl) ⟨Nat.le_of_ble_eq_true rfl, Nat.le_of_ble_eq_true rfl⟩ dX8_readsTrain_22 ?_
  refine n_if_eq F 101 dX8_readsTrain_25 (by decide) (fun e2 => ?_) (fun e2 => ?_)
  · rw [if_pos e2]
    refine n_iconst F (0 : Int32) dX8_readsTrain_101 (by decide) ?_
    exact n_zret F .boolean rfl rfl rfl dX8_readsTrain_102
  rw [if_neg e2]
  refine n_aload_n F dX8_readsTrain_28 rfl 2 rfl ?_
  refine n_iconst F (1 : Int32) dX8_readsTrain_29 (by decide) ?_
  refine n_iconst F (0 : Int32) dX8_readsTrain_30 (by decide) ?_
  refine n_iload_n F dX8_readsTrain_31 rfl 0 rfl ?_
  refine n_aload_n F dX8_readsTrain_32 rfl 2 rfl ?_
  refine n_get F ck_8 lf_RX8_20 (by decide) fg_37_4 (by decide) dX8_readsTrain_33 ?_
  refine n_iload_n F dX8_readsTrain_36 rfl 1 rfl ?_
  refine n_chk (fun e3 => ?_)
  refine n_iald F ar_41 (by decide) (ib_in e3) rfl dX8_readsTrain_37 ?_
  refine n_bind (fun q4 hq4 => ?_)
  refine n_callVi F cb_X8_reads lm_RX8_112 ob_37 (by decide) ⟨_, _, rfl⟩ (ct_Mo_reads (fx_ok F) (fx_sd F) (fx_ix F rfl) (q1.2) (1 : Int32) (0 : Int32) ((w.1 37 16) - (1 : Int32)) ((q1.2).1 41 (Int32.toNatClampNeg (((7 : Int32) * (w.1 37 5)) + (1 : Int32)))) hq4) rfl rfl (Nat.le_of_ble_eq_true rfl) ⟨Nat.le_of_ble_eq_true rfl, Nat.le_of_ble_eq_true rfl⟩ dX8_readsTrain_38 ?_
  refine n_if_eq F 101 dX8_readsTrain_41 (by decide) (fun e5 => ?_) (fun e5 => ?_)
  · rw [if_pos e5]
    refine n_iconst F (0 : Int32) dX8_readsTrain_101 (by decide) ?_
    exact n_zret F .boolean rfl rfl rfl dX8_readsTrain_102
  rw [if_neg e5]
  refine n_aload_n F dX8_readsTrain_44 rfl 2 rfl ?_
  refine n_iconst F (2 : Int32) dX8_readsTrain_45 (by decide) ?_
  refine n_iconst F (1 : Int32) dX8_readsTrain_46 (by decide) ?_
  refine n_iconst F (4 : Int32) dX8_readsTrain_47 (by decide) ?_
  refine n_iconst F (-1 : Int32) dX8_readsTrain_48 (by decide) ?_
  refine n_bind (fun q6 hq6 => ?_)
  refine n_callVi F cb_X8_reads lm_RX8_112 ob_37 (by decide) ⟨_, _, rfl⟩ (ct_Mo_reads (fx_ok F) (fx_sd F) (fx_ix F rfl) (q4.2) (2 : Int32) (1 : Int32) (4 : Int32) (-1 : Int32) hq6) rfl rfl (Nat.le_of_ble_eq_true rfl) ⟨Nat.le_of_ble_eq_true rfl, Nat.le_of_ble_eq_true rfl⟩ dX8_readsTrain_49 ?_
  refine n_if_eq F 101 dX8_readsTrain_52 (by decide) (fun e7 => ?_) (fun e7 => ?_)
  · rw [if_pos e7]
    refine n_iconst F (0 : Int32) dX8_readsTrain_101 (by decide) ?_
    exact n_zret F .boolean rfl rfl rfl dX8_readsTrain_102
  rw [if_neg e7]
  refine n_aload_n F dX8_readsTrain_55 rfl 2 rfl ?_
  refine n_iconst F (3 : Int32) dX8_readsTrain_56 (by decide) ?_
  refine n_iconst F (0 : Int32) dX8_readsTrain_57 (by decide) ?_
  refine n_aload_n F dX8_readsTrain_58 rfl 2 rfl ?_
  refine n_get F ck_8 lf_RX8_20 (by decide) fg_37_4 (by decide) dX8_readsTrain_59 ?_
  refine n_iload_n F dX8_readsTrain_62 rfl 1 rfl ?_
  refine n_iconst F (2 : Int32) dX8_readsTrain_63 (by decide) ?_
  refine n_iadd F dX8_readsTrain_64 ?_
  refine n_chk (fun e8 => ?_)
  refine n_iald F ar_41 (by decide) (ib_in e8) rfl dX8_readsTrain_65 ?_
  refine n_iconst F (1 : Int32) dX8_readsTrain_66 (by decide) ?_
  refine n_isub F dX8_readsTrain_67 ?_
  refine n_iconst F (-1 : Int32) dX8_readsTrain_68 (by decide) ?_
  refine n_bind (fun q9 hq9 => ?_)
  refine n_callVi F cb_X8_reads lm_RX8_112 ob_37 (by decide) ⟨_, _, rfl⟩ (ct_Mo_reads (fx_ok F) (fx_sd F) (fx_ix F rfl) (q6.2) (3 : Int32) (0 : Int32) (((q6.2).1 41 (Int32.toNatClampNeg ((((7 : Int32) * (w.1 37 5)) + (1 : Int32)) + (2 : Int32)))) - (1 : Int32)) (-1 : Int32) hq9) rfl rfl (Nat.le_of_ble_eq_true rfl) ⟨Nat.le_of_ble_eq_true rfl, Nat.le_of_ble_eq_true rfl⟩ dX8_readsTrain_69 ?_
  refine n_if_eq F 101 dX8_readsTrain_72 (by decide) (fun e10 => ?_) (fun e10 => ?_)
  · rw [if_pos e10]
    refine n_iconst F (0 : Int32) dX8_readsTrain_101 (by decide) ?_
    exact n_zret F .boolean rfl rfl rfl dX8_readsTrain_102
  rw [if_neg e10]
  refine n_aload_n F dX8_readsTrain_75 rfl 2 rfl ?_
  refine n_iconst F (4 : Int32) dX8_readsTrain_76 (by decide) ?_
  refine n_iconst F (1 : Int32) dX8_readsTrain_77 (by decide) ?_
  refine n_iconst F (2 : Int32) dX8_readsTrain_78 (by decide) ?_
  refine n_iconst F (-1 : Int32) dX8_readsTrain_79 (by decide) ?_
  refine n_bind (fun q11 hq11 => ?_)
  refine n_callVi F cb_X8_reads lm_RX8_112 ob_37 (by decide) ⟨_, _, rfl⟩ (ct_Mo_reads (fx_ok F) (fx_sd F) (fx_ix F rfl) (q9.2) (4 : Int32) (1 : Int32) (2 : Int32) (-1 : Int32) hq11) rfl rfl (Nat.le_of_ble_eq_true rfl) ⟨Nat.le_of_ble_eq_true rfl, Nat.le_of_ble_eq_true rfl⟩ dX8_readsTrain_80 ?_
  refine n_if_eq F 101 dX8_readsTrain_83 (by decide) (fun e12 => ?_) (fun e12 => ?_)
  · rw [if_pos e12]
    refine n_iconst F (0 : Int32) dX8_readsTrain_101 (by decide) ?_
    exact n_zret F .boolean rfl rfl rfl dX8_readsTrain_102
  rw [if_neg e12]
  refine n_aload_n F dX8_readsTrain_86 rfl 2 rfl ?_
  refine n_iconst F (5 : Int32) dX8_readsTrain_87 (by decide) ?_
  refine n_iconst F (0 : Int32) dX8_readsTrain_88 (by decide) ?_
  refine n_iconst F (2 : Int32) dX8_readsTrain_89 (by decide) ?_
  refine n_iconst F (-1 : Int32) dX8_readsTrain_90 (by decide) ?_
  refine n_bind (fun q13 hq13 => ?_)
  refine n_callVi F cb_X8_reads lm_RX8_112 ob_37 (by decide) ⟨_, _, rfl⟩ (ct_Mo_reads (fx_ok F) (fx_sd F) (fx_ix F rfl) (q11.2) (5 : Int32) (0 : Int32) (2 : Int32) (-1 : Int32) hq13) rfl rfl (Nat.le_of_ble_eq_true rfl) ⟨Nat.le_of_ble_eq_true rfl, Nat.le_of_ble_eq_true rfl⟩ dX8_readsTrain_91 ?_
  refine n_if_eq F 101 dX8_readsTrain_94 (by decide) (fun e14 => ?_) (fun e14 => ?_)
  · rw [if_pos e14]
    refine n_iconst F (0 : Int32) dX8_readsTrain_101 (by decide) ?_
    exact n_zret F .boolean rfl rfl rfl dX8_readsTrain_102
  rw [if_neg e14]
  refine n_iconst F (1 : Int32) dX8_readsTrain_97 (by decide) ?_
  refine n_goto F 102 dX8_readsTrain_98 (by decide) ?_
  exact n_zret F .boolean rfl rfl rfl dX8_readsTrain_102
theorem dX8_readsRest_0 : decode cX8_readsRest 0 = .ok (.iload_n 1, 1) := by decide +kernel
theorem dX8_readsRest_1 : decode cX8_readsRest 1 = .ok (.tableswitch 116 0 4 #[35, 45, 50, 64, 106], 35) := by decide +kernel
theorem dX8_readsRest_36 : decode cX8_readsRest 36 = .ok (.aload_n 0, 1) := by decide +kernel
theorem dX8_readsRest_37 : decode cX8_readsRest 37 = .ok (.iconst 0, 1) := by decide +kernel
theorem dX8_readsRest_38 : decode cX8_readsRest 38 = .ok (.iconst 2, 1) := by decide +kernel
theorem dX8_readsRest_39 : decode cX8_readsRest 39 = .ok (.bipush 7, 2) := by decide +kernel
theorem dX8_readsRest_41 : decode cX8_readsRest 41 = .ok (.iconst (-1), 1) := by decide +kernel
theorem dX8_readsRest_42 : decode cX8_readsRest 42 = .ok (.invokevirtual 112, 3) := by decide +kernel
theorem dX8_readsRest_45 : decode cX8_readsRest 45 = .ok (.ireturn, 1) := by decide +kernel
theorem dX8_readsRest_46 : decode cX8_readsRest 46 = .ok (.aload_n 0, 1) := by decide +kernel
theorem dX8_readsRest_47 : decode cX8_readsRest 47 = .ok (.invokevirtual 116, 3) := by decide +kernel
theorem dX8_readsRest_50 : decode cX8_readsRest 50 = .ok (.ireturn, 1) := by decide +kernel
theorem dX8_readsRest_51 : decode cX8_readsRest 51 = .ok (.aload_n 0, 1) := by decide +kernel
theorem dX8_readsRest_52 : decode cX8_readsRest 52 = .ok (.iconst 0, 1) := by decide +kernel
theorem dX8_readsRest_53 : decode cX8_readsRest 53 = .ok (.iconst 0, 1) := by decide +kernel
theorem dX8_readsRest_54 : decode cX8_readsRest 54 = .ok (.aload_n 0, 1) := by decide +kernel
theorem dX8_readsRest_55 : decode cX8_readsRest 55 = .ok (.getfield 109, 3) := by decide +kernel
theorem dX8_readsRest_58 : decode cX8_readsRest 58 = .ok (.iconst 1, 1) := by decide +kernel
theorem dX8_readsRest_59 : decode cX8_readsRest 59 = .ok (.isub, 1) := by decide +kernel
theorem dX8_readsRest_60 : decode cX8_readsRest 60 = .ok (.iconst (-1), 1) := by decide +kernel
theorem dX8_readsRest_61 : decode cX8_readsRest 61 = .ok (.invokevirtual 112, 3) := by decide +kernel
theorem dX8_readsRest_64 : decode cX8_readsRest 64 = .ok (.ireturn, 1) := by decide +kernel
theorem dX8_readsRest_65 : decode cX8_readsRest 65 = .ok (.aload_n 0, 1) := by decide +kernel
theorem dX8_readsRest_66 : decode cX8_readsRest 66 = .ok (.iconst 0, 1) := by decide +kernel
theorem dX8_readsRest_67 : decode cX8_readsRest 67 = .ok (.iconst 0, 1) := by decide +kernel
theorem dX8_readsRest_68 : decode cX8_readsRest 68 = .ok (.bipush 9, 2) := by decide +kernel
theorem dX8_readsRest_70 : decode cX8_readsRest 70 = .ok (.iconst (-1), 1) := by decide +kernel
theorem dX8_readsRest_71 : decode cX8_readsRest 71 = .ok (.invokevirtual 112, 3) := by decide +kernel
theorem dX8_readsRest_74 : decode cX8_readsRest 74 = .ok (.ifCond .eq 31, 3) := by decide +kernel
theorem dX8_readsRest_77 : decode cX8_readsRest 77 = .ok (.aload_n 0, 1) := by decide +kernel
theorem dX8_readsRest_78 : decode cX8_readsRest 78 = .ok (.iconst 1, 1) := by decide +kernel
theorem dX8_readsRest_79 : decode cX8_readsRest 79 = .ok (.iconst 0, 1) := by decide +kernel
theorem dX8_readsRest_80 : decode cX8_readsRest 80 = .ok (.bipush 9, 2) := by decide +kernel
theorem dX8_readsRest_82 : decode cX8_readsRest 82 = .ok (.iconst (-1), 1) := by decide +kernel
theorem dX8_readsRest_83 : decode cX8_readsRest 83 = .ok (.invokevirtual 112, 3) := by decide +kernel
theorem dX8_readsRest_86 : decode cX8_readsRest 86 = .ok (.ifCond .eq 19, 3) := by decide +kernel
theorem dX8_readsRest_89 : decode cX8_readsRest 89 = .ok (.aload_n 0, 1) := by decide +kernel
theorem dX8_readsRest_90 : decode cX8_readsRest 90 = .ok (.iconst 2, 1) := by decide +kernel
theorem dX8_readsRest_91 : decode cX8_readsRest 91 = .ok (.iconst 0, 1) := by decide +kernel
theorem dX8_readsRest_92 : decode cX8_readsRest 92 = .ok (.bipush 9, 2) := by decide +kernel
theorem dX8_readsRest_94 : decode cX8_readsRest 94 = .ok (.iconst (-1), 1) := by decide +kernel
theorem dX8_readsRest_95 : decode cX8_readsRest 95 = .ok (.invokevirtual 112, 3) := by decide +kernel
theorem dX8_readsRest_98 : decode cX8_readsRest 98 = .ok (.ifCond .eq 7, 3) := by decide +kernel
theorem dX8_readsRest_101 : decode cX8_readsRest 101 = .ok (.iconst 1, 1) := by decide +kernel
theorem dX8_readsRest_102 : decode cX8_readsRest 102 = .ok (.goto 4, 3) := by decide +kernel
theorem dX8_readsRest_105 : decode cX8_readsRest 105 = .ok (.iconst 0, 1) := by decide +kernel
theorem dX8_readsRest_106 : decode cX8_readsRest 106 = .ok (.ireturn, 1) := by decide +kernel
theorem dX8_readsRest_107 : decode cX8_readsRest 107 = .ok (.aload_n 0, 1) := by decide +kernel
theorem dX8_readsRest_108 : decode cX8_readsRest 108 = .ok (.iconst 0, 1) := by decide +kernel
theorem dX8_readsRest_109 : decode cX8_readsRest 109 = .ok (.iconst 1, 1) := by decide +kernel
theorem dX8_readsRest_110 : decode cX8_readsRest 110 = .ok (.bipush 9, 2) := by decide +kernel
theorem dX8_readsRest_112 : decode cX8_readsRest 112 = .ok (.iconst (-1), 1) := by decide +kernel
theorem dX8_readsRest_113 : decode cX8_readsRest 113 = .ok (.invokevirtual 112, 3) := by decide +kernel
theorem dX8_readsRest_116 : decode cX8_readsRest 116 = .ok (.ireturn, 1) := by decide +kernel
theorem dX8_readsRest_117 : decode cX8_readsRest 117 = .ok (.aload_n 0, 1) := by decide +kernel
theorem dX8_readsRest_118 : decode cX8_readsRest 118 = .ok (.iconst 0, 1) := by decide +kernel
theorem dX8_readsRest_119 : decode cX8_readsRest 119 = .ok (.iconst 0, 1) := by decide +kernel
theorem dX8_readsRest_120 : decode cX8_readsRest 120 = .ok (.iconst 1, 1) := by decide +kernel
theorem dX8_readsRest_121 : decode cX8_readsRest 121 = .ok (.iconst (-1), 1) := by decide +kernel
theorem dX8_readsRest_122 : decode cX8_readsRest 122 = .ok (.invokevirtual 112, 3) := by decide +kernel
theorem dX8_readsRest_125 : decode cX8_readsRest 125 = .ok (.ifCond .eq 23, 3) := by decide +kernel
theorem dX8_readsRest_128 : decode cX8_readsRest 128 = .ok (.aload_n 0, 1) := by decide +kernel
theorem dX8_readsRest_129 : decode cX8_readsRest 129 = .ok (.iconst 1, 1) := by decide +kernel
theorem dX8_readsRest_130 : decode cX8_readsRest 130 = .ok (.iconst 0, 1) := by decide +kernel
theorem dX8_readsRest_131 : decode cX8_readsRest 131 = .ok (.aload_n 0, 1) := by decide +kernel
theorem dX8_readsRest_132 : decode cX8_readsRest 132 = .ok (.getfield 109, 3) := by decide +kernel
theorem dX8_readsRest_135 : decode cX8_readsRest 135 = .ok (.iconst 1, 1) := by decide +kernel
theorem dX8_readsRest_136 : decode cX8_readsRest 136 = .ok (.isub, 1) := by decide +kernel
theorem dX8_readsRest_137 : decode cX8_readsRest 137 = .ok (.iconst (-1), 1) := by decide +kernel
theorem dX8_readsRest_138 : decode cX8_readsRest 138 = .ok (.invokevirtual 112, 3) := by decide +kernel
theorem dX8_readsRest_141 : decode cX8_readsRest 141 = .ok (.ifCond .eq 7, 3) := by decide +kernel
theorem dX8_readsRest_144 : decode cX8_readsRest 144 = .ok (.iconst 1, 1) := by decide +kernel
theorem dX8_readsRest_145 : decode cX8_readsRest 145 = .ok (.goto 4, 3) := by decide +kernel
theorem dX8_readsRest_148 : decode cX8_readsRest 148 = .ok (.iconst 0, 1) := by decide +kernel
theorem dX8_readsRest_149 : decode cX8_readsRest 149 = .ok (.ireturn, 1) := by decide +kernel
def Mo_readsRest (w : Wd) (a1 : Int32) : Option (Int32 × Wd) := (if a1 = (0 : Int32) then (Option.bind (Mo_reads w (0 : Int32) (2 : Int32) (7 : Int32) (-1 : Int32)) (fun q2 => (if (q2.1) &&& (1 : Int32) = (q2.1) then some ((q2.1), (q2.2)) else none))) else (if a1 = (1 : Int32) then (Option.bind (Mo_readsTrain w) (fun q5 => (if (q5.1) &&& (1 : Int32) = (q5.1) then some ((q5.1), (q5.2)) else none))) else (if a1 = (2 : Int32) then (Option.bind (Mo_reads w (0 : Int32) (0 : Int32) ((w.1 37 16) - (1 : Int32)) (-1 : Int32)) (fun q8 => (if (q8.1) &&& (1 : Int32) = (q8.1) then some ((q8.1), (q8.2)) else none))) else (if a1 = (3 : Int32) then (Option.bind (Mo_reads w (0 : Int32) (0 : Int32) (9 : Int32) (-1 : Int32)) (fun q11 => (if (q11.1) = (0 : Int32) then some ((0 : Int32), (q11.2)) else (Option.bind (Mo_reads (q11.2) (1 : Int32) (0 : Int32) (9 : Int32) (-1 : Int32)) (fun q13 => (if (q13.1) = (0 : Int32) then some ((0 : Int32), (q13.2)) else (Option.bind (Mo_reads (q13.2) (2 : Int32) (0 : Int32) (9 : Int32) (-1 : Int32)) (fun q15 => (if (q15.1) = (0 : Int32) then some ((0 : Int32), (q15.2)) else some ((1 : Int32), (q15.2))))))))))) else (if a1 = (4 : Int32) then (Option.bind (Mo_reads w (0 : Int32) (1 : Int32) (9 : Int32) (-1 : Int32)) (fun q18 => (if (q18.1) &&& (1 : Int32) = (q18.1) then some ((q18.1), (q18.2)) else none))) else (Option.bind (Mo_reads w (0 : Int32) (0 : Int32) (1 : Int32) (-1 : Int32)) (fun q20 => (if (q20.1) = (0 : Int32) then some ((0 : Int32), (q20.2)) else (Option.bind (Mo_reads (q20.2) (1 : Int32) (0 : Int32) (((q20.2).1 37 16) - (1 : Int32)) (-1 : Int32)) (fun q22 => (if (q22.1) = (0 : Int32) then some ((0 : Int32), (q22.2)) else some ((1 : Int32), (q22.2)))))))))))))
set_option maxRecDepth 100000 in
set_option maxHeartbeats 4000000 in
theorem ct_Mo_readsRest {l : Launch} {g : GG} {σ : Sd} (hg : OKg g σ) (hb : σ.2.1 = false) (hx : ∀ c ∈ ([37, 40, 41] : List Nat), c ∈ σ.1) (w : Wd) (a1 : Int32) {q : Int32 × Wd} (hq : Mo_readsRest w a1 = some q) : CT l g σ yX8_readsRest cX8_readsRest 2 (some .boolean) 4 88 [.ref (gA g 37), .int a1] w (some (.int q.1)) q.2 := by
  refine ct_of (rt := rtI) (res := Mo_readsRest w a1) (q := q) (own := RX8) (b := false) hg hb hx (by decide) rfl (Nat.le_of_ble_eq_true rfl) hq (fun K e1 e2 e3 F => ?_)
  subst e1 e2 e3
  rw [Mo_readsRest]
  show N K _ _ w 0 [(0, .ref (gA (cg K) 37)), (1, .int a1)] []
  refine n_iload_n F dX8_readsRest_0 rfl 1 rfl ?_
  by_cases e1 : a1 = (0 : Int32)
  · rw [if_pos e1]
    refine n_tabIn F (0 : Int32) 36 dX8_readsRest_1 e1 (by decide) (by decide) rfl (by decide) ?_
    refine n_aload_n F dX8_readsRest_36 rfl 0 rfl ?_
    refine n_iconst F (0 : Int32) dX8_readsRest_37 (by decide) ?_
    refine n_iconst F (2 : Int32) dX8_readsRest_38 (by decide) ?_
    refine n_bipush F (7 : Int32) dX8_readsRest_39 (by decide) ?_
    refine n_iconst F (-1 : Int32) dX8_readsRest_41 (by decide) ?_
    refine n_bind (fun q2 hq2 => ?_)
    refine n_callVi F cb_X8_reads lm_RX8_112 ob_37 (by decide) ⟨_, _, rfl⟩ (ct_Mo_reads (fx_ok F) (fx_sd F) (fx_ix F rfl) w (0 : Int32) (2 : Int32) (7 : Int32) (-1 : Int32) hq2) rfl rfl (Nat.le_of_ble_eq_true rfl) ⟨Nat.le_of_ble_eq_true rfl, Nat.le_of_ble_eq_true rfl⟩ dX8_readsRest_42 ?_
    refine n_chk (fun e3 => ?_)
    exact n_zret F .boolean rfl (bz_n e3) rfl dX8_readsRest_45
  rw [if_neg e1]
  by_cases e4 : a1 = (1 : Int32)
  · rw [if_pos e4]
    refine n_tabIn F (1 : Int32) 46 dX8_readsRest_1 e4 (by decide) (by decide) rfl (by decide) ?_
    refine n_aload_n F dX8_readsRest_46 rfl 0 rfl ?_
    refine n_bind (fun q5 hq5 => ?_)
    refine n_callVi F cb_X8_readsTrain lm_RX8_116 ob_37 (by decide) ⟨_, _, rfl⟩ (ct_Mo_readsTrain (fx_ok F) (fx_sd F) (fx_ix F rfl) w hq5) rfl rfl (Nat.le_of_ble_eq_true rfl) ⟨Nat.le_of_ble_eq_true rfl, Nat.le_of_ble_eq_true rfl⟩ dX8_readsRest_47 ?_
    refine n_chk (fun e6 => ?_)
    exact n_zret F .boolean rfl (bz_n e6) rfl dX8_readsRest_50
  rw [if_neg e4]
  by_cases e7 : a1 = (2 : Int32)
  · rw [if_pos e7]
    refine n_tabIn F (2 : Int32) 51 dX8_readsRest_1 e7 (by decide) (by decide) rfl (by decide) ?_
    refine n_aload_n F dX8_readsRest_51 rfl 0 rfl ?_
    refine n_iconst F (0 : Int32) dX8_readsRest_52 (by decide) ?_
    refine n_iconst F (0 : Int32) dX8_readsRest_53 (by decide) ?_
    refine n_aload_n F dX8_readsRest_54 rfl 0 rfl ?_
    refine n_get F ck_8 lf_RX8_109 (by decide) fg_37_16 (by decide) dX8_readsRest_55 ?_
    refine n_iconst F (1 : Int32) dX8_readsRest_58 (by decide) ?_
    refine n_isub F dX8_readsRest_59 ?_
    refine n_iconst F (-1 : Int32) dX8_readsRest_60 (by decide) ?_
    refine n_bind (fun q8 hq8 => ?_)
    refine n_callVi F cb_X8_reads lm_RX8_112 ob_37 (by decide) ⟨_, _, rfl⟩ (ct_Mo_reads (fx_ok F) (fx_sd F) (fx_ix F rfl) w (0 : Int32) (0 : Int32) ((w.1 37 16) - (1 : Int32)) (-1 : Int32) hq8) rfl rfl (Nat.le_of_ble_eq_true rfl) ⟨Nat.le_of_ble_eq_true rfl, Nat.le_of_ble_eq_true rfl⟩ dX8_readsRest_61 ?_
    refine n_chk (fun e9 => ?_)
    exact n_zret F .boolean rfl (bz_n e9) rfl dX8_readsRest_64
  rw [if_neg e7]
  by_cases e10 : a1 = (3 : Int32)
  · rw [if_pos e10]
    refine n_tabIn F (3 : Int32) 65 dX8_readsRest_1 e10 (by decide) (by decide) rfl (by decide) ?_
    refine n_aload_n F dX8_readsRest_65 rfl 0 rfl ?_
    refine n_iconst F (0 : Int32) dX8_readsRest_66 (by decide) ?_
    refine n_iconst F (0 : Int32) dX8_readsRest_67 (by decide) ?_
    refine n_bipush F (9 : Int32) dX8_readsRest_68 (by decide) ?_
    refine n_iconst F (-1 : Int32) dX8_readsRest_70 (by decide) ?_
    refine n_bind (fun q11 hq11 => ?_)
    refine n_callVi F cb_X8_reads lm_RX8_112 ob_37 (by decide) ⟨_, _, rfl⟩ (ct_Mo_reads (fx_ok F) (fx_sd F) (fx_ix F rfl) w (0 : Int32) (0 : Int32) (9 : Int32) (-1 : Int32) hq11) rfl rfl (Nat.le_of_ble_eq_true rfl) ⟨Nat.le_of_ble_eq_true rfl, Nat.le_of_ble_eq_true rfl⟩ dX8_readsRest_71 ?_
    refine n_if_eq F 105 dX8_readsRest_74 (by decide) (fun e12 => ?_) (fun e12 => ?_)
    · rw [if_pos e12]
      refine n_iconst F (0 : Int32) dX8_readsRest_105 (by decide) ?_
      exact n_zret F .boolean rfl rfl rfl dX8_readsRest_106
    rw [if_neg e12]
    refine n_aload_n F dX8_readsRest_77 rfl 0 rfl ?_
    refine n_iconst F (1 : Int32) dX8_readsRest_78 (by decide) ?_
    refine n_iconst F (0 : Int32) dX8_readsRest_79 (by decide) ?_
    refine n_bipush F (9 : Int32) dX8_readsRest_80 (by decide) ?_
    refine n_iconst F (-1 : Int32) dX8_readsRest_82 (by decide) ?_
    refine n_bind (fun q13 hq13 => ?_)
    refine n_callVi F cb_X8_reads lm_RX8_112 ob_37 (by decide) ⟨_, _, rfl⟩ (ct_Mo_reads (fx_ok F) (fx_sd F) (fx_ix F rfl) (q11.2) (1 : Int32) (0 : Int32) (9 : Int32) (-1 : Int32) hq13) rfl rfl (Nat.le_of_ble_eq_true rfl) ⟨Nat.le_of_ble_eq_true rfl, Nat.le_of_ble_eq_true rfl⟩ dX8_readsRest_83 ?_
    refine n_if_eq F 105 dX8_readsRest_86 (by decide) (fun e14 => ?_) (fun e14 => ?_)
    · rw [if_pos e14]
      refine n_iconst F (0 : Int32) dX8_readsRest_105 (by decide) ?_
      exact n_zret F .boolean rfl rfl rfl dX8_readsRest_106
    rw [if_neg e14]
    refine n_aload_n F dX8_readsRest_89 rfl 0 rfl ?_
    refine n_iconst F (2 : Int32) dX8_readsRest_90 (by decide) ?_
    refine n_iconst F (0 : Int32) dX8_readsRest_91 (by decide) ?_
    refine n_bipush F (9 : Int32) dX8_readsRest_92 (by decide) ?_
    refine n_iconst F (-1 : Int32) dX8_readsRest_94 (by decide) ?_
    refine n_bind (fun q15 hq15 => ?_)
    refine n_callVi F cb_X8_reads lm_RX8_112 ob_37 (by decide) ⟨_, _, rfl⟩ (ct_Mo_reads (fx_ok F) (fx_sd F) (fx_ix F rfl) (q13.2) (2 : Int32) (0 : Int32) (9 : Int32) (-1 : Int32) hq15) rfl rfl (Nat.le_of_ble_eq_true rfl) ⟨Nat.le_of_ble_eq_true rfl, Nat.le_of_ble_eq_true rfl⟩ dX8_readsRest_95 ?_
    refine n_if_eq F 105 dX8_readsRest_98 (by decide) (fun e16 => ?_) (fun e16 => ?_)
    · rw [if_pos e16]
      refine n_iconst F (0 : Int32) dX8_readsRest_105 (by decide) ?_
      exact n_zret F .boolean rfl rfl rfl dX8_readsRest_106
    rw [if_neg e16]
    refine n_iconst F (1 : Int32) dX8_readsRest_101 (by decide) ?_
    refine n_goto F 106 dX8_readsRest_102 (by decide) ?_
    exact n_zret F .boolean rfl rfl rfl dX8_readsRest_106
  rw [if_neg e10]
  by_cases e17 : a1 = (4 : Int32)
  · rw [if_pos e17]
    refine n_tabIn F (4 : Int32) 107 dX8_readsRest_1 e17 (by decide) (by decide) rfl (by decide) ?_
    refine n_aload_n F dX8_readsRest_107 rfl 0 rfl ?_
    refine n_iconst F (0 : Int32) dX8_readsRest_108 (by decide) ?_
    refine n_iconst F (1 : Int32) dX8_readsRest_109 (by decide) ?_
    refine n_bipush F (9 : Int32) dX8_readsRest_110 (by decide) ?_
    refine n_iconst F (-1 : Int32) dX8_readsRest_112 (by decide) ?_
    refine n_bind (fun q18 hq18 => ?_)
    refine n_callVi F cb_X8_reads lm_RX8_112 ob_37 (by decide) ⟨_, _, rfl⟩ (ct_Mo_reads (fx_ok F) (fx_sd F) (fx_ix F rfl) w (0 : Int32) (1 : Int32) (9 : Int32) (-1 : Int32) hq18) rfl rfl (Nat.le_of_ble_eq_true rfl) ⟨Nat.le_of_ble_eq_true rfl, Nat.le_of_ble_eq_true rfl⟩ dX8_readsRest_113 ?_
    refine n_chk (fun e19 => ?_)
    exact n_zret F .boolean rfl (bz_n e19) rfl dX8_readsRest_116
  rw [if_neg e17]
  have hsw := (⟨lv_neT e1 (a := 0) rfl, lv_neT e4 (a := 1) rfl, lv_neT e7 (a := 2) rfl, lv_neT e10 (a := 3) rfl, lv_neT e17 (a := 4) rfl⟩ : ¬ (a1).toInt = 0 ∧ ¬ (a1).toInt = 1 ∧ ¬ (a1).toInt = 2 ∧ ¬ (a1).toInt = 3 ∧ ¬ (a1).toInt = 4)
  refine n_tabOut F 117 dX8_readsRest_1 (by omega) (by decide) ?_
  refine n_aload_n F dX8_readsRest_117 rfl 0 rfl ?_
  refine n_iconst F (0 : Int32) dX8_readsRest_118 (by decide) ?_
  refine n_iconst F (0 : Int32) dX8_readsRest_119 (by decide) ?_
  refine n_iconst F (1 : Int32) dX8_readsRest_120 (by decide) ?_
  refine n_iconst F (-1 : Int32) dX8_readsRest_121 (by decide) ?_
  refine n_bind (fun q20 hq20 => ?_)
  refine n_callVi F cb_X8_reads lm_RX8_112 ob_37 (by decide) ⟨_, _, rfl⟩ (ct_Mo_reads (fx_ok F) (fx_sd F) (fx_ix F rfl) w (0 : Int32) (0 : Int32) (1 : Int32) (-1 : Int32) hq20) rfl rfl (Nat.le_of_ble_eq_true rfl) ⟨Nat.le_of_ble_eq_true rfl, Nat.le_of_ble_eq_true rfl⟩ dX8_readsRest_122 ?_
  refine n_if_eq F 148 dX8_readsRest_125 (by decide) (fun e21 => ?_) (fun e21 => ?_)
  · rw [if_pos e21]
    refine n_iconst F (0 : Int32) dX8_readsRest_148 (by decide) ?_
    exact n_zret F .boolean rfl rfl rfl dX8_readsRest_149
  rw [if_neg e21]
  refine n_aload_n F dX8_readsRest_128 rfl 0 rfl ?_
  refine n_iconst F (1 : Int32) dX8_readsRest_129 (by decide) ?_
  refine n_iconst F (0 : Int32) dX8_readsRest_130 (by decide) ?_
  refine n_aload_n F dX8_readsRest_131 rfl 0 rfl ?_
  refine n_get F ck_8 lf_RX8_109 (by decide) fg_37_16 (by decide) dX8_readsRest_132 ?_
  refine n_iconst F (1 : Int32) dX8_readsRest_135 (by decide) ?_
  refine n_isub F dX8_readsRest_136 ?_
  refine n_iconst F (-1 : Int32) dX8_readsRest_137 (by decide) ?_
  refine n_bind (fun q22 hq22 => ?_)
  refine n_callVi F cb_X8_reads lm_RX8_112 ob_37 (by decide) ⟨_, _, rfl⟩ (ct_Mo_reads (fx_ok F) (fx_sd F) (fx_ix F rfl) (q20.2) (1 : Int32) (0 : Int32) (((q20.2).1 37 16) - (1 : Int32)) (-1 : Int32) hq22) rfl rfl (Nat.le_of_ble_eq_true rfl) ⟨Nat.le_of_ble_eq_true rfl, Nat.le_of_ble_eq_true rfl⟩ dX8_readsRest_138 ?_
  refine n_if_eq F 148 dX8_readsRest_141 (by decide) (fun e23 => ?_) (fun e23 => ?_)
  · rw [if_pos e23]
    refine n_iconst F (0 : Int32) dX8_readsRest_148 (by decide) ?_
    exact n_zret F .boolean rfl rfl rfl dX8_readsRest_149
  rw [if_neg e23]
  refine n_iconst F (1 : Int32) dX8_readsRest_144 (by decide) ?_
  refine n_goto F 149 dX8_readsRest_145 (by decide) ?_
  exact n_zret F .boolean rfl rfl rfl dX8_readsRest_149
theorem dX8_readsLine_0 : decode cX8_readsLine 0 = .ok (.aload_n 0, 1) := by decide +kernel
theorem dX8_readsLine_1 : decode cX8_readsLine 1 = .ok (.invokevirtual 120, 3) := by decide +kernel
theorem dX8_readsLine_4 : decode cX8_readsLine 4 = .ok (.istore_n 1, 1) := by decide +kernel
theorem dX8_readsLine_5 : decode cX8_readsLine 5 = .ok (.iload_n 1, 1) := by decide +kernel
theorem dX8_readsLine_6 : decode cX8_readsLine 6 = .ok (.iconst (-1), 1) := by decide +kernel
theorem dX8_readsLine_7 : decode cX8_readsLine 7 = .ok (.if_icmp .eq 17, 3) := by decide +kernel
theorem dX8_readsLine_10 : decode cX8_readsLine 10 = .ok (.iload_n 1, 1) := by decide +kernel
theorem dX8_readsLine_11 : decode cX8_readsLine 11 = .ok (.iconst 1, 1) := by decide +kernel
theorem dX8_readsLine_12 : decode cX8_readsLine 12 = .ok (.if_icmp .ne 14, 3) := by decide +kernel
theorem dX8_readsLine_15 : decode cX8_readsLine 15 = .ok (.aload_n 0, 1) := by decide +kernel
theorem dX8_readsLine_16 : decode cX8_readsLine 16 = .ok (.getfield 124, 3) := by decide +kernel
theorem dX8_readsLine_19 : decode cX8_readsLine 19 = .ok (.bipush 12, 2) := by decide +kernel
theorem dX8_readsLine_21 : decode cX8_readsLine 21 = .ok (.if_icmp .ne 5, 3) := by decide +kernel
theorem dX8_readsLine_24 : decode cX8_readsLine 24 = .ok (.iconst 0, 1) := by decide +kernel
theorem dX8_readsLine_25 : decode cX8_readsLine 25 = .ok (.ireturn, 1) := by decide +kernel
theorem dX8_readsLine_26 : decode cX8_readsLine 26 = .ok (.aload_n 0, 1) := by decide +kernel
theorem dX8_readsLine_27 : decode cX8_readsLine 27 = .ok (.invokevirtual 106, 3) := by decide +kernel
theorem dX8_readsLine_30 : decode cX8_readsLine 30 = .ok (.aload_n 0, 1) := by decide +kernel
theorem dX8_readsLine_31 : decode cX8_readsLine 31 = .ok (.getfield 20, 3) := by decide +kernel
theorem dX8_readsLine_34 : decode cX8_readsLine 34 = .ok (.bipush 7, 2) := by decide +kernel
theorem dX8_readsLine_36 : decode cX8_readsLine 36 = .ok (.aload_n 0, 1) := by decide +kernel
theorem dX8_readsLine_37 : decode cX8_readsLine 37 = .ok (.getfield 103, 3) := by decide +kernel
theorem dX8_readsLine_40 : decode cX8_readsLine 40 = .ok (.imul, 1) := by decide +kernel
theorem dX8_readsLine_41 : decode cX8_readsLine 41 = .ok (.iload_n 1, 1) := by decide +kernel
theorem dX8_readsLine_42 : decode cX8_readsLine 42 = .ok (.iastore, 1) := by decide +kernel
theorem dX8_readsLine_43 : decode cX8_readsLine 43 = .ok (.aload_n 0, 1) := by decide +kernel
theorem dX8_readsLine_44 : decode cX8_readsLine 44 = .ok (.iload_n 1, 1) := by decide +kernel
theorem dX8_readsLine_45 : decode cX8_readsLine 45 = .ok (.invokevirtual 127, 3) := by decide +kernel
theorem dX8_readsLine_48 : decode cX8_readsLine 48 = .ok (.ifCond .ne 5, 3) := by decide +kernel
theorem dX8_readsLine_51 : decode cX8_readsLine 51 = .ok (.iconst 0, 1) := by decide +kernel
theorem dX8_readsLine_52 : decode cX8_readsLine 52 = .ok (.ireturn, 1) := by decide +kernel
theorem dX8_readsLine_53 : decode cX8_readsLine 53 = .ok (.iload_n 1, 1) := by decide +kernel
theorem dX8_readsLine_54 : decode cX8_readsLine 54 = .ok (.ifCond .ne 26, 3) := by decide +kernel
theorem dX8_readsLine_57 : decode cX8_readsLine 57 = .ok (.aload_n 0, 1) := by decide +kernel
theorem dX8_readsLine_58 : decode cX8_readsLine 58 = .ok (.aload_n 0, 1) := by decide +kernel
theorem dX8_readsLine_59 : decode cX8_readsLine 59 = .ok (.getfield 20, 3) := by decide +kernel
theorem dX8_readsLine_62 : decode cX8_readsLine 62 = .ok (.bipush 7, 2) := by decide +kernel
theorem dX8_readsLine_64 : decode cX8_readsLine 64 = .ok (.aload_n 0, 1) := by decide +kernel
theorem dX8_readsLine_65 : decode cX8_readsLine 65 = .ok (.getfield 103, 3) := by decide +kernel
theorem dX8_readsLine_68 : decode cX8_readsLine 68 = .ok (.imul, 1) := by decide +kernel
theorem dX8_readsLine_69 : decode cX8_readsLine 69 = .ok (.iconst 1, 1) := by decide +kernel
theorem dX8_readsLine_70 : decode cX8_readsLine 70 = .ok (.iadd, 1) := by decide +kernel
theorem dX8_readsLine_71 : decode cX8_readsLine 71 = .ok (.iaload, 1) := by decide +kernel
theorem dX8_readsLine_72 : decode cX8_readsLine 72 = .ok (.putfield 109, 3) := by decide +kernel
theorem dX8_readsLine_75 : decode cX8_readsLine 75 = .ok (.aload_n 0, 1) := by decide +kernel
theorem dX8_readsLine_76 : decode cX8_readsLine 76 = .ok (.iconst 0, 1) := by decide +kernel
theorem dX8_readsLine_77 : decode cX8_readsLine 77 = .ok (.putfield 124, 3) := by decide +kernel
theorem dX8_readsLine_80 : decode cX8_readsLine 80 = .ok (.aload_n 0, 1) := by decide +kernel
theorem dX8_readsLine_81 : decode cX8_readsLine 81 = .ok (.dup, 1) := by decide +kernel
theorem dX8_readsLine_82 : decode cX8_readsLine 82 = .ok (.getfield 124, 3) := by decide +kernel
theorem dX8_readsLine_85 : decode cX8_readsLine 85 = .ok (.iload_n 1, 1) := by decide +kernel
theorem dX8_readsLine_86 : decode cX8_readsLine 86 = .ok (.iconst 1, 1) := by decide +kernel
theorem dX8_readsLine_87 : decode cX8_readsLine 87 = .ok (.if_icmp .ne 7, 3) := by decide +kernel
theorem dX8_readsLine_90 : decode cX8_readsLine 90 = .ok (.iconst 1, 1) := by decide +kernel
theorem dX8_readsLine_91 : decode cX8_readsLine 91 = .ok (.goto 4, 3) := by decide +kernel
theorem dX8_readsLine_94 : decode cX8_readsLine 94 = .ok (.iconst 0, 1) := by decide +kernel
theorem dX8_readsLine_95 : decode cX8_readsLine 95 = .ok (.iadd, 1) := by decide +kernel
theorem dX8_readsLine_96 : decode cX8_readsLine 96 = .ok (.putfield 124, 3) := by decide +kernel
theorem dX8_readsLine_99 : decode cX8_readsLine 99 = .ok (.aload_n 0, 1) := by decide +kernel
theorem dX8_readsLine_100 : decode cX8_readsLine 100 = .ok (.dup, 1) := by decide +kernel
theorem dX8_readsLine_101 : decode cX8_readsLine 101 = .ok (.getfield 103, 3) := by decide +kernel
theorem dX8_readsLine_104 : decode cX8_readsLine 104 = .ok (.iconst 1, 1) := by decide +kernel
theorem dX8_readsLine_105 : decode cX8_readsLine 105 = .ok (.iadd, 1) := by decide +kernel
theorem dX8_readsLine_106 : decode cX8_readsLine 106 = .ok (.putfield 103, 3) := by decide +kernel
theorem dX8_readsLine_109 : decode cX8_readsLine 109 = .ok (.iconst 1, 1) := by decide +kernel
theorem dX8_readsLine_110 : decode cX8_readsLine 110 = .ok (.ireturn, 1) := by decide +kernel
def Mo_readsLine_B95 (w : Wd) (s0 : Int32) (s1 : Int32) : Option (Int32 × Wd) := some ((1 : Int32), (sI (sI w 37 17 (s1 + s0)) 37 5 (((sI w 37 17 (s1 + s0)).1 37 5) + (1 : Int32))))
set_option maxRecDepth 100000 in
set_option maxHeartbeats 4000000 in
theorem Mo_readsLine_B95_ok {K : Ctx} (F : Fx K cX8_readsLine 2 RX8 (some .boolean) 5 109 false [37, 40, 41]) (w : Wd) (s0 : Int32) (s1 : Int32) : N K rtI (Mo_readsLine_B95 w s0 s1) w 95 [(0, .ref (gA (cg K) 37))] [.int s0, .int s1, .ref (gA (cg K) 37)] := by
  rw [Mo_readsLine_B95]
  refine n_iadd F dX8_readsLine_95 ?_
  refine n_put F ck_8 lf_RX8_124 (by decide) rfl fp_37_17 (by decide) rfl rfl dX8_readsLine_96 ?_
  refine n_aload_n F dX8_readsLine_99 rfl 0 rfl ?_
  refine n_dup F dX8_readsLine_100 rfl ?_
  refine n_get F ck_8 lf_RX8_103 (by decide) fg_37_5 (by decide) dX8_readsLine_101 ?_
  refine n_iconst F (1 : Int32) dX8_readsLine_104 (by decide) ?_
  refine n_iadd F dX8_readsLine_105 ?_
  refine n_put F ck_8 lf_RX8_103 (by decide) rfl fp_37_5 (by decide) rfl rfl dX8_readsLine_106 ?_
  refine n_iconst F (1 : Int32) dX8_readsLine_109 (by decide) ?_
  exact n_zret F .boolean rfl rfl rfl dX8_readsLine_110
def Mo_readsLine_B80 (w : Wd) (v1 : Int32) : Option (Int32 × Wd) := (Mo_readsLine_B95 w (if v1 = (1 : Int32) then (1 : Int32) else (0 : Int32)) (w.1 37 17))
set_option maxRecDepth 100000 in
set_option maxHeartbeats 4000000 in
theorem Mo_readsLine_B80_ok {K : Ctx} (F : Fx K cX8_readsLine 2 RX8 (some .boolean) 5 109 false [37, 40, 41]) (w : Wd) (v1 : Int32) : N K rtI (Mo_readsLine_B80 w v1) w 80 [(0, .ref (gA (cg K) 37)), (1, .int v1)] [] := by
  rw [Mo_readsLine_B80]
  refine n_aload_n F dX8_readsLine_80 rfl 0 rfl ?_
  refine n_dup F dX8_readsLine_81 rfl ?_
  refine n_get F ck_8 lf_RX8_124 (by decide) fg_37_17 (by decide) dX8_readsLine_82 ?_
  refine n_iload_n F dX8_readsLine_85 rfl 1 rfl ?_
  refine n_iconst F (1 : Int32) dX8_readsLine_86 (by decide) ?_
  refine n_icmp_ne F 94 dX8_readsLine_87 (by decide) (fun e9 => ?_) (fun e9 => ?_)
  · rw [if_neg e9]
    refine n_iconst F (0 : Int32) dX8_readsLine_94 (by decide) ?_
    exact n_sub [0] rfl (Mo_readsLine_B95_ok F _ _ _)
  rw [if_pos e9]
  refine n_iconst F (1 : Int32) dX8_readsLine_90 (by decide) ?_
  refine n_goto F 95 dX8_readsLine_91 (by decide) ?_
  exact n_sub [0] rfl (Mo_readsLine_B95_ok F _ _ _)
def Mo_readsLine_B26 (w : Wd) (v1 : Int32) : Option (Int32 × Wd) := (Option.bind (Mo_token w) (fun q4 => (if ib ((7 : Int32) * (q4.1 37 5)) 70 = true then (Option.bind (Mo_readsRest (sI q4 41 (Int32.toNatClampNeg ((7 : Int32) * (q4.1 37 5))) v1) v1) (fun q6 => (if (q6.1) = (0 : Int32) then some ((0 : Int32), (q6.2)) else (if v1 = (0 : Int32) then (if ib (((7 : Int32) * ((q6.2).1 37 5)) + (1 : Int32)) 70 = true then (Mo_readsLine_B80 (sI (sI (q6.2) 37 16 ((q6.2).1 41 (Int32.toNatClampNeg (((7 : Int32) * ((q6.2).1 37 5)) + (1 : Int32))))) 37 17 (0 : Int32)) v1) else none) else (Mo_readsLine_B80 (q6.2) v1))))) else none)))
set_option maxRecDepth 100000 in
set_option maxHeartbeats 4000000 in
theorem Mo_readsLine_B26_ok {K : Ctx} (F : Fx K cX8_readsLine 2 RX8 (some .boolean) 5 109 false [37, 40, 41]) (w : Wd) (v1 : Int32) : N K rtI (Mo_readsLine_B26 w v1) w 26 [(0, .ref (gA (cg K) 37)), (1, .int v1)] [] := by
  rw [Mo_readsLine_B26]
  refine n_aload_n F dX8_readsLine_26 rfl 0 rfl ?_
  refine n_bind (fun q4 hq4 => ?_)
  refine n_callVv F cb_X8_token lm_RX8_106 ob_37 (by decide) ⟨_, _, rfl⟩ (ct_Mo_token (fx_ok F) (fx_sd F) (fx_ix F rfl) w hq4) rfl rfl (Nat.le_of_ble_eq_true rfl) ⟨Nat.le_of_ble_eq_true rfl, Nat.le_of_ble_eq_true rfl⟩ dX8_readsLine_27 ?_
  refine n_aload_n F dX8_readsLine_30 rfl 0 rfl ?_
  refine n_get F ck_8 lf_RX8_20 (by decide) fg_37_4 (by decide) dX8_readsLine_31 ?_
  refine n_bipush F (7 : Int32) dX8_readsLine_34 (by decide) ?_
  refine n_aload_n F dX8_readsLine_36 rfl 0 rfl ?_
  refine n_get F ck_8 lf_RX8_103 (by decide) fg_37_5 (by decide) dX8_readsLine_37 ?_
  refine n_imul F dX8_readsLine_40 ?_
  refine n_iload_n F dX8_readsLine_41 rfl 1 rfl ?_
  refine n_chk (fun e5 => ?_)
  refine n_iast F ar_41 (by decide) (ib_in e5) rfl dX8_readsLine_42 ?_
  refine n_aload_n F dX8_readsLine_43 rfl 0 rfl ?_
  refine n_iload_n F dX8_readsLine_44 rfl 1 rfl ?_
  refine n_bind (fun q6 hq6 => ?_)
  refine n_callVi F cb_X8_readsRest lm_RX8_127 ob_37 (by decide) ⟨_, _, rfl⟩ (ct_Mo_readsRest (fx_ok F) (fx_sd F) (fx_ix F rfl) (sI q4 41 (Int32.toNatClampNeg ((7 : Int32) * (q4.1 37 5))) v1) v1 hq6) rfl rfl (Nat.le_of_ble_eq_true rfl) ⟨Nat.le_of_ble_eq_true rfl, Nat.le_of_ble_eq_true rfl⟩ dX8_readsLine_45 ?_
  refine n_if_ne F 53 dX8_readsLine_48 (by decide) (fun e7 => ?_) (fun e7 => ?_)
  · rw [if_neg e7]
    refine n_iload_n F dX8_readsLine_53 rfl 1 rfl ?_
    refine n_if_ne F 80 dX8_readsLine_54 (by decide) (fun e8 => ?_) (fun e8 => ?_)
    · rw [if_neg e8]
      exact n_sub [0, 1] rfl (Mo_readsLine_B80_ok F _ _)
    rw [if_pos e8]
    refine n_aload_n F dX8_readsLine_57 rfl 0 rfl ?_
    refine n_aload_n F dX8_readsLine_58 rfl 0 rfl ?_
    refine n_get F ck_8 lf_RX8_20 (by decide) fg_37_4 (by decide) dX8_readsLine_59 ?_
    refine n_bipush F (7 : Int32) dX8_readsLine_62 (by decide) ?_
    refine n_aload_n F dX8_readsLine_64 rfl 0 rfl ?_
    refine n_get F ck_8 lf_RX8_103 (by decide) fg_37_5 (by decide) dX8_readsLine_65 ?_
    refine n_imul F dX8_readsLine_68 ?_
    refine n_iconst F (1 : Int32) dX8_readsLine_69 (by decide) ?_
    refine n_iadd F dX8_readsLine_70 ?_
    refine n_chk (fun e10 => ?_)
    refine n_iald F ar_41 (by decide) (ib_in e10) rfl dX8_readsLine_71 ?_
    refine n_put F ck_8 lf_RX8_109 (by decide) rfl fp_37_16 (by decide) rfl rfl dX8_readsLine_72 ?_
    refine n_aload_n F dX8_readsLine_75 rfl 0 rfl ?_
    refine n_iconst F (0 : Int32) dX8_readsLine_76 (by decide) ?_
    refine n_put F ck_8 lf_RX8_124 (by decide) rfl fp_37_17 (by decide) rfl rfl dX8_readsLine_77 ?_
    exact n_sub [0, 1] rfl (Mo_readsLine_B80_ok F _ _)
  rw [if_pos e7]
  refine n_iconst F (0 : Int32) dX8_readsLine_51 (by decide) ?_
  exact n_zret F .boolean rfl rfl rfl dX8_readsLine_52
def Mo_readsLine (w : Wd) : Option (Int32 × Wd) := (Option.bind (Mo_wordOf w) (fun q1 => (if q1 = (-1 : Int32) then some ((0 : Int32), w) else (if q1 = (1 : Int32) then (if (w.1 37 17) = (12 : Int32) then some ((0 : Int32), w) else (Mo_readsLine_B26 w q1)) else (Mo_readsLine_B26 w q1)))))
set_option maxRecDepth 100000 in
set_option maxHeartbeats 4000000 in
theorem ct_Mo_readsLine {l : Launch} {g : GG} {σ : Sd} (hg : OKg g σ) (hb : σ.2.1 = false) (hx : ∀ c ∈ ([37, 40, 41] : List Nat), c ∈ σ.1) (w : Wd) {q : Int32 × Wd} (hq : Mo_readsLine w = some q) : CT l g σ yX8_readsLine cX8_readsLine 2 (some .boolean) 5 109 [.ref (gA g 37)] w (some (.int q.1)) q.2 := by
  refine ct_of (rt := rtI) (res := Mo_readsLine w) (q := q) (own := RX8) (b := false) hg hb hx (by decide) rfl (Nat.le_of_ble_eq_true rfl) hq (fun K e1 e2 e3 F => ?_)
  subst e1 e2 e3
  rw [Mo_readsLine]
  show N K _ _ w 0 [(0, .ref (gA (cg K) 37))] []
  refine n_aload_n F dX8_readsLine_0 rfl 0 rfl ?_
  refine n_bind (fun q1 hq1 => ?_)
  refine n_callVi F cb_X8_wordOf lm_RX8_120 ob_37 (by decide) ⟨_, _, rfl⟩ (ct_Mo_wordOf (fx_ok F) (fx_sd F) (fx_ix F rfl) w hq1) rfl rfl (Nat.le_of_ble_eq_true rfl) ⟨Nat.le_of_ble_eq_true rfl, Nat.le_of_ble_eq_true rfl⟩ dX8_readsLine_1 ?_
  refine n_istore_n F (lv' := [(1, .int q1), (0, .ref (gA (cg K) 37))]) dX8_readsLine_4 rfl (by decide) rfl ?_
  refine n_iload_n F dX8_readsLine_5 rfl 0 rfl ?_
  refine n_iconst F (-1 : Int32) dX8_readsLine_6 (by decide) ?_
  refine n_icmp_eq F 24 dX8_readsLine_7 (by decide) (fun e2 => ?_) (fun e2 => ?_)
  · rw [if_pos e2]
    refine n_iconst F (0 : Int32) dX8_readsLine_24 (by decide) ?_
    exact n_zret F .boolean rfl rfl rfl dX8_readsLine_25
  rw [if_neg e2]
  refine n_iload_n F dX8_readsLine_10 rfl 0 rfl ?_
  refine n_iconst F (1 : Int32) dX8_readsLine_11 (by decide) ?_
  refine n_icmp_ne F 26 dX8_readsLine_12 (by decide) (fun e3 => ?_) (fun e3 => ?_)
  · rw [if_neg e3]
    exact n_sub [1, 0] rfl (Mo_readsLine_B26_ok F _ _)
  rw [if_pos e3]
  refine n_aload_n F dX8_readsLine_15 rfl 1 rfl ?_
  refine n_get F ck_8 lf_RX8_124 (by decide) fg_37_17 (by decide) dX8_readsLine_16 ?_
  refine n_bipush F (12 : Int32) dX8_readsLine_19 (by decide) ?_
  refine n_icmp_ne F 26 dX8_readsLine_21 (by decide) (fun e11 => ?_) (fun e11 => ?_)
  · rw [if_neg e11]
    exact n_sub [1, 0] rfl (Mo_readsLine_B26_ok F _ _)
  rw [if_pos e11]
  refine n_iconst F (0 : Int32) dX8_readsLine_24 (by decide) ?_
  exact n_zret F .boolean rfl rfl rfl dX8_readsLine_25
