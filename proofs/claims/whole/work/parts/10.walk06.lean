theorem dX7_burn_0 : decode cX7_burn 0 = .ok (.aload_n 0, 1) := by decide +kernel
theorem dX7_burn_1 : decode cX7_burn 1 = .ok (.getfield 66, 3) := by decide +kernel
theorem dX7_burn_4 : decode cX7_burn 4 = .ok (.getfield 100, 3) := by decide +kernel
theorem dX7_burn_7 : decode cX7_burn 7 = .ok (.istore_n 1, 1) := by decide +kernel
theorem dX7_burn_8 : decode cX7_burn 8 = .ok (.aload_n 0, 1) := by decide +kernel
theorem dX7_burn_9 : decode cX7_burn 9 = .ok (.getfield 66, 3) := by decide +kernel
theorem dX7_burn_12 : decode cX7_burn 12 = .ok (.iconst 0, 1) := by decide +kernel
theorem dX7_burn_13 : decode cX7_burn 13 = .ok (.putfield 100, 3) := by decide +kernel
theorem dX7_burn_16 : decode cX7_burn 16 = .ok (.iload_n 1, 1) := by decide +kernel
theorem dX7_burn_17 : decode cX7_burn 17 = .ok (.ireturn, 1) := by decide +kernel
def Nt_burn (w : Wd) : Int32 × Wd := ((w.1 32 2), (sI w 32 2 (0 : Int32)))
set_option maxRecDepth 100000 in
set_option maxHeartbeats 4000000 in
theorem ct_Nt_burn {l : Launch} {g : GG} {σ : Sd} (hg : OKg g σ) (hb : σ.2.1 = true) (hx : ∀ c ∈ ([0, 32] : List Nat), c ∈ σ.1) (w : Wd) : CT l g σ yX7_burn cX7_burn 2 (some .int) 0 0 [.ref (gA g 0)] w (some (.int (Nt_burn w).1)) (Nt_burn w).2 := by
  refine ct_of (rt := rtI) (res := some (Nt_burn w)) (q := (Nt_burn w)) (own := RX7) (b := true) hg hb hx (by decide) rfl (Nat.le_of_ble_eq_true rfl) rfl (fun K e1 e2 e3 F => ?_)
  subst e1 e2 e3
  rw [Nt_burn]
  show N K _ _ w 0 [(0, .ref (gA (cg K) 0))] []
  refine n_aload_n F dX7_burn_0 rfl 0 rfl ?_
  refine n_get F ck_7 lf_RX7_66 (by decide) fg_0_8 (by decide) dX7_burn_1 ?_
  refine n_get F ck_4 lf_RX7_100 (by decide) fg_32_2 (by decide) dX7_burn_4 ?_
  refine n_istore_n F (lv' := [(1, .int (w.1 32 2)), (0, .ref (gA (cg K) 0))]) dX7_burn_7 rfl (by decide) rfl ?_
  refine n_aload_n F dX7_burn_8 rfl 1 rfl ?_
  refine n_get F ck_7 lf_RX7_66 (by decide) fg_0_8 (by decide) dX7_burn_9 ?_
  refine n_iconst F (0 : Int32) dX7_burn_12 (by decide) ?_
  refine n_put F ck_4 lf_RX7_100 (by decide) rfl fp_32_2 (by decide) rfl rfl dX7_burn_13 ?_
  refine n_iload_n F dX7_burn_16 rfl 0 rfl ?_
  exact n_iret F rfl rfl dX7_burn_17
theorem dX7_judge_0 : decode cX7_judge 0 = .ok (.aload_n 0, 1) := by decide +kernel
theorem dX7_judge_1 : decode cX7_judge 1 = .ok (.getfield 66, 3) := by decide +kernel
theorem dX7_judge_4 : decode cX7_judge 4 = .ok (.invokevirtual 216, 3) := by decide +kernel
theorem dX7_judge_7 : decode cX7_judge 7 = .ok (.ireturn, 1) := by decide +kernel
def Nt_judge (w : Wd) : Option (Int32 × Wd) := (Option.bind (Ri_firstImpossible w) (fun q1 => some ((q1.1), (q1.2))))
set_option maxRecDepth 100000 in
set_option maxHeartbeats 4000000 in
theorem ct_Nt_judge {l : Launch} {g : GG} {σ : Sd} (hg : OKg g σ) (hb : σ.2.1 = true) (hx : ∀ c ∈ ([0, 3, 4, 5, 32, 33, 34] : List Nat), c ∈ σ.1) (w : Wd) {q : Int32 × Wd} (hq : Nt_judge w = some q) : CT l g σ yX7_judge cX7_judge 1 (some .int) 4 93 [.ref (gA g 0)] w (some (.int q.1)) q.2 := by
  refine ct_of (rt := rtI) (res := Nt_judge w) (q := q) (own := RX7) (b := true) hg hb hx (by decide) rfl (Nat.le_of_ble_eq_true rfl) hq (fun K e1 e2 e3 F => ?_)
  subst e1 e2 e3
  rw [Nt_judge]
  show N K _ _ w 0 [(0, .ref (gA (cg K) 0))] []
  refine n_aload_n F dX7_judge_0 rfl 0 rfl ?_
  refine n_get F ck_7 lf_RX7_66 (by decide) fg_0_8 (by decide) dX7_judge_1 ?_
  refine n_bind (fun q1 hq1 => ?_)
  refine n_callVi F cb_X4_firstImpossible lm_RX7_216 ob_32 (by decide) ⟨_, _, rfl⟩ (ct_Ri_firstImpossible (fx_ok F) (fx_sd F) (fx_ix F rfl) w hq1) rfl rfl (Nat.le_of_ble_eq_true rfl) ⟨Nat.le_of_ble_eq_true rfl, Nat.le_of_ble_eq_true rfl⟩ dX7_judge_4 ?_
  exact n_iret F rfl rfl dX7_judge_7
theorem dX7_commonDivisor_0 : decode cX7_commonDivisor 0 = .ok (.lload_n 0, 1) := by decide +kernel
theorem dX7_commonDivisor_1 : decode cX7_commonDivisor 1 = .ok (.lstore 4, 2) := by decide +kernel
theorem dX7_commonDivisor_3 : decode cX7_commonDivisor 3 = .ok (.lload_n 2, 1) := by decide +kernel
theorem dX7_commonDivisor_4 : decode cX7_commonDivisor 4 = .ok (.lstore 6, 2) := by decide +kernel
theorem dX7_commonDivisor_6 : decode cX7_commonDivisor 6 = .ok (.iconst 0, 1) := by decide +kernel
theorem dX7_commonDivisor_7 : decode cX7_commonDivisor 7 = .ok (.istore 8, 2) := by decide +kernel
theorem dX7_commonDivisor_9 : decode cX7_commonDivisor 9 = .ok (.iload 8, 2) := by decide +kernel
theorem dX7_commonDivisor_11 : decode cX7_commonDivisor 11 = .ok (.sipush 1000, 3) := by decide +kernel
theorem dX7_commonDivisor_14 : decode cX7_commonDivisor 14 = .ok (.if_icmp .ge 31, 3) := by decide +kernel
theorem dX7_commonDivisor_17 : decode cX7_commonDivisor 17 = .ok (.lload 6, 2) := by decide +kernel
theorem dX7_commonDivisor_19 : decode cX7_commonDivisor 19 = .ok (.lconst 0, 1) := by decide +kernel
theorem dX7_commonDivisor_20 : decode cX7_commonDivisor 20 = .ok (.lcmp, 1) := by decide +kernel
theorem dX7_commonDivisor_21 : decode cX7_commonDivisor 21 = .ok (.ifCond .eq 24, 3) := by decide +kernel
theorem dX7_commonDivisor_24 : decode cX7_commonDivisor 24 = .ok (.lload 4, 2) := by decide +kernel
theorem dX7_commonDivisor_26 : decode cX7_commonDivisor 26 = .ok (.lload 6, 2) := by decide +kernel
theorem dX7_commonDivisor_28 : decode cX7_commonDivisor 28 = .ok (.lrem, 1) := by decide +kernel
theorem dX7_commonDivisor_29 : decode cX7_commonDivisor 29 = .ok (.lstore 9, 2) := by decide +kernel
theorem dX7_commonDivisor_31 : decode cX7_commonDivisor 31 = .ok (.lload 6, 2) := by decide +kernel
theorem dX7_commonDivisor_33 : decode cX7_commonDivisor 33 = .ok (.lstore 4, 2) := by decide +kernel
theorem dX7_commonDivisor_35 : decode cX7_commonDivisor 35 = .ok (.lload 9, 2) := by decide +kernel
theorem dX7_commonDivisor_37 : decode cX7_commonDivisor 37 = .ok (.lstore 6, 2) := by decide +kernel
theorem dX7_commonDivisor_39 : decode cX7_commonDivisor 39 = .ok (.iinc 8 1, 3) := by decide +kernel
theorem dX7_commonDivisor_42 : decode cX7_commonDivisor 42 = .ok (.goto (-33), 3) := by decide +kernel
theorem dX7_commonDivisor_45 : decode cX7_commonDivisor 45 = .ok (.lload 4, 2) := by decide +kernel
theorem dX7_commonDivisor_47 : decode cX7_commonDivisor 47 = .ok (.lreturn, 1) := by decide +kernel
def Nt_commonDivisor_L9 (w : Wd) (k45 : Int64 → Option Int64) : Nat → Int64 → Int64 → Int32 → Option Int64
  | 0, _, _, _ => none
  | n + 1, v4, v6, v8 => (if (1000 : Int32) ≤ v8 then (k45 v4) else (if (lg_cmp v6 (0 : Int64)) = (0 : Int32) then (k45 v4) else (if ¬ v6 = (0 : Int64) then (Nt_commonDivisor_L9 w k45 n v6 (v4 - v4 / v6 * v6) (v8 + (1 : Int32))) else none)))
set_option maxRecDepth 100000 in
set_option maxHeartbeats 4000000 in
theorem Nt_commonDivisor_L9_ok {K : Ctx} (F : Fx K cX7_commonDivisor 11 RX7 (some .long) 0 0 true []) (w : Wd) {k45 : Int64 → Option Int64} (h45 : ∀ (v4 : Int64), N K (rtQ w) (k45 v4) w 45 [(4, .long v4)] []) : ∀ (n : Nat) (v4 : Int64) (v6 : Int64) (v8 : Int32), N K (rtQ w) (Nt_commonDivisor_L9 w k45 n v4 v6 v8) w 9 [(4, .long v4), (6, .long v6), (8, .int v8)] [] := by
  intro n
  induction n with
  | zero => intro _ _ _; exact n_none
  | succ n ih =>
    intro v4 v6 v8
    rw [Nt_commonDivisor_L9]
    refine n_iload F dX7_commonDivisor_9 2 rfl ?_
    refine n_sipush F (1000 : Int32) dX7_commonDivisor_11 (by decide) ?_
    refine n_icmp_ge F 45 dX7_commonDivisor_14 (by decide) (fun e1 => ?_) (fun e1 => ?_)
    · rw [if_pos e1]
      exact n_sub [0] rfl (h45 _)
    rw [if_neg e1]
    refine n_lload F dX7_commonDivisor_17 1 rfl ?_
    refine n_lconst F (0 : Int64) dX7_commonDivisor_19 (by decide) ?_
    refine n_lcmp F dX7_commonDivisor_20 ?_
    refine n_if_eq F 45 dX7_commonDivisor_21 (by decide) (fun e2 => ?_) (fun e2 => ?_)
    · rw [if_pos e2]
      exact n_sub [0] rfl (h45 _)
    rw [if_neg e2]
    refine n_lload F dX7_commonDivisor_24 0 rfl ?_
    refine n_lload F dX7_commonDivisor_26 1 rfl ?_
    refine n_chk (fun e3 => ?_)
    refine n_lrem F dX7_commonDivisor_28 e3 ?_
    refine n_lstore F (lv' := [(9, .long (v4 - v4 / v6 * v6)), (4, .long v4), (6, .long v6), (8, .int v8)]) dX7_commonDivisor_29 (by decide) rfl ?_
    refine n_lload F dX7_commonDivisor_31 2 rfl ?_
    refine n_lstore F (lv' := [(4, .long v6), (9, .long (v4 - v4 / v6 * v6)), (6, .long v6), (8, .int v8)]) dX7_commonDivisor_33 (by decide) rfl ?_
    refine n_lload F dX7_commonDivisor_35 1 rfl ?_
    refine n_lstore F (lv' := [(6, .long (v4 - v4 / v6 * v6)), (4, .long v6), (9, .long (v4 - v4 / v6 * v6)), (8, .int v8)]) dX7_commonDivisor_37 (by decide) rfl ?_
    refine n_iinc F (v8 + (1 : Int32)) (lv' := [(8, .int (v8 + (1 : Int32))), (6, .long (v4 - v4 / v6 * v6)), (4, .long v6), (9, .long (v4 - v4 / v6 * v6))]) dX7_commonDivisor_39 3 rfl rfl (by decide) rfl ?_
    refine n_goto F 9 dX7_commonDivisor_42 (by decide) ?_
    exact n_sub [2, 1, 0] rfl (ih _ _ _)
def Nt_commonDivisor_B45 (w : Wd) (v4 : Int64) : Option Int64 := some v4
set_option maxRecDepth 100000 in
set_option maxHeartbeats 4000000 in
theorem Nt_commonDivisor_B45_ok {K : Ctx} (F : Fx K cX7_commonDivisor 11 RX7 (some .long) 0 0 true []) (w : Wd) (v4 : Int64) : N K (rtQ w) (Nt_commonDivisor_B45 w v4) w 45 [(4, .long v4)] [] := by
  rw [Nt_commonDivisor_B45]
  refine n_lload F dX7_commonDivisor_45 0 rfl ?_
  exact n_lret F rfl rfl dX7_commonDivisor_47
def Nt_commonDivisor (w : Wd) (a1 : Int64) (a2 : Int64) : Option Int64 := (Nt_commonDivisor_L9 w (Nt_commonDivisor_B45 w) FU a1 a2 (0 : Int32))
set_option maxRecDepth 100000 in
set_option maxHeartbeats 4000000 in
theorem ct_Nt_commonDivisor {l : Launch} {g : GG} {σ : Sd} (hg : OKg g σ) (hb : σ.2.1 = true) (hx : ∀ c ∈ ([] : List Nat), c ∈ σ.1) (w : Wd) (a1 : Int64) (a2 : Int64) {q : Int64} (hq : Nt_commonDivisor w a1 a2 = some q) : CT l g σ yX7_commonDivisor cX7_commonDivisor 11 (some .long) 0 0 [.long a1, .long a2] w (some (.long q)) w := by
  refine ct_of (rt := (rtQ w)) (res := Nt_commonDivisor w a1 a2) (q := q) (own := RX7) (b := true) hg hb hx (by decide) rfl (Nat.le_of_ble_eq_true rfl) hq (fun K e1 e2 e3 F => ?_)
  subst e1 e2 e3
  rw [Nt_commonDivisor]
  show N K _ _ w 0 [(0, .long a1), (2, .long a2)] []
  refine n_lload_n F dX7_commonDivisor_0 rfl 0 rfl ?_
  refine n_lstore F (lv' := [(4, .long a1), (0, .long a1), (2, .long a2)]) dX7_commonDivisor_1 (by decide) rfl ?_
  refine n_lload_n F dX7_commonDivisor_3 rfl 2 rfl ?_
  refine n_lstore F (lv' := [(6, .long a2), (4, .long a1), (0, .long a1), (2, .long a2)]) dX7_commonDivisor_4 (by decide) rfl ?_
  refine n_iconst F (0 : Int32) dX7_commonDivisor_6 (by decide) ?_
  refine n_istore F (lv' := [(8, .int (0 : Int32)), (6, .long a2), (4, .long a1), (0, .long a1), (2, .long a2)]) dX7_commonDivisor_7 (by decide) rfl ?_
  exact n_sub [2, 1, 0] rfl (Nt_commonDivisor_L9_ok F w (Nt_commonDivisor_B45_ok F w) FU _ _ _)
theorem dX7_late_0 : decode cX7_late 0 = .ok (.iload_n 1, 1) := by decide +kernel
theorem dX7_late_1 : decode cX7_late 1 = .ok (.iconst 0, 1) := by decide +kernel
theorem dX7_late_2 : decode cX7_late 2 = .ok (.bipush 10, 2) := by decide +kernel
theorem dX7_late_4 : decode cX7_late 4 = .ok (.invokestatic 74, 3) := by decide +kernel
theorem dX7_late_7 : decode cX7_late 7 = .ok (.ifCond .eq 22, 3) := by decide +kernel
theorem dX7_late_10 : decode cX7_late 10 = .ok (.iload_n 2, 1) := by decide +kernel
theorem dX7_late_11 : decode cX7_late 11 = .ok (.iconst 0, 1) := by decide +kernel
theorem dX7_late_12 : decode cX7_late 12 = .ok (.bipush 40, 2) := by decide +kernel
theorem dX7_late_14 : decode cX7_late 14 = .ok (.invokestatic 74, 3) := by decide +kernel
theorem dX7_late_17 : decode cX7_late 17 = .ok (.ifCond .eq 12, 3) := by decide +kernel
theorem dX7_late_20 : decode cX7_late 20 = .ok (.iload_n 3, 1) := by decide +kernel
theorem dX7_late_21 : decode cX7_late 21 = .ok (.iconst 0, 1) := by decide +kernel
theorem dX7_late_22 : decode cX7_late 22 = .ok (.iconst 1, 1) := by decide +kernel
theorem dX7_late_23 : decode cX7_late 23 = .ok (.invokestatic 74, 3) := by decide +kernel
theorem dX7_late_26 : decode cX7_late 26 = .ok (.ifCond .ne 7, 3) := by decide +kernel
theorem dX7_late_29 : decode cX7_late 29 = .ok (.ldc2_w 219, 3) := by decide +kernel
theorem dX7_late_32 : decode cX7_late 32 = .ok (.lreturn, 1) := by decide +kernel
theorem dX7_late_33 : decode cX7_late 33 = .ok (.aload_n 0, 1) := by decide +kernel
theorem dX7_late_34 : decode cX7_late 34 = .ok (.getfield 66, 3) := by decide +kernel
theorem dX7_late_37 : decode cX7_late 37 = .ok (.iload_n 1, 1) := by decide +kernel
theorem dX7_late_38 : decode cX7_late 38 = .ok (.iload_n 2, 1) := by decide +kernel
theorem dX7_late_39 : decode cX7_late 39 = .ok (.invokevirtual 221, 3) := by decide +kernel
theorem dX7_late_42 : decode cX7_late 42 = .ok (.lstore 4, 2) := by decide +kernel
theorem dX7_late_44 : decode cX7_late 44 = .ok (.aload_n 0, 1) := by decide +kernel
theorem dX7_late_45 : decode cX7_late 45 = .ok (.getfield 66, 3) := by decide +kernel
theorem dX7_late_48 : decode cX7_late 48 = .ok (.invokevirtual 225, 3) := by decide +kernel
theorem dX7_late_51 : decode cX7_late 51 = .ok (.lstore 6, 2) := by decide +kernel
theorem dX7_late_53 : decode cX7_late 53 = .ok (.lload 4, 2) := by decide +kernel
theorem dX7_late_55 : decode cX7_late 55 = .ok (.lload 6, 2) := by decide +kernel
theorem dX7_late_57 : decode cX7_late 57 = .ok (.invokestatic 229, 3) := by decide +kernel
theorem dX7_late_60 : decode cX7_late 60 = .ok (.lstore 8, 2) := by decide +kernel
theorem dX7_late_62 : decode cX7_late 62 = .ok (.lload 8, 2) := by decide +kernel
theorem dX7_late_64 : decode cX7_late 64 = .ok (.lconst 1, 1) := by decide +kernel
theorem dX7_late_65 : decode cX7_late 65 = .ok (.lcmp, 1) := by decide +kernel
theorem dX7_late_66 : decode cX7_late 66 = .ok (.ifCond .ge 15, 3) := by decide +kernel
theorem dX7_late_69 : decode cX7_late 69 = .ok (.iload_n 3, 1) := by decide +kernel
theorem dX7_late_70 : decode cX7_late 70 = .ok (.ifCond .ne 8, 3) := by decide +kernel
theorem dX7_late_73 : decode cX7_late 73 = .ok (.lload 4, 2) := by decide +kernel
theorem dX7_late_75 : decode cX7_late 75 = .ok (.goto 5, 3) := by decide +kernel
theorem dX7_late_78 : decode cX7_late 78 = .ok (.lload 6, 2) := by decide +kernel
theorem dX7_late_80 : decode cX7_late 80 = .ok (.lreturn, 1) := by decide +kernel
theorem dX7_late_81 : decode cX7_late 81 = .ok (.iload_n 3, 1) := by decide +kernel
theorem dX7_late_82 : decode cX7_late 82 = .ok (.ifCond .ne 11, 3) := by decide +kernel
theorem dX7_late_85 : decode cX7_late 85 = .ok (.lload 4, 2) := by decide +kernel
theorem dX7_late_87 : decode cX7_late 87 = .ok (.lload 8, 2) := by decide +kernel
theorem dX7_late_89 : decode cX7_late 89 = .ok (.ldiv, 1) := by decide +kernel
theorem dX7_late_90 : decode cX7_late 90 = .ok (.goto 8, 3) := by decide +kernel
theorem dX7_late_93 : decode cX7_late 93 = .ok (.lload 6, 2) := by decide +kernel
theorem dX7_late_95 : decode cX7_late 95 = .ok (.lload 8, 2) := by decide +kernel
theorem dX7_late_97 : decode cX7_late 97 = .ok (.ldiv, 1) := by decide +kernel
theorem dX7_late_98 : decode cX7_late 98 = .ok (.lreturn, 1) := by decide +kernel
def Nt_late (w : Wd) (a1 : Int32) (a2 : Int32) (a3 : Int32) : Option (Int64 × Wd) := (if (Nt_within w a1 (0 : Int32) (10 : Int32)) = (0 : Int32) then some ((-3 : Int64), w) else (if (Nt_within w a2 (0 : Int32) (40 : Int32)) = (0 : Int32) then some ((-3 : Int64), w) else (if (Nt_within w a3 (0 : Int32) (1 : Int32)) = (0 : Int32) then some ((-3 : Int64), w) else (Option.bind (Ri_waysInTime w a1 a2) (fun q4 => (Option.bind (Ri_waysInAll (q4.2)) (fun q5 => (Option.bind (Nt_commonDivisor (q4.2) (q4.1) q5) (fun q6 => (if (0 : Int32) ≤ (lg_cmp q6 (1 : Int64)) then (if a3 = (0 : Int32) then (if ¬ q6 = (0 : Int64) then some (((q4.1) / q6), (q4.2)) else none) else (if ¬ q6 = (0 : Int64) then some ((q5 / q6), (q4.2)) else none)) else (if a3 = (0 : Int32) then some ((q4.1), (q4.2)) else some (q5, (q4.2)))))))))))))
set_option maxRecDepth 100000 in
set_option maxHeartbeats 4000000 in
theorem ct_Nt_late {l : Launch} {g : GG} {σ : Sd} (hg : OKg g σ) (hb : σ.2.1 = true) (hx : ∀ c ∈ ([0, 3, 4, 32, 33, 35, 36] : List Nat), c ∈ σ.1) (w : Wd) (a1 : Int32) (a2 : Int32) (a3 : Int32) {q : Int64 × Wd} (hq : Nt_late w a1 a2 a3 = some q) : CT l g σ yX7_late cX7_late 10 (some .long) 4 96 [.ref (gA g 0), .int a1, .int a2, .int a3] w (some (.long q.1)) q.2 := by
  refine ct_of (rt := rtJ) (res := Nt_late w a1 a2 a3) (q := q) (own := RX7) (b := true) hg hb hx (by decide) rfl (Nat.le_of_ble_eq_true rfl) hq (fun K e1 e2 e3 F => ?_)
  subst e1 e2 e3
  rw [Nt_late]
  show N K _ _ w 0 [(0, .ref (gA (cg K) 0)), (1, .int a1), (2, .int a2), (3, .int a3)] []
  refine n_iload_n F dX7_late_0 rfl 1 rfl ?_
  refine n_iconst F (0 : Int32) dX7_late_1 (by decide) ?_
  refine n_bipush F (10 : Int32) dX7_late_2 (by decide) ?_
  refine n_callSi F cb_X7_within lm_RX7_74 (ct_Nt_within (fx_ok F) (fx_sd F) (fx_ix F rfl) w a1 (0 : Int32) (10 : Int32)) rfl rfl (Nat.le_of_ble_eq_true rfl) ⟨Nat.le_of_ble_eq_true rfl, Nat.le_of_ble_eq_true rfl⟩ dX7_late_4 ?_
  refine n_if_eq F 29 dX7_late_7 (by decide) (fun e1 => ?_) (fun e1 => ?_)
  · rw [if_pos e1]
    refine n_ldc2 F (-3 : Int64) dX7_late_29 kc_RX7_219 ?_
    exact n_lret F rfl rfl dX7_late_32
  rw [if_neg e1]
  refine n_iload_n F dX7_late_10 rfl 2 rfl ?_
  refine n_iconst F (0 : Int32) dX7_late_11 (by decide) ?_
  refine n_bipush F (40 : Int32) dX7_late_12 (by decide) ?_
  refine n_callSi F cb_X7_within lm_RX7_74 (ct_Nt_within (fx_ok F) (fx_sd F) (fx_ix F rfl) w a2 (0 : Int32) (40 : Int32)) rfl rfl (Nat.le_of_ble_eq_true rfl) ⟨Nat.le_of_ble_eq_true rfl, Nat.le_of_ble_eq_true rfl⟩ dX7_late_14 ?_
  refine n_if_eq F 29 dX7_late_17 (by decide) (fun e2 => ?_) (fun e2 => ?_)
  · rw [if_pos e2]
    refine n_ldc2 F (-3 : Int64) dX7_late_29 kc_RX7_219 ?_
    exact n_lret F rfl rfl dX7_late_32
  rw [if_neg e2]
  refine n_iload_n F dX7_late_20 rfl 3 rfl ?_
  refine n_iconst F (0 : Int32) dX7_late_21 (by decide) ?_
  refine n_iconst F (1 : Int32) dX7_late_22 (by decide) ?_
  refine n_callSi F cb_X7_within lm_RX7_74 (ct_Nt_within (fx_ok F) (fx_sd F) (fx_ix F rfl) w a3 (0 : Int32) (1 : Int32)) rfl rfl (Nat.le_of_ble_eq_true rfl) ⟨Nat.le_of_ble_eq_true rfl, Nat.le_of_ble_eq_true rfl⟩ dX7_late_23 ?_
  refine n_if_ne F 33 dX7_late_26 (by decide) (fun e3 => ?_) (fun e3 => ?_)
  · rw [if_neg e3]
    refine n_aload_n F dX7_late_33 rfl 0 rfl ?_
    refine n_get F ck_7 lf_RX7_66 (by decide) fg_0_8 (by decide) dX7_late_34 ?_
    refine n_iload_n F dX7_late_37 rfl 1 rfl ?_
    refine n_iload_n F dX7_late_38 rfl 2 rfl ?_
    refine n_bind (fun q4 hq4 => ?_)
    refine n_callVl F cb_X4_waysInTime lm_RX7_221 ob_32 (by decide) ⟨_, _, rfl⟩ (ct_Ri_waysInTime (fx_ok F) (fx_sd F) (fx_ix F rfl) w a1 a2 hq4) rfl rfl (Nat.le_of_ble_eq_true rfl) ⟨Nat.le_of_ble_eq_true rfl, Nat.le_of_ble_eq_true rfl⟩ dX7_late_39 ?_
    refine n_lstore F (lv' := [(4, .long (q4.1)), (0, .ref (gA (cg K) 0)), (1, .int a1), (2, .int a2), (3, .int a3)]) dX7_late_42 (by decide) rfl ?_
    refine n_aload_n F dX7_late_44 rfl 1 rfl ?_
    refine n_get F ck_7 lf_RX7_66 (by decide) fg_0_8 (by decide) dX7_late_45 ?_
    refine n_bind (fun q5 hq5 => ?_)
    refine n_callVl F cb_X4_waysInAll lm_RX7_225 ob_32 (by decide) ⟨_, _, rfl⟩ (ct_Ri_waysInAll (fx_ok F) (fx_sd F) (fx_ix F rfl) (q4.2) hq5) rfl rfl (Nat.le_of_ble_eq_true rfl) ⟨Nat.le_of_ble_eq_true rfl, Nat.le_of_ble_eq_true rfl⟩ dX7_late_48 ?_
    refine n_lstore F (lv' := [(6, .long q5), (4, .long (q4.1)), (0, .ref (gA (cg K) 0)), (1, .int a1), (2, .int a2), (3, .int a3)]) dX7_late_51 (by decide) rfl ?_
    refine n_lload F dX7_late_53 1 rfl ?_
    refine n_lload F dX7_late_55 0 rfl ?_
    refine n_bind (fun q6 hq6 => ?_)
    refine n_callSl F cb_X7_commonDivisor lm_RX7_229 (ct_Nt_commonDivisor (fx_ok F) (fx_sd F) (fx_ix F rfl) (q4.2) (q4.1) q5 hq6) rfl rfl (Nat.le_of_ble_eq_true rfl) ⟨Nat.le_of_ble_eq_true rfl, Nat.le_of_ble_eq_true rfl⟩ dX7_late_57 ?_
    refine n_lstore F (lv' := [(8, .long q6), (6, .long q5), (4, .long (q4.1)), (0, .ref (gA (cg K) 0)), (1, .int a1), (2, .int a2), (3, .int a3)]) dX7_late_60 (by decide) rfl ?_
    refine n_lload F dX7_late_62 0 rfl ?_
    refine n_lconst F (1 : Int64) dX7_late_64 (by decide) ?_
    refine n_lcmp F dX7_late_65 ?_
    refine n_if_ge F 81 dX7_late_66 (by decide) (fun e7 => ?_) (fun e7 => ?_)
    · rw [if_pos e7]
      refine n_iload_n F dX7_late_81 rfl 6 rfl ?_
      refine n_if_ne F 93 dX7_late_82 (by decide) (fun e8 => ?_) (fun e8 => ?_)
      · rw [if_neg e8]
        refine n_lload F dX7_late_93 1 rfl ?_
        refine n_lload F dX7_late_95 0 rfl ?_
        refine n_chk (fun e9 => ?_)
        refine n_ldiv F dX7_late_97 e9 ?_
        exact n_lret F rfl rfl dX7_late_98
      rw [if_pos e8]
      refine n_lload F dX7_late_85 2 rfl ?_
      refine n_lload F dX7_late_87 0 rfl ?_
      refine n_chk (fun e10 => ?_)
      refine n_ldiv F dX7_late_89 e10 ?_
      refine n_goto F 98 dX7_late_90 (by decide) ?_
      exact n_lret F rfl rfl dX7_late_98
    rw [if_neg e7]
    refine n_iload_n F dX7_late_69 rfl 6 rfl ?_
    refine n_if_ne F 78 dX7_late_70 (by decide) (fun e11 => ?_) (fun e11 => ?_)
    · rw [if_neg e11]
      refine n_lload F dX7_late_78 1 rfl ?_
      exact n_lret F rfl rfl dX7_late_80
    rw [if_pos e11]
    refine n_lload F dX7_late_73 2 rfl ?_
    refine n_goto F 80 dX7_late_75 (by decide) ?_
    exact n_lret F rfl rfl dX7_late_80
  rw [if_pos e3]
  refine n_ldc2 F (-3 : Int64) dX7_late_29 kc_RX7_219 ?_
  exact n_lret F rfl rfl dX7_late_32
theorem dX7_keep_0 : decode cX7_keep 0 = .ok (.iload_n 1, 1) := by decide +kernel
theorem dX7_keep_1 : decode cX7_keep 1 = .ok (.iconst 0, 1) := by decide +kernel
theorem dX7_keep_2 : decode cX7_keep 2 = .ok (.iconst 1, 1) := by decide +kernel
theorem dX7_keep_3 : decode cX7_keep 3 = .ok (.invokestatic 74, 3) := by decide +kernel
theorem dX7_keep_6 : decode cX7_keep 6 = .ok (.ifCond .ne 6, 3) := by decide +kernel
theorem dX7_keep_9 : decode cX7_keep 9 = .ok (.bipush (-2), 2) := by decide +kernel
theorem dX7_keep_11 : decode cX7_keep 11 = .ok (.ireturn, 1) := by decide +kernel
theorem dX7_keep_12 : decode cX7_keep 12 = .ok (.aload_n 0, 1) := by decide +kernel
theorem dX7_keep_13 : decode cX7_keep 13 = .ok (.iload_n 1, 1) := by decide +kernel
theorem dX7_keep_14 : decode cX7_keep 14 = .ok (.invokevirtual 233, 3) := by decide +kernel
theorem dX7_keep_17 : decode cX7_keep 17 = .ok (.aload_n 0, 1) := by decide +kernel
theorem dX7_keep_18 : decode cX7_keep 18 = .ok (.getfield 37, 3) := by decide +kernel
theorem dX7_keep_21 : decode cX7_keep 21 = .ok (.invokevirtual 237, 3) := by decide +kernel
theorem dX7_keep_24 : decode cX7_keep 24 = .ok (.aload_n 0, 1) := by decide +kernel
theorem dX7_keep_25 : decode cX7_keep 25 = .ok (.dup, 1) := by decide +kernel
theorem dX7_keep_26 : decode cX7_keep 26 = .ok (.getfield 70, 3) := by decide +kernel
theorem dX7_keep_29 : decode cX7_keep 29 = .ok (.iconst 1, 1) := by decide +kernel
theorem dX7_keep_30 : decode cX7_keep 30 = .ok (.iload_n 1, 1) := by decide +kernel
theorem dX7_keep_31 : decode cX7_keep 31 = .ok (.ishl, 1) := by decide +kernel
theorem dX7_keep_32 : decode cX7_keep 32 = .ok (.ior, 1) := by decide +kernel
theorem dX7_keep_33 : decode cX7_keep 33 = .ok (.putfield 70, 3) := by decide +kernel
theorem dX7_keep_36 : decode cX7_keep 36 = .ok (.aload_n 0, 1) := by decide +kernel
theorem dX7_keep_37 : decode cX7_keep 37 = .ok (.getfield 37, 3) := by decide +kernel
theorem dX7_keep_40 : decode cX7_keep 40 = .ok (.getfield 240, 3) := by decide +kernel
theorem dX7_keep_43 : decode cX7_keep 43 = .ok (.ireturn, 1) := by decide +kernel
def Nt_keep (w : Wd) (a1 : Int32) : Option (Int32 × Wd) := (if (Nt_within w a1 (0 : Int32) (1 : Int32)) = (0 : Int32) then some ((-2 : Int32), w) else (if a1 = (0 : Int32) then (Option.bind (Sc_copy_17_13 w) (fun q3 => some (((sI q3 0 9 ((q3.1 0 9) ||| ((1 : Int32) <<< (a1 &&& (31 : Int32))))).1 13 1), (sI q3 0 9 ((q3.1 0 9) ||| ((1 : Int32) <<< (a1 &&& (31 : Int32)))))))) else (Option.bind (Sc_copy_21_13 w) (fun q4 => some (((sI q4 0 9 ((q4.1 0 9) ||| ((1 : Int32) <<< (a1 &&& (31 : Int32))))).1 13 1), (sI q4 0 9 ((q4.1 0 9) ||| ((1 : Int32) <<< (a1 &&& (31 : Int32))))))))))
set_option maxRecDepth 100000 in
set_option maxHeartbeats 4000000 in
theorem ct_Nt_keep {l : Launch} {g : GG} {σ : Sd} (hg : OKg g σ) (hb : σ.2.1 = true) (hx : ∀ c ∈ ([0, 13, 14, 15, 16, 17, 18, 19, 20, 21, 22, 23, 24] : List Nat), c ∈ σ.1) (w : Wd) (a1 : Int32) {q : Int32 × Wd} (hq : Nt_keep w a1 = some q) : CT l g σ yX7_keep cX7_keep 2 (some .int) 2 39 [.ref (gA g 0), .int a1] w (some (.int q.1)) q.2 := by
  refine ct_of (rt := rtI) (res := Nt_keep w a1) (q := q) (own := RX7) (b := true) hg hb hx (by decide) rfl (Nat.le_of_ble_eq_true rfl) hq (fun K e1 e2 e3 F => ?_)
  subst e1 e2 e3
  rw [Nt_keep]
  show N K _ _ w 0 [(0, .ref (gA (cg K) 0)), (1, .int a1)] []
  refine n_iload_n F dX7_keep_0 rfl 1 rfl ?_
  refine n_iconst F (0 : Int32) dX7_keep_1 (by decide) ?_
  refine n_iconst F (1 : Int32) dX7_keep_2 (by decide) ?_
  refine n_callSi F cb_X7_within lm_RX7_74 (ct_Nt_within (fx_ok F) (fx_sd F) (fx_ix F rfl) w a1 (0 : Int32) (1 : Int32)) rfl rfl (Nat.le_of_ble_eq_true rfl) ⟨Nat.le_of_ble_eq_true rfl, Nat.le_of_ble_eq_true rfl⟩ dX7_keep_3 ?_
  refine n_if_ne F 12 dX7_keep_6 (by decide) (fun e1 => ?_) (fun e1 => ?_)
  · rw [if_neg e1]
    refine n_aload_n F dX7_keep_12 rfl 0 rfl ?_
    refine n_iload_n F dX7_keep_13 rfl 1 rfl ?_
    by_cases e2 : a1 = (0 : Int32)
    · rw [if_pos e2]
      refine n_callVa F cb_X7_image lm_RX7_233 ob_0 (by decide) ⟨_, _, rfl⟩ (ct_Nt_image0 (fx_ok F) (fx_sd F) (fx_ix F rfl) w e2) rfl rfl (Nat.le_of_ble_eq_true rfl) ⟨Nat.le_of_ble_eq_true rfl, Nat.le_of_ble_eq_true rfl⟩ dX7_keep_14 ?_
      refine n_aload_n F dX7_keep_17 rfl 0 rfl ?_
      refine n_get F ck_7 lf_RX7_37 (by decide) fg_0_3 (by decide) dX7_keep_18 ?_
      refine n_bind (fun q3 hq3 => ?_)
      refine n_callVv F cb_X5_copy lm_RX7_237 ob_17 (by decide) ⟨_, _, rfl⟩ (ct_Sc_copy_17_13 (fx_ok F) (fx_sd F) (fx_ix F rfl) w hq3) rfl rfl (Nat.le_of_ble_eq_true rfl) ⟨Nat.le_of_ble_eq_true rfl, Nat.le_of_ble_eq_true rfl⟩ dX7_keep_21 ?_
      refine n_aload_n F dX7_keep_24 rfl 0 rfl ?_
      refine n_dup F dX7_keep_25 rfl ?_
      refine n_get F ck_7 lf_RX7_70 (by decide) fg_0_9 (by decide) dX7_keep_26 ?_
      refine n_iconst F (1 : Int32) dX7_keep_29 (by decide) ?_
      refine n_iload_n F dX7_keep_30 rfl 1 rfl ?_
      refine n_ishl F dX7_keep_31 ?_
      refine n_ior F dX7_keep_32 ?_
      refine n_put F ck_7 lf_RX7_70 (by decide) rfl fp_0_9 (by decide) rfl rfl dX7_keep_33 ?_
      refine n_aload_n F dX7_keep_36 rfl 0 rfl ?_
      refine n_get F ck_7 lf_RX7_37 (by decide) fg_0_3 (by decide) dX7_keep_37 ?_
      refine n_get F ck_5 lf_RX7_240 (by decide) fg_13_1 (by decide) dX7_keep_40 ?_
      exact n_iret F rfl rfl dX7_keep_43
    rw [if_neg e2]
    refine n_callVa F cb_X7_image lm_RX7_233 ob_0 (by decide) ⟨_, _, rfl⟩ (ct_Nt_image1 (fx_ok F) (fx_sd F) (fx_ix F rfl) w e2) rfl rfl (Nat.le_of_ble_eq_true rfl) ⟨Nat.le_of_ble_eq_true rfl, Nat.le_of_ble_eq_true rfl⟩ dX7_keep_14 ?_
    refine n_aload_n F dX7_keep_17 rfl 0 rfl ?_
    refine n_get F ck_7 lf_RX7_37 (by decide) fg_0_3 (by decide) dX7_keep_18 ?_
    refine n_bind (fun q4 hq4 => ?_)
    refine n_callVv F cb_X5_copy lm_RX7_237 ob_21 (by decide) ⟨_, _, rfl⟩ (ct_Sc_copy_21_13 (fx_ok F) (fx_sd F) (fx_ix F rfl) w hq4) rfl rfl (Nat.le_of_ble_eq_true rfl) ⟨Nat.le_of_ble_eq_true rfl, Nat.le_of_ble_eq_true rfl⟩ dX7_keep_21 ?_
    refine n_aload_n F dX7_keep_24 rfl 0 rfl ?_
    refine n_dup F dX7_keep_25 rfl ?_
    refine n_get F ck_7 lf_RX7_70 (by decide) fg_0_9 (by decide) dX7_keep_26 ?_
    refine n_iconst F (1 : Int32) dX7_keep_29 (by decide) ?_
    refine n_iload_n F dX7_keep_30 rfl 1 rfl ?_
    refine n_ishl F dX7_keep_31 ?_
    refine n_ior F dX7_keep_32 ?_
    refine n_put F ck_7 lf_RX7_70 (by decide) rfl fp_0_9 (by decide) rfl rfl dX7_keep_33 ?_
    refine n_aload_n F dX7_keep_36 rfl 0 rfl ?_
    refine n_get F ck_7 lf_RX7_37 (by decide) fg_0_3 (by decide) dX7_keep_37 ?_
    refine n_get F ck_5 lf_RX7_240 (by decide) fg_13_1 (by decide) dX7_keep_40 ?_
    exact n_iret F rfl rfl dX7_keep_43
  rw [if_pos e1]
  refine n_bipush F (-2 : Int32) dX7_keep_9 (by decide) ?_
  exact n_iret F rfl rfl dX7_keep_11
theorem dX7_back_0 : decode cX7_back 0 = .ok (.iload_n 1, 1) := by decide +kernel
theorem dX7_back_1 : decode cX7_back 1 = .ok (.iconst 0, 1) := by decide +kernel
theorem dX7_back_2 : decode cX7_back 2 = .ok (.iconst 1, 1) := by decide +kernel
theorem dX7_back_3 : decode cX7_back 3 = .ok (.invokestatic 74, 3) := by decide +kernel
theorem dX7_back_6 : decode cX7_back 6 = .ok (.ifCond .ne 6, 3) := by decide +kernel
theorem dX7_back_9 : decode cX7_back 9 = .ok (.bipush (-2), 2) := by decide +kernel
theorem dX7_back_11 : decode cX7_back 11 = .ok (.ireturn, 1) := by decide +kernel
theorem dX7_back_12 : decode cX7_back 12 = .ok (.aload_n 0, 1) := by decide +kernel
theorem dX7_back_13 : decode cX7_back 13 = .ok (.getfield 70, 3) := by decide +kernel
theorem dX7_back_16 : decode cX7_back 16 = .ok (.iload_n 1, 1) := by decide +kernel
theorem dX7_back_17 : decode cX7_back 17 = .ok (.ishr, 1) := by decide +kernel
theorem dX7_back_18 : decode cX7_back 18 = .ok (.iconst 1, 1) := by decide +kernel
theorem dX7_back_19 : decode cX7_back 19 = .ok (.iand, 1) := by decide +kernel
theorem dX7_back_20 : decode cX7_back 20 = .ok (.ifCond .ne 6, 3) := by decide +kernel
theorem dX7_back_23 : decode cX7_back 23 = .ok (.bipush (-4), 2) := by decide +kernel
theorem dX7_back_25 : decode cX7_back 25 = .ok (.ireturn, 1) := by decide +kernel
theorem dX7_back_26 : decode cX7_back 26 = .ok (.aload_n 0, 1) := by decide +kernel
theorem dX7_back_27 : decode cX7_back 27 = .ok (.getfield 37, 3) := by decide +kernel
theorem dX7_back_30 : decode cX7_back 30 = .ok (.aload_n 0, 1) := by decide +kernel
theorem dX7_back_31 : decode cX7_back 31 = .ok (.iload_n 1, 1) := by decide +kernel
theorem dX7_back_32 : decode cX7_back 32 = .ok (.invokevirtual 233, 3) := by decide +kernel
theorem dX7_back_35 : decode cX7_back 35 = .ok (.invokevirtual 237, 3) := by decide +kernel
theorem dX7_back_38 : decode cX7_back 38 = .ok (.aload_n 0, 1) := by decide +kernel
theorem dX7_back_39 : decode cX7_back 39 = .ok (.getfield 37, 3) := by decide +kernel
theorem dX7_back_42 : decode cX7_back 42 = .ok (.getfield 240, 3) := by decide +kernel
theorem dX7_back_45 : decode cX7_back 45 = .ok (.ireturn, 1) := by decide +kernel
def Nt_back (w : Wd) (a1 : Int32) : Option (Int32 × Wd) := (if (Nt_within w a1 (0 : Int32) (1 : Int32)) = (0 : Int32) then some ((-2 : Int32), w) else (if (((w.1 0 9) >>> (a1 &&& (31 : Int32))) &&& (1 : Int32)) = (0 : Int32) then some ((-4 : Int32), w) else (if a1 = (0 : Int32) then (Option.bind (Sc_copy_13_17 w) (fun q4 => some ((q4.1 13 1), q4))) else (Option.bind (Sc_copy_13_21 w) (fun q5 => some ((q5.1 13 1), q5))))))
set_option maxRecDepth 100000 in
set_option maxHeartbeats 4000000 in
theorem ct_Nt_back {l : Launch} {g : GG} {σ : Sd} (hg : OKg g σ) (hb : σ.2.1 = true) (hx : ∀ c ∈ ([0, 13, 14, 15, 16, 17, 18, 19, 20, 21, 22, 23, 24] : List Nat), c ∈ σ.1) (w : Wd) (a1 : Int32) {q : Int32 × Wd} (hq : Nt_back w a1 = some q) : CT l g σ yX7_back cX7_back 2 (some .int) 2 39 [.ref (gA g 0), .int a1] w (some (.int q.1)) q.2 := by
  refine ct_of (rt := rtI) (res := Nt_back w a1) (q := q) (own := RX7) (b := true) hg hb hx (by decide) rfl (Nat.le_of_ble_eq_true rfl) hq (fun K e1 e2 e3 F => ?_)
  subst e1 e2 e3
  rw [Nt_back]
  show N K _ _ w 0 [(0, .ref (gA (cg K) 0)), (1, .int a1)] []
  refine n_iload_n F dX7_back_0 rfl 1 rfl ?_
  refine n_iconst F (0 : Int32) dX7_back_1 (by decide) ?_
  refine n_iconst F (1 : Int32) dX7_back_2 (by decide) ?_
  refine n_callSi F cb_X7_within lm_RX7_74 (ct_Nt_within (fx_ok F) (fx_sd F) (fx_ix F rfl) w a1 (0 : Int32) (1 : Int32)) rfl rfl (Nat.le_of_ble_eq_true rfl) ⟨Nat.le_of_ble_eq_true rfl, Nat.le_of_ble_eq_true rfl⟩ dX7_back_3 ?_
  refine n_if_ne F 12 dX7_back_6 (by decide) (fun e1 => ?_) (fun e1 => ?_)
  · rw [if_neg e1]
    refine n_aload_n F dX7_back_12 rfl 0 rfl ?_
    refine n_get F ck_7 lf_RX7_70 (by decide) fg_0_9 (by decide) dX7_back_13 ?_
    refine n_iload_n F dX7_back_16 rfl 1 rfl ?_
    refine n_ishr F dX7_back_17 ?_
    refine n_iconst F (1 : Int32) dX7_back_18 (by decide) ?_
    refine n_iand F dX7_back_19 ?_
    refine n_if_ne F 26 dX7_back_20 (by decide) (fun e2 => ?_) (fun e2 => ?_)
    · rw [if_neg e2]
      refine n_aload_n F dX7_back_26 rfl 0 rfl ?_
      refine n_get F ck_7 lf_RX7_37 (by decide) fg_0_3 (by decide) dX7_back_27 ?_
      refine n_aload_n F dX7_back_30 rfl 0 rfl ?_
      refine n_iload_n F dX7_back_31 rfl 1 rfl ?_
      by_cases e3 : a1 = (0 : Int32)
      · rw [if_pos e3]
        refine n_callVa F cb_X7_image lm_RX7_233 ob_0 (by decide) ⟨_, _, rfl⟩ (ct_Nt_image0 (fx_ok F) (fx_sd F) (fx_ix F rfl) w e3) rfl rfl (Nat.le_of_ble_eq_true rfl) ⟨Nat.le_of_ble_eq_true rfl, Nat.le_of_ble_eq_true rfl⟩ dX7_back_32 ?_
        refine n_bind (fun q4 hq4 => ?_)
        refine n_callVv F cb_X5_copy lm_RX7_237 ob_13 (by decide) ⟨_, _, rfl⟩ (ct_Sc_copy_13_17 (fx_ok F) (fx_sd F) (fx_ix F rfl) w hq4) rfl rfl (Nat.le_of_ble_eq_true rfl) ⟨Nat.le_of_ble_eq_true rfl, Nat.le_of_ble_eq_true rfl⟩ dX7_back_35 ?_
        refine n_aload_n F dX7_back_38 rfl 0 rfl ?_
        refine n_get F ck_7 lf_RX7_37 (by decide) fg_0_3 (by decide) dX7_back_39 ?_
        refine n_get F ck_5 lf_RX7_240 (by decide) fg_13_1 (by decide) dX7_back_42 ?_
        exact n_iret F rfl rfl dX7_back_45
      rw [if_neg e3]
      refine n_callVa F cb_X7_image lm_RX7_233 ob_0 (by decide) ⟨_, _, rfl⟩ (ct_Nt_image1 (fx_ok F) (fx_sd F) (fx_ix F rfl) w e3) rfl rfl (Nat.le_of_ble_eq_true rfl) ⟨Nat.le_of_ble_eq_true rfl, Nat.le_of_ble_eq_true rfl⟩ dX7_back_32 ?_
      refine n_bind (fun q5 hq5 => ?_)
      refine n_callVv F cb_X5_copy lm_RX7_237 ob_13 (by decide) ⟨_, _, rfl⟩ (ct_Sc_copy_13_21 (fx_ok F) (fx_sd F) (fx_ix F rfl) w hq5) rfl rfl (Nat.le_of_ble_eq_true rfl) ⟨Nat.le_of_ble_eq_true rfl, Nat.le_of_ble_eq_true rfl⟩ dX7_back_35 ?_
      refine n_aload_n F dX7_back_38 rfl 0 rfl ?_
      refine n_get F ck_7 lf_RX7_37 (by decide) fg_0_3 (by decide) dX7_back_39 ?_
      refine n_get F ck_5 lf_RX7_240 (by decide) fg_13_1 (by decide) dX7_back_42 ?_
      exact n_iret F rfl rfl dX7_back_45
    rw [if_pos e2]
    refine n_bipush F (-4 : Int32) dX7_back_23 (by decide) ?_
    exact n_iret F rfl rfl dX7_back_25
  rw [if_pos e1]
  refine n_bipush F (-2 : Int32) dX7_back_9 (by decide) ?_
  exact n_iret F rfl rfl dX7_back_11
theorem dX7_count_0 : decode cX7_count 0 = .ok (.iload_n 1, 1) := by decide +kernel
theorem dX7_count_1 : decode cX7_count 1 = .ok (.tableswitch 111 0 7 #[47, 55, 63, 71, 79, 87, 95, 103], 47) := by decide +kernel
theorem dX7_count_48 : decode cX7_count 48 = .ok (.aload_n 0, 1) := by decide +kernel
theorem dX7_count_49 : decode cX7_count 49 = .ok (.getfield 19, 3) := by decide +kernel
theorem dX7_count_52 : decode cX7_count 52 = .ok (.getfield 243, 3) := by decide +kernel
theorem dX7_count_55 : decode cX7_count 55 = .ok (.ireturn, 1) := by decide +kernel
theorem dX7_count_56 : decode cX7_count 56 = .ok (.aload_n 0, 1) := by decide +kernel
theorem dX7_count_57 : decode cX7_count 57 = .ok (.getfield 19, 3) := by decide +kernel
theorem dX7_count_60 : decode cX7_count 60 = .ok (.getfield 202, 3) := by decide +kernel
theorem dX7_count_63 : decode cX7_count 63 = .ok (.ireturn, 1) := by decide +kernel
theorem dX7_count_64 : decode cX7_count 64 = .ok (.aload_n 0, 1) := by decide +kernel
theorem dX7_count_65 : decode cX7_count 65 = .ok (.getfield 19, 3) := by decide +kernel
theorem dX7_count_68 : decode cX7_count 68 = .ok (.getfield 246, 3) := by decide +kernel
theorem dX7_count_71 : decode cX7_count 71 = .ok (.ireturn, 1) := by decide +kernel
theorem dX7_count_72 : decode cX7_count 72 = .ok (.aload_n 0, 1) := by decide +kernel
theorem dX7_count_73 : decode cX7_count 73 = .ok (.getfield 19, 3) := by decide +kernel
theorem dX7_count_76 : decode cX7_count 76 = .ok (.getfield 249, 3) := by decide +kernel
theorem dX7_count_79 : decode cX7_count 79 = .ok (.ireturn, 1) := by decide +kernel
theorem dX7_count_80 : decode cX7_count 80 = .ok (.aload_n 0, 1) := by decide +kernel
theorem dX7_count_81 : decode cX7_count 81 = .ok (.getfield 37, 3) := by decide +kernel
theorem dX7_count_84 : decode cX7_count 84 = .ok (.getfield 240, 3) := by decide +kernel
theorem dX7_count_87 : decode cX7_count 87 = .ok (.ireturn, 1) := by decide +kernel
theorem dX7_count_88 : decode cX7_count 88 = .ok (.aload_n 0, 1) := by decide +kernel
theorem dX7_count_89 : decode cX7_count 89 = .ok (.getfield 12, 3) := by decide +kernel
theorem dX7_count_92 : decode cX7_count 92 = .ok (.getfield 78, 3) := by decide +kernel
theorem dX7_count_95 : decode cX7_count 95 = .ok (.ireturn, 1) := by decide +kernel
theorem dX7_count_96 : decode cX7_count 96 = .ok (.aload_n 0, 1) := by decide +kernel
theorem dX7_count_97 : decode cX7_count 97 = .ok (.getfield 66, 3) := by decide +kernel
theorem dX7_count_100 : decode cX7_count 100 = .ok (.getfield 100, 3) := by decide +kernel
theorem dX7_count_103 : decode cX7_count 103 = .ok (.ireturn, 1) := by decide +kernel
theorem dX7_count_104 : decode cX7_count 104 = .ok (.aload_n 0, 1) := by decide +kernel
theorem dX7_count_105 : decode cX7_count 105 = .ok (.getfield 37, 3) := by decide +kernel
theorem dX7_count_108 : decode cX7_count 108 = .ok (.invokevirtual 252, 3) := by decide +kernel
theorem dX7_count_111 : decode cX7_count 111 = .ok (.ireturn, 1) := by decide +kernel
theorem dX7_count_112 : decode cX7_count 112 = .ok (.bipush (-3), 2) := by decide +kernel
theorem dX7_count_114 : decode cX7_count 114 = .ok (.ireturn, 1) := by decide +kernel
def Nt_count (w : Wd) (a1 : Int32) : Option Int32 := (if a1 = (0 : Int32) then some (w.1 3 0) else (if a1 = (1 : Int32) then some (w.1 3 1) else (if a1 = (2 : Int32) then some (w.1 3 2) else (if a1 = (3 : Int32) then some (w.1 3 3) else (if a1 = (4 : Int32) then some (w.1 13 1) else (if a1 = (5 : Int32) then some (w.1 1 1) else (if a1 = (6 : Int32) then some (w.1 32 2) else (if a1 = (7 : Int32) then (Option.bind (Sc_seekingBits w) (fun q9 => some q9)) else some (-3 : Int32)))))))))
set_option maxRecDepth 100000 in
set_option maxHeartbeats 4000000 in
theorem ct_Nt_count {l : Launch} {g : GG} {σ : Sd} (hg : OKg g σ) (hb : σ.2.1 = true) (hx : ∀ c ∈ ([0, 1, 3, 13, 15, 32] : List Nat), c ∈ σ.1) (w : Wd) (a1 : Int32) {q : Int32} (hq : Nt_count w a1 = some q) : CT l g σ yX7_count cX7_count 2 (some .int) 1 22 [.ref (gA g 0), .int a1] w (some (.int q)) w := by
  refine ct_of (rt := (rtP w)) (res := Nt_count w a1) (q := q) (own := RX7) (b := true) hg hb hx (by decide) rfl (Nat.le_of_ble_eq_true rfl) hq (fun K e1 e2 e3 F => ?_)
  subst e1 e2 e3
  rw [Nt_count]
  show N K _ _ w 0 [(0, .ref (gA (cg K) 0)), (1, .int a1)] []
  refine n_iload_n F dX7_count_0 rfl 1 rfl ?_
  by_cases e1 : a1 = (0 : Int32)
  · rw [if_pos e1]
    refine n_tabIn F (0 : Int32) 48 dX7_count_1 e1 (by decide) (by decide) rfl (by decide) ?_
    refine n_aload_n F dX7_count_48 rfl 0 rfl ?_
    refine n_get F ck_7 lf_RX7_19 (by decide) fg_0_1 (by decide) dX7_count_49 ?_
    refine n_get F ck_1 lf_RX7_243 (by decide) fg_3_0 (by decide) dX7_count_52 ?_
    exact n_iret F rfl rfl dX7_count_55
  rw [if_neg e1]
  by_cases e2 : a1 = (1 : Int32)
  · rw [if_pos e2]
    refine n_tabIn F (1 : Int32) 56 dX7_count_1 e2 (by decide) (by decide) rfl (by decide) ?_
    refine n_aload_n F dX7_count_56 rfl 0 rfl ?_
    refine n_get F ck_7 lf_RX7_19 (by decide) fg_0_1 (by decide) dX7_count_57 ?_
    refine n_get F ck_1 lf_RX7_202 (by decide) fg_3_1 (by decide) dX7_count_60 ?_
    exact n_iret F rfl rfl dX7_count_63
  rw [if_neg e2]
  by_cases e3 : a1 = (2 : Int32)
  · rw [if_pos e3]
    refine n_tabIn F (2 : Int32) 64 dX7_count_1 e3 (by decide) (by decide) rfl (by decide) ?_
    refine n_aload_n F dX7_count_64 rfl 0 rfl ?_
    refine n_get F ck_7 lf_RX7_19 (by decide) fg_0_1 (by decide) dX7_count_65 ?_
    refine n_get F ck_1 lf_RX7_246 (by decide) fg_3_2 (by decide) dX7_count_68 ?_
    exact n_iret F rfl rfl dX7_count_71
  rw [if_neg e3]
  by_cases e4 : a1 = (3 : Int32)
  · rw [if_pos e4]
    refine n_tabIn F (3 : Int32) 72 dX7_count_1 e4 (by decide) (by decide) rfl (by decide) ?_
    refine n_aload_n F dX7_count_72 rfl 0 rfl ?_
    refine n_get F ck_7 lf_RX7_19 (by decide) fg_0_1 (by decide) dX7_count_73 ?_
    refine n_get F ck_1 lf_RX7_249 (by decide) fg_3_3 (by decide) dX7_count_76 ?_
    exact n_iret F rfl rfl dX7_count_79
  rw [if_neg e4]
  by_cases e5 : a1 = (4 : Int32)
  · rw [if_pos e5]
    refine n_tabIn F (4 : Int32) 80 dX7_count_1 e5 (by decide) (by decide) rfl (by decide) ?_
    refine n_aload_n F dX7_count_80 rfl 0 rfl ?_
    refine n_get F ck_7 lf_RX7_37 (by decide) fg_0_3 (by decide) dX7_count_81 ?_
    refine n_get F ck_5 lf_RX7_240 (by decide) fg_13_1 (by decide) dX7_count_84 ?_
    exact n_iret F rfl rfl dX7_count_87
  rw [if_neg e5]
  by_cases e6 : a1 = (5 : Int32)
  · rw [if_pos e6]
    refine n_tabIn F (5 : Int32) 88 dX7_count_1 e6 (by decide) (by decide) rfl (by decide) ?_
    refine n_aload_n F dX7_count_88 rfl 0 rfl ?_
    refine n_get F ck_7 lf_RX7_12 (by decide) fg_0_0 (by decide) dX7_count_89 ?_
    refine n_get F ck_6 lf_RX7_78 (by decide) fg_1_1 (by decide) dX7_count_92 ?_
    exact n_iret F rfl rfl dX7_count_95
  rw [if_neg e6]
  by_cases e7 : a1 = (6 : Int32)
  · rw [if_pos e7]
    refine n_tabIn F (6 : Int32) 96 dX7_count_1 e7 (by decide) (by decide) rfl (by decide) ?_
    refine n_aload_n F dX7_count_96 rfl 0 rfl ?_
    refine n_get F ck_7 lf_RX7_66 (by decide) fg_0_8 (by decide) dX7_count_97 ?_
    refine n_get F ck_4 lf_RX7_100 (by decide) fg_32_2 (by decide) dX7_count_100 ?_
    exact n_iret F rfl rfl dX7_count_103
  rw [if_neg e7]
  by_cases e8 : a1 = (7 : Int32)
  · rw [if_pos e8]
    refine n_tabIn F (7 : Int32) 104 dX7_count_1 e8 (by decide) (by decide) rfl (by decide) ?_
    refine n_aload_n F dX7_count_104 rfl 0 rfl ?_
    refine n_get F ck_7 lf_RX7_37 (by decide) fg_0_3 (by decide) dX7_count_105 ?_
    refine n_bind (fun q9 hq9 => ?_)
    refine n_callVi F cb_X5_seekingBits lm_RX7_252 ob_13 (by decide) ⟨_, _, rfl⟩ (ct_Sc_seekingBits (fx_ok F) (fx_sd F) (fx_ix F rfl) w hq9) rfl rfl (Nat.le_of_ble_eq_true rfl) ⟨Nat.le_of_ble_eq_true rfl, Nat.le_of_ble_eq_true rfl⟩ dX7_count_108 ?_
    exact n_iret F rfl rfl dX7_count_111
  rw [if_neg e8]
  have hsw := (⟨lv_neT e1 (a := 0) rfl, lv_neT e2 (a := 1) rfl, lv_neT e3 (a := 2) rfl, lv_neT e4 (a := 3) rfl, lv_neT e5 (a := 4) rfl, lv_neT e6 (a := 5) rfl, lv_neT e7 (a := 6) rfl, lv_neT e8 (a := 7) rfl⟩ : ¬ (a1).toInt = 0 ∧ ¬ (a1).toInt = 1 ∧ ¬ (a1).toInt = 2 ∧ ¬ (a1).toInt = 3 ∧ ¬ (a1).toInt = 4 ∧ ¬ (a1).toInt = 5 ∧ ¬ (a1).toInt = 6 ∧ ¬ (a1).toInt = 7)
  refine n_tabOut F 112 dX7_count_1 (by omega) (by decide) ?_
  refine n_bipush F (-3 : Int32) dX7_count_112 (by decide) ?_
  exact n_iret F rfl rfl dX7_count_114
theorem dX8_in_0 : decode cX8_in 0 = .ok (.lload_n 0, 1) := by decide +kernel
theorem dX8_in_1 : decode cX8_in 1 = .ok (.lload_n 2, 1) := by decide +kernel
theorem dX8_in_2 : decode cX8_in 2 = .ok (.lcmp, 1) := by decide +kernel
theorem dX8_in_3 : decode cX8_in 3 = .ok (.ifCond .lt 14, 3) := by decide +kernel
theorem dX8_in_6 : decode cX8_in 6 = .ok (.lload_n 0, 1) := by decide +kernel
theorem dX8_in_7 : decode cX8_in 7 = .ok (.lload 4, 2) := by decide +kernel
theorem dX8_in_9 : decode cX8_in 9 = .ok (.lcmp, 1) := by decide +kernel
theorem dX8_in_10 : decode cX8_in 10 = .ok (.ifCond .gt 7, 3) := by decide +kernel
theorem dX8_in_13 : decode cX8_in 13 = .ok (.iconst 1, 1) := by decide +kernel
theorem dX8_in_14 : decode cX8_in 14 = .ok (.goto 4, 3) := by decide +kernel
theorem dX8_in_17 : decode cX8_in 17 = .ok (.iconst 0, 1) := by decide +kernel
theorem dX8_in_18 : decode cX8_in 18 = .ok (.ireturn, 1) := by decide +kernel
def Mo_in (w : Wd) (a1 : Int64) (a2 : Int64) (a3 : Int64) : Int32 := (if (lg_cmp a1 a2) < (0 : Int32) then (0 : Int32) else (if (0 : Int32) < (lg_cmp a1 a3) then (0 : Int32) else (1 : Int32)))
set_option maxRecDepth 100000 in
set_option maxHeartbeats 4000000 in
theorem ct_Mo_in {l : Launch} {g : GG} {σ : Sd} (hg : OKg g σ) (hb : σ.2.1 = false) (hx : ∀ c ∈ ([] : List Nat), c ∈ σ.1) (w : Wd) (a1 : Int64) (a2 : Int64) (a3 : Int64) : CT l g σ yX8_in cX8_in 6 (some .boolean) 0 0 [.long a1, .long a2, .long a3] w (some (.int (Mo_in w a1 a2 a3))) w := by
  refine ct_of (rt := (rtP w)) (res := some (Mo_in w a1 a2 a3)) (q := (Mo_in w a1 a2 a3)) (own := RX8) (b := false) hg hb hx (by decide) rfl (Nat.le_of_ble_eq_true rfl) rfl (fun K e1 e2 e3 F => ?_)
  subst e1 e2 e3
  rw [Mo_in]
  show N K _ _ w 0 [(0, .long a1), (2, .long a2), (4, .long a3)] []
  refine n_lload_n F dX8_in_0 rfl 0 rfl ?_
  refine n_lload_n F dX8_in_1 rfl 1 rfl ?_
  refine n_lcmp F dX8_in_2 ?_
  refine n_if_lt F 17 dX8_in_3 (by decide) (fun e1 => ?_) (fun e1 => ?_)
  · rw [if_pos e1]
    refine n_iconst F (0 : Int32) dX8_in_17 (by decide) ?_
    exact n_zret F .boolean rfl rfl rfl dX8_in_18
  rw [if_neg e1]
  refine n_lload_n F dX8_in_6 rfl 0 rfl ?_
  refine n_lload F dX8_in_7 2 rfl ?_
  refine n_lcmp F dX8_in_9 ?_
  refine n_if_gt F 17 dX8_in_10 (by decide) (fun e2 => ?_) (fun e2 => ?_)
  · rw [if_pos e2]
    refine n_iconst F (0 : Int32) dX8_in_17 (by decide) ?_
    exact n_zret F .boolean rfl rfl rfl dX8_in_18
  rw [if_neg e2]
  refine n_iconst F (1 : Int32) dX8_in_13 (by decide) ?_
  refine n_goto F 18 dX8_in_14 (by decide) ?_
  exact n_zret F .boolean rfl rfl rfl dX8_in_18
theorem bz_Mo_in (w : Wd) (a1 : Int64) (a2 : Int64) (a3 : Int64) : (Mo_in w a1 a2 a3) &&& (1 : Int32) = (Mo_in w a1 a2 a3) := by
  unfold Mo_in
  first | exact bz_auto | (repeat' split) <;> first | rfl | assumption
theorem dX8_has_0 : decode cX8_has 0 = .ok (.iload_n 0, 1) := by decide +kernel
theorem dX8_has_1 : decode cX8_has 1 = .ok (.iload_n 1, 1) := by decide +kernel
theorem dX8_has_2 : decode cX8_has 2 = .ok (.ishr, 1) := by decide +kernel
theorem dX8_has_3 : decode cX8_has 3 = .ok (.iconst 1, 1) := by decide +kernel
theorem dX8_has_4 : decode cX8_has 4 = .ok (.iand, 1) := by decide +kernel
theorem dX8_has_5 : decode cX8_has 5 = .ok (.iconst 1, 1) := by decide +kernel
theorem dX8_has_6 : decode cX8_has 6 = .ok (.if_icmp .ne 7, 3) := by decide +kernel
theorem dX8_has_9 : decode cX8_has 9 = .ok (.iconst 1, 1) := by decide +kernel
theorem dX8_has_10 : decode cX8_has 10 = .ok (.goto 4, 3) := by decide +kernel
theorem dX8_has_13 : decode cX8_has 13 = .ok (.iconst 0, 1) := by decide +kernel
theorem dX8_has_14 : decode cX8_has 14 = .ok (.ireturn, 1) := by decide +kernel
def Mo_has (w : Wd) (a1 : Int32) (a2 : Int32) : Int32 := (if ((a1 >>> (a2 &&& (31 : Int32))) &&& (1 : Int32)) = (1 : Int32) then (1 : Int32) else (0 : Int32))
set_option maxRecDepth 100000 in
set_option maxHeartbeats 4000000 in
theorem ct_Mo_has {l : Launch} {g : GG} {σ : Sd} (hg : OKg g σ) (hb : σ.2.1 = false) (hx : ∀ c ∈ ([] : List Nat), c ∈ σ.1) (w : Wd) (a1 : Int32) (a2 : Int32) : CT l g σ yX8_has cX8_has 2 (some .boolean) 0 0 [.int a1, .int a2] w (some (.int (Mo_has w a1 a2))) w := by
  refine ct_of (rt := (rtP w)) (res := some (Mo_has w a1 a2)) (q := (Mo_has w a1 a2)) (own := RX8) (b := false) hg hb hx (by decide) rfl (Nat.le_of_ble_eq_true rfl) rfl (fun K e1 e2 e3 F => ?_)
  subst e1 e2 e3
  rw [Mo_has]
  show N K _ _ w 0 [(0, .int a1), (1, .int a2)] []
  refine n_iload_n F dX8_has_0 rfl 0 rfl ?_
  refine n_iload_n F dX8_has_1 rfl 1 rfl ?_
  refine n_ishr F dX8_has_2 ?_
  refine n_iconst F (1 : Int32) dX8_has_3 (by decide) ?_
  refine n_iand F dX8_has_4 ?_
  refine n_iconst F (1 : Int32) dX8_has_5 (by decide) ?_
  refine n_icmp_ne F 13 dX8_has_6 (by decide) (fun e1 => ?_) (fun e1 => ?_)
  · rw [if_neg e1]
    refine n_iconst F (0 : Int32) dX8_has_13 (by decide) ?_
    exact n_zret F .boolean rfl rfl rfl dX8_has_14
  rw [if_pos e1]
  refine n_iconst F (1 : Int32) dX8_has_9 (by decide) ?_
  refine n_goto F 14 dX8_has_10 (by decide) ?_
  exact n_zret F .boolean rfl rfl rfl dX8_has_14
theorem bz_Mo_has (w : Wd) (a1 : Int32) (a2 : Int32) : (Mo_has w a1 a2) &&& (1 : Int32) = (Mo_has w a1 a2) := by
  unfold Mo_has
  first | exact bz_auto | (repeat' split) <;> first | rfl | assumption
theorem dX8_begin_0 : decode cX8_begin 0 = .ok (.aload_n 0, 1) := by decide +kernel
theorem dX8_begin_1 : decode cX8_begin 1 = .ok (.getfield 7, 3) := by decide +kernel
theorem dX8_begin_4 : decode cX8_begin 4 = .ok (.iconst 0, 1) := by decide +kernel
theorem dX8_begin_5 : decode cX8_begin 5 = .ok (.iconst 0, 1) := by decide +kernel
theorem dX8_begin_6 : decode cX8_begin 6 = .ok (.iastore, 1) := by decide +kernel
theorem dX8_begin_7 : decode cX8_begin 7 = .ok (.aload_n 0, 1) := by decide +kernel
theorem dX8_begin_8 : decode cX8_begin 8 = .ok (.getfield 7, 3) := by decide +kernel
theorem dX8_begin_11 : decode cX8_begin 11 = .ok (.iconst 1, 1) := by decide +kernel
theorem dX8_begin_12 : decode cX8_begin 12 = .ok (.aload_n 0, 1) := by decide +kernel
theorem dX8_begin_13 : decode cX8_begin 13 = .ok (.getfield 58, 3) := by decide +kernel
theorem dX8_begin_16 : decode cX8_begin 16 = .ok (.iastore, 1) := by decide +kernel
theorem dX8_begin_17 : decode cX8_begin 17 = .ok (.aload_n 0, 1) := by decide +kernel
theorem dX8_begin_18 : decode cX8_begin 18 = .ok (.getfield 7, 3) := by decide +kernel
theorem dX8_begin_21 : decode cX8_begin 21 = .ok (.iconst 2, 1) := by decide +kernel
theorem dX8_begin_22 : decode cX8_begin 22 = .ok (.iconst 0, 1) := by decide +kernel
theorem dX8_begin_23 : decode cX8_begin 23 = .ok (.iastore, 1) := by decide +kernel
theorem dX8_begin_24 : decode cX8_begin 24 = .ok (.aload_n 0, 1) := by decide +kernel
theorem dX8_begin_25 : decode cX8_begin 25 = .ok (.getfield 7, 3) := by decide +kernel
theorem dX8_begin_28 : decode cX8_begin 28 = .ok (.iconst 3, 1) := by decide +kernel
theorem dX8_begin_29 : decode cX8_begin 29 = .ok (.aload_n 0, 1) := by decide +kernel
theorem dX8_begin_30 : decode cX8_begin 30 = .ok (.getfield 36, 3) := by decide +kernel
theorem dX8_begin_33 : decode cX8_begin 33 = .ok (.iconst 0, 1) := by decide +kernel
theorem dX8_begin_34 : decode cX8_begin 34 = .ok (.iaload, 1) := by decide +kernel
theorem dX8_begin_35 : decode cX8_begin 35 = .ok (.aload_n 0, 1) := by decide +kernel
theorem dX8_begin_36 : decode cX8_begin 36 = .ok (.getfield 58, 3) := by decide +kernel
theorem dX8_begin_39 : decode cX8_begin 39 = .ok (.if_icmp .eq 16, 3) := by decide +kernel
theorem dX8_begin_42 : decode cX8_begin 42 = .ok (.aload_n 0, 1) := by decide +kernel
theorem dX8_begin_43 : decode cX8_begin 43 = .ok (.getfield 36, 3) := by decide +kernel
theorem dX8_begin_46 : decode cX8_begin 46 = .ok (.iconst 1, 1) := by decide +kernel
theorem dX8_begin_47 : decode cX8_begin 47 = .ok (.iaload, 1) := by decide +kernel
theorem dX8_begin_48 : decode cX8_begin 48 = .ok (.aload_n 0, 1) := by decide +kernel
theorem dX8_begin_49 : decode cX8_begin 49 = .ok (.getfield 58, 3) := by decide +kernel
theorem dX8_begin_52 : decode cX8_begin 52 = .ok (.if_icmp .ne 7, 3) := by decide +kernel
theorem dX8_begin_55 : decode cX8_begin 55 = .ok (.iconst 1, 1) := by decide +kernel
theorem dX8_begin_56 : decode cX8_begin 56 = .ok (.goto 4, 3) := by decide +kernel
theorem dX8_begin_59 : decode cX8_begin 59 = .ok (.iconst 0, 1) := by decide +kernel
theorem dX8_begin_60 : decode cX8_begin 60 = .ok (.iastore, 1) := by decide +kernel
theorem dX8_begin_61 : decode cX8_begin 61 = .ok (.iconst 0, 1) := by decide +kernel
theorem dX8_begin_62 : decode cX8_begin 62 = .ok (.istore_n 1, 1) := by decide +kernel
theorem dX8_begin_63 : decode cX8_begin 63 = .ok (.iload_n 1, 1) := by decide +kernel
theorem dX8_begin_64 : decode cX8_begin 64 = .ok (.iconst 3, 1) := by decide +kernel
theorem dX8_begin_65 : decode cX8_begin 65 = .ok (.if_icmp .ge 23, 3) := by decide +kernel
theorem dX8_begin_68 : decode cX8_begin 68 = .ok (.aload_n 0, 1) := by decide +kernel
theorem dX8_begin_69 : decode cX8_begin 69 = .ok (.getfield 7, 3) := by decide +kernel
theorem dX8_begin_72 : decode cX8_begin 72 = .ok (.iconst 4, 1) := by decide +kernel
theorem dX8_begin_73 : decode cX8_begin 73 = .ok (.iload_n 1, 1) := by decide +kernel
theorem dX8_begin_74 : decode cX8_begin 74 = .ok (.iadd, 1) := by decide +kernel
theorem dX8_begin_75 : decode cX8_begin 75 = .ok (.aload_n 0, 1) := by decide +kernel
theorem dX8_begin_76 : decode cX8_begin 76 = .ok (.getfield 30, 3) := by decide +kernel
theorem dX8_begin_79 : decode cX8_begin 79 = .ok (.iload_n 1, 1) := by decide +kernel
theorem dX8_begin_80 : decode cX8_begin 80 = .ok (.iaload, 1) := by decide +kernel
theorem dX8_begin_81 : decode cX8_begin 81 = .ok (.iastore, 1) := by decide +kernel
theorem dX8_begin_82 : decode cX8_begin 82 = .ok (.iinc 1 1, 3) := by decide +kernel
theorem dX8_begin_85 : decode cX8_begin 85 = .ok (.goto (-22), 3) := by decide +kernel
theorem dX8_begin_88 : decode cX8_begin 88 = .ok (.aload_n 0, 1) := by decide +kernel
theorem dX8_begin_89 : decode cX8_begin 89 = .ok (.getfield 7, 3) := by decide +kernel
theorem dX8_begin_92 : decode cX8_begin 92 = .ok (.bipush 7, 2) := by decide +kernel
theorem dX8_begin_94 : decode cX8_begin 94 = .ok (.iconst (-1), 1) := by decide +kernel
theorem dX8_begin_95 : decode cX8_begin 95 = .ok (.iastore, 1) := by decide +kernel
theorem dX8_begin_96 : decode cX8_begin 96 = .ok (.iconst 0, 1) := by decide +kernel
theorem dX8_begin_97 : decode cX8_begin 97 = .ok (.istore_n 1, 1) := by decide +kernel
theorem dX8_begin_98 : decode cX8_begin 98 = .ok (.iload_n 1, 1) := by decide +kernel
theorem dX8_begin_99 : decode cX8_begin 99 = .ok (.iconst 2, 1) := by decide +kernel
theorem dX8_begin_100 : decode cX8_begin 100 = .ok (.if_icmp .ge 34, 3) := by decide +kernel
theorem dX8_begin_103 : decode cX8_begin 103 = .ok (.aload_n 0, 1) := by decide +kernel
theorem dX8_begin_104 : decode cX8_begin 104 = .ok (.getfield 7, 3) := by decide +kernel
theorem dX8_begin_107 : decode cX8_begin 107 = .ok (.bipush 8, 2) := by decide +kernel
theorem dX8_begin_109 : decode cX8_begin 109 = .ok (.iload_n 1, 1) := by decide +kernel
theorem dX8_begin_110 : decode cX8_begin 110 = .ok (.iadd, 1) := by decide +kernel
theorem dX8_begin_111 : decode cX8_begin 111 = .ok (.aload_n 0, 1) := by decide +kernel
theorem dX8_begin_112 : decode cX8_begin 112 = .ok (.getfield 36, 3) := by decide +kernel
theorem dX8_begin_115 : decode cX8_begin 115 = .ok (.iload_n 1, 1) := by decide +kernel
theorem dX8_begin_116 : decode cX8_begin 116 = .ok (.iaload, 1) := by decide +kernel
theorem dX8_begin_117 : decode cX8_begin 117 = .ok (.iastore, 1) := by decide +kernel
theorem dX8_begin_118 : decode cX8_begin 118 = .ok (.aload_n 0, 1) := by decide +kernel
theorem dX8_begin_119 : decode cX8_begin 119 = .ok (.getfield 7, 3) := by decide +kernel
theorem dX8_begin_122 : decode cX8_begin 122 = .ok (.bipush 10, 2) := by decide +kernel
theorem dX8_begin_124 : decode cX8_begin 124 = .ok (.iload_n 1, 1) := by decide +kernel
theorem dX8_begin_125 : decode cX8_begin 125 = .ok (.iadd, 1) := by decide +kernel
theorem dX8_begin_126 : decode cX8_begin 126 = .ok (.iconst (-1), 1) := by decide +kernel
theorem dX8_begin_127 : decode cX8_begin 127 = .ok (.iastore, 1) := by decide +kernel
theorem dX8_begin_128 : decode cX8_begin 128 = .ok (.iinc 1 1, 3) := by decide +kernel
theorem dX8_begin_131 : decode cX8_begin 131 = .ok (.goto (-33), 3) := by decide +kernel
theorem dX8_begin_134 : decode cX8_begin 134 = .ok (.aload_n 0, 1) := by decide +kernel
theorem dX8_begin_135 : decode cX8_begin 135 = .ok (.getfield 7, 3) := by decide +kernel
theorem dX8_begin_138 : decode cX8_begin 138 = .ok (.bipush 12, 2) := by decide +kernel
theorem dX8_begin_140 : decode cX8_begin 140 = .ok (.iconst 1, 1) := by decide +kernel
theorem dX8_begin_141 : decode cX8_begin 141 = .ok (.aload_n 0, 1) := by decide +kernel
theorem dX8_begin_142 : decode cX8_begin 142 = .ok (.getfield 58, 3) := by decide +kernel
theorem dX8_begin_145 : decode cX8_begin 145 = .ok (.ishl, 1) := by decide +kernel
theorem dX8_begin_146 : decode cX8_begin 146 = .ok (.iastore, 1) := by decide +kernel
theorem dX8_begin_147 : decode cX8_begin 147 = .ok (.aload_n 0, 1) := by decide +kernel
theorem dX8_begin_148 : decode cX8_begin 148 = .ok (.getfield 7, 3) := by decide +kernel
theorem dX8_begin_151 : decode cX8_begin 151 = .ok (.bipush 13, 2) := by decide +kernel
theorem dX8_begin_153 : decode cX8_begin 153 = .ok (.iconst 0, 1) := by decide +kernel
theorem dX8_begin_154 : decode cX8_begin 154 = .ok (.iastore, 1) := by decide +kernel
theorem dX8_begin_155 : decode cX8_begin 155 = .ok (.aload_n 0, 1) := by decide +kernel
theorem dX8_begin_156 : decode cX8_begin 156 = .ok (.getfield 7, 3) := by decide +kernel
theorem dX8_begin_159 : decode cX8_begin 159 = .ok (.bipush 14, 2) := by decide +kernel
theorem dX8_begin_161 : decode cX8_begin 161 = .ok (.iconst 1, 1) := by decide +kernel
theorem dX8_begin_162 : decode cX8_begin 162 = .ok (.aload_n 0, 1) := by decide +kernel
theorem dX8_begin_163 : decode cX8_begin 163 = .ok (.getfield 58, 3) := by decide +kernel
theorem dX8_begin_166 : decode cX8_begin 166 = .ok (.ishl, 1) := by decide +kernel
theorem dX8_begin_167 : decode cX8_begin 167 = .ok (.iastore, 1) := by decide +kernel
theorem dX8_begin_168 : decode cX8_begin 168 = .ok (.return_, 1) := by decide +kernel
def Mo_begin_L63 (k88 : Wd → Option Wd) : Nat → Wd → Int32 → Option Wd
  | 0, _, _ => none
  | n + 1, w, v1 => (if (3 : Int32) ≤ v1 then (k88 w) else (if ib v1 3 = true then (if ib ((4 : Int32) + v1) 45 = true then (Mo_begin_L63 k88 n (sI w 38 (Int32.toNatClampNeg ((4 : Int32) + v1)) (w.1 43 (Int32.toNatClampNeg v1))) (v1 + (1 : Int32))) else none) else none))
set_option maxRecDepth 100000 in
set_option maxHeartbeats 4000000 in
theorem Mo_begin_L63_ok {K : Ctx} (F : Fx K cX8_begin 2 RX8 none 0 0 false [37, 38, 43, 44]) {k88 : Wd → Option Wd} (h88 : ∀ (w : Wd), N K rtV (k88 w) w 88 [(0, .ref (gA (cg K) 37))] []) : ∀ (n : Nat) (w : Wd) (v1 : Int32), N K rtV (Mo_begin_L63 k88 n w v1) w 63 [(0, .ref (gA (cg K) 37)), (1, .int v1)] [] := by
  intro n
  induction n with
  | zero => intro _ _; exact n_none
  | succ n ih =>
    intro w v1
    rw [Mo_begin_L63]
    refine n_iload_n F dX8_begin_63 rfl 1 rfl ?_
    refine n_iconst F (3 : Int32) dX8_begin_64 (by decide) ?_
    refine n_icmp_ge F 88 dX8_begin_65 (by decide) (fun e2 => ?_) (fun e2 => ?_)
    · rw [if_pos e2]
      exact n_sub [0] rfl (h88 _)
    rw [if_neg e2]
    refine n_aload_n F dX8_begin_68 rfl 0 rfl ?_
    refine n_get F ck_8 lf_RX8_7 (by decide) fg_37_0 (by decide) dX8_begin_69 ?_
    refine n_iconst F (4 : Int32) dX8_begin_72 (by decide) ?_
    refine n_iload_n F dX8_begin_73 rfl 1 rfl ?_
    refine n_iadd F dX8_begin_74 ?_
    refine n_aload_n F dX8_begin_75 rfl 0 rfl ?_
    refine n_get F ck_8 lf_RX8_30 (by decide) fg_37_10 (by decide) dX8_begin_76 ?_
    refine n_iload_n F dX8_begin_79 rfl 1 rfl ?_
    refine n_chk (fun e3 => ?_)
    refine n_iald F ar_43 (by decide) (ib_in e3) rfl dX8_begin_80 ?_
    refine n_chk (fun e4 => ?_)
    refine n_iast F ar_38 (by decide) (ib_in e4) rfl dX8_begin_81 ?_
    refine n_iinc F (v1 + (1 : Int32)) (lv' := [(1, .int (v1 + (1 : Int32))), (0, .ref (gA (cg K) 37))]) dX8_begin_82 1 rfl rfl (by decide) rfl ?_
    refine n_goto F 63 dX8_begin_85 (by decide) ?_
    exact n_sub [1, 0] rfl (ih _ _)
def Mo_begin_L98 (k134 : Wd → Option Wd) : Nat → Wd → Int32 → Option Wd
  | 0, _, _ => none
  | n + 1, w, v1 => (if (2 : Int32) ≤ v1 then (k134 w) else (if ib v1 2 = true then (if ib ((8 : Int32) + v1) 45 = true then (if ib ((10 : Int32) + v1) 45 = true then (Mo_begin_L98 k134 n (sI (sI w 38 (Int32.toNatClampNeg ((8 : Int32) + v1)) (w.1 44 (Int32.toNatClampNeg v1))) 38 (Int32.toNatClampNeg ((10 : Int32) + v1)) (-1 : Int32)) (v1 + (1 : Int32))) else none) else none) else none))
set_option maxRecDepth 100000 in
set_option maxHeartbeats 4000000 in
theorem Mo_begin_L98_ok {K : Ctx} (F : Fx K cX8_begin 2 RX8 none 0 0 false [37, 38, 43, 44]) {k134 : Wd → Option Wd} (h134 : ∀ (w : Wd), N K rtV (k134 w) w 134 [(0, .ref (gA (cg K) 37))] []) : ∀ (n : Nat) (w : Wd) (v1 : Int32), N K rtV (Mo_begin_L98 k134 n w v1) w 98 [(0, .ref (gA (cg K) 37)), (1, .int v1)] [] := by
  intro n
  induction n with
  | zero => intro _ _; exact n_none
  | succ n ih =>
    intro w v1
    rw [Mo_begin_L98]
    refine n_iload_n F dX8_begin_98 rfl 1 rfl ?_
    refine n_iconst F (2 : Int32) dX8_begin_99 (by decide) ?_
    refine n_icmp_ge F 134 dX8_begin_100 (by decide) (fun e5 => ?_) (fun e5 => ?_)
    · rw [if_pos e5]
      exact n_sub [0] rfl (h134 _)
    rw [if_neg e5]
    refine n_aload_n F dX8_begin_103 rfl 0 rfl ?_
    refine n_get F ck_8 lf_RX8_7 (by decide) fg_37_0 (by decide) dX8_begin_104 ?_
    refine n_bipush F (8 : Int32) dX8_begin_107 (by decide) ?_
    refine n_iload_n F dX8_begin_109 rfl 1 rfl ?_
    refine n_iadd F dX8_begin_110 ?_
    refine n_aload_n F dX8_begin_111 rfl 0 rfl ?_
    refine n_get F ck_8 lf_RX8_36 (by decide) fg_37_12 (by decide) dX8_begin_112 ?_
    refine n_iload_n F dX8_begin_115 rfl 1 rfl ?_
    refine n_chk (fun e6 => ?_)
    refine n_iald F ar_44 (by decide) (ib_in e6) rfl dX8_begin_116 ?_
    refine n_chk (fun e7 => ?_)
    refine n_iast F ar_38 (by decide) (ib_in e7) rfl dX8_begin_117 ?_
    refine n_aload_n F dX8_begin_118 rfl 0 rfl ?_
    refine n_get F ck_8 lf_RX8_7 (by decide) fg_37_0 (by decide) dX8_begin_119 ?_
    refine n_bipush F (10 : Int32) dX8_begin_122 (by decide) ?_
    refine n_iload_n F dX8_begin_124 rfl 1 rfl ?_
    refine n_iadd F dX8_begin_125 ?_
    refine n_iconst F (-1 : Int32) dX8_begin_126 (by decide) ?_
    refine n_chk (fun e8 => ?_)
    refine n_iast F ar_38 (by decide) (ib_in e8) rfl dX8_begin_127 ?_
    refine n_iinc F (v1 + (1 : Int32)) (lv' := [(1, .int (v1 + (1 : Int32))), (0, .ref (gA (cg K) 37))]) dX8_begin_128 1 rfl rfl (by decide) rfl ?_
    refine n_goto F 98 dX8_begin_131 (by decide) ?_
    exact n_sub [1, 0] rfl (ih _ _)
def Mo_begin_B134 (w : Wd) : Option Wd := some (sI (sI (sI w 38 12 ((1 : Int32) <<< ((w.1 37 9) &&& (31 : Int32)))) 38 13 (0 : Int32)) 38 14 ((1 : Int32) <<< (((sI (sI w 38 12 ((1 : Int32) <<< ((w.1 37 9) &&& (31 : Int32)))) 38 13 (0 : Int32)).1 37 9) &&& (31 : Int32))))
set_option maxRecDepth 100000 in
set_option maxHeartbeats 4000000 in
theorem Mo_begin_B134_ok {K : Ctx} (F : Fx K cX8_begin 2 RX8 none 0 0 false [37, 38, 43, 44]) (w : Wd) : N K rtV (Mo_begin_B134 w) w 134 [(0, .ref (gA (cg K) 37))] [] := by
  rw [Mo_begin_B134]
  refine n_aload_n F dX8_begin_134 rfl 0 rfl ?_
  refine n_get F ck_8 lf_RX8_7 (by decide) fg_37_0 (by decide) dX8_begin_135 ?_
  refine n_bipush F (12 : Int32) dX8_begin_138 (by decide) ?_
  refine n_iconst F (1 : Int32) dX8_begin_140 (by decide) ?_
  refine n_aload_n F dX8_begin_141 rfl 0 rfl ?_
  refine n_get F ck_8 lf_RX8_58 (by decide) fg_37_9 (by decide) dX8_begin_142 ?_
  refine n_ishl F dX8_begin_145 ?_
  refine n_iast F ar_38 (by decide) (ib_c (n := 45) (by decide)) (j := 12) (by decide) dX8_begin_146 ?_
  refine n_aload_n F dX8_begin_147 rfl 0 rfl ?_
  refine n_get F ck_8 lf_RX8_7 (by decide) fg_37_0 (by decide) dX8_begin_148 ?_
  refine n_bipush F (13 : Int32) dX8_begin_151 (by decide) ?_
  refine n_iconst F (0 : Int32) dX8_begin_153 (by decide) ?_
  refine n_iast F ar_38 (by decide) (ib_c (n := 45) (by decide)) (j := 13) (by decide) dX8_begin_154 ?_
  refine n_aload_n F dX8_begin_155 rfl 0 rfl ?_
  refine n_get F ck_8 lf_RX8_7 (by decide) fg_37_0 (by decide) dX8_begin_156 ?_
  refine n_bipush F (14 : Int32) dX8_begin_159 (by decide) ?_
  refine n_iconst F (1 : Int32) dX8_begin_161 (by decide) ?_
  refine n_aload_n F dX8_begin_162 rfl 0 rfl ?_
  refine n_get F ck_8 lf_RX8_58 (by decide) fg_37_9 (by decide) dX8_begin_163 ?_
  refine n_ishl F dX8_begin_166 ?_
  refine n_iast F ar_38 (by decide) (ib_c (n := 45) (by decide)) (j := 14) (by decide) dX8_begin_167 ?_
  exact n_vret F rfl rfl dX8_begin_168
def Mo_begin_B88 (w : Wd) : Option Wd := (Mo_begin_L98 Mo_begin_B134 FU (sI w 38 7 (-1 : Int32)) (0 : Int32))
set_option maxRecDepth 100000 in
set_option maxHeartbeats 4000000 in
theorem Mo_begin_B88_ok {K : Ctx} (F : Fx K cX8_begin 2 RX8 none 0 0 false [37, 38, 43, 44]) (w : Wd) : N K rtV (Mo_begin_B88 w) w 88 [(0, .ref (gA (cg K) 37))] [] := by
  rw [Mo_begin_B88]
  refine n_aload_n F dX8_begin_88 rfl 0 rfl ?_
  refine n_get F ck_8 lf_RX8_7 (by decide) fg_37_0 (by decide) dX8_begin_89 ?_
  refine n_bipush F (7 : Int32) dX8_begin_92 (by decide) ?_
  refine n_iconst F (-1 : Int32) dX8_begin_94 (by decide) ?_
  refine n_iast F ar_38 (by decide) (ib_c (n := 45) (by decide)) (j := 7) (by decide) dX8_begin_95 ?_
  refine n_iconst F (0 : Int32) dX8_begin_96 (by decide) ?_
  refine n_istore_n F (lv' := [(1, .int (0 : Int32)), (0, .ref (gA (cg K) 37))]) dX8_begin_97 rfl (by decide) rfl ?_
  exact n_sub [1, 0] rfl (Mo_begin_L98_ok F (Mo_begin_B134_ok F) FU _ _)
def Mo_begin (w : Wd) : Option Wd := (Mo_begin_L63 Mo_begin_B88 FU (if ((sI (sI (sI w 38 0 (0 : Int32)) 38 1 ((sI w 38 0 (0 : Int32)).1 37 9)) 38 2 (0 : Int32)).1 44 0) = ((sI (sI (sI w 38 0 (0 : Int32)) 38 1 ((sI w 38 0 (0 : Int32)).1 37 9)) 38 2 (0 : Int32)).1 37 9) then (sI (sI (sI (sI w 38 0 (0 : Int32)) 38 1 ((sI w 38 0 (0 : Int32)).1 37 9)) 38 2 (0 : Int32)) 38 3 (1 : Int32)) else (if ((sI (sI (sI w 38 0 (0 : Int32)) 38 1 ((sI w 38 0 (0 : Int32)).1 37 9)) 38 2 (0 : Int32)).1 44 1) = ((sI (sI (sI w 38 0 (0 : Int32)) 38 1 ((sI w 38 0 (0 : Int32)).1 37 9)) 38 2 (0 : Int32)).1 37 9) then (sI (sI (sI (sI w 38 0 (0 : Int32)) 38 1 ((sI w 38 0 (0 : Int32)).1 37 9)) 38 2 (0 : Int32)) 38 3 (1 : Int32)) else (sI (sI (sI (sI w 38 0 (0 : Int32)) 38 1 ((sI w 38 0 (0 : Int32)).1 37 9)) 38 2 (0 : Int32)) 38 3 (0 : Int32)))) (0 : Int32))
set_option maxRecDepth 100000 in
set_option maxHeartbeats 4000000 in
theorem ct_Mo_begin {l : Launch} {g : GG} {σ : Sd} (hg : OKg g σ) (hb : σ.2.1 = false) (hx : ∀ c ∈ ([37, 38, 43, 44] : List Nat), c ∈ σ.1) (w : Wd) {q : Wd} (hq : Mo_begin w = some q) : CT l g σ yX8_begin cX8_begin 2 none 0 0 [.ref (gA g 37)] w none q := by
  refine ct_of (rt := rtV) (res := Mo_begin w) (q := q) (own := RX8) (b := false) hg hb hx (by decide) rfl (Nat.le_of_ble_eq_true rfl) hq (fun K e1 e2 e3 F => ?_)
  subst e1 e2 e3
  rw [Mo_begin]
  show N K _ _ w 0 [(0, .ref (gA (cg K) 37))] []
  refine n_aload_n F dX8_begin_0 rfl 0 rfl ?_
  refine n_get F ck_8 lf_RX8_7 (by decide) fg_37_0 (by decide) dX8_begin_1 ?_
  refine n_iconst F (0 : Int32) dX8_begin_4 (by decide) ?_
  refine n_iconst F (0 : Int32) dX8_begin_5 (by decide) ?_
  refine n_iast F ar_38 (by decide) (ib_c (n := 45) (by decide)) (j := 0) (by decide) dX8_begin_6 ?_
  refine n_aload_n F dX8_begin_7 rfl 0 rfl ?_
  refine n_get F ck_8 lf_RX8_7 (by decide) fg_37_0 (by decide) dX8_begin_8 ?_
  refine n_iconst F (1 : Int32) dX8_begin_11 (by decide) ?_
  refine n_aload_n F dX8_begin_12 rfl 0 rfl ?_
  refine n_get F ck_8 lf_RX8_58 (by decide) fg_37_9 (by decide) dX8_begin_13 ?_
  refine n_iast F ar_38 (by decide) (ib_c (n := 45) (by decide)) (j := 1) (by decide) dX8_begin_16 ?_
  refine n_aload_n F dX8_begin_17 rfl 0 rfl ?_
  refine n_get F ck_8 lf_RX8_7 (by decide) fg_37_0 (by decide) dX8_begin_18 ?_
  refine n_iconst F (2 : Int32) dX8_begin_21 (by decide) ?_
  refine n_iconst F (0 : Int32) dX8_begin_22 (by decide) ?_
  refine n_iast F ar_38 (by decide) (ib_c (n := 45) (by decide)) (j := 2) (by decide) dX8_begin_23 ?_
  refine n_aload_n F dX8_begin_24 rfl 0 rfl ?_
  refine n_get F ck_8 lf_RX8_7 (by decide) fg_37_0 (by decide) dX8_begin_25 ?_
  refine n_iconst F (3 : Int32) dX8_begin_28 (by decide) ?_
  refine n_aload_n F dX8_begin_29 rfl 0 rfl ?_
  refine n_get F ck_8 lf_RX8_36 (by decide) fg_37_12 (by decide) dX8_begin_30 ?_
  refine n_iconst F (0 : Int32) dX8_begin_33 (by decide) ?_
  refine n_iald F ar_44 (by decide) (ib_c (n := 2) (by decide)) (j := 0) (by decide) dX8_begin_34 ?_
  refine n_aload_n F dX8_begin_35 rfl 0 rfl ?_
  refine n_get F ck_8 lf_RX8_58 (by decide) fg_37_9 (by decide) dX8_begin_36 ?_
  refine n_icmp_eq F 55 dX8_begin_39 (by decide) (fun e1 => ?_) (fun e1 => ?_)
  · rw [if_pos e1]
    refine n_iconst F (1 : Int32) dX8_begin_55 (by decide) ?_
    refine n_goto F 60 dX8_begin_56 (by decide) ?_
    refine n_iast F ar_38 (by decide) (ib_c (n := 45) (by decide)) (j := 3) (by decide) dX8_begin_60 ?_
    refine n_iconst F (0 : Int32) dX8_begin_61 (by decide) ?_
    refine n_istore_n F (lv' := [(1, .int (0 : Int32)), (0, .ref (gA (cg K) 37))]) dX8_begin_62 rfl (by decide) rfl ?_
    exact n_sub [1, 0] rfl (Mo_begin_L63_ok F (Mo_begin_B88_ok F) FU _ _)
  rw [if_neg e1]
  refine n_aload_n F dX8_begin_42 rfl 0 rfl ?_
  refine n_get F ck_8 lf_RX8_36 (by decide) fg_37_12 (by decide) dX8_begin_43 ?_
  refine n_iconst F (1 : Int32) dX8_begin_46 (by decide) ?_
  refine n_iald F ar_44 (by decide) (ib_c (n := 2) (by decide)) (j := 1) (by decide) dX8_begin_47 ?_
  refine n_aload_n F dX8_begin_48 rfl 0 rfl ?_
  refine n_get F ck_8 lf_RX8_58 (by decide) fg_37_9 (by decide) dX8_begin_49 ?_
  refine n_icmp_ne F 59 dX8_begin_52 (by decide) (fun e9 => ?_) (fun e9 => ?_)
  · rw [if_neg e9]
    refine n_iconst F (0 : Int32) dX8_begin_59 (by decide) ?_
    refine n_iast F ar_38 (by decide) (ib_c (n := 45) (by decide)) (j := 3) (by decide) dX8_begin_60 ?_
    refine n_iconst F (0 : Int32) dX8_begin_61 (by decide) ?_
    refine n_istore_n F (lv' := [(1, .int (0 : Int32)), (0, .ref (gA (cg K) 37))]) dX8_begin_62 rfl (by decide) rfl ?_
    exact n_sub [1, 0] rfl (Mo_begin_L63_ok F (Mo_begin_B88_ok F) FU _ _)
  rw [if_pos e9]
  refine n_iconst F (1 : Int32) dX8_begin_55 (by decide) ?_
  refine n_goto F 60 dX8_begin_56 (by decide) ?_
  refine n_iast F ar_38 (by decide) (ib_c (n := 45) (by decide)) (j := 3) (by decide) dX8_begin_60 ?_
  refine n_iconst F (0 : Int32) dX8_begin_61 (by decide) ?_
  refine n_istore_n F (lv' := [(1, .int (0 : Int32)), (0, .ref (gA (cg K) 37))]) dX8_begin_62 rfl (by decide) rfl ?_
  exact n_sub [1, 0] rfl (Mo_begin_L63_ok F (Mo_begin_B88_ok F) FU _ _)
theorem dX8_write_0 : decode cX8_write 0 = .ok (.iload_n 3, 1) := by decide +kernel
theorem dX8_write_1 : decode cX8_write 1 = .ok (.i2l, 1) := by decide +kernel
theorem dX8_write_2 : decode cX8_write 2 = .ok (.lconst 1, 1) := by decide +kernel
theorem dX8_write_3 : decode cX8_write 3 = .ok (.ldc2_w 61, 3) := by decide +kernel
theorem dX8_write_6 : decode cX8_write 6 = .ok (.invokestatic 63, 3) := by decide +kernel
theorem dX8_write_9 : decode cX8_write 9 = .ok (.ifCond .ne 6, 3) := by decide +kernel
theorem dX8_write_12 : decode cX8_write 12 = .ok (.bipush (-3), 2) := by decide +kernel
theorem dX8_write_14 : decode cX8_write 14 = .ok (.ireturn, 1) := by decide +kernel
theorem dX8_write_15 : decode cX8_write 15 = .ok (.aload_n 0, 1) := by decide +kernel
theorem dX8_write_16 : decode cX8_write 16 = .ok (.getfield 67, 3) := by decide +kernel
theorem dX8_write_19 : decode cX8_write 19 = .ok (.iload_n 3, 1) := by decide +kernel
theorem dX8_write_20 : decode cX8_write 20 = .ok (.iadd, 1) := by decide +kernel
theorem dX8_write_21 : decode cX8_write 21 = .ok (.sipush 200, 3) := by decide +kernel
theorem dX8_write_24 : decode cX8_write 24 = .ok (.if_icmp .le 6, 3) := by decide +kernel
theorem dX8_write_27 : decode cX8_write 27 = .ok (.bipush (-5), 2) := by decide +kernel
theorem dX8_write_29 : decode cX8_write 29 = .ok (.ireturn, 1) := by decide +kernel
theorem dX8_write_30 : decode cX8_write 30 = .ok (.iconst 0, 1) := by decide +kernel
theorem dX8_write_31 : decode cX8_write 31 = .ok (.istore 4, 2) := by decide +kernel
theorem dX8_write_33 : decode cX8_write 33 = .ok (.iload 4, 2) := by decide +kernel
theorem dX8_write_35 : decode cX8_write 35 = .ok (.iload_n 3, 1) := by decide +kernel
theorem dX8_write_36 : decode cX8_write 36 = .ok (.if_icmp .ge 40, 3) := by decide +kernel
theorem dX8_write_39 : decode cX8_write 39 = .ok (.aload_n 0, 1) := by decide +kernel
theorem dX8_write_40 : decode cX8_write 40 = .ok (.getfield 17, 3) := by decide +kernel
theorem dX8_write_43 : decode cX8_write 43 = .ok (.aload_n 0, 1) := by decide +kernel
theorem dX8_write_44 : decode cX8_write 44 = .ok (.getfield 67, 3) := by decide +kernel
theorem dX8_write_47 : decode cX8_write 47 = .ok (.lload_n 1, 1) := by decide +kernel
theorem dX8_write_48 : decode cX8_write 48 = .ok (.bipush 8, 2) := by decide +kernel
theorem dX8_write_50 : decode cX8_write 50 = .ok (.iload 4, 2) := by decide +kernel
theorem dX8_write_52 : decode cX8_write 52 = .ok (.imul, 1) := by decide +kernel
theorem dX8_write_53 : decode cX8_write 53 = .ok (.lshr, 1) := by decide +kernel
theorem dX8_write_54 : decode cX8_write 54 = .ok (.ldc2_w 70, 3) := by decide +kernel
theorem dX8_write_57 : decode cX8_write 57 = .ok (.land, 1) := by decide +kernel
theorem dX8_write_58 : decode cX8_write 58 = .ok (.l2i, 1) := by decide +kernel
theorem dX8_write_59 : decode cX8_write 59 = .ok (.iastore, 1) := by decide +kernel
theorem dX8_write_60 : decode cX8_write 60 = .ok (.aload_n 0, 1) := by decide +kernel
theorem dX8_write_61 : decode cX8_write 61 = .ok (.dup, 1) := by decide +kernel
theorem dX8_write_62 : decode cX8_write 62 = .ok (.getfield 67, 3) := by decide +kernel
theorem dX8_write_65 : decode cX8_write 65 = .ok (.iconst 1, 1) := by decide +kernel
theorem dX8_write_66 : decode cX8_write 66 = .ok (.iadd, 1) := by decide +kernel
theorem dX8_write_67 : decode cX8_write 67 = .ok (.putfield 67, 3) := by decide +kernel
theorem dX8_write_70 : decode cX8_write 70 = .ok (.iinc 4 1, 3) := by decide +kernel
theorem dX8_write_73 : decode cX8_write 73 = .ok (.goto (-40), 3) := by decide +kernel
theorem dX8_write_76 : decode cX8_write 76 = .ok (.aload_n 0, 1) := by decide +kernel
theorem dX8_write_77 : decode cX8_write 77 = .ok (.getfield 67, 3) := by decide +kernel
theorem dX8_write_80 : decode cX8_write 80 = .ok (.ireturn, 1) := by decide +kernel
def Mo_write_L33 (k76 : Wd → Option (Int32 × Wd)) : Nat → Wd → Int64 → Int32 → Int32 → Option (Int32 × Wd)
  | 0, _, _, _, _ => none
  | n + 1, w, v1, v3, v4 => (if v3 ≤ v4 then (k76 w) else (if ib (w.1 37 3) 200 = true then (Mo_write_L33 k76 n (sI (sI w 40 (Int32.toNatClampNeg (w.1 37 3)) (Int64.toInt32 ((v1 >>> (Int32.toInt64 ((8 : Int32) * v4) &&& (63 : Int64))) &&& (255 : Int64)))) 37 3 (((sI w 40 (Int32.toNatClampNeg (w.1 37 3)) (Int64.toInt32 ((v1 >>> (Int32.toInt64 ((8 : Int32) * v4) &&& (63 : Int64))) &&& (255 : Int64)))).1 37 3) + (1 : Int32))) v1 v3 (v4 + (1 : Int32))) else none))
set_option maxRecDepth 100000 in
set_option maxHeartbeats 4000000 in
theorem Mo_write_L33_ok {K : Ctx} (F : Fx K cX8_write 5 RX8 (some .int) 1 25 false [37, 40]) {k76 : Wd → Option (Int32 × Wd)} (h76 : ∀ (w : Wd), N K rtI (k76 w) w 76 [(0, .ref (gA (cg K) 37))] []) : ∀ (n : Nat) (w : Wd) (v1 : Int64) (v3 : Int32) (v4 : Int32), N K rtI (Mo_write_L33 k76 n w v1 v3 v4) w 33 [(0, .ref (gA (cg K) 37)), (1, .long v1), (3, .int v3), (4, .int v4)] [] := by
  intro n
  induction n with
  | zero => intro _ _ _ _; exact n_none
  | succ n ih =>
    intro w v1 v3 v4
    rw [Mo_write_L33]
    refine n_iload F dX8_write_33 3 rfl ?_
    refine n_iload_n F dX8_write_35 rfl 2 rfl ?_
    refine n_icmp_ge F 76 dX8_write_36 (by decide) (fun e3 => ?_) (fun e3 => ?_)
    · rw [if_pos e3]
      exact n_sub [0] rfl (h76 _)
    rw [if_neg e3]
    refine n_aload_n F dX8_write_39 rfl 0 rfl ?_
    refine n_get F ck_8 lf_RX8_17 (by decide) fg_37_2 (by decide) dX8_write_40 ?_
    refine n_aload_n F dX8_write_43 rfl 0 rfl ?_
    refine n_get F ck_8 lf_RX8_67 (by decide) fg_37_3 (by decide) dX8_write_44 ?_
    refine n_lload_n F dX8_write_47 rfl 1 rfl ?_
    refine n_bipush F (8 : Int32) dX8_write_48 (by decide) ?_
    refine n_iload F dX8_write_50 3 rfl ?_
    refine n_imul F dX8_write_52 ?_
    refine n_lshr F dX8_write_53 ?_
    refine n_ldc2 F (255 : Int64) dX8_write_54 kc_RX8_70 ?_
    refine n_land F dX8_write_57 ?_
    refine n_l2i F dX8_write_58 ?_
    refine n_chk (fun e4 => ?_)
    refine n_iast F ar_40 (by decide) (ib_in e4) rfl dX8_write_59 ?_
    refine n_aload_n F dX8_write_60 rfl 0 rfl ?_
    refine n_dup F dX8_write_61 rfl ?_
    refine n_get F ck_8 lf_RX8_67 (by decide) fg_37_3 (by decide) dX8_write_62 ?_
    refine n_iconst F (1 : Int32) dX8_write_65 (by decide) ?_
    refine n_iadd F dX8_write_66 ?_
    refine n_put F ck_8 lf_RX8_67 (by decide) rfl fp_37_3 (by decide) rfl rfl dX8_write_67 ?_
    refine n_iinc F (v4 + (1 : Int32)) (lv' := [(4, .int (v4 + (1 : Int32))), (0, .ref (gA (cg K) 37)), (1, .long v1), (3, .int v3)]) dX8_write_70 3 rfl rfl (by decide) rfl ?_
    refine n_goto F 33 dX8_write_73 (by decide) ?_
    exact n_sub [1, 2, 3, 0] rfl (ih _ _ _ _)
def Mo_write_B76 (w : Wd) : Option (Int32 × Wd) := some ((w.1 37 3), w)
set_option maxRecDepth 100000 in
set_option maxHeartbeats 4000000 in
theorem Mo_write_B76_ok {K : Ctx} (F : Fx K cX8_write 5 RX8 (some .int) 1 25 false [37, 40]) (w : Wd) : N K rtI (Mo_write_B76 w) w 76 [(0, .ref (gA (cg K) 37))] [] := by
  rw [Mo_write_B76]
  refine n_aload_n F dX8_write_76 rfl 0 rfl ?_
  refine n_get F ck_8 lf_RX8_67 (by decide) fg_37_3 (by decide) dX8_write_77 ?_
  exact n_iret F rfl rfl dX8_write_80
def Mo_write (w : Wd) (a1 : Int64) (a2 : Int32) : Option (Int32 × Wd) := (if (Mo_in w (Int32.toInt64 a2) (1 : Int64) (8 : Int64)) = (0 : Int32) then some ((-3 : Int32), w) else (if ((w.1 37 3) + a2) ≤ (200 : Int32) then (Mo_write_L33 Mo_write_B76 FU w a1 a2 (0 : Int32)) else some ((-5 : Int32), w)))
set_option maxRecDepth 100000 in
set_option maxHeartbeats 4000000 in
theorem ct_Mo_write {l : Launch} {g : GG} {σ : Sd} (hg : OKg g σ) (hb : σ.2.1 = false) (hx : ∀ c ∈ ([37, 40] : List Nat), c ∈ σ.1) (w : Wd) (a1 : Int64) (a2 : Int32) {q : Int32 × Wd} (hq : Mo_write w a1 a2 = some q) : CT l g σ yX8_write cX8_write 5 (some .int) 1 25 [.ref (gA g 37), .long a1, .int a2] w (some (.int q.1)) q.2 := by
  refine ct_of (rt := rtI) (res := Mo_write w a1 a2) (q := q) (own := RX8) (b := false) hg hb hx (by decide) rfl (Nat.le_of_ble_eq_true rfl) hq (fun K e1 e2 e3 F => ?_)
  subst e1 e2 e3
  rw [Mo_write]
  show N K _ _ w 0 [(0, .ref (gA (cg K) 37)), (1, .long a1), (3, .int a2)] []
  refine n_iload_n F dX8_write_0 rfl 2 rfl ?_
  refine n_i2l F dX8_write_1 ?_
  refine n_lconst F (1 : Int64) dX8_write_2 (by decide) ?_
  refine n_ldc2 F (8 : Int64) dX8_write_3 kc_RX8_61 ?_
  refine n_callSi F cb_X8_in lm_RX8_63 (ct_Mo_in (fx_ok F) (fx_sd F) (fx_ix F rfl) w (Int32.toInt64 a2) (1 : Int64) (8 : Int64)) rfl rfl (Nat.le_of_ble_eq_true rfl) ⟨Nat.le_of_ble_eq_true rfl, Nat.le_of_ble_eq_true rfl⟩ dX8_write_6 ?_
  refine n_if_ne F 15 dX8_write_9 (by decide) (fun e1 => ?_) (fun e1 => ?_)
  · rw [if_neg e1]
    refine n_aload_n F dX8_write_15 rfl 0 rfl ?_
    refine n_get F ck_8 lf_RX8_67 (by decide) fg_37_3 (by decide) dX8_write_16 ?_
    refine n_iload_n F dX8_write_19 rfl 2 rfl ?_
    refine n_iadd F dX8_write_20 ?_
    refine n_sipush F (200 : Int32) dX8_write_21 (by decide) ?_
    refine n_icmp_le F 30 dX8_write_24 (by decide) (fun e2 => ?_) (fun e2 => ?_)
    · rw [if_pos e2]
      refine n_iconst F (0 : Int32) dX8_write_30 (by decide) ?_
      refine n_istore F (lv' := [(4, .int (0 : Int32)), (0, .ref (gA (cg K) 37)), (1, .long a1), (3, .int a2)]) dX8_write_31 (by decide) rfl ?_
      exact n_sub [1, 2, 3, 0] rfl (Mo_write_L33_ok F (Mo_write_B76_ok F) FU _ _ _ _)
    rw [if_neg e2]
    refine n_bipush F (-5 : Int32) dX8_write_27 (by decide) ?_
    exact n_iret F rfl rfl dX8_write_29
  rw [if_pos e1]
  refine n_bipush F (-3 : Int32) dX8_write_12 (by decide) ?_
  exact n_iret F rfl rfl dX8_write_14
theorem dX8_erase_0 : decode cX8_erase 0 = .ok (.aload_n 0, 1) := by decide +kernel
theorem dX8_erase_1 : decode cX8_erase 1 = .ok (.getfield 67, 3) := by decide +kernel
theorem dX8_erase_4 : decode cX8_erase 4 = .ok (.istore_n 1, 1) := by decide +kernel
theorem dX8_erase_5 : decode cX8_erase 5 = .ok (.aload_n 0, 1) := by decide +kernel
theorem dX8_erase_6 : decode cX8_erase 6 = .ok (.iconst 0, 1) := by decide +kernel
theorem dX8_erase_7 : decode cX8_erase 7 = .ok (.putfield 67, 3) := by decide +kernel
theorem dX8_erase_10 : decode cX8_erase 10 = .ok (.iload_n 1, 1) := by decide +kernel
theorem dX8_erase_11 : decode cX8_erase 11 = .ok (.ireturn, 1) := by decide +kernel
def Mo_erase (w : Wd) : Int32 × Wd := ((w.1 37 3), (sI w 37 3 (0 : Int32)))
set_option maxRecDepth 100000 in
set_option maxHeartbeats 4000000 in
theorem ct_Mo_erase {l : Launch} {g : GG} {σ : Sd} (hg : OKg g σ) (hb : σ.2.1 = false) (hx : ∀ c ∈ ([37] : List Nat), c ∈ σ.1) (w : Wd) : CT l g σ yX8_erase cX8_erase 2 (some .int) 0 0 [.ref (gA g 37)] w (some (.int (Mo_erase w).1)) (Mo_erase w).2 := by
  refine ct_of (rt := rtI) (res := some (Mo_erase w)) (q := (Mo_erase w)) (own := RX8) (b := false) hg hb hx (by decide) rfl (Nat.le_of_ble_eq_true rfl) rfl (fun K e1 e2 e3 F => ?_)
  subst e1 e2 e3
  rw [Mo_erase]
  show N K _ _ w 0 [(0, .ref (gA (cg K) 37))] []
  refine n_aload_n F dX8_erase_0 rfl 0 rfl ?_
  refine n_get F ck_8 lf_RX8_67 (by decide) fg_37_3 (by decide) dX8_erase_1 ?_
  refine n_istore_n F (lv' := [(1, .int (w.1 37 3)), (0, .ref (gA (cg K) 37))]) dX8_erase_4 rfl (by decide) rfl ?_
  refine n_aload_n F dX8_erase_5 rfl 1 rfl ?_
  refine n_iconst F (0 : Int32) dX8_erase_6 (by decide) ?_
  refine n_put F ck_8 lf_RX8_67 (by decide) rfl fp_37_3 (by decide) rfl rfl dX8_erase_7 ?_
  refine n_iload_n F dX8_erase_10 rfl 0 rfl ?_
  exact n_iret F rfl rfl dX8_erase_11
theorem dX8_sort_0 : decode cX8_sort 0 = .ok (.iload_n 0, 1) := by decide +kernel
theorem dX8_sort_1 : decode cX8_sort 1 = .ok (.bipush 97, 2) := by decide +kernel
theorem dX8_sort_3 : decode cX8_sort 3 = .ok (.if_icmp .lt 13, 3) := by decide +kernel
theorem dX8_sort_6 : decode cX8_sort 6 = .ok (.iload_n 0, 1) := by decide +kernel
theorem dX8_sort_7 : decode cX8_sort 7 = .ok (.bipush 122, 2) := by decide +kernel
theorem dX8_sort_9 : decode cX8_sort 9 = .ok (.if_icmp .gt 7, 3) := by decide +kernel
theorem dX8_sort_12 : decode cX8_sort 12 = .ok (.iconst 1, 1) := by decide +kernel
theorem dX8_sort_13 : decode cX8_sort 13 = .ok (.goto 20, 3) := by decide +kernel
theorem dX8_sort_16 : decode cX8_sort 16 = .ok (.iload_n 0, 1) := by decide +kernel
theorem dX8_sort_17 : decode cX8_sort 17 = .ok (.bipush 48, 2) := by decide +kernel
theorem dX8_sort_19 : decode cX8_sort 19 = .ok (.if_icmp .lt 13, 3) := by decide +kernel
theorem dX8_sort_22 : decode cX8_sort 22 = .ok (.iload_n 0, 1) := by decide +kernel
theorem dX8_sort_23 : decode cX8_sort 23 = .ok (.bipush 57, 2) := by decide +kernel
theorem dX8_sort_25 : decode cX8_sort 25 = .ok (.if_icmp .gt 7, 3) := by decide +kernel
theorem dX8_sort_28 : decode cX8_sort 28 = .ok (.iconst 2, 1) := by decide +kernel
theorem dX8_sort_29 : decode cX8_sort 29 = .ok (.goto 4, 3) := by decide +kernel
theorem dX8_sort_32 : decode cX8_sort 32 = .ok (.iconst 0, 1) := by decide +kernel
theorem dX8_sort_33 : decode cX8_sort 33 = .ok (.ireturn, 1) := by decide +kernel
def Mo_sort_B16 (w : Wd) (v0 : Int32) : Int32 := (if v0 < (48 : Int32) then (0 : Int32) else (if (57 : Int32) < v0 then (0 : Int32) else (2 : Int32)))
set_option maxRecDepth 100000 in
set_option maxHeartbeats 4000000 in
theorem Mo_sort_B16_ok {K : Ctx} (F : Fx K cX8_sort 1 RX8 (some .int) 0 0 false []) (w : Wd) (v0 : Int32) : N K (rtP w) (some (Mo_sort_B16 w v0)) w 16 [(0, .int v0)] [] := by
  rw [Mo_sort_B16]
  refine n_iload_n F dX8_sort_16 rfl 0 rfl ?_
  refine n_bipush F (48 : Int32) dX8_sort_17 (by decide) ?_
  refine n_icmp_lt F 32 dX8_sort_19 (by decide) (fun e2 => ?_) (fun e2 => ?_)
  · rw [if_pos e2]
    refine n_iconst F (0 : Int32) dX8_sort_32 (by decide) ?_
    exact n_iret F rfl rfl dX8_sort_33
  rw [if_neg e2]
  refine n_iload_n F dX8_sort_22 rfl 0 rfl ?_
  refine n_bipush F (57 : Int32) dX8_sort_23 (by decide) ?_
  refine n_icmp_gt F 32 dX8_sort_25 (by decide) (fun e3 => ?_) (fun e3 => ?_)
  · rw [if_pos e3]
    refine n_iconst F (0 : Int32) dX8_sort_32 (by decide) ?_
    exact n_iret F rfl rfl dX8_sort_33
  rw [if_neg e3]
  refine n_iconst F (2 : Int32) dX8_sort_28 (by decide) ?_
  refine n_goto F 33 dX8_sort_29 (by decide) ?_
  exact n_iret F rfl rfl dX8_sort_33
def Mo_sort (w : Wd) (a1 : Int32) : Int32 := (if a1 < (97 : Int32) then (Mo_sort_B16 w a1) else (if (122 : Int32) < a1 then (Mo_sort_B16 w a1) else (1 : Int32)))
set_option maxRecDepth 100000 in
set_option maxHeartbeats 4000000 in
theorem ct_Mo_sort {l : Launch} {g : GG} {σ : Sd} (hg : OKg g σ) (hb : σ.2.1 = false) (hx : ∀ c ∈ ([] : List Nat), c ∈ σ.1) (w : Wd) (a1 : Int32) : CT l g σ yX8_sort cX8_sort 1 (some .int) 0 0 [.int a1] w (some (.int (Mo_sort w a1))) w := by
  refine ct_of (rt := (rtP w)) (res := some (Mo_sort w a1)) (q := (Mo_sort w a1)) (own := RX8) (b := false) hg hb hx (by decide) rfl (Nat.le_of_ble_eq_true rfl) rfl (fun K e1 e2 e3 F => ?_)
  subst e1 e2 e3
  rw [Mo_sort]
  show N K _ _ w 0 [(0, .int a1)] []
  refine n_iload_n F dX8_sort_0 rfl 0 rfl ?_
  refine n_bipush F (97 : Int32) dX8_sort_1 (by decide) ?_
  refine n_icmp_lt F 16 dX8_sort_3 (by decide) (fun e1 => ?_) (fun e1 => ?_)
  · rw [if_pos e1]
    exact n_sub [0] rfl (Mo_sort_B16_ok F w _)
  rw [if_neg e1]
  refine n_iload_n F dX8_sort_6 rfl 0 rfl ?_
  refine n_bipush F (122 : Int32) dX8_sort_7 (by decide) ?_
  refine n_icmp_gt F 16 dX8_sort_9 (by decide) (fun e4 => ?_) (fun e4 => ?_)
  · rw [if_pos e4]
    exact n_sub [0] rfl (Mo_sort_B16_ok F w _)
  rw [if_neg e4]
  refine n_iconst F (1 : Int32) dX8_sort_12 (by decide) ?_
  refine n_goto F 33 dX8_sort_13 (by decide) ?_
  exact n_iret F rfl rfl dX8_sort_33
theorem dX8_token_0 : decode cX8_token 0 = .ok (.aload_n 0, 1) := by decide +kernel
theorem dX8_token_1 : decode cX8_token 1 = .ok (.getfield 72, 3) := by decide +kernel
theorem dX8_token_4 : decode cX8_token 4 = .ok (.aload_n 0, 1) := by decide +kernel
theorem dX8_token_5 : decode cX8_token 5 = .ok (.getfield 67, 3) := by decide +kernel
theorem dX8_token_8 : decode cX8_token 8 = .ok (.if_icmp .ge 30, 3) := by decide +kernel
theorem dX8_token_11 : decode cX8_token 11 = .ok (.aload_n 0, 1) := by decide +kernel
theorem dX8_token_12 : decode cX8_token 12 = .ok (.getfield 17, 3) := by decide +kernel
theorem dX8_token_15 : decode cX8_token 15 = .ok (.aload_n 0, 1) := by decide +kernel
theorem dX8_token_16 : decode cX8_token 16 = .ok (.getfield 72, 3) := by decide +kernel
theorem dX8_token_19 : decode cX8_token 19 = .ok (.iaload, 1) := by decide +kernel
theorem dX8_token_20 : decode cX8_token 20 = .ok (.bipush 32, 2) := by decide +kernel
theorem dX8_token_22 : decode cX8_token 22 = .ok (.if_icmp .ne 16, 3) := by decide +kernel
theorem dX8_token_25 : decode cX8_token 25 = .ok (.aload_n 0, 1) := by decide +kernel
theorem dX8_token_26 : decode cX8_token 26 = .ok (.dup, 1) := by decide +kernel
theorem dX8_token_27 : decode cX8_token 27 = .ok (.getfield 72, 3) := by decide +kernel
theorem dX8_token_30 : decode cX8_token 30 = .ok (.iconst 1, 1) := by decide +kernel
theorem dX8_token_31 : decode cX8_token 31 = .ok (.iadd, 1) := by decide +kernel
theorem dX8_token_32 : decode cX8_token 32 = .ok (.putfield 72, 3) := by decide +kernel
theorem dX8_token_35 : decode cX8_token 35 = .ok (.goto (-35), 3) := by decide +kernel
theorem dX8_token_38 : decode cX8_token 38 = .ok (.aload_n 0, 1) := by decide +kernel
theorem dX8_token_39 : decode cX8_token 39 = .ok (.aload_n 0, 1) := by decide +kernel
theorem dX8_token_40 : decode cX8_token 40 = .ok (.getfield 72, 3) := by decide +kernel
theorem dX8_token_43 : decode cX8_token 43 = .ok (.putfield 75, 3) := by decide +kernel
theorem dX8_token_46 : decode cX8_token 46 = .ok (.aload_n 0, 1) := by decide +kernel
theorem dX8_token_47 : decode cX8_token 47 = .ok (.dup, 1) := by decide +kernel
theorem dX8_token_48 : decode cX8_token 48 = .ok (.getfield 72, 3) := by decide +kernel
theorem dX8_token_51 : decode cX8_token 51 = .ok (.aload_n 0, 1) := by decide +kernel
theorem dX8_token_52 : decode cX8_token 52 = .ok (.getfield 72, 3) := by decide +kernel
theorem dX8_token_55 : decode cX8_token 55 = .ok (.aload_n 0, 1) := by decide +kernel
theorem dX8_token_56 : decode cX8_token 56 = .ok (.getfield 67, 3) := by decide +kernel
theorem dX8_token_59 : decode cX8_token 59 = .ok (.if_icmp .ge 7, 3) := by decide +kernel
theorem dX8_token_62 : decode cX8_token 62 = .ok (.iconst 1, 1) := by decide +kernel
theorem dX8_token_63 : decode cX8_token 63 = .ok (.goto 4, 3) := by decide +kernel
theorem dX8_token_66 : decode cX8_token 66 = .ok (.iconst 0, 1) := by decide +kernel
theorem dX8_token_67 : decode cX8_token 67 = .ok (.iadd, 1) := by decide +kernel
theorem dX8_token_68 : decode cX8_token 68 = .ok (.putfield 72, 3) := by decide +kernel
theorem dX8_token_71 : decode cX8_token 71 = .ok (.aload_n 0, 1) := by decide +kernel
theorem dX8_token_72 : decode cX8_token 72 = .ok (.getfield 72, 3) := by decide +kernel
theorem dX8_token_75 : decode cX8_token 75 = .ok (.aload_n 0, 1) := by decide +kernel
theorem dX8_token_76 : decode cX8_token 76 = .ok (.getfield 67, 3) := by decide +kernel
theorem dX8_token_79 : decode cX8_token 79 = .ok (.if_icmp .ge 58, 3) := by decide +kernel
theorem dX8_token_82 : decode cX8_token 82 = .ok (.aload_n 0, 1) := by decide +kernel
theorem dX8_token_83 : decode cX8_token 83 = .ok (.getfield 17, 3) := by decide +kernel
theorem dX8_token_86 : decode cX8_token 86 = .ok (.aload_n 0, 1) := by decide +kernel
theorem dX8_token_87 : decode cX8_token 87 = .ok (.getfield 75, 3) := by decide +kernel
theorem dX8_token_90 : decode cX8_token 90 = .ok (.iaload, 1) := by decide +kernel
theorem dX8_token_91 : decode cX8_token 91 = .ok (.invokestatic 78, 3) := by decide +kernel
theorem dX8_token_94 : decode cX8_token 94 = .ok (.ifCond .le 43, 3) := by decide +kernel
theorem dX8_token_97 : decode cX8_token 97 = .ok (.aload_n 0, 1) := by decide +kernel
theorem dX8_token_98 : decode cX8_token 98 = .ok (.getfield 17, 3) := by decide +kernel
theorem dX8_token_101 : decode cX8_token 101 = .ok (.aload_n 0, 1) := by decide +kernel
theorem dX8_token_102 : decode cX8_token 102 = .ok (.getfield 72, 3) := by decide +kernel
theorem dX8_token_105 : decode cX8_token 105 = .ok (.iaload, 1) := by decide +kernel
theorem dX8_token_106 : decode cX8_token 106 = .ok (.invokestatic 78, 3) := by decide +kernel
theorem dX8_token_109 : decode cX8_token 109 = .ok (.aload_n 0, 1) := by decide +kernel
theorem dX8_token_110 : decode cX8_token 110 = .ok (.getfield 17, 3) := by decide +kernel
theorem dX8_token_113 : decode cX8_token 113 = .ok (.aload_n 0, 1) := by decide +kernel
theorem dX8_token_114 : decode cX8_token 114 = .ok (.getfield 75, 3) := by decide +kernel
theorem dX8_token_117 : decode cX8_token 117 = .ok (.iaload, 1) := by decide +kernel
theorem dX8_token_118 : decode cX8_token 118 = .ok (.invokestatic 78, 3) := by decide +kernel
theorem dX8_token_121 : decode cX8_token 121 = .ok (.if_icmp .ne 16, 3) := by decide +kernel
theorem dX8_token_124 : decode cX8_token 124 = .ok (.aload_n 0, 1) := by decide +kernel
theorem dX8_token_125 : decode cX8_token 125 = .ok (.dup, 1) := by decide +kernel
theorem dX8_token_126 : decode cX8_token 126 = .ok (.getfield 72, 3) := by decide +kernel
theorem dX8_token_129 : decode cX8_token 129 = .ok (.iconst 1, 1) := by decide +kernel
theorem dX8_token_130 : decode cX8_token 130 = .ok (.iadd, 1) := by decide +kernel
theorem dX8_token_131 : decode cX8_token 131 = .ok (.putfield 72, 3) := by decide +kernel
theorem dX8_token_134 : decode cX8_token 134 = .ok (.goto (-63), 3) := by decide +kernel
theorem dX8_token_137 : decode cX8_token 137 = .ok (.aload_n 0, 1) := by decide +kernel
theorem dX8_token_138 : decode cX8_token 138 = .ok (.aload_n 0, 1) := by decide +kernel
theorem dX8_token_139 : decode cX8_token 139 = .ok (.getfield 72, 3) := by decide +kernel
theorem dX8_token_142 : decode cX8_token 142 = .ok (.putfield 82, 3) := by decide +kernel
theorem dX8_token_145 : decode cX8_token 145 = .ok (.return_, 1) := by decide +kernel
def Mo_token_L0 (k38 : Wd → Option Wd) : Nat → Wd → Option Wd
  | 0, _ => none
  | n + 1, w => (if (w.1 37 3) ≤ (w.1 37 13) then (k38 w) else (if ib (w.1 37 13) 200 = true then (if (w.1 40 (Int32.toNatClampNeg (w.1 37 13))) = (32 : Int32) then (Mo_token_L0 k38 n (sI w 37 13 ((w.1 37 13) + (1 : Int32)))) else (k38 w)) else none))
set_option maxRecDepth 100000 in
set_option maxHeartbeats 4000000 in
theorem Mo_token_L0_ok {K : Ctx} (F : Fx K cX8_token 1 RX8 none 1 20 false [37, 40]) {k38 : Wd → Option Wd} (h38 : ∀ (w : Wd), N K rtV (k38 w) w 38 [(0, .ref (gA (cg K) 37))] []) : ∀ (n : Nat) (w : Wd), N K rtV (Mo_token_L0 k38 n w) w 0 [(0, .ref (gA (cg K) 37))] [] := by
  intro n
  induction n with
  | zero => intro _; exact n_none
  | succ n ih =>
    intro w
    rw [Mo_token_L0]
    refine n_aload_n F dX8_token_0 rfl 0 rfl ?_
    refine n_get F ck_8 lf_RX8_72 (by decide) fg_37_13 (by decide) dX8_token_1 ?_
    refine n_aload_n F dX8_token_4 rfl 0 rfl ?_
    refine n_get F ck_8 lf_RX8_67 (by decide) fg_37_3 (by decide) dX8_token_5 ?_
    refine n_icmp_ge F 38 dX8_token_8 (by decide) (fun e1 => ?_) (fun e1 => ?_)
    · rw [if_pos e1]
      exact n_sub [0] rfl (h38 _)
    rw [if_neg e1]
    refine n_aload_n F dX8_token_11 rfl 0 rfl ?_
    refine n_get F ck_8 lf_RX8_17 (by decide) fg_37_2 (by decide) dX8_token_12 ?_
    refine n_aload_n F dX8_token_15 rfl 0 rfl ?_
    refine n_get F ck_8 lf_RX8_72 (by decide) fg_37_13 (by decide) dX8_token_16 ?_
    refine n_chk (fun e2 => ?_)
    refine n_iald F ar_40 (by decide) (ib_in e2) rfl dX8_token_19 ?_
    refine n_bipush F (32 : Int32) dX8_token_20 (by decide) ?_
    refine n_icmp_ne F 38 dX8_token_22 (by decide) (fun e3 => ?_) (fun e3 => ?_)
    · rw [if_neg e3]
      exact n_sub [0] rfl (h38 _)
    rw [if_pos e3]
    refine n_aload_n F dX8_token_25 rfl 0 rfl ?_
    refine n_dup F dX8_token_26 rfl ?_
    refine n_get F ck_8 lf_RX8_72 (by decide) fg_37_13 (by decide) dX8_token_27 ?_
    refine n_iconst F (1 : Int32) dX8_token_30 (by decide) ?_
    refine n_iadd F dX8_token_31 ?_
    refine n_put F ck_8 lf_RX8_72 (by decide) rfl fp_37_13 (by decide) rfl rfl dX8_token_32 ?_
    refine n_goto F 0 dX8_token_35 (by decide) ?_
    exact n_sub [0] rfl (ih _)
def Mo_token_L71 (k137 : Wd → Option Wd) : Nat → Wd → Option Wd
  | 0, _ => none
  | n + 1, w => (if (w.1 37 3) ≤ (w.1 37 13) then (k137 w) else (if ib (w.1 37 14) 200 = true then (if (Mo_sort w (w.1 40 (Int32.toNatClampNeg (w.1 37 14)))) ≤ (0 : Int32) then (k137 w) else (if ib (w.1 37 13) 200 = true then (if ib (w.1 37 14) 200 = true then (if (Mo_sort w (w.1 40 (Int32.toNatClampNeg (w.1 37 13)))) = (Mo_sort w (w.1 40 (Int32.toNatClampNeg (w.1 37 14)))) then (Mo_token_L71 k137 n (sI w 37 13 ((w.1 37 13) + (1 : Int32)))) else (k137 w)) else none) else none)) else none))
set_option maxRecDepth 100000 in
set_option maxHeartbeats 4000000 in
theorem Mo_token_L71_ok {K : Ctx} (F : Fx K cX8_token 1 RX8 none 1 20 false [37, 40]) {k137 : Wd → Option Wd} (h137 : ∀ (w : Wd), N K rtV (k137 w) w 137 [(0, .ref (gA (cg K) 37))] []) : ∀ (n : Nat) (w : Wd), N K rtV (Mo_token_L71 k137 n w) w 71 [(0, .ref (gA (cg K) 37))] [] := by
  intro n
  induction n with
  | zero => intro _; exact n_none
  | succ n ih =>
    intro w
    rw [Mo_token_L71]
    refine n_aload_n F dX8_token_71 rfl 0 rfl ?_
    refine n_get F ck_8 lf_RX8_72 (by decide) fg_37_13 (by decide) dX8_token_72 ?_
    refine n_aload_n F dX8_token_75 rfl 0 rfl ?_
    refine n_get F ck_8 lf_RX8_67 (by decide) fg_37_3 (by decide) dX8_token_76 ?_
    refine n_icmp_ge F 137 dX8_token_79 (by decide) (fun e5 => ?_) (fun e5 => ?_)
    · rw [if_pos e5]
      exact n_sub [0] rfl (h137 _)
    rw [if_neg e5]
    refine n_aload_n F dX8_token_82 rfl 0 rfl ?_
    refine n_get F ck_8 lf_RX8_17 (by decide) fg_37_2 (by decide) dX8_token_83 ?_
    refine n_aload_n F dX8_token_86 rfl 0 rfl ?_
    refine n_get F ck_8 lf_RX8_75 (by decide) fg_37_14 (by decide) dX8_token_87 ?_
    refine n_chk (fun e6 => ?_)
    refine n_iald F ar_40 (by decide) (ib_in e6) rfl dX8_token_90 ?_
    refine n_callSi F cb_X8_sort lm_RX8_78 (ct_Mo_sort (fx_ok F) (fx_sd F) (fx_ix F rfl) w (w.1 40 (Int32.toNatClampNeg (w.1 37 14)))) rfl rfl (Nat.le_of_ble_eq_true rfl) ⟨Nat.le_of_ble_eq_true rfl, Nat.le_of_ble_eq_true rfl⟩ dX8_token_91 ?_
    refine n_if_le F 137 dX8_token_94 (by decide) (fun e7 => ?_) (fun e7 => ?_)
    · rw [if_pos e7]
      exact n_sub [0] rfl (h137 _)
    rw [if_neg e7]
    refine n_aload_n F dX8_token_97 rfl 0 rfl ?_
    refine n_get F ck_8 lf_RX8_17 (by decide) fg_37_2 (by decide) dX8_token_98 ?_
    refine n_aload_n F dX8_token_101 rfl 0 rfl ?_
    refine n_get F ck_8 lf_RX8_72 (by decide) fg_37_13 (by decide) dX8_token_102 ?_
    refine n_chk (fun e8 => ?_)
    refine n_iald F ar_40 (by decide) (ib_in e8) rfl dX8_token_105 ?_
    refine n_callSi F cb_X8_sort lm_RX8_78 (ct_Mo_sort (fx_ok F) (fx_sd F) (fx_ix F rfl) w (w.1 40 (Int32.toNatClampNeg (w.1 37 13)))) rfl rfl (Nat.le_of_ble_eq_true rfl) ⟨Nat.le_of_ble_eq_true rfl, Nat.le_of_ble_eq_true rfl⟩ dX8_token_106 ?_
    refine n_aload_n F dX8_token_109 rfl 0 rfl ?_
    refine n_get F ck_8 lf_RX8_17 (by decide) fg_37_2 (by decide) dX8_token_110 ?_
    refine n_aload_n F dX8_token_113 rfl 0 rfl ?_
    refine n_get F ck_8 lf_RX8_75 (by decide) fg_37_14 (by decide) dX8_token_114 ?_
    refine n_chk (fun e9 => ?_)
    refine n_iald F ar_40 (by decide) (ib_in e9) rfl dX8_token_117 ?_
    refine n_callSi F cb_X8_sort lm_RX8_78 (ct_Mo_sort (fx_ok F) (fx_sd F) (fx_ix F rfl) w (w.1 40 (Int32.toNatClampNeg (w.1 37 14)))) rfl rfl (Nat.le_of_ble_eq_true rfl) ⟨Nat.le_of_ble_eq_true rfl, Nat.le_of_ble_eq_true rfl⟩ dX8_token_118 ?_
    refine n_icmp_ne F 137 dX8_token_121 (by decide) (fun e10 => ?_) (fun e10 => ?_)
    · rw [if_neg e10]
      exact n_sub [0] rfl (h137 _)
    rw [if_pos e10]
    refine n_aload_n F dX8_token_124 rfl 0 rfl ?_
    refine n_dup F dX8_token_125 rfl ?_
    refine n_get F ck_8 lf_RX8_72 (by decide) fg_37_13 (by decide) dX8_token_126 ?_
    refine n_iconst F (1 : Int32) dX8_token_129 (by decide) ?_
    refine n_iadd F dX8_token_130 ?_
    refine n_put F ck_8 lf_RX8_72 (by decide) rfl fp_37_13 (by decide) rfl rfl dX8_token_131 ?_
    refine n_goto F 71 dX8_token_134 (by decide) ?_
    exact n_sub [0] rfl (ih _)
def Mo_token_B137 (w : Wd) : Option Wd := some (sI w 37 15 (w.1 37 13))
set_option maxRecDepth 100000 in
set_option maxHeartbeats 4000000 in
theorem Mo_token_B137_ok {K : Ctx} (F : Fx K cX8_token 1 RX8 none 1 20 false [37, 40]) (w : Wd) : N K rtV (Mo_token_B137 w) w 137 [(0, .ref (gA (cg K) 37))] [] := by
  rw [Mo_token_B137]
  refine n_aload_n F dX8_token_137 rfl 0 rfl ?_
  refine n_aload_n F dX8_token_138 rfl 0 rfl ?_
  refine n_get F ck_8 lf_RX8_72 (by decide) fg_37_13 (by decide) dX8_token_139 ?_
  refine n_put F ck_8 lf_RX8_82 (by decide) rfl fp_37_15 (by decide) rfl rfl dX8_token_142 ?_
  exact n_vret F rfl rfl dX8_token_145
def Mo_token_B38 (w : Wd) : Option Wd := (Mo_token_L71 Mo_token_B137 FU (if ((sI w 37 14 (w.1 37 13)).1 37 3) ≤ ((sI w 37 14 (w.1 37 13)).1 37 13) then (sI (sI w 37 14 (w.1 37 13)) 37 13 (((sI w 37 14 (w.1 37 13)).1 37 13) + (0 : Int32))) else (sI (sI w 37 14 (w.1 37 13)) 37 13 (((sI w 37 14 (w.1 37 13)).1 37 13) + (1 : Int32)))))
set_option maxRecDepth 100000 in
set_option maxHeartbeats 4000000 in
theorem Mo_token_B38_ok {K : Ctx} (F : Fx K cX8_token 1 RX8 none 1 20 false [37, 40]) (w : Wd) : N K rtV (Mo_token_B38 w) w 38 [(0, .ref (gA (cg K) 37))] [] := by
  rw [Mo_token_B38]
  refine n_aload_n F dX8_token_38 rfl 0 rfl ?_
  refine n_aload_n F dX8_token_39 rfl 0 rfl ?_
  refine n_get F ck_8 lf_RX8_72 (by decide) fg_37_13 (by decide) dX8_token_40 ?_
  refine n_put F ck_8 lf_RX8_75 (by decide) rfl fp_37_14 (by decide) rfl rfl dX8_token_43 ?_
  refine n_aload_n F dX8_token_46 rfl 0 rfl ?_
  refine n_dup F dX8_token_47 rfl ?_
  refine n_get F ck_8 lf_RX8_72 (by decide) fg_37_13 (by decide) dX8_token_48 ?_
  refine n_aload_n F dX8_token_51 rfl 0 rfl ?_
  refine n_get F ck_8 lf_RX8_72 (by decide) fg_37_13 (by decide) dX8_token_52 ?_
  refine n_aload_n F dX8_token_55 rfl 0 rfl ?_
  refine n_get F ck_8 lf_RX8_67 (by decide) fg_37_3 (by decide) dX8_token_56 ?_
  refine n_icmp_ge F 66 dX8_token_59 (by decide) (fun e4 => ?_) (fun e4 => ?_)
  · rw [if_pos e4]
    refine n_iconst F (0 : Int32) dX8_token_66 (by decide) ?_
    refine n_iadd F dX8_token_67 ?_
    refine n_put F ck_8 lf_RX8_72 (by decide) rfl fp_37_13 (by decide) rfl rfl dX8_token_68 ?_
    exact n_sub [0] rfl (Mo_token_L71_ok F (Mo_token_B137_ok F) FU _)
  rw [if_neg e4]
  refine n_iconst F (1 : Int32) dX8_token_62 (by decide) ?_
  refine n_goto F 67 dX8_token_63 (by decide) ?_
  refine n_iadd F dX8_token_67 ?_
  refine n_put F ck_8 lf_RX8_72 (by decide) rfl fp_37_13 (by decide) rfl rfl dX8_token_68 ?_
  exact n_sub [0] rfl (Mo_token_L71_ok F (Mo_token_B137_ok F) FU _)
def Mo_token (w : Wd) : Option Wd := (Mo_token_L0 Mo_token_B38 FU w)
set_option maxRecDepth 100000 in
set_option maxHeartbeats 4000000 in
theorem ct_Mo_token {l : Launch} {g : GG} {σ : Sd} (hg : OKg g σ) (hb : σ.2.1 = false) (hx : ∀ c ∈ ([37, 40] : List Nat), c ∈ σ.1) (w : Wd) {q : Wd} (hq : Mo_token w = some q) : CT l g σ yX8_token cX8_token 1 none 1 20 [.ref (gA g 37)] w none q := by
  refine ct_of (rt := rtV) (res := Mo_token w) (q := q) (own := RX8) (b := false) hg hb hx (by decide) rfl (Nat.le_of_ble_eq_true rfl) hq (fun K e1 e2 e3 F => ?_)
  subst e1 e2 e3
  rw [Mo_token]
  show N K _ _ w 0 [(0, .ref (gA (cg K) 37))] []
  exact n_sub [0] rfl (Mo_token_L0_ok F (Mo_token_B38_ok F) FU _)
theorem dX8_isWord_0 : decode cX8_isWord 0 = .ok (.aload_n 0, 1) := by decide +kernel
theorem dX8_isWord_1 : decode cX8_isWord 1 = .ok (.getfield 82, 3) := by decide +kernel
theorem dX8_isWord_4 : decode cX8_isWord 4 = .ok (.aload_n 0, 1) := by decide +kernel
theorem dX8_isWord_5 : decode cX8_isWord 5 = .ok (.getfield 75, 3) := by decide +kernel
theorem dX8_isWord_8 : decode cX8_isWord 8 = .ok (.isub, 1) := by decide +kernel
theorem dX8_isWord_9 : decode cX8_isWord 9 = .ok (.iload_n 3, 1) := by decide +kernel
theorem dX8_isWord_10 : decode cX8_isWord 10 = .ok (.if_icmp .ne 7, 3) := by decide +kernel
theorem dX8_isWord_13 : decode cX8_isWord 13 = .ok (.iconst 1, 1) := by decide +kernel
theorem dX8_isWord_14 : decode cX8_isWord 14 = .ok (.goto 4, 3) := by decide +kernel
theorem dX8_isWord_17 : decode cX8_isWord 17 = .ok (.iconst 0, 1) := by decide +kernel
theorem dX8_isWord_18 : decode cX8_isWord 18 = .ok (.istore 4, 2) := by decide +kernel
theorem dX8_isWord_20 : decode cX8_isWord 20 = .ok (.iconst 0, 1) := by decide +kernel
theorem dX8_isWord_21 : decode cX8_isWord 21 = .ok (.istore 5, 2) := by decide +kernel
theorem dX8_isWord_23 : decode cX8_isWord 23 = .ok (.iload 4, 2) := by decide +kernel
theorem dX8_isWord_25 : decode cX8_isWord 25 = .ok (.ifCond .eq 51, 3) := by decide +kernel
theorem dX8_isWord_28 : decode cX8_isWord 28 = .ok (.iload 5, 2) := by decide +kernel
theorem dX8_isWord_30 : decode cX8_isWord 30 = .ok (.iload_n 3, 1) := by decide +kernel
theorem dX8_isWord_31 : decode cX8_isWord 31 = .ok (.if_icmp .ge 45, 3) := by decide +kernel
theorem dX8_isWord_34 : decode cX8_isWord 34 = .ok (.aload_n 0, 1) := by decide +kernel
theorem dX8_isWord_35 : decode cX8_isWord 35 = .ok (.getfield 17, 3) := by decide +kernel
theorem dX8_isWord_38 : decode cX8_isWord 38 = .ok (.aload_n 0, 1) := by decide +kernel
theorem dX8_isWord_39 : decode cX8_isWord 39 = .ok (.getfield 75, 3) := by decide +kernel
theorem dX8_isWord_42 : decode cX8_isWord 42 = .ok (.iload 5, 2) := by decide +kernel
theorem dX8_isWord_44 : decode cX8_isWord 44 = .ok (.iadd, 1) := by decide +kernel
theorem dX8_isWord_45 : decode cX8_isWord 45 = .ok (.iaload, 1) := by decide +kernel
theorem dX8_isWord_46 : decode cX8_isWord 46 = .ok (.bipush 96, 2) := by decide +kernel
theorem dX8_isWord_48 : decode cX8_isWord 48 = .ok (.lload_n 1, 1) := by decide +kernel
theorem dX8_isWord_49 : decode cX8_isWord 49 = .ok (.iconst 5, 1) := by decide +kernel
theorem dX8_isWord_50 : decode cX8_isWord 50 = .ok (.iload 5, 2) := by decide +kernel
theorem dX8_isWord_52 : decode cX8_isWord 52 = .ok (.imul, 1) := by decide +kernel
theorem dX8_isWord_53 : decode cX8_isWord 53 = .ok (.lshr, 1) := by decide +kernel
theorem dX8_isWord_54 : decode cX8_isWord 54 = .ok (.ldc2_w 85, 3) := by decide +kernel
theorem dX8_isWord_57 : decode cX8_isWord 57 = .ok (.land, 1) := by decide +kernel
theorem dX8_isWord_58 : decode cX8_isWord 58 = .ok (.l2i, 1) := by decide +kernel
theorem dX8_isWord_59 : decode cX8_isWord 59 = .ok (.iadd, 1) := by decide +kernel
theorem dX8_isWord_60 : decode cX8_isWord 60 = .ok (.if_icmp .ne 7, 3) := by decide +kernel
theorem dX8_isWord_63 : decode cX8_isWord 63 = .ok (.iconst 1, 1) := by decide +kernel
theorem dX8_isWord_64 : decode cX8_isWord 64 = .ok (.goto 4, 3) := by decide +kernel
theorem dX8_isWord_67 : decode cX8_isWord 67 = .ok (.iconst 0, 1) := by decide +kernel
theorem dX8_isWord_68 : decode cX8_isWord 68 = .ok (.istore 4, 2) := by decide +kernel
theorem dX8_isWord_70 : decode cX8_isWord 70 = .ok (.iinc 5 1, 3) := by decide +kernel
theorem dX8_isWord_73 : decode cX8_isWord 73 = .ok (.goto (-50), 3) := by decide +kernel
theorem dX8_isWord_76 : decode cX8_isWord 76 = .ok (.iload 4, 2) := by decide +kernel
theorem dX8_isWord_78 : decode cX8_isWord 78 = .ok (.ireturn, 1) := by decide +kernel
def Mo_isWord_L23 (w : Wd) (k76 : Int32 → Option Int32) : Nat → Int64 → Int32 → Int32 → Int32 → Option Int32
  | 0, _, _, _, _ => none
  | n + 1, v1, v3, v4, v5 => (if v4 = (0 : Int32) then (k76 v4) else (if v3 ≤ v5 then (k76 v4) else (if ib ((w.1 37 14) + v5) 200 = true then (Mo_isWord_L23 w k76 n v1 v3 (if (w.1 40 (Int32.toNatClampNeg ((w.1 37 14) + v5))) = ((96 : Int32) + (Int64.toInt32 ((v1 >>> (Int32.toInt64 ((5 : Int32) * v5) &&& (63 : Int64))) &&& (31 : Int64)))) then (1 : Int32) else (0 : Int32)) (v5 + (1 : Int32))) else none)))
set_option maxRecDepth 100000 in
set_option maxHeartbeats 4000000 in
theorem Mo_isWord_L23_ok {K : Ctx} (F : Fx K cX8_isWord 6 RX8 (some .boolean) 0 0 false [37, 40]) (w : Wd) {k76 : Int32 → Option Int32} (h76 : ∀ (v4 : Int32), N K (rtP w) (k76 v4) w 76 [(4, .int v4)] []) : ∀ (n : Nat) (v1 : Int64) (v3 : Int32) (v4 : Int32) (v5 : Int32), N K (rtP w) (Mo_isWord_L23 w k76 n v1 v3 v4 v5) w 23 [(0, .ref (gA (cg K) 37)), (1, .long v1), (3, .int v3), (4, .int v4), (5, .int v5)] [] := by
  intro n
  induction n with
  | zero => intro _ _ _ _; exact n_none
  | succ n ih =>
    intro v1 v3 v4 v5
    rw [Mo_isWord_L23]
    refine n_iload F dX8_isWord_23 3 rfl ?_
    refine n_if_eq F 76 dX8_isWord_25 (by decide) (fun e2 => ?_) (fun e2 => ?_)
    · rw [if_pos e2]
      exact n_sub [3] rfl (h76 _)
    rw [if_neg e2]
    refine n_iload F dX8_isWord_28 4 rfl ?_
    refine n_iload_n F dX8_isWord_30 rfl 2 rfl ?_
    refine n_icmp_ge F 76 dX8_isWord_31 (by decide) (fun e3 => ?_) (fun e3 => ?_)
    · rw [if_pos e3]
      exact n_sub [3] rfl (h76 _)
    rw [if_neg e3]
    refine n_aload_n F dX8_isWord_34 rfl 0 rfl ?_
    refine n_get F ck_8 lf_RX8_17 (by decide) fg_37_2 (by decide) dX8_isWord_35 ?_
    refine n_aload_n F dX8_isWord_38 rfl 0 rfl ?_
    refine n_get F ck_8 lf_RX8_75 (by decide) fg_37_14 (by decide) dX8_isWord_39 ?_
    refine n_iload F dX8_isWord_42 4 rfl ?_
    refine n_iadd F dX8_isWord_44 ?_
    refine n_chk (fun e4 => ?_)
    refine n_iald F ar_40 (by decide) (ib_in e4) rfl dX8_isWord_45 ?_
    refine n_bipush F (96 : Int32) dX8_isWord_46 (by decide) ?_
    refine n_lload_n F dX8_isWord_48 rfl 1 rfl ?_
    refine n_iconst F (5 : Int32) dX8_isWord_49 (by decide) ?_
    refine n_iload F dX8_isWord_50 4 rfl ?_
    refine n_imul F dX8_isWord_52 ?_
    refine n_lshr F dX8_isWord_53 ?_
    refine n_ldc2 F (31 : Int64) dX8_isWord_54 kc_RX8_85 ?_
    refine n_land F dX8_isWord_57 ?_
    refine n_l2i F dX8_isWord_58 ?_
    refine n_iadd F dX8_isWord_59 ?_
    refine n_icmp_ne F 67 dX8_isWord_60 (by decide) (fun e5 => ?_) (fun e5 => ?_)
    · rw [if_neg e5]
      refine n_iconst F (0 : Int32) dX8_isWord_67 (by decide) ?_
      refine n_istore F (lv' := [(4, .int (0 : Int32)), (0, .ref (gA (cg K) 37)), (1, .long v1), (3, .int v3), (5, .int v5)]) dX8_isWord_68 (by decide) rfl ?_
      refine n_iinc F (v5 + (1 : Int32)) (lv' := [(5, .int (v5 + (1 : Int32))), (4, .int (0 : Int32)), (0, .ref (gA (cg K) 37)), (1, .long v1), (3, .int v3)]) dX8_isWord_70 4 rfl rfl (by decide) rfl ?_
      refine n_goto F 23 dX8_isWord_73 (by decide) ?_
      exact n_sub [2, 3, 4, 1, 0] rfl (ih _ _ _ _)
    rw [if_pos e5]
    refine n_iconst F (1 : Int32) dX8_isWord_63 (by decide) ?_
    refine n_goto F 68 dX8_isWord_64 (by decide) ?_
    refine n_istore F (lv' := [(4, .int (1 : Int32)), (0, .ref (gA (cg K) 37)), (1, .long v1), (3, .int v3), (5, .int v5)]) dX8_isWord_68 (by decide) rfl ?_
    refine n_iinc F (v5 + (1 : Int32)) (lv' := [(5, .int (v5 + (1 : Int32))), (4, .int (1 : Int32)), (0, .ref (gA (cg K) 37)), (1, .long v1), (3, .int v3)]) dX8_isWord_70 4 rfl rfl (by decide) rfl ?_
    refine n_goto F 23 dX8_isWord_73 (by decide) ?_
    exact n_sub [2, 3, 4, 1, 0] rfl (ih _ _ _ _)
def Mo_isWord_B76 (w : Wd) (v4 : Int32) : Option Int32 := (if v4 &&& (1 : Int32) = v4 then some v4 else none)
set_option maxRecDepth 100000 in
set_option maxHeartbeats 4000000 in
theorem Mo_isWord_B76_ok {K : Ctx} (F : Fx K cX8_isWord 6 RX8 (some .boolean) 0 0 false [37, 40]) (w : Wd) (v4 : Int32) : N K (rtP w) (Mo_isWord_B76 w v4) w 76 [(4, .int v4)] [] := by
  rw [Mo_isWord_B76]
  refine n_iload F dX8_isWord_76 0 rfl ?_
  refine n_chk (fun e6 => ?_)
  exact n_zret F .boolean rfl (bz_n e6) rfl dX8_isWord_78
def Mo_isWord (w : Wd) (a1 : Int64) (a2 : Int32) : Option Int32 := (Mo_isWord_L23 w (Mo_isWord_B76 w) FU a1 a2 (if ((w.1 37 15) - (w.1 37 14)) = a2 then (1 : Int32) else (0 : Int32)) (0 : Int32))
set_option maxRecDepth 100000 in
set_option maxHeartbeats 4000000 in
theorem ct_Mo_isWord {l : Launch} {g : GG} {σ : Sd} (hg : OKg g σ) (hb : σ.2.1 = false) (hx : ∀ c ∈ ([37, 40] : List Nat), c ∈ σ.1) (w : Wd) (a1 : Int64) (a2 : Int32) {q : Int32} (hq : Mo_isWord w a1 a2 = some q) : CT l g σ yX8_isWord cX8_isWord 6 (some .boolean) 0 0 [.ref (gA g 37), .long a1, .int a2] w (some (.int q)) w := by
  refine ct_of (rt := (rtP w)) (res := Mo_isWord w a1 a2) (q := q) (own := RX8) (b := false) hg hb hx (by decide) rfl (Nat.le_of_ble_eq_true rfl) hq (fun K e1 e2 e3 F => ?_)
  subst e1 e2 e3
  rw [Mo_isWord]
  show N K _ _ w 0 [(0, .ref (gA (cg K) 37)), (1, .long a1), (3, .int a2)] []
  refine n_aload_n F dX8_isWord_0 rfl 0 rfl ?_
  refine n_get F ck_8 lf_RX8_82 (by decide) fg_37_15 (by decide) dX8_isWord_1 ?_
  refine n_aload_n F dX8_isWord_4 rfl 0 rfl ?_
  refine n_get F ck_8 lf_RX8_75 (by decide) fg_37_14 (by decide) dX8_isWord_5 ?_
  refine n_isub F dX8_isWord_8 ?_
  refine n_iload_n F dX8_isWord_9 rfl 2 rfl ?_
  refine n_icmp_ne F 17 dX8_isWord_10 (by decide) (fun e1 => ?_) (fun e1 => ?_)
  · rw [if_neg e1]
    refine n_iconst F (0 : Int32) dX8_isWord_17 (by decide) ?_
    refine n_istore F (lv' := [(4, .int (0 : Int32)), (0, .ref (gA (cg K) 37)), (1, .long a1), (3, .int a2)]) dX8_isWord_18 (by decide) rfl ?_
    refine n_iconst F (0 : Int32) dX8_isWord_20 (by decide) ?_
    refine n_istore F (lv' := [(5, .int (0 : Int32)), (4, .int (0 : Int32)), (0, .ref (gA (cg K) 37)), (1, .long a1), (3, .int a2)]) dX8_isWord_21 (by decide) rfl ?_
    exact n_sub [2, 3, 4, 1, 0] rfl (Mo_isWord_L23_ok F w (Mo_isWord_B76_ok F w) FU _ _ _ _)
  rw [if_pos e1]
  refine n_iconst F (1 : Int32) dX8_isWord_13 (by decide) ?_
  refine n_goto F 18 dX8_isWord_14 (by decide) ?_
  refine n_istore F (lv' := [(4, .int (1 : Int32)), (0, .ref (gA (cg K) 37)), (1, .long a1), (3, .int a2)]) dX8_isWord_18 (by decide) rfl ?_
  refine n_iconst F (0 : Int32) dX8_isWord_20 (by decide) ?_
  refine n_istore F (lv' := [(5, .int (0 : Int32)), (4, .int (1 : Int32)), (0, .ref (gA (cg K) 37)), (1, .long a1), (3, .int a2)]) dX8_isWord_21 (by decide) rfl ?_
  exact n_sub [2, 3, 4, 1, 0] rfl (Mo_isWord_L23_ok F w (Mo_isWord_B76_ok F w) FU _ _ _ _)
