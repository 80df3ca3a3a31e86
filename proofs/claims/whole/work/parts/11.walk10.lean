theorem dX8_he_0 : decode cX8_he 0 = .ok (.iload_n 1, 1) := by decide +kernel
theorem dX8_he_1 : decode cX8_he 1 = .ok (.tableswitch 80 0 6 #[43, 50, 57, 64, 64, 64, 75], 43) := by decide +kernel
theorem dX8_he_44 : decode cX8_he 44 = .ok (.aload_n 0, 1) := by decide +kernel
theorem dX8_he_45 : decode cX8_he 45 = .ok (.getfield 7, 3) := by decide +kernel
theorem dX8_he_48 : decode cX8_he 48 = .ok (.iconst 1, 1) := by decide +kernel
theorem dX8_he_49 : decode cX8_he 49 = .ok (.iaload, 1) := by decide +kernel
theorem dX8_he_50 : decode cX8_he 50 = .ok (.ireturn, 1) := by decide +kernel
theorem dX8_he_51 : decode cX8_he 51 = .ok (.aload_n 0, 1) := by decide +kernel
theorem dX8_he_52 : decode cX8_he 52 = .ok (.getfield 7, 3) := by decide +kernel
theorem dX8_he_55 : decode cX8_he 55 = .ok (.iconst 2, 1) := by decide +kernel
theorem dX8_he_56 : decode cX8_he 56 = .ok (.iaload, 1) := by decide +kernel
theorem dX8_he_57 : decode cX8_he 57 = .ok (.ireturn, 1) := by decide +kernel
theorem dX8_he_58 : decode cX8_he 58 = .ok (.aload_n 0, 1) := by decide +kernel
theorem dX8_he_59 : decode cX8_he 59 = .ok (.getfield 7, 3) := by decide +kernel
theorem dX8_he_62 : decode cX8_he 62 = .ok (.iconst 3, 1) := by decide +kernel
theorem dX8_he_63 : decode cX8_he 63 = .ok (.iaload, 1) := by decide +kernel
theorem dX8_he_64 : decode cX8_he 64 = .ok (.ireturn, 1) := by decide +kernel
theorem dX8_he_65 : decode cX8_he 65 = .ok (.aload_n 0, 1) := by decide +kernel
theorem dX8_he_66 : decode cX8_he 66 = .ok (.getfield 7, 3) := by decide +kernel
theorem dX8_he_69 : decode cX8_he 69 = .ok (.iconst 4, 1) := by decide +kernel
theorem dX8_he_70 : decode cX8_he 70 = .ok (.iload_n 1, 1) := by decide +kernel
theorem dX8_he_71 : decode cX8_he 71 = .ok (.iadd, 1) := by decide +kernel
theorem dX8_he_72 : decode cX8_he 72 = .ok (.iconst 3, 1) := by decide +kernel
theorem dX8_he_73 : decode cX8_he 73 = .ok (.isub, 1) := by decide +kernel
theorem dX8_he_74 : decode cX8_he 74 = .ok (.iaload, 1) := by decide +kernel
theorem dX8_he_75 : decode cX8_he 75 = .ok (.ireturn, 1) := by decide +kernel
theorem dX8_he_76 : decode cX8_he 76 = .ok (.aload_n 0, 1) := by decide +kernel
theorem dX8_he_77 : decode cX8_he 77 = .ok (.invokevirtual 161, 3) := by decide +kernel
theorem dX8_he_80 : decode cX8_he 80 = .ok (.ireturn, 1) := by decide +kernel
theorem dX8_he_81 : decode cX8_he 81 = .ok (.bipush (-3), 2) := by decide +kernel
theorem dX8_he_83 : decode cX8_he 83 = .ok (.ireturn, 1) := by decide +kernel
def Mo_he (w : Wd) (a1 : Int32) : Option Int32 := (if a1 = (0 : Int32) then some (w.1 38 1) else (if a1 = (1 : Int32) then some (w.1 38 2) else (if a1 = (2 : Int32) then some (w.1 38 3) else (if a1 = (3 : Int32) then (if ib (((4 : Int32) + a1) - (3 : Int32)) 45 = true then some (w.1 38 (Int32.toNatClampNeg (((4 : Int32) + a1) - (3 : Int32)))) else none) else (if a1 = (4 : Int32) then (if ib (((4 : Int32) + a1) - (3 : Int32)) 45 = true then some (w.1 38 (Int32.toNatClampNeg (((4 : Int32) + a1) - (3 : Int32)))) else none) else (if a1 = (5 : Int32) then (if ib (((4 : Int32) + a1) - (3 : Int32)) 45 = true then some (w.1 38 (Int32.toNatClampNeg (((4 : Int32) + a1) - (3 : Int32)))) else none) else (if a1 = (6 : Int32) then (Option.bind (Mo_hisTrains w) (fun q11 => some q11)) else some (-3 : Int32))))))))
set_option maxRecDepth 100000 in
set_option maxHeartbeats 4000000 in
theorem ct_Mo_he {l : Launch} {g : GG} {σ : Sd} (hg : OKg g σ) (hb : σ.2.1 = false) (hx : ∀ c ∈ ([37, 38, 42] : List Nat), c ∈ σ.1) (w : Wd) (a1 : Int32) {q : Int32} (hq : Mo_he w a1 = some q) : CT l g σ yX8_he cX8_he 2 (some .int) 3 66 [.ref (gA g 37), .int a1] w (some (.int q)) w := by
  refine ct_of (rt := (rtP w)) (res := Mo_he w a1) (q := q) (own := RX8) (b := false) hg hb hx (by decide) rfl (Nat.le_of_ble_eq_true rfl) hq (fun K e1 e2 e3 F => ?_)
  subst e1 e2 e3
  rw [Mo_he]
  show N K _ _ w 0 [(0, .ref (gA (cg K) 37)), (1, .int a1)] []
  refine n_iload_n F dX8_he_0 rfl 1 rfl ?_
  by_cases e1 : a1 = (0 : Int32)
  · rw [if_pos e1]
    refine n_tabIn F (0 : Int32) 44 dX8_he_1 e1 (by decide) (by decide) rfl (by decide) ?_
    refine n_aload_n F dX8_he_44 rfl 0 rfl ?_
    refine n_get F ck_8 lf_RX8_7 (by decide) fg_37_0 (by decide) dX8_he_45 ?_
    refine n_iconst F (1 : Int32) dX8_he_48 (by decide) ?_
    refine n_iald F ar_38 (by decide) (ib_c (n := 45) (by decide)) (j := 1) (by decide) dX8_he_49 ?_
    exact n_iret F rfl rfl dX8_he_50
  rw [if_neg e1]
  by_cases e2 : a1 = (1 : Int32)
  · rw [if_pos e2]
    refine n_tabIn F (1 : Int32) 51 dX8_he_1 e2 (by decide) (by decide) rfl (by decide) ?_
    refine n_aload_n F dX8_he_51 rfl 0 rfl ?_
    refine n_get F ck_8 lf_RX8_7 (by decide) fg_37_0 (by decide) dX8_he_52 ?_
    refine n_iconst F (2 : Int32) dX8_he_55 (by decide) ?_
    refine n_iald F ar_38 (by decide) (ib_c (n := 45) (by decide)) (j := 2) (by decide) dX8_he_56 ?_
    exact n_iret F rfl rfl dX8_he_57
  rw [if_neg e2]
  by_cases e3 : a1 = (2 : Int32)
  · rw [if_pos e3]
    refine n_tabIn F (2 : Int32) 58 dX8_he_1 e3 (by decide) (by decide) rfl (by decide) ?_
    refine n_aload_n F dX8_he_58 rfl 0 rfl ?_
    refine n_get F ck_8 lf_RX8_7 (by decide) fg_37_0 (by decide) dX8_he_59 ?_
    refine n_iconst F (3 : Int32) dX8_he_62 (by decide) ?_
    refine n_iald F ar_38 (by decide) (ib_c (n := 45) (by decide)) (j := 3) (by decide) dX8_he_63 ?_
    exact n_iret F rfl rfl dX8_he_64
  rw [if_neg e3]
  by_cases e4 : a1 = (3 : Int32)
  · rw [if_pos e4]
    refine n_tabIn F (3 : Int32) 65 dX8_he_1 e4 (by decide) (by decide) rfl (by decide) ?_
    refine n_aload_n F dX8_he_65 rfl 0 rfl ?_
    refine n_get F ck_8 lf_RX8_7 (by decide) fg_37_0 (by decide) dX8_he_66 ?_
    refine n_iconst F (4 : Int32) dX8_he_69 (by decide) ?_
    refine n_iload_n F dX8_he_70 rfl 1 rfl ?_
    refine n_iadd F dX8_he_71 ?_
    refine n_iconst F (3 : Int32) dX8_he_72 (by decide) ?_
    refine n_isub F dX8_he_73 ?_
    refine n_chk (fun e5 => ?_)
    refine n_iald F ar_38 (by decide) (ib_in e5) rfl dX8_he_74 ?_
    exact n_iret F rfl rfl dX8_he_75
  rw [if_neg e4]
  by_cases e6 : a1 = (4 : Int32)
  · rw [if_pos e6]
    refine n_tabIn F (4 : Int32) 65 dX8_he_1 e6 (by decide) (by decide) rfl (by decide) ?_
    refine n_aload_n F dX8_he_65 rfl 0 rfl ?_
    refine n_get F ck_8 lf_RX8_7 (by decide) fg_37_0 (by decide) dX8_he_66 ?_
    refine n_iconst F (4 : Int32) dX8_he_69 (by decide) ?_
    refine n_iload_n F dX8_he_70 rfl 1 rfl ?_
    refine n_iadd F dX8_he_71 ?_
    refine n_iconst F (3 : Int32) dX8_he_72 (by decide) ?_
    refine n_isub F dX8_he_73 ?_
    refine n_chk (fun e7 => ?_)
    refine n_iald F ar_38 (by decide) (ib_in e7) rfl dX8_he_74 ?_
    exact n_iret F rfl rfl dX8_he_75
  rw [if_neg e6]
  by_cases e8 : a1 = (5 : Int32)
  · rw [if_pos e8]
    refine n_tabIn F (5 : Int32) 65 dX8_he_1 e8 (by decide) (by decide) rfl (by decide) ?_
    refine n_aload_n F dX8_he_65 rfl 0 rfl ?_
    refine n_get F ck_8 lf_RX8_7 (by decide) fg_37_0 (by decide) dX8_he_66 ?_
    refine n_iconst F (4 : Int32) dX8_he_69 (by decide) ?_
    refine n_iload_n F dX8_he_70 rfl 1 rfl ?_
    refine n_iadd F dX8_he_71 ?_
    refine n_iconst F (3 : Int32) dX8_he_72 (by decide) ?_
    refine n_isub F dX8_he_73 ?_
    refine n_chk (fun e9 => ?_)
    refine n_iald F ar_38 (by decide) (ib_in e9) rfl dX8_he_74 ?_
    exact n_iret F rfl rfl dX8_he_75
  rw [if_neg e8]
  by_cases e10 : a1 = (6 : Int32)
  · rw [if_pos e10]
    refine n_tabIn F (6 : Int32) 76 dX8_he_1 e10 (by decide) (by decide) rfl (by decide) ?_
    refine n_aload_n F dX8_he_76 rfl 0 rfl ?_
    refine n_bind (fun q11 hq11 => ?_)
    refine n_callVi F cb_X8_hisTrains lm_RX8_161 ob_37 (by decide) ⟨_, _, rfl⟩ (ct_Mo_hisTrains (fx_ok F) (fx_sd F) (fx_ix F rfl) w hq11) rfl rfl (Nat.le_of_ble_eq_true rfl) ⟨Nat.le_of_ble_eq_true rfl, Nat.le_of_ble_eq_true rfl⟩ dX8_he_77 ?_
    exact n_iret F rfl rfl dX8_he_80
  rw [if_neg e10]
  have hsw := (⟨lv_neT e1 (a := 0) rfl, lv_neT e2 (a := 1) rfl, lv_neT e3 (a := 2) rfl, lv_neT e4 (a := 3) rfl, lv_neT e6 (a := 4) rfl, lv_neT e8 (a := 5) rfl, lv_neT e10 (a := 6) rfl⟩ : ¬ (a1).toInt = 0 ∧ ¬ (a1).toInt = 1 ∧ ¬ (a1).toInt = 2 ∧ ¬ (a1).toInt = 3 ∧ ¬ (a1).toInt = 4 ∧ ¬ (a1).toInt = 5 ∧ ¬ (a1).toInt = 6)
  refine n_tabOut F 81 dX8_he_1 (by omega) (by decide) ?_
  refine n_bipush F (-3 : Int32) dX8_he_81 (by decide) ?_
  exact n_iret F rfl rfl dX8_he_83
theorem dX8_seeker_0 : decode cX8_seeker 0 = .ok (.iload_n 1, 1) := by decide +kernel
theorem dX8_seeker_1 : decode cX8_seeker 1 = .ok (.invokestatic 168, 3) := by decide +kernel
theorem dX8_seeker_4 : decode cX8_seeker 4 = .ok (.ifCond .eq 15, 3) := by decide +kernel
theorem dX8_seeker_7 : decode cX8_seeker 7 = .ok (.aload_n 0, 1) := by decide +kernel
theorem dX8_seeker_8 : decode cX8_seeker 8 = .ok (.getfield 7, 3) := by decide +kernel
theorem dX8_seeker_11 : decode cX8_seeker 11 = .ok (.bipush 8, 2) := by decide +kernel
theorem dX8_seeker_13 : decode cX8_seeker 13 = .ok (.iload_n 1, 1) := by decide +kernel
theorem dX8_seeker_14 : decode cX8_seeker 14 = .ok (.iadd, 1) := by decide +kernel
theorem dX8_seeker_15 : decode cX8_seeker 15 = .ok (.iaload, 1) := by decide +kernel
theorem dX8_seeker_16 : decode cX8_seeker 16 = .ok (.goto 5, 3) := by decide +kernel
theorem dX8_seeker_19 : decode cX8_seeker 19 = .ok (.bipush (-2), 2) := by decide +kernel
theorem dX8_seeker_21 : decode cX8_seeker 21 = .ok (.ireturn, 1) := by decide +kernel
def Mo_seeker (w : Wd) (a1 : Int32) : Option Int32 := (if (Mo_isSeeker w a1) = (0 : Int32) then some (-2 : Int32) else (if ib ((8 : Int32) + a1) 45 = true then some (w.1 38 (Int32.toNatClampNeg ((8 : Int32) + a1))) else none))
set_option maxRecDepth 100000 in
set_option maxHeartbeats 4000000 in
theorem ct_Mo_seeker {l : Launch} {g : GG} {σ : Sd} (hg : OKg g σ) (hb : σ.2.1 = false) (hx : ∀ c ∈ ([37, 38] : List Nat), c ∈ σ.1) (w : Wd) (a1 : Int32) {q : Int32} (hq : Mo_seeker w a1 = some q) : CT l g σ yX8_seeker cX8_seeker 2 (some .int) 2 45 [.ref (gA g 37), .int a1] w (some (.int q)) w := by
  refine ct_of (rt := (rtP w)) (res := Mo_seeker w a1) (q := q) (own := RX8) (b := false) hg hb hx (by decide) rfl (Nat.le_of_ble_eq_true rfl) hq (fun K e1 e2 e3 F => ?_)
  subst e1 e2 e3
  rw [Mo_seeker]
  show N K _ _ w 0 [(0, .ref (gA (cg K) 37)), (1, .int a1)] []
  refine n_iload_n F dX8_seeker_0 rfl 1 rfl ?_
  refine n_callSi F cb_X8_isSeeker lm_RX8_168 (ct_Mo_isSeeker (fx_ok F) (fx_sd F) (fx_ix F rfl) w a1) rfl rfl (Nat.le_of_ble_eq_true rfl) ⟨Nat.le_of_ble_eq_true rfl, Nat.le_of_ble_eq_true rfl⟩ dX8_seeker_1 ?_
  refine n_if_eq F 19 dX8_seeker_4 (by decide) (fun e1 => ?_) (fun e1 => ?_)
  · rw [if_pos e1]
    refine n_bipush F (-2 : Int32) dX8_seeker_19 (by decide) ?_
    exact n_iret F rfl rfl dX8_seeker_21
  rw [if_neg e1]
  refine n_aload_n F dX8_seeker_7 rfl 0 rfl ?_
  refine n_get F ck_8 lf_RX8_7 (by decide) fg_37_0 (by decide) dX8_seeker_8 ?_
  refine n_bipush F (8 : Int32) dX8_seeker_11 (by decide) ?_
  refine n_iload_n F dX8_seeker_13 rfl 1 rfl ?_
  refine n_iadd F dX8_seeker_14 ?_
  refine n_chk (fun e2 => ?_)
  refine n_iald F ar_38 (by decide) (ib_in e2) rfl dX8_seeker_15 ?_
  refine n_goto F 21 dX8_seeker_16 (by decide) ?_
  exact n_iret F rfl rfl dX8_seeker_21
theorem dX8_may_0 : decode cX8_may 0 = .ok (.aload_n 0, 1) := by decide +kernel
theorem dX8_may_1 : decode cX8_may 1 = .ok (.getfield 7, 3) := by decide +kernel
theorem dX8_may_4 : decode cX8_may 4 = .ok (.bipush 12, 2) := by decide +kernel
theorem dX8_may_6 : decode cX8_may 6 = .ok (.iaload, 1) := by decide +kernel
theorem dX8_may_7 : decode cX8_may 7 = .ok (.ireturn, 1) := by decide +kernel
def Mo_may (w : Wd) : Int32 := (w.1 38 12)
set_option maxRecDepth 100000 in
set_option maxHeartbeats 4000000 in
theorem ct_Mo_may {l : Launch} {g : GG} {σ : Sd} (hg : OKg g σ) (hb : σ.2.1 = false) (hx : ∀ c ∈ ([37, 38] : List Nat), c ∈ σ.1) (w : Wd) : CT l g σ yX8_may cX8_may 1 (some .int) 0 0 [.ref (gA g 37)] w (some (.int (Mo_may w))) w := by
  refine ct_of (rt := (rtP w)) (res := some (Mo_may w)) (q := (Mo_may w)) (own := RX8) (b := false) hg hb hx (by decide) rfl (Nat.le_of_ble_eq_true rfl) rfl (fun K e1 e2 e3 F => ?_)
  subst e1 e2 e3
  rw [Mo_may]
  show N K _ _ w 0 [(0, .ref (gA (cg K) 37))] []
  refine n_aload_n F dX8_may_0 rfl 0 rfl ?_
  refine n_get F ck_8 lf_RX8_7 (by decide) fg_37_0 (by decide) dX8_may_1 ?_
  refine n_bipush F (12 : Int32) dX8_may_4 (by decide) ?_
  refine n_iald F ar_38 (by decide) (ib_c (n := 45) (by decide)) (j := 12) (by decide) dX8_may_6 ?_
  exact n_iret F rfl rfl dX8_may_7
theorem dX8_way_0 : decode cX8_way 0 = .ok (.aload_n 0, 1) := by decide +kernel
theorem dX8_way_1 : decode cX8_way 1 = .ok (.getfield 7, 3) := by decide +kernel
theorem dX8_way_4 : decode cX8_way 4 = .ok (.bipush 13, 2) := by decide +kernel
theorem dX8_way_6 : decode cX8_way 6 = .ok (.iaload, 1) := by decide +kernel
theorem dX8_way_7 : decode cX8_way 7 = .ok (.ireturn, 1) := by decide +kernel
def Mo_way (w : Wd) : Int32 := (w.1 38 13)
set_option maxRecDepth 100000 in
set_option maxHeartbeats 4000000 in
theorem ct_Mo_way {l : Launch} {g : GG} {σ : Sd} (hg : OKg g σ) (hb : σ.2.1 = false) (hx : ∀ c ∈ ([37, 38] : List Nat), c ∈ σ.1) (w : Wd) : CT l g σ yX8_way cX8_way 1 (some .int) 0 0 [.ref (gA g 37)] w (some (.int (Mo_way w))) w := by
  refine ct_of (rt := (rtP w)) (res := some (Mo_way w)) (q := (Mo_way w)) (own := RX8) (b := false) hg hb hx (by decide) rfl (Nat.le_of_ble_eq_true rfl) rfl (fun K e1 e2 e3 F => ?_)
  subst e1 e2 e3
  rw [Mo_way]
  show N K _ _ w 0 [(0, .ref (gA (cg K) 37))] []
  refine n_aload_n F dX8_way_0 rfl 0 rfl ?_
  refine n_get F ck_8 lf_RX8_7 (by decide) fg_37_0 (by decide) dX8_way_1 ?_
  refine n_bipush F (13 : Int32) dX8_way_4 (by decide) ?_
  refine n_iald F ar_38 (by decide) (ib_c (n := 45) (by decide)) (j := 13) (by decide) dX8_way_6 ?_
  exact n_iret F rfl rfl dX8_way_7
theorem dX8_next_0 : decode cX8_next 0 = .ok (.aload_n 0, 1) := by decide +kernel
theorem dX8_next_1 : decode cX8_next 1 = .ok (.invokevirtual 183, 3) := by decide +kernel
theorem dX8_next_4 : decode cX8_next 4 = .ok (.ireturn, 1) := by decide +kernel
def Mo_next (w : Wd) : Option (Int32 × Wd) := (Option.bind (Mo_nextOf w) (fun q1 => some ((q1.1), (q1.2))))
set_option maxRecDepth 100000 in
set_option maxHeartbeats 4000000 in
theorem ct_Mo_next {l : Launch} {g : GG} {σ : Sd} (hg : OKg g σ) (hb : σ.2.1 = false) (hx : ∀ c ∈ ([37, 38, 42] : List Nat), c ∈ σ.1) (w : Wd) {q : Int32 × Wd} (hq : Mo_next w = some q) : CT l g σ yX8_next cX8_next 1 (some .int) 4 89 [.ref (gA g 37)] w (some (.int q.1)) q.2 := by
  refine ct_of (rt := rtI) (res := Mo_next w) (q := q) (own := RX8) (b := false) hg hb hx (by decide) rfl (Nat.le_of_ble_eq_true rfl) hq (fun K e1 e2 e3 F => ?_)
  subst e1 e2 e3
  rw [Mo_next]
  show N K _ _ w 0 [(0, .ref (gA (cg K) 37))] []
  refine n_aload_n F dX8_next_0 rfl 0 rfl ?_
  refine n_bind (fun q1 hq1 => ?_)
  refine n_callVi F cb_X8_nextOf lm_RX8_183 ob_37 (by decide) ⟨_, _, rfl⟩ (ct_Mo_nextOf (fx_ok F) (fx_sd F) (fx_ix F rfl) w hq1) rfl rfl (Nat.le_of_ble_eq_true rfl) ⟨Nat.le_of_ble_eq_true rfl, Nat.le_of_ble_eq_true rfl⟩ dX8_next_1 ?_
  exact n_iret F rfl rfl dX8_next_4
theorem dX8_letter_0 : decode cX8_letter 0 = .ok (.aload_n 0, 1) := by decide +kernel
theorem dX8_letter_1 : decode cX8_letter 1 = .ok (.getfield 7, 3) := by decide +kernel
theorem dX8_letter_4 : decode cX8_letter 4 = .ok (.bipush 14, 2) := by decide +kernel
theorem dX8_letter_6 : decode cX8_letter 6 = .ok (.iaload, 1) := by decide +kernel
theorem dX8_letter_7 : decode cX8_letter 7 = .ok (.ireturn, 1) := by decide +kernel
def Mo_letter (w : Wd) : Int32 := (w.1 38 14)
set_option maxRecDepth 100000 in
set_option maxHeartbeats 4000000 in
theorem ct_Mo_letter {l : Launch} {g : GG} {σ : Sd} (hg : OKg g σ) (hb : σ.2.1 = false) (hx : ∀ c ∈ ([37, 38] : List Nat), c ∈ σ.1) (w : Wd) : CT l g σ yX8_letter cX8_letter 1 (some .int) 0 0 [.ref (gA g 37)] w (some (.int (Mo_letter w))) w := by
  refine ct_of (rt := (rtP w)) (res := some (Mo_letter w)) (q := (Mo_letter w)) (own := RX8) (b := false) hg hb hx (by decide) rfl (Nat.le_of_ble_eq_true rfl) rfl (fun K e1 e2 e3 F => ?_)
  subst e1 e2 e3
  rw [Mo_letter]
  show N K _ _ w 0 [(0, .ref (gA (cg K) 37))] []
  refine n_aload_n F dX8_letter_0 rfl 0 rfl ?_
  refine n_get F ck_8 lf_RX8_7 (by decide) fg_37_0 (by decide) dX8_letter_1 ?_
  refine n_bipush F (14 : Int32) dX8_letter_4 (by decide) ?_
  refine n_iald F ar_38 (by decide) (ib_c (n := 45) (by decide)) (j := 14) (by decide) dX8_letter_6 ?_
  exact n_iret F rfl rfl dX8_letter_7
theorem dX8_bits_0 : decode cX8_bits 0 = .ok (.iconst 0, 1) := by decide +kernel
theorem dX8_bits_1 : decode cX8_bits 1 = .ok (.istore_n 1, 1) := by decide +kernel
theorem dX8_bits_2 : decode cX8_bits 2 = .ok (.iconst 0, 1) := by decide +kernel
theorem dX8_bits_3 : decode cX8_bits 3 = .ok (.istore_n 2, 1) := by decide +kernel
theorem dX8_bits_4 : decode cX8_bits 4 = .ok (.iload_n 2, 1) := by decide +kernel
theorem dX8_bits_5 : decode cX8_bits 5 = .ok (.bipush 7, 2) := by decide +kernel
theorem dX8_bits_7 : decode cX8_bits 7 = .ok (.if_icmp .ge 17, 3) := by decide +kernel
theorem dX8_bits_10 : decode cX8_bits 10 = .ok (.iload_n 1, 1) := by decide +kernel
theorem dX8_bits_11 : decode cX8_bits 11 = .ok (.iload_n 0, 1) := by decide +kernel
theorem dX8_bits_12 : decode cX8_bits 12 = .ok (.iload_n 2, 1) := by decide +kernel
theorem dX8_bits_13 : decode cX8_bits 13 = .ok (.ishr, 1) := by decide +kernel
theorem dX8_bits_14 : decode cX8_bits 14 = .ok (.iconst 1, 1) := by decide +kernel
theorem dX8_bits_15 : decode cX8_bits 15 = .ok (.iand, 1) := by decide +kernel
theorem dX8_bits_16 : decode cX8_bits 16 = .ok (.iadd, 1) := by decide +kernel
theorem dX8_bits_17 : decode cX8_bits 17 = .ok (.istore_n 1, 1) := by decide +kernel
theorem dX8_bits_18 : decode cX8_bits 18 = .ok (.iinc 2 1, 3) := by decide +kernel
theorem dX8_bits_21 : decode cX8_bits 21 = .ok (.goto (-17), 3) := by decide +kernel
theorem dX8_bits_24 : decode cX8_bits 24 = .ok (.iload_n 1, 1) := by decide +kernel
theorem dX8_bits_25 : decode cX8_bits 25 = .ok (.ireturn, 1) := by decide +kernel
def Mo_bits_L4 (w : Wd) (k24 : Int32 → Option Int32) : Nat → Int32 → Int32 → Int32 → Option Int32
  | 0, _, _, _ => none
  | n + 1, v0, v1, v2 => (if (7 : Int32) ≤ v2 then (k24 v1) else (Mo_bits_L4 w k24 n v0 (v1 + ((v0 >>> (v2 &&& (31 : Int32))) &&& (1 : Int32))) (v2 + (1 : Int32))))
set_option maxRecDepth 100000 in
set_option maxHeartbeats 4000000 in
theorem Mo_bits_L4_ok {K : Ctx} (F : Fx K cX8_bits 3 RX8 (some .int) 0 0 false []) (w : Wd) {k24 : Int32 → Option Int32} (h24 : ∀ (v1 : Int32), N K (rtP w) (k24 v1) w 24 [(1, .int v1)] []) : ∀ (n : Nat) (v0 : Int32) (v1 : Int32) (v2 : Int32), N K (rtP w) (Mo_bits_L4 w k24 n v0 v1 v2) w 4 [(0, .int v0), (1, .int v1), (2, .int v2)] [] := by
  intro n
  induction n with
  | zero => intro _ _ _; exact n_none
  | succ n ih =>
    intro v0 v1 v2
    rw [Mo_bits_L4]
    refine n_iload_n F dX8_bits_4 rfl 2 rfl ?_
    refine n_bipush F (7 : Int32) dX8_bits_5 (by decide) ?_
    refine n_icmp_ge F 24 dX8_bits_7 (by decide) (fun e1 => ?_) (fun e1 => ?_)
    · rw [if_pos e1]
      exact n_sub [1] rfl (h24 _)
    rw [if_neg e1]
    refine n_iload_n F dX8_bits_10 rfl 1 rfl ?_
    refine n_iload_n F dX8_bits_11 rfl 0 rfl ?_
    refine n_iload_n F dX8_bits_12 rfl 2 rfl ?_
    refine n_ishr F dX8_bits_13 ?_
    refine n_iconst F (1 : Int32) dX8_bits_14 (by decide) ?_
    refine n_iand F dX8_bits_15 ?_
    refine n_iadd F dX8_bits_16 ?_
    refine n_istore_n F (lv' := [(1, .int (v1 + ((v0 >>> (v2 &&& (31 : Int32))) &&& (1 : Int32)))), (0, .int v0), (2, .int v2)]) dX8_bits_17 rfl (by decide) rfl ?_
    refine n_iinc F (v2 + (1 : Int32)) (lv' := [(2, .int (v2 + (1 : Int32))), (1, .int (v1 + ((v0 >>> (v2 &&& (31 : Int32))) &&& (1 : Int32)))), (0, .int v0)]) dX8_bits_18 2 rfl rfl (by decide) rfl ?_
    refine n_goto F 4 dX8_bits_21 (by decide) ?_
    exact n_sub [2, 1, 0] rfl (ih _ _ _)
def Mo_bits_B24 (w : Wd) (v1 : Int32) : Option Int32 := some v1
set_option maxRecDepth 100000 in
set_option maxHeartbeats 4000000 in
theorem Mo_bits_B24_ok {K : Ctx} (F : Fx K cX8_bits 3 RX8 (some .int) 0 0 false []) (w : Wd) (v1 : Int32) : N K (rtP w) (Mo_bits_B24 w v1) w 24 [(1, .int v1)] [] := by
  rw [Mo_bits_B24]
  refine n_iload_n F dX8_bits_24 rfl 0 rfl ?_
  exact n_iret F rfl rfl dX8_bits_25
def Mo_bits (w : Wd) (a1 : Int32) : Option Int32 := (Mo_bits_L4 w (Mo_bits_B24 w) FU a1 (0 : Int32) (0 : Int32))
set_option maxRecDepth 100000 in
set_option maxHeartbeats 4000000 in
theorem ct_Mo_bits {l : Launch} {g : GG} {σ : Sd} (hg : OKg g σ) (hb : σ.2.1 = false) (hx : ∀ c ∈ ([] : List Nat), c ∈ σ.1) (w : Wd) (a1 : Int32) {q : Int32} (hq : Mo_bits w a1 = some q) : CT l g σ yX8_bits cX8_bits 3 (some .int) 0 0 [.int a1] w (some (.int q)) w := by
  refine ct_of (rt := (rtP w)) (res := Mo_bits w a1) (q := q) (own := RX8) (b := false) hg hb hx (by decide) rfl (Nat.le_of_ble_eq_true rfl) hq (fun K e1 e2 e3 F => ?_)
  subst e1 e2 e3
  rw [Mo_bits]
  show N K _ _ w 0 [(0, .int a1)] []
  refine n_iconst F (0 : Int32) dX8_bits_0 (by decide) ?_
  refine n_istore_n F (lv' := [(1, .int (0 : Int32)), (0, .int a1)]) dX8_bits_1 rfl (by decide) rfl ?_
  refine n_iconst F (0 : Int32) dX8_bits_2 (by decide) ?_
  refine n_istore_n F (lv' := [(2, .int (0 : Int32)), (1, .int (0 : Int32)), (0, .int a1)]) dX8_bits_3 rfl (by decide) rfl ?_
  exact n_sub [2, 1, 0] rfl (Mo_bits_L4_ok F w (Mo_bits_B24_ok F w) FU _ _ _)
theorem dX8_nightsFrom_0 : decode cX8_nightsFrom 0 = .ok (.iconst 0, 1) := by decide +kernel
theorem dX8_nightsFrom_1 : decode cX8_nightsFrom 1 = .ok (.istore 4, 2) := by decide +kernel
theorem dX8_nightsFrom_3 : decode cX8_nightsFrom 3 = .ok (.iconst 0, 1) := by decide +kernel
theorem dX8_nightsFrom_4 : decode cX8_nightsFrom 4 = .ok (.istore 5, 2) := by decide +kernel
theorem dX8_nightsFrom_6 : decode cX8_nightsFrom 6 = .ok (.iload 5, 2) := by decide +kernel
theorem dX8_nightsFrom_8 : decode cX8_nightsFrom 8 = .ok (.aload_n 0, 1) := by decide +kernel
theorem dX8_nightsFrom_9 : decode cX8_nightsFrom 9 = .ok (.getfield 131, 3) := by decide +kernel
theorem dX8_nightsFrom_12 : decode cX8_nightsFrom 12 = .ok (.if_icmp .ge 65, 3) := by decide +kernel
theorem dX8_nightsFrom_15 : decode cX8_nightsFrom 15 = .ok (.iload 4, 2) := by decide +kernel
theorem dX8_nightsFrom_17 : decode cX8_nightsFrom 17 = .ok (.iload 5, 2) := by decide +kernel
theorem dX8_nightsFrom_19 : decode cX8_nightsFrom 19 = .ok (.iload_n 3, 1) := by decide +kernel
theorem dX8_nightsFrom_20 : decode cX8_nightsFrom 20 = .ok (.if_icmp .eq 47, 3) := by decide +kernel
theorem dX8_nightsFrom_23 : decode cX8_nightsFrom 23 = .ok (.aload_n 0, 1) := by decide +kernel
theorem dX8_nightsFrom_24 : decode cX8_nightsFrom 24 = .ok (.getfield 27, 3) := by decide +kernel
theorem dX8_nightsFrom_27 : decode cX8_nightsFrom 27 = .ok (.bipush 6, 2) := by decide +kernel
theorem dX8_nightsFrom_29 : decode cX8_nightsFrom 29 = .ok (.iload 5, 2) := by decide +kernel
theorem dX8_nightsFrom_31 : decode cX8_nightsFrom 31 = .ok (.imul, 1) := by decide +kernel
theorem dX8_nightsFrom_32 : decode cX8_nightsFrom 32 = .ok (.iconst 4, 1) := by decide +kernel
theorem dX8_nightsFrom_33 : decode cX8_nightsFrom 33 = .ok (.iadd, 1) := by decide +kernel
theorem dX8_nightsFrom_34 : decode cX8_nightsFrom 34 = .ok (.iaload, 1) := by decide +kernel
theorem dX8_nightsFrom_35 : decode cX8_nightsFrom 35 = .ok (.iconst 1, 1) := by decide +kernel
theorem dX8_nightsFrom_36 : decode cX8_nightsFrom 36 = .ok (.if_icmp .ne 31, 3) := by decide +kernel
theorem dX8_nightsFrom_39 : decode cX8_nightsFrom 39 = .ok (.aload_n 0, 1) := by decide +kernel
theorem dX8_nightsFrom_40 : decode cX8_nightsFrom 40 = .ok (.iload 5, 2) := by decide +kernel
theorem dX8_nightsFrom_42 : decode cX8_nightsFrom 42 = .ok (.iload_n 1, 1) := by decide +kernel
theorem dX8_nightsFrom_43 : decode cX8_nightsFrom 43 = .ok (.iload_n 2, 1) := by decide +kernel
theorem dX8_nightsFrom_44 : decode cX8_nightsFrom 44 = .ok (.invokevirtual 152, 3) := by decide +kernel
theorem dX8_nightsFrom_47 : decode cX8_nightsFrom 47 = .ok (.ifCond .eq 20, 3) := by decide +kernel
theorem dX8_nightsFrom_50 : decode cX8_nightsFrom 50 = .ok (.iconst 1, 1) := by decide +kernel
theorem dX8_nightsFrom_51 : decode cX8_nightsFrom 51 = .ok (.aload_n 0, 1) := by decide +kernel
theorem dX8_nightsFrom_52 : decode cX8_nightsFrom 52 = .ok (.getfield 27, 3) := by decide +kernel
theorem dX8_nightsFrom_55 : decode cX8_nightsFrom 55 = .ok (.bipush 6, 2) := by decide +kernel
theorem dX8_nightsFrom_57 : decode cX8_nightsFrom 57 = .ok (.iload 5, 2) := by decide +kernel
theorem dX8_nightsFrom_59 : decode cX8_nightsFrom 59 = .ok (.imul, 1) := by decide +kernel
theorem dX8_nightsFrom_60 : decode cX8_nightsFrom 60 = .ok (.iconst 1, 1) := by decide +kernel
theorem dX8_nightsFrom_61 : decode cX8_nightsFrom 61 = .ok (.iadd, 1) := by decide +kernel
theorem dX8_nightsFrom_62 : decode cX8_nightsFrom 62 = .ok (.iaload, 1) := by decide +kernel
theorem dX8_nightsFrom_63 : decode cX8_nightsFrom 63 = .ok (.ishl, 1) := by decide +kernel
theorem dX8_nightsFrom_64 : decode cX8_nightsFrom 64 = .ok (.goto 4, 3) := by decide +kernel
theorem dX8_nightsFrom_67 : decode cX8_nightsFrom 67 = .ok (.iconst 0, 1) := by decide +kernel
theorem dX8_nightsFrom_68 : decode cX8_nightsFrom 68 = .ok (.ior, 1) := by decide +kernel
theorem dX8_nightsFrom_69 : decode cX8_nightsFrom 69 = .ok (.istore 4, 2) := by decide +kernel
theorem dX8_nightsFrom_71 : decode cX8_nightsFrom 71 = .ok (.iinc 5 1, 3) := by decide +kernel
theorem dX8_nightsFrom_74 : decode cX8_nightsFrom 74 = .ok (.goto (-68), 3) := by decide +kernel
theorem dX8_nightsFrom_77 : decode cX8_nightsFrom 77 = .ok (.iload 4, 2) := by decide +kernel
theorem dX8_nightsFrom_79 : decode cX8_nightsFrom 79 = .ok (.ireturn, 1) := by decide +kernel
def Mo_nightsFrom_L6 (w : Wd) (k77 : Int32 → Option Int32) : Nat → Int32 → Int32 → Int32 → Int32 → Int32 → Option Int32
  | 0, _, _, _, _, _ => none
  | n + 1, v1, v2, v3, v4, v5 => (if (w.1 37 8) ≤ v5 then (k77 v4) else (if v5 = v3 then (Mo_nightsFrom_L6 w k77 n v1 v2 v3 (v4 ||| (0 : Int32)) (v5 + (1 : Int32))) else (if ib (((6 : Int32) * v5) + (4 : Int32)) 72 = true then (if (w.1 42 (Int32.toNatClampNeg (((6 : Int32) * v5) + (4 : Int32)))) = (1 : Int32) then (Option.bind (Mo_leaves w v5 v1 v2) (fun q5 => (if q5 = (0 : Int32) then (Mo_nightsFrom_L6 w k77 n v1 v2 v3 (v4 ||| (0 : Int32)) (v5 + (1 : Int32))) else (if ib (((6 : Int32) * v5) + (1 : Int32)) 72 = true then (Mo_nightsFrom_L6 w k77 n v1 v2 v3 (v4 ||| ((1 : Int32) <<< ((w.1 42 (Int32.toNatClampNeg (((6 : Int32) * v5) + (1 : Int32)))) &&& (31 : Int32)))) (v5 + (1 : Int32))) else none)))) else (Mo_nightsFrom_L6 w k77 n v1 v2 v3 (v4 ||| (0 : Int32)) (v5 + (1 : Int32)))) else none)))
set_option maxRecDepth 100000 in
set_option maxHeartbeats 4000000 in
theorem Mo_nightsFrom_L6_ok {K : Ctx} (F : Fx K cX8_nightsFrom 6 RX8 (some .int) 1 23 false [37, 42]) (w : Wd) {k77 : Int32 → Option Int32} (h77 : ∀ (v4 : Int32), N K (rtP w) (k77 v4) w 77 [(4, .int v4)] []) : ∀ (n : Nat) (v1 : Int32) (v2 : Int32) (v3 : Int32) (v4 : Int32) (v5 : Int32), N K (rtP w) (Mo_nightsFrom_L6 w k77 n v1 v2 v3 v4 v5) w 6 [(0, .ref (gA (cg K) 37)), (1, .int v1), (2, .int v2), (3, .int v3), (4, .int v4), (5, .int v5)] [] := by
  intro n
  induction n with
  | zero => intro _ _ _ _ _; exact n_none
  | succ n ih =>
    intro v1 v2 v3 v4 v5
    rw [Mo_nightsFrom_L6]
    refine n_iload F dX8_nightsFrom_6 5 rfl ?_
    refine n_aload_n F dX8_nightsFrom_8 rfl 0 rfl ?_
    refine n_get F ck_8 lf_RX8_131 (by decide) fg_37_8 (by decide) dX8_nightsFrom_9 ?_
    refine n_icmp_ge F 77 dX8_nightsFrom_12 (by decide) (fun e1 => ?_) (fun e1 => ?_)
    · rw [if_pos e1]
      exact n_sub [4] rfl (h77 _)
    rw [if_neg e1]
    refine n_iload F dX8_nightsFrom_15 4 rfl ?_
    refine n_iload F dX8_nightsFrom_17 5 rfl ?_
    refine n_iload_n F dX8_nightsFrom_19 rfl 3 rfl ?_
    refine n_icmp_eq F 67 dX8_nightsFrom_20 (by decide) (fun e2 => ?_) (fun e2 => ?_)
    · rw [if_pos e2]
      refine n_iconst F (0 : Int32) dX8_nightsFrom_67 (by decide) ?_
      refine n_ior F dX8_nightsFrom_68 ?_
      refine n_istore F (lv' := [(4, .int (v4 ||| (0 : Int32))), (0, .ref (gA (cg K) 37)), (1, .int v1), (2, .int v2), (3, .int v3), (5, .int v5)]) dX8_nightsFrom_69 (by decide) rfl ?_
      refine n_iinc F (v5 + (1 : Int32)) (lv' := [(5, .int (v5 + (1 : Int32))), (4, .int (v4 ||| (0 : Int32))), (0, .ref (gA (cg K) 37)), (1, .int v1), (2, .int v2), (3, .int v3)]) dX8_nightsFrom_71 5 rfl rfl (by decide) rfl ?_
      refine n_goto F 6 dX8_nightsFrom_74 (by decide) ?_
      exact n_sub [2, 3, 4, 5, 1, 0] rfl (ih _ _ _ _ _)
    rw [if_neg e2]
    refine n_aload_n F dX8_nightsFrom_23 rfl 0 rfl ?_
    refine n_get F ck_8 lf_RX8_27 (by decide) fg_37_7 (by decide) dX8_nightsFrom_24 ?_
    refine n_bipush F (6 : Int32) dX8_nightsFrom_27 (by decide) ?_
    refine n_iload F dX8_nightsFrom_29 5 rfl ?_
    refine n_imul F dX8_nightsFrom_31 ?_
    refine n_iconst F (4 : Int32) dX8_nightsFrom_32 (by decide) ?_
    refine n_iadd F dX8_nightsFrom_33 ?_
    refine n_chk (fun e3 => ?_)
    refine n_iald F ar_42 (by decide) (ib_in e3) rfl dX8_nightsFrom_34 ?_
    refine n_iconst F (1 : Int32) dX8_nightsFrom_35 (by decide) ?_
    refine n_icmp_ne F 67 dX8_nightsFrom_36 (by decide) (fun e4 => ?_) (fun e4 => ?_)
    · rw [if_neg e4]
      refine n_iconst F (0 : Int32) dX8_nightsFrom_67 (by decide) ?_
      refine n_ior F dX8_nightsFrom_68 ?_
      refine n_istore F (lv' := [(4, .int (v4 ||| (0 : Int32))), (0, .ref (gA (cg K) 37)), (1, .int v1), (2, .int v2), (3, .int v3), (5, .int v5)]) dX8_nightsFrom_69 (by decide) rfl ?_
      refine n_iinc F (v5 + (1 : Int32)) (lv' := [(5, .int (v5 + (1 : Int32))), (4, .int (v4 ||| (0 : Int32))), (0, .ref (gA (cg K) 37)), (1, .int v1), (2, .int v2), (3, .int v3)]) dX8_nightsFrom_71 5 rfl rfl (by decide) rfl ?_
      refine n_goto F 6 dX8_nightsFrom_74 (by decide) ?_
      exact n_sub [2, 3, 4, 5, 1, 0] rfl (ih _ _ _ _ _)
    rw [if_pos e4]
    refine n_aload_n F dX8_nightsFrom_39 rfl 0 rfl ?_
    refine n_iload F dX8_nightsFrom_40 5 rfl ?_
    refine n_iload_n F dX8_nightsFrom_42 rfl 1 rfl ?_
    refine n_iload_n F dX8_nightsFrom_43 rfl 2 rfl ?_
    refine n_bind (fun q5 hq5 => ?_)
    refine n_callVi F cb_X8_leaves lm_RX8_152 ob_37 (by decide) ⟨_, _, rfl⟩ (ct_Mo_leaves (fx_ok F) (fx_sd F) (fx_ix F rfl) w v5 v1 v2 hq5) rfl rfl (Nat.le_of_ble_eq_true rfl) ⟨Nat.le_of_ble_eq_true rfl, Nat.le_of_ble_eq_true rfl⟩ dX8_nightsFrom_44 ?_
    refine n_if_eq F 67 dX8_nightsFrom_47 (by decide) (fun e6 => ?_) (fun e6 => ?_)
    · rw [if_pos e6]
      refine n_iconst F (0 : Int32) dX8_nightsFrom_67 (by decide) ?_
      refine n_ior F dX8_nightsFrom_68 ?_
      refine n_istore F (lv' := [(4, .int (v4 ||| (0 : Int32))), (0, .ref (gA (cg K) 37)), (1, .int v1), (2, .int v2), (3, .int v3), (5, .int v5)]) dX8_nightsFrom_69 (by decide) rfl ?_
      refine n_iinc F (v5 + (1 : Int32)) (lv' := [(5, .int (v5 + (1 : Int32))), (4, .int (v4 ||| (0 : Int32))), (0, .ref (gA (cg K) 37)), (1, .int v1), (2, .int v2), (3, .int v3)]) dX8_nightsFrom_71 5 rfl rfl (by decide) rfl ?_
      refine n_goto F 6 dX8_nightsFrom_74 (by decide) ?_
      exact n_sub [2, 3, 4, 5, 1, 0] rfl (ih _ _ _ _ _)
    rw [if_neg e6]
    refine n_iconst F (1 : Int32) dX8_nightsFrom_50 (by decide) ?_
    refine n_aload_n F dX8_nightsFrom_51 rfl 0 rfl ?_
    refine n_get F ck_8 lf_RX8_27 (by decide) fg_37_7 (by decide) dX8_nightsFrom_52 ?_
    refine n_bipush F (6 : Int32) dX8_nightsFrom_55 (by decide) ?_
    refine n_iload F dX8_nightsFrom_57 5 rfl ?_
    refine n_imul F dX8_nightsFrom_59 ?_
    refine n_iconst F (1 : Int32) dX8_nightsFrom_60 (by decide) ?_
    refine n_iadd F dX8_nightsFrom_61 ?_
    refine n_chk (fun e7 => ?_)
    refine n_iald F ar_42 (by decide) (ib_in e7) rfl dX8_nightsFrom_62 ?_
    refine n_ishl F dX8_nightsFrom_63 ?_
    refine n_goto F 68 dX8_nightsFrom_64 (by decide) ?_
    refine n_ior F dX8_nightsFrom_68 ?_
    refine n_istore F (lv' := [(4, .int (v4 ||| ((1 : Int32) <<< ((w.1 42 (Int32.toNatClampNeg (((6 : Int32) * v5) + (1 : Int32)))) &&& (31 : Int32))))), (0, .ref (gA (cg K) 37)), (1, .int v1), (2, .int v2), (3, .int v3), (5, .int v5)]) dX8_nightsFrom_69 (by decide) rfl ?_
    refine n_iinc F (v5 + (1 : Int32)) (lv' := [(5, .int (v5 + (1 : Int32))), (4, .int (v4 ||| ((1 : Int32) <<< ((w.1 42 (Int32.toNatClampNeg (((6 : Int32) * v5) + (1 : Int32)))) &&& (31 : Int32))))), (0, .ref (gA (cg K) 37)), (1, .int v1), (2, .int v2), (3, .int v3)]) dX8_nightsFrom_71 5 rfl rfl (by decide) rfl ?_
    refine n_goto F 6 dX8_nightsFrom_74 (by decide) ?_
    exact n_sub [2, 3, 4, 5, 1, 0] rfl (ih _ _ _ _ _)
def Mo_nightsFrom_B77 (w : Wd) (v4 : Int32) : Option Int32 := some v4
set_option maxRecDepth 100000 in
set_option maxHeartbeats 4000000 in
theorem Mo_nightsFrom_B77_ok {K : Ctx} (F : Fx K cX8_nightsFrom 6 RX8 (some .int) 1 23 false [37, 42]) (w : Wd) (v4 : Int32) : N K (rtP w) (Mo_nightsFrom_B77 w v4) w 77 [(4, .int v4)] [] := by
  rw [Mo_nightsFrom_B77]
  refine n_iload F dX8_nightsFrom_77 0 rfl ?_
  exact n_iret F rfl rfl dX8_nightsFrom_79
def Mo_nightsFrom (w : Wd) (a1 : Int32) (a2 : Int32) (a3 : Int32) : Option Int32 := (Mo_nightsFrom_L6 w (Mo_nightsFrom_B77 w) FU a1 a2 a3 (0 : Int32) (0 : Int32))
set_option maxRecDepth 100000 in
set_option maxHeartbeats 4000000 in
theorem ct_Mo_nightsFrom {l : Launch} {g : GG} {σ : Sd} (hg : OKg g σ) (hb : σ.2.1 = false) (hx : ∀ c ∈ ([37, 42] : List Nat), c ∈ σ.1) (w : Wd) (a1 : Int32) (a2 : Int32) (a3 : Int32) {q : Int32} (hq : Mo_nightsFrom w a1 a2 a3 = some q) : CT l g σ yX8_nightsFrom cX8_nightsFrom 6 (some .int) 1 23 [.ref (gA g 37), .int a1, .int a2, .int a3] w (some (.int q)) w := by
  refine ct_of (rt := (rtP w)) (res := Mo_nightsFrom w a1 a2 a3) (q := q) (own := RX8) (b := false) hg hb hx (by decide) rfl (Nat.le_of_ble_eq_true rfl) hq (fun K e1 e2 e3 F => ?_)
  subst e1 e2 e3
  rw [Mo_nightsFrom]
  show N K _ _ w 0 [(0, .ref (gA (cg K) 37)), (1, .int a1), (2, .int a2), (3, .int a3)] []
  refine n_iconst F (0 : Int32) dX8_nightsFrom_0 (by decide) ?_
  refine n_istore F (lv' := [(4, .int (0 : Int32)), (0, .ref (gA (cg K) 37)), (1, .int a1), (2, .int a2), (3, .int a3)]) dX8_nightsFrom_1 (by decide) rfl ?_
  refine n_iconst F (0 : Int32) dX8_nightsFrom_3 (by decide) ?_
  refine n_istore F (lv' := [(5, .int (0 : Int32)), (4, .int (0 : Int32)), (0, .ref (gA (cg K) 37)), (1, .int a1), (2, .int a2), (3, .int a3)]) dX8_nightsFrom_4 (by decide) rfl ?_
  exact n_sub [2, 3, 4, 5, 1, 0] rfl (Mo_nightsFrom_L6_ok F w (Mo_nightsFrom_B77_ok F w) FU _ _ _ _ _)
theorem dX8_reach_0 : decode cX8_reach 0 = .ok (.iload_n 1, 1) := by decide +kernel
theorem dX8_reach_1 : decode cX8_reach 1 = .ok (.iconst (-1), 1) := by decide +kernel
theorem dX8_reach_2 : decode cX8_reach 2 = .ok (.if_icmp .eq 9, 3) := by decide +kernel
theorem dX8_reach_5 : decode cX8_reach 5 = .ok (.iload_n 1, 1) := by decide +kernel
theorem dX8_reach_6 : decode cX8_reach 6 = .ok (.bipush 7, 2) := by decide +kernel
theorem dX8_reach_8 : decode cX8_reach 8 = .ok (.if_icmp .ne 9, 3) := by decide +kernel
theorem dX8_reach_11 : decode cX8_reach 11 = .ok (.sipush 128, 3) := by decide +kernel
theorem dX8_reach_14 : decode cX8_reach 14 = .ok (.goto 14, 3) := by decide +kernel
theorem dX8_reach_17 : decode cX8_reach 17 = .ok (.iconst 1, 1) := by decide +kernel
theorem dX8_reach_18 : decode cX8_reach 18 = .ok (.iload_n 1, 1) := by decide +kernel
theorem dX8_reach_19 : decode cX8_reach 19 = .ok (.ishl, 1) := by decide +kernel
theorem dX8_reach_20 : decode cX8_reach 20 = .ok (.aload_n 0, 1) := by decide +kernel
theorem dX8_reach_21 : decode cX8_reach 21 = .ok (.iload_n 1, 1) := by decide +kernel
theorem dX8_reach_22 : decode cX8_reach 22 = .ok (.iload_n 2, 1) := by decide +kernel
theorem dX8_reach_23 : decode cX8_reach 23 = .ok (.iload_n 3, 1) := by decide +kernel
theorem dX8_reach_24 : decode cX8_reach 24 = .ok (.invokevirtual 186, 3) := by decide +kernel
theorem dX8_reach_27 : decode cX8_reach 27 = .ok (.ior, 1) := by decide +kernel
theorem dX8_reach_28 : decode cX8_reach 28 = .ok (.ireturn, 1) := by decide +kernel
def Mo_reach (w : Wd) (a1 : Int32) (a2 : Int32) (a3 : Int32) : Option Int32 := (if a1 = (-1 : Int32) then some (128 : Int32) else (if a1 = (7 : Int32) then some (128 : Int32) else (Option.bind (Mo_nightsFrom w a1 a2 a3) (fun q3 => some (((1 : Int32) <<< (a1 &&& (31 : Int32))) ||| q3)))))
set_option maxRecDepth 100000 in
set_option maxHeartbeats 4000000 in
theorem ct_Mo_reach {l : Launch} {g : GG} {σ : Sd} (hg : OKg g σ) (hb : σ.2.1 = false) (hx : ∀ c ∈ ([37, 42] : List Nat), c ∈ σ.1) (w : Wd) (a1 : Int32) (a2 : Int32) (a3 : Int32) {q : Int32} (hq : Mo_reach w a1 a2 a3 = some q) : CT l g σ yX8_reach cX8_reach 4 (some .int) 2 48 [.ref (gA g 37), .int a1, .int a2, .int a3] w (some (.int q)) w := by
  refine ct_of (rt := (rtP w)) (res := Mo_reach w a1 a2 a3) (q := q) (own := RX8) (b := false) hg hb hx (by decide) rfl (Nat.le_of_ble_eq_true rfl) hq (fun K e1 e2 e3 F => ?_)
  subst e1 e2 e3
  rw [Mo_reach]
  show N K _ _ w 0 [(0, .ref (gA (cg K) 37)), (1, .int a1), (2, .int a2), (3, .int a3)] []
  refine n_iload_n F dX8_reach_0 rfl 1 rfl ?_
  refine n_iconst F (-1 : Int32) dX8_reach_1 (by decide) ?_
  refine n_icmp_eq F 11 dX8_reach_2 (by decide) (fun e1 => ?_) (fun e1 => ?_)
  · rw [if_pos e1]
    refine n_sipush F (128 : Int32) dX8_reach_11 (by decide) ?_
    refine n_goto F 28 dX8_reach_14 (by decide) ?_
    exact n_iret F rfl rfl dX8_reach_28
  rw [if_neg e1]
  refine n_iload_n F dX8_reach_5 rfl 1 rfl ?_
  refine n_bipush F (7 : Int32) dX8_reach_6 (by decide) ?_
  refine n_icmp_ne F 17 dX8_reach_8 (by decide) (fun e2 => ?_) (fun e2 => ?_)
  · rw [if_neg e2]
    refine n_iconst F (1 : Int32) dX8_reach_17 (by decide) ?_
    refine n_iload_n F dX8_reach_18 rfl 1 rfl ?_
    refine n_ishl F dX8_reach_19 ?_
    refine n_aload_n F dX8_reach_20 rfl 0 rfl ?_
    refine n_iload_n F dX8_reach_21 rfl 1 rfl ?_
    refine n_iload_n F dX8_reach_22 rfl 2 rfl ?_
    refine n_iload_n F dX8_reach_23 rfl 3 rfl ?_
    refine n_bind (fun q3 hq3 => ?_)
    refine n_callVi F cb_X8_nightsFrom lm_RX8_186 ob_37 (by decide) ⟨_, _, rfl⟩ (ct_Mo_nightsFrom (fx_ok F) (fx_sd F) (fx_ix F rfl) w a1 a2 a3 hq3) rfl rfl (Nat.le_of_ble_eq_true rfl) ⟨Nat.le_of_ble_eq_true rfl, Nat.le_of_ble_eq_true rfl⟩ dX8_reach_24 ?_
    refine n_ior F dX8_reach_27 ?_
    exact n_iret F rfl rfl dX8_reach_28
  rw [if_pos e2]
  refine n_sipush F (128 : Int32) dX8_reach_11 (by decide) ?_
  refine n_goto F 28 dX8_reach_14 (by decide) ?_
  exact n_iret F rfl rfl dX8_reach_28
theorem dX8_shut_0 : decode cX8_shut 0 = .ok (.iload_n 1, 1) := by decide +kernel
theorem dX8_shut_1 : decode cX8_shut 1 = .ok (.iconst (-1), 1) := by decide +kernel
theorem dX8_shut_2 : decode cX8_shut 2 = .ok (.if_icmp .eq 13, 3) := by decide +kernel
theorem dX8_shut_5 : decode cX8_shut 5 = .ok (.iload_n 1, 1) := by decide +kernel
theorem dX8_shut_6 : decode cX8_shut 6 = .ok (.invokestatic 168, 3) := by decide +kernel
theorem dX8_shut_9 : decode cX8_shut 9 = .ok (.ifCond .ne 6, 3) := by decide +kernel
theorem dX8_shut_12 : decode cX8_shut 12 = .ok (.bipush (-2), 2) := by decide +kernel
theorem dX8_shut_14 : decode cX8_shut 14 = .ok (.ireturn, 1) := by decide +kernel
theorem dX8_shut_15 : decode cX8_shut 15 = .ok (.aload_n 0, 1) := by decide +kernel
theorem dX8_shut_16 : decode cX8_shut 16 = .ok (.getfield 7, 3) := by decide +kernel
theorem dX8_shut_19 : decode cX8_shut 19 = .ok (.iconst 3, 1) := by decide +kernel
theorem dX8_shut_20 : decode cX8_shut 20 = .ok (.iaload, 1) := by decide +kernel
theorem dX8_shut_21 : decode cX8_shut 21 = .ok (.iconst 1, 1) := by decide +kernel
theorem dX8_shut_22 : decode cX8_shut 22 = .ok (.if_icmp .ne 6, 3) := by decide +kernel
theorem dX8_shut_25 : decode cX8_shut 25 = .ok (.bipush (-4), 2) := by decide +kernel
theorem dX8_shut_27 : decode cX8_shut 27 = .ok (.ireturn, 1) := by decide +kernel
theorem dX8_shut_28 : decode cX8_shut 28 = .ok (.aload_n 0, 1) := by decide +kernel
theorem dX8_shut_29 : decode cX8_shut 29 = .ok (.invokevirtual 183, 3) := by decide +kernel
theorem dX8_shut_32 : decode cX8_shut 32 = .ok (.istore_n 2, 1) := by decide +kernel
theorem dX8_shut_33 : decode cX8_shut 33 = .ok (.aload_n 0, 1) := by decide +kernel
theorem dX8_shut_34 : decode cX8_shut 34 = .ok (.aload_n 0, 1) := by decide +kernel
theorem dX8_shut_35 : decode cX8_shut 35 = .ok (.getfield 7, 3) := by decide +kernel
theorem dX8_shut_38 : decode cX8_shut 38 = .ok (.bipush 8, 2) := by decide +kernel
theorem dX8_shut_40 : decode cX8_shut 40 = .ok (.iaload, 1) := by decide +kernel
theorem dX8_shut_41 : decode cX8_shut 41 = .ok (.aload_n 0, 1) := by decide +kernel
theorem dX8_shut_42 : decode cX8_shut 42 = .ok (.getfield 7, 3) := by decide +kernel
theorem dX8_shut_45 : decode cX8_shut 45 = .ok (.iconst 0, 1) := by decide +kernel
theorem dX8_shut_46 : decode cX8_shut 46 = .ok (.iaload, 1) := by decide +kernel
theorem dX8_shut_47 : decode cX8_shut 47 = .ok (.iconst (-1), 1) := by decide +kernel
theorem dX8_shut_48 : decode cX8_shut 48 = .ok (.invokevirtual 190, 3) := by decide +kernel
theorem dX8_shut_51 : decode cX8_shut 51 = .ok (.istore_n 3, 1) := by decide +kernel
theorem dX8_shut_52 : decode cX8_shut 52 = .ok (.aload_n 0, 1) := by decide +kernel
theorem dX8_shut_53 : decode cX8_shut 53 = .ok (.aload_n 0, 1) := by decide +kernel
theorem dX8_shut_54 : decode cX8_shut 54 = .ok (.getfield 7, 3) := by decide +kernel
theorem dX8_shut_57 : decode cX8_shut 57 = .ok (.bipush 9, 2) := by decide +kernel
theorem dX8_shut_59 : decode cX8_shut 59 = .ok (.iaload, 1) := by decide +kernel
theorem dX8_shut_60 : decode cX8_shut 60 = .ok (.aload_n 0, 1) := by decide +kernel
theorem dX8_shut_61 : decode cX8_shut 61 = .ok (.getfield 7, 3) := by decide +kernel
theorem dX8_shut_64 : decode cX8_shut 64 = .ok (.iconst 0, 1) := by decide +kernel
theorem dX8_shut_65 : decode cX8_shut 65 = .ok (.iaload, 1) := by decide +kernel
theorem dX8_shut_66 : decode cX8_shut 66 = .ok (.iconst (-1), 1) := by decide +kernel
theorem dX8_shut_67 : decode cX8_shut 67 = .ok (.invokevirtual 190, 3) := by decide +kernel
theorem dX8_shut_70 : decode cX8_shut 70 = .ok (.istore 4, 2) := by decide +kernel
theorem dX8_shut_72 : decode cX8_shut 72 = .ok (.iconst (-1), 1) := by decide +kernel
theorem dX8_shut_73 : decode cX8_shut 73 = .ok (.istore 5, 2) := by decide +kernel
theorem dX8_shut_75 : decode cX8_shut 75 = .ok (.iconst 0, 1) := by decide +kernel
theorem dX8_shut_76 : decode cX8_shut 76 = .ok (.istore 6, 2) := by decide +kernel
theorem dX8_shut_78 : decode cX8_shut 78 = .ok (.iconst 0, 1) := by decide +kernel
theorem dX8_shut_79 : decode cX8_shut 79 = .ok (.istore 7, 2) := by decide +kernel
theorem dX8_shut_81 : decode cX8_shut 81 = .ok (.iload 7, 2) := by decide +kernel
theorem dX8_shut_83 : decode cX8_shut 83 = .ok (.bipush 64, 2) := by decide +kernel
theorem dX8_shut_85 : decode cX8_shut 85 = .ok (.if_icmp .ge 88, 3) := by decide +kernel
theorem dX8_shut_88 : decode cX8_shut 88 = .ok (.iload_n 3, 1) := by decide +kernel
theorem dX8_shut_89 : decode cX8_shut 89 = .ok (.iload 7, 2) := by decide +kernel
theorem dX8_shut_91 : decode cX8_shut 91 = .ok (.bipush 8, 2) := by decide +kernel
theorem dX8_shut_93 : decode cX8_shut 93 = .ok (.idiv, 1) := by decide +kernel
theorem dX8_shut_94 : decode cX8_shut 94 = .ok (.invokestatic 164, 3) := by decide +kernel
theorem dX8_shut_97 : decode cX8_shut 97 = .ok (.ifCond .eq 70, 3) := by decide +kernel
theorem dX8_shut_100 : decode cX8_shut 100 = .ok (.iload 4, 2) := by decide +kernel
theorem dX8_shut_102 : decode cX8_shut 102 = .ok (.iload 7, 2) := by decide +kernel
theorem dX8_shut_104 : decode cX8_shut 104 = .ok (.bipush 8, 2) := by decide +kernel
theorem dX8_shut_106 : decode cX8_shut 106 = .ok (.irem, 1) := by decide +kernel
theorem dX8_shut_107 : decode cX8_shut 107 = .ok (.invokestatic 164, 3) := by decide +kernel
theorem dX8_shut_110 : decode cX8_shut 110 = .ok (.ifCond .eq 57, 3) := by decide +kernel
theorem dX8_shut_113 : decode cX8_shut 113 = .ok (.iload_n 2, 1) := by decide +kernel
theorem dX8_shut_114 : decode cX8_shut 114 = .ok (.iconst 1, 1) := by decide +kernel
theorem dX8_shut_115 : decode cX8_shut 115 = .ok (.iload 7, 2) := by decide +kernel
theorem dX8_shut_117 : decode cX8_shut 117 = .ok (.bipush 8, 2) := by decide +kernel
theorem dX8_shut_119 : decode cX8_shut 119 = .ok (.idiv, 1) := by decide +kernel
theorem dX8_shut_120 : decode cX8_shut 120 = .ok (.ishl, 1) := by decide +kernel
theorem dX8_shut_121 : decode cX8_shut 121 = .ok (.iconst 1, 1) := by decide +kernel
theorem dX8_shut_122 : decode cX8_shut 122 = .ok (.iload 7, 2) := by decide +kernel
theorem dX8_shut_124 : decode cX8_shut 124 = .ok (.bipush 8, 2) := by decide +kernel
theorem dX8_shut_126 : decode cX8_shut 126 = .ok (.irem, 1) := by decide +kernel
theorem dX8_shut_127 : decode cX8_shut 127 = .ok (.ishl, 1) := by decide +kernel
theorem dX8_shut_128 : decode cX8_shut 128 = .ok (.ior, 1) := by decide +kernel
theorem dX8_shut_129 : decode cX8_shut 129 = .ok (.iand, 1) := by decide +kernel
theorem dX8_shut_130 : decode cX8_shut 130 = .ok (.invokestatic 193, 3) := by decide +kernel
theorem dX8_shut_133 : decode cX8_shut 133 = .ok (.istore 8, 2) := by decide +kernel
theorem dX8_shut_135 : decode cX8_shut 135 = .ok (.iload 8, 2) := by decide +kernel
theorem dX8_shut_137 : decode cX8_shut 137 = .ok (.iload 5, 2) := by decide +kernel
theorem dX8_shut_139 : decode cX8_shut 139 = .ok (.if_icmp .le 8, 3) := by decide +kernel
theorem dX8_shut_142 : decode cX8_shut 142 = .ok (.iload 7, 2) := by decide +kernel
theorem dX8_shut_144 : decode cX8_shut 144 = .ok (.goto 5, 3) := by decide +kernel
theorem dX8_shut_147 : decode cX8_shut 147 = .ok (.iload 6, 2) := by decide +kernel
theorem dX8_shut_149 : decode cX8_shut 149 = .ok (.istore 6, 2) := by decide +kernel
theorem dX8_shut_151 : decode cX8_shut 151 = .ok (.iload 8, 2) := by decide +kernel
theorem dX8_shut_153 : decode cX8_shut 153 = .ok (.iload 5, 2) := by decide +kernel
theorem dX8_shut_155 : decode cX8_shut 155 = .ok (.if_icmp .le 8, 3) := by decide +kernel
theorem dX8_shut_158 : decode cX8_shut 158 = .ok (.iload 8, 2) := by decide +kernel
theorem dX8_shut_160 : decode cX8_shut 160 = .ok (.goto 5, 3) := by decide +kernel
theorem dX8_shut_163 : decode cX8_shut 163 = .ok (.iload 5, 2) := by decide +kernel
theorem dX8_shut_165 : decode cX8_shut 165 = .ok (.istore 5, 2) := by decide +kernel
theorem dX8_shut_167 : decode cX8_shut 167 = .ok (.iinc 7 1, 3) := by decide +kernel
theorem dX8_shut_170 : decode cX8_shut 170 = .ok (.goto (-89), 3) := by decide +kernel
theorem dX8_shut_173 : decode cX8_shut 173 = .ok (.iload_n 1, 1) := by decide +kernel
theorem dX8_shut_174 : decode cX8_shut 174 = .ok (.ifCond .ne 11, 3) := by decide +kernel
theorem dX8_shut_177 : decode cX8_shut 177 = .ok (.iload 6, 2) := by decide +kernel
theorem dX8_shut_179 : decode cX8_shut 179 = .ok (.bipush 8, 2) := by decide +kernel
theorem dX8_shut_181 : decode cX8_shut 181 = .ok (.idiv, 1) := by decide +kernel
theorem dX8_shut_182 : decode cX8_shut 182 = .ok (.goto 8, 3) := by decide +kernel
theorem dX8_shut_185 : decode cX8_shut 185 = .ok (.iload 6, 2) := by decide +kernel
theorem dX8_shut_187 : decode cX8_shut 187 = .ok (.bipush 8, 2) := by decide +kernel
theorem dX8_shut_189 : decode cX8_shut 189 = .ok (.irem, 1) := by decide +kernel
theorem dX8_shut_190 : decode cX8_shut 190 = .ok (.istore 7, 2) := by decide +kernel
theorem dX8_shut_192 : decode cX8_shut 192 = .ok (.iload_n 1, 1) := by decide +kernel
theorem dX8_shut_193 : decode cX8_shut 193 = .ok (.iconst (-1), 1) := by decide +kernel
theorem dX8_shut_194 : decode cX8_shut 194 = .ok (.if_icmp .ne 8, 3) := by decide +kernel
theorem dX8_shut_197 : decode cX8_shut 197 = .ok (.iload 5, 2) := by decide +kernel
theorem dX8_shut_199 : decode cX8_shut 199 = .ok (.goto 16, 3) := by decide +kernel
theorem dX8_shut_202 : decode cX8_shut 202 = .ok (.iload 7, 2) := by decide +kernel
theorem dX8_shut_204 : decode cX8_shut 204 = .ok (.bipush 7, 2) := by decide +kernel
theorem dX8_shut_206 : decode cX8_shut 206 = .ok (.if_icmp .ne 7, 3) := by decide +kernel
theorem dX8_shut_209 : decode cX8_shut 209 = .ok (.iconst (-1), 1) := by decide +kernel
theorem dX8_shut_210 : decode cX8_shut 210 = .ok (.goto 5, 3) := by decide +kernel
theorem dX8_shut_213 : decode cX8_shut 213 = .ok (.iload 7, 2) := by decide +kernel
theorem dX8_shut_215 : decode cX8_shut 215 = .ok (.ireturn, 1) := by decide +kernel
def Mo_shut_B149 (k81 : Wd → Int32 → Int32 → Int32 → Int32 → Int32 → Int32 → Int32 → Option (Int32 × Wd)) (w : Wd) (v1 : Int32) (v2 : Int32) (v3 : Int32) (v4 : Int32) (v5 : Int32) (v7 : Int32) (v8 : Int32) (s0 : Int32) : Option (Int32 × Wd) := (k81 w v1 v2 v3 v4 (if v8 ≤ v5 then v5 else v8) s0 (v7 + (1 : Int32)))
set_option maxRecDepth 100000 in
set_option maxHeartbeats 4000000 in
theorem Mo_shut_B149_ok {K : Ctx} (F : Fx K cX8_shut 9 RX8 (some .int) 4 89 false [37, 38, 42]) {k81 : Wd → Int32 → Int32 → Int32 → Int32 → Int32 → Int32 → Int32 → Option (Int32 × Wd)} (h81 : ∀ (w : Wd) (v1 : Int32) (v2 : Int32) (v3 : Int32) (v4 : Int32) (v5 : Int32) (v6 : Int32) (v7 : Int32), N K rtI (k81 w v1 v2 v3 v4 v5 v6 v7) w 81 [(1, .int v1), (2, .int v2), (3, .int v3), (4, .int v4), (5, .int v5), (6, .int v6), (7, .int v7)] []) (w : Wd) (v1 : Int32) (v2 : Int32) (v3 : Int32) (v4 : Int32) (v5 : Int32) (v7 : Int32) (v8 : Int32) (s0 : Int32) : N K rtI (Mo_shut_B149 k81 w v1 v2 v3 v4 v5 v7 v8 s0) w 149 [(1, .int v1), (2, .int v2), (3, .int v3), (4, .int v4), (5, .int v5), (7, .int v7), (8, .int v8)] [.int s0] := by
  rw [Mo_shut_B149]
  refine n_istore F (lv' := [(6, .int s0), (1, .int v1), (2, .int v2), (3, .int v3), (4, .int v4), (5, .int v5), (7, .int v7), (8, .int v8)]) dX8_shut_149 (by decide) rfl ?_
  refine n_iload F dX8_shut_151 7 rfl ?_
  refine n_iload F dX8_shut_153 5 rfl ?_
  refine n_icmp_le F 163 dX8_shut_155 (by decide) (fun e11 => ?_) (fun e11 => ?_)
  · rw [if_pos e11]
    refine n_iload F dX8_shut_163 5 rfl ?_
    refine n_istore F (lv' := [(5, .int v5), (6, .int s0), (1, .int v1), (2, .int v2), (3, .int v3), (4, .int v4), (7, .int v7), (8, .int v8)]) dX8_shut_165 (by decide) rfl ?_
    refine n_iinc F (v7 + (1 : Int32)) (lv' := [(7, .int (v7 + (1 : Int32))), (5, .int v5), (6, .int s0), (1, .int v1), (2, .int v2), (3, .int v3), (4, .int v4), (8, .int v8)]) dX8_shut_167 6 rfl rfl (by decide) rfl ?_
    refine n_goto F 81 dX8_shut_170 (by decide) ?_
    exact n_sub [3, 4, 5, 6, 1, 2, 0] rfl (h81 _ _ _ _ _ _ _ _)
  rw [if_neg e11]
  refine n_iload F dX8_shut_158 7 rfl ?_
  refine n_goto F 165 dX8_shut_160 (by decide) ?_
  refine n_istore F (lv' := [(5, .int v8), (6, .int s0), (1, .int v1), (2, .int v2), (3, .int v3), (4, .int v4), (7, .int v7), (8, .int v8)]) dX8_shut_165 (by decide) rfl ?_
  refine n_iinc F (v7 + (1 : Int32)) (lv' := [(7, .int (v7 + (1 : Int32))), (5, .int v8), (6, .int s0), (1, .int v1), (2, .int v2), (3, .int v3), (4, .int v4), (8, .int v8)]) dX8_shut_167 6 rfl rfl (by decide) rfl ?_
  refine n_goto F 81 dX8_shut_170 (by decide) ?_
  exact n_sub [3, 4, 5, 6, 1, 2, 0] rfl (h81 _ _ _ _ _ _ _ _)
def Mo_shut_L81 (k173 : Wd → Int32 → Int32 → Int32 → Option (Int32 × Wd)) : Nat → Wd → Int32 → Int32 → Int32 → Int32 → Int32 → Int32 → Int32 → Option (Int32 × Wd)
  | 0, _, _, _, _, _, _, _, _ => none
  | n + 1, w, v1, v2, v3, v4, v5, v6, v7 => (if (64 : Int32) ≤ v7 then (k173 w v1 v5 v6) else (if (Mo_has w v3 (v7 / (8 : Int32))) = (0 : Int32) then (Mo_shut_L81 k173 n w v1 v2 v3 v4 v5 v6 (v7 + (1 : Int32))) else (if (Mo_has w v4 (v7 - v7 / (8 : Int32) * (8 : Int32))) = (0 : Int32) then (Mo_shut_L81 k173 n w v1 v2 v3 v4 v5 v6 (v7 + (1 : Int32))) else (Option.bind (Mo_bits w (v2 &&& (((1 : Int32) <<< ((v7 / (8 : Int32)) &&& (31 : Int32))) ||| ((1 : Int32) <<< ((v7 - v7 / (8 : Int32) * (8 : Int32)) &&& (31 : Int32)))))) (fun q9 => (Mo_shut_B149 (Mo_shut_L81 k173 n) w v1 v2 v3 v4 v5 v7 q9 (if q9 ≤ v5 then v6 else v7)))))))
set_option maxRecDepth 100000 in
set_option maxHeartbeats 4000000 in
theorem Mo_shut_L81_ok {K : Ctx} (F : Fx K cX8_shut 9 RX8 (some .int) 4 89 false [37, 38, 42]) {k173 : Wd → Int32 → Int32 → Int32 → Option (Int32 × Wd)} (h173 : ∀ (w : Wd) (v1 : Int32) (v5 : Int32) (v6 : Int32), N K rtI (k173 w v1 v5 v6) w 173 [(1, .int v1), (5, .int v5), (6, .int v6)] []) : ∀ (n : Nat) (w : Wd) (v1 : Int32) (v2 : Int32) (v3 : Int32) (v4 : Int32) (v5 : Int32) (v6 : Int32) (v7 : Int32), N K rtI (Mo_shut_L81 k173 n w v1 v2 v3 v4 v5 v6 v7) w 81 [(1, .int v1), (2, .int v2), (3, .int v3), (4, .int v4), (5, .int v5), (6, .int v6), (7, .int v7)] [] := by
  intro n
  induction n with
  | zero => intro _ _ _ _ _ _ _ _; exact n_none
  | succ n ih =>
    intro w v1 v2 v3 v4 v5 v6 v7
    rw [Mo_shut_L81]
    refine n_iload F dX8_shut_81 6 rfl ?_
    refine n_bipush F (64 : Int32) dX8_shut_83 (by decide) ?_
    refine n_icmp_ge F 173 dX8_shut_85 (by decide) (fun e6 => ?_) (fun e6 => ?_)
    · rw [if_pos e6]
      exact n_sub [0, 4, 5] rfl (h173 _ _ _ _)
    rw [if_neg e6]
    refine n_iload_n F dX8_shut_88 rfl 2 rfl ?_
    refine n_iload F dX8_shut_89 6 rfl ?_
    refine n_bipush F (8 : Int32) dX8_shut_91 (by decide) ?_
    refine n_idiv F dX8_shut_93 (by decide) ?_
    refine n_callSi F cb_X8_has lm_RX8_164 (ct_Mo_has (fx_ok F) (fx_sd F) (fx_ix F rfl) w v3 (v7 / (8 : Int32))) rfl rfl (Nat.le_of_ble_eq_true rfl) ⟨Nat.le_of_ble_eq_true rfl, Nat.le_of_ble_eq_true rfl⟩ dX8_shut_94 ?_
    refine n_if_eq F 167 dX8_shut_97 (by decide) (fun e7 => ?_) (fun e7 => ?_)
    · rw [if_pos e7]
      refine n_iinc F (v7 + (1 : Int32)) (lv' := [(7, .int (v7 + (1 : Int32))), (1, .int v1), (2, .int v2), (3, .int v3), (4, .int v4), (5, .int v5), (6, .int v6)]) dX8_shut_167 6 rfl rfl (by decide) rfl ?_
      refine n_goto F 81 dX8_shut_170 (by decide) ?_
      exact n_sub [1, 2, 3, 4, 5, 6, 0] rfl (ih _ _ _ _ _ _ _ _)
    rw [if_neg e7]
    refine n_iload F dX8_shut_100 3 rfl ?_
    refine n_iload F dX8_shut_102 6 rfl ?_
    refine n_bipush F (8 : Int32) dX8_shut_104 (by decide) ?_
    refine n_irem F dX8_shut_106 (by decide) ?_
    refine n_callSi F cb_X8_has lm_RX8_164 (ct_Mo_has (fx_ok F) (fx_sd F) (fx_ix F rfl) w v4 (v7 - v7 / (8 : Int32) * (8 : Int32))) rfl rfl (Nat.le_of_ble_eq_true rfl) ⟨Nat.le_of_ble_eq_true rfl, Nat.le_of_ble_eq_true rfl⟩ dX8_shut_107 ?_
    refine n_if_eq F 167 dX8_shut_110 (by decide) (fun e8 => ?_) (fun e8 => ?_)
    · rw [if_pos e8]
      refine n_iinc F (v7 + (1 : Int32)) (lv' := [(7, .int (v7 + (1 : Int32))), (1, .int v1), (2, .int v2), (3, .int v3), (4, .int v4), (5, .int v5), (6, .int v6)]) dX8_shut_167 6 rfl rfl (by decide) rfl ?_
      refine n_goto F 81 dX8_shut_170 (by decide) ?_
      exact n_sub [1, 2, 3, 4, 5, 6, 0] rfl (ih _ _ _ _ _ _ _ _)
    rw [if_neg e8]
    refine n_iload_n F dX8_shut_113 rfl 1 rfl ?_
    refine n_iconst F (1 : Int32) dX8_shut_114 (by decide) ?_
    refine n_iload F dX8_shut_115 6 rfl ?_
    refine n_bipush F (8 : Int32) dX8_shut_117 (by decide) ?_
    refine n_idiv F dX8_shut_119 (by decide) ?_
    refine n_ishl F dX8_shut_120 ?_
    refine n_iconst F (1 : Int32) dX8_shut_121 (by decide) ?_
    refine n_iload F dX8_shut_122 6 rfl ?_
    refine n_bipush F (8 : Int32) dX8_shut_124 (by decide) ?_
    refine n_irem F dX8_shut_126 (by decide) ?_
    refine n_ishl F dX8_shut_127 ?_
    refine n_ior F dX8_shut_128 ?_
    refine n_iand F dX8_shut_129 ?_
    refine n_bind (fun q9 hq9 => ?_)
    refine n_callSi F cb_X8_bits lm_RX8_193 (ct_Mo_bits (fx_ok F) (fx_sd F) (fx_ix F rfl) w (v2 &&& (((1 : Int32) <<< ((v7 / (8 : Int32)) &&& (31 : Int32))) ||| ((1 : Int32) <<< ((v7 - v7 / (8 : Int32) * (8 : Int32)) &&& (31 : Int32))))) hq9) rfl rfl (Nat.le_of_ble_eq_true rfl) ⟨Nat.le_of_ble_eq_true rfl, Nat.le_of_ble_eq_true rfl⟩ dX8_shut_130 ?_
    refine n_istore F (lv' := [(8, .int q9), (1, .int v1), (2, .int v2), (3, .int v3), (4, .int v4), (5, .int v5), (6, .int v6), (7, .int v7)]) dX8_shut_133 (by decide) rfl ?_
    refine n_iload F dX8_shut_135 0 rfl ?_
    refine n_iload F dX8_shut_137 5 rfl ?_
    refine n_icmp_le F 147 dX8_shut_139 (by decide) (fun e10 => ?_) (fun e10 => ?_)
    · rw [if_pos e10]
      refine n_iload F dX8_shut_147 6 rfl ?_
      exact n_sub [1, 2, 3, 4, 5, 7, 0] rfl (Mo_shut_B149_ok F ih _ _ _ _ _ _ _ _ _)
    rw [if_neg e10]
    refine n_iload F dX8_shut_142 7 rfl ?_
    refine n_goto F 149 dX8_shut_144 (by decide) ?_
    exact n_sub [1, 2, 3, 4, 5, 7, 0] rfl (Mo_shut_B149_ok F ih _ _ _ _ _ _ _ _ _)
def Mo_shut_B190 (w : Wd) (v1 : Int32) (v5 : Int32) (s0 : Int32) : Option (Int32 × Wd) := (if v1 = (-1 : Int32) then some (v5, w) else (if s0 = (7 : Int32) then some ((-1 : Int32), w) else some (s0, w)))
set_option maxRecDepth 100000 in
set_option maxHeartbeats 4000000 in
theorem Mo_shut_B190_ok {K : Ctx} (F : Fx K cX8_shut 9 RX8 (some .int) 4 89 false [37, 38, 42]) (w : Wd) (v1 : Int32) (v5 : Int32) (s0 : Int32) : N K rtI (Mo_shut_B190 w v1 v5 s0) w 190 [(1, .int v1), (5, .int v5)] [.int s0] := by
  rw [Mo_shut_B190]
  refine n_istore F (lv' := [(7, .int s0), (1, .int v1), (5, .int v5)]) dX8_shut_190 (by decide) rfl ?_
  refine n_iload_n F dX8_shut_192 rfl 1 rfl ?_
  refine n_iconst F (-1 : Int32) dX8_shut_193 (by decide) ?_
  refine n_icmp_ne F 202 dX8_shut_194 (by decide) (fun e13 => ?_) (fun e13 => ?_)
  · rw [if_neg e13]
    refine n_iload F dX8_shut_202 0 rfl ?_
    refine n_bipush F (7 : Int32) dX8_shut_204 (by decide) ?_
    refine n_icmp_ne F 213 dX8_shut_206 (by decide) (fun e14 => ?_) (fun e14 => ?_)
    · rw [if_neg e14]
      refine n_iload F dX8_shut_213 0 rfl ?_
      exact n_iret F rfl rfl dX8_shut_215
    rw [if_pos e14]
    refine n_iconst F (-1 : Int32) dX8_shut_209 (by decide) ?_
    refine n_goto F 215 dX8_shut_210 (by decide) ?_
    exact n_iret F rfl rfl dX8_shut_215
  rw [if_pos e13]
  refine n_iload F dX8_shut_197 2 rfl ?_
  refine n_goto F 215 dX8_shut_199 (by decide) ?_
  exact n_iret F rfl rfl dX8_shut_215
def Mo_shut_B173 (w : Wd) (v1 : Int32) (v5 : Int32) (v6 : Int32) : Option (Int32 × Wd) := (Mo_shut_B190 w v1 v5 (if v1 = (0 : Int32) then (v6 / (8 : Int32)) else (v6 - v6 / (8 : Int32) * (8 : Int32))))
set_option maxRecDepth 100000 in
set_option maxHeartbeats 4000000 in
theorem Mo_shut_B173_ok {K : Ctx} (F : Fx K cX8_shut 9 RX8 (some .int) 4 89 false [37, 38, 42]) (w : Wd) (v1 : Int32) (v5 : Int32) (v6 : Int32) : N K rtI (Mo_shut_B173 w v1 v5 v6) w 173 [(1, .int v1), (5, .int v5), (6, .int v6)] [] := by
  rw [Mo_shut_B173]
  refine n_iload_n F dX8_shut_173 rfl 0 rfl ?_
  refine n_if_ne F 185 dX8_shut_174 (by decide) (fun e12 => ?_) (fun e12 => ?_)
  · rw [if_neg e12]
    refine n_iload F dX8_shut_185 2 rfl ?_
    refine n_bipush F (8 : Int32) dX8_shut_187 (by decide) ?_
    refine n_irem F dX8_shut_189 (by decide) ?_
    exact n_sub [0, 1] rfl (Mo_shut_B190_ok F _ _ _ _)
  rw [if_pos e12]
  refine n_iload F dX8_shut_177 2 rfl ?_
  refine n_bipush F (8 : Int32) dX8_shut_179 (by decide) ?_
  refine n_idiv F dX8_shut_181 (by decide) ?_
  refine n_goto F 190 dX8_shut_182 (by decide) ?_
  exact n_sub [0, 1] rfl (Mo_shut_B190_ok F _ _ _ _)
def Mo_shut_B15 (w : Wd) (v1 : Int32) : Option (Int32 × Wd) := (if (w.1 38 3) = (1 : Int32) then some ((-4 : Int32), w) else (Option.bind (Mo_nextOf w) (fun q3 => (Option.bind (Mo_reach (q3.2) ((q3.2).1 38 8) ((q3.2).1 38 0) (-1 : Int32)) (fun q4 => (Option.bind (Mo_reach (q3.2) ((q3.2).1 38 9) ((q3.2).1 38 0) (-1 : Int32)) (fun q5 => (Mo_shut_L81 Mo_shut_B173 FU (q3.2) v1 (q3.1) q4 q5 (-1 : Int32) (0 : Int32) (0 : Int32)))))))))
set_option maxRecDepth 100000 in
set_option maxHeartbeats 4000000 in
theorem Mo_shut_B15_ok {K : Ctx} (F : Fx K cX8_shut 9 RX8 (some .int) 4 89 false [37, 38, 42]) (w : Wd) (v1 : Int32) : N K rtI (Mo_shut_B15 w v1) w 15 [(0, .ref (gA (cg K) 37)), (1, .int v1)] [] := by
  rw [Mo_shut_B15]
  refine n_aload_n F dX8_shut_15 rfl 0 rfl ?_
  refine n_get F ck_8 lf_RX8_7 (by decide) fg_37_0 (by decide) dX8_shut_16 ?_
  refine n_iconst F (3 : Int32) dX8_shut_19 (by decide) ?_
  refine n_iald F ar_38 (by decide) (ib_c (n := 45) (by decide)) (j := 3) (by decide) dX8_shut_20 ?_
  refine n_iconst F (1 : Int32) dX8_shut_21 (by decide) ?_
  refine n_icmp_ne F 28 dX8_shut_22 (by decide) (fun e2 => ?_) (fun e2 => ?_)
  · rw [if_neg e2]
    refine n_aload_n F dX8_shut_28 rfl 0 rfl ?_
    refine n_bind (fun q3 hq3 => ?_)
    refine n_callVi F cb_X8_nextOf lm_RX8_183 ob_37 (by decide) ⟨_, _, rfl⟩ (ct_Mo_nextOf (fx_ok F) (fx_sd F) (fx_ix F rfl) w hq3) rfl rfl (Nat.le_of_ble_eq_true rfl) ⟨Nat.le_of_ble_eq_true rfl, Nat.le_of_ble_eq_true rfl⟩ dX8_shut_29 ?_
    refine n_istore_n F (lv' := [(2, .int (q3.1)), (0, .ref (gA (cg K) 37)), (1, .int v1)]) dX8_shut_32 rfl (by decide) rfl ?_
    refine n_aload_n F dX8_shut_33 rfl 1 rfl ?_
    refine n_aload_n F dX8_shut_34 rfl 1 rfl ?_
    refine n_get F ck_8 lf_RX8_7 (by decide) fg_37_0 (by decide) dX8_shut_35 ?_
    refine n_bipush F (8 : Int32) dX8_shut_38 (by decide) ?_
    refine n_iald F ar_38 (by decide) (ib_c (n := 45) (by decide)) (j := 8) (by decide) dX8_shut_40 ?_
    refine n_aload_n F dX8_shut_41 rfl 1 rfl ?_
    refine n_get F ck_8 lf_RX8_7 (by decide) fg_37_0 (by decide) dX8_shut_42 ?_
    refine n_iconst F (0 : Int32) dX8_shut_45 (by decide) ?_
    refine n_iald F ar_38 (by decide) (ib_c (n := 45) (by decide)) (j := 0) (by decide) dX8_shut_46 ?_
    refine n_iconst F (-1 : Int32) dX8_shut_47 (by decide) ?_
    refine n_bind (fun q4 hq4 => ?_)
    refine n_callVi F cb_X8_reach lm_RX8_190 ob_37 (by decide) ⟨_, _, rfl⟩ (ct_Mo_reach (fx_ok F) (fx_sd F) (fx_ix F rfl) (q3.2) ((q3.2).1 38 8) ((q3.2).1 38 0) (-1 : Int32) hq4) rfl rfl (Nat.le_of_ble_eq_true rfl) ⟨Nat.le_of_ble_eq_true rfl, Nat.le_of_ble_eq_true rfl⟩ dX8_shut_48 ?_
    refine n_istore_n F (lv' := [(3, .int q4), (2, .int (q3.1)), (0, .ref (gA (cg K) 37)), (1, .int v1)]) dX8_shut_51 rfl (by decide) rfl ?_
    refine n_aload_n F dX8_shut_52 rfl 2 rfl ?_
    refine n_aload_n F dX8_shut_53 rfl 2 rfl ?_
    refine n_get F ck_8 lf_RX8_7 (by decide) fg_37_0 (by decide) dX8_shut_54 ?_
    refine n_bipush F (9 : Int32) dX8_shut_57 (by decide) ?_
    refine n_iald F ar_38 (by decide) (ib_c (n := 45) (by decide)) (j := 9) (by decide) dX8_shut_59 ?_
    refine n_aload_n F dX8_shut_60 rfl 2 rfl ?_
    refine n_get F ck_8 lf_RX8_7 (by decide) fg_37_0 (by decide) dX8_shut_61 ?_
    refine n_iconst F (0 : Int32) dX8_shut_64 (by decide) ?_
    refine n_iald F ar_38 (by decide) (ib_c (n := 45) (by decide)) (j := 0) (by decide) dX8_shut_65 ?_
    refine n_iconst F (-1 : Int32) dX8_shut_66 (by decide) ?_
    refine n_bind (fun q5 hq5 => ?_)
    refine n_callVi F cb_X8_reach lm_RX8_190 ob_37 (by decide) ⟨_, _, rfl⟩ (ct_Mo_reach (fx_ok F) (fx_sd F) (fx_ix F rfl) (q3.2) ((q3.2).1 38 9) ((q3.2).1 38 0) (-1 : Int32) hq5) rfl rfl (Nat.le_of_ble_eq_true rfl) ⟨Nat.le_of_ble_eq_true rfl, Nat.le_of_ble_eq_true rfl⟩ dX8_shut_67 ?_
    refine n_istore F (lv' := [(4, .int q5), (3, .int q4), (2, .int (q3.1)), (0, .ref (gA (cg K) 37)), (1, .int v1)]) dX8_shut_70 (by decide) rfl ?_
    refine n_iconst F (-1 : Int32) dX8_shut_72 (by decide) ?_
    refine n_istore F (lv' := [(5, .int (-1 : Int32)), (4, .int q5), (3, .int q4), (2, .int (q3.1)), (0, .ref (gA (cg K) 37)), (1, .int v1)]) dX8_shut_73 (by decide) rfl ?_
    refine n_iconst F (0 : Int32) dX8_shut_75 (by decide) ?_
    refine n_istore F (lv' := [(6, .int (0 : Int32)), (5, .int (-1 : Int32)), (4, .int q5), (3, .int q4), (2, .int (q3.1)), (0, .ref (gA (cg K) 37)), (1, .int v1)]) dX8_shut_76 (by decide) rfl ?_
    refine n_iconst F (0 : Int32) dX8_shut_78 (by decide) ?_
    refine n_istore F (lv' := [(7, .int (0 : Int32)), (6, .int (0 : Int32)), (5, .int (-1 : Int32)), (4, .int q5), (3, .int q4), (2, .int (q3.1)), (0, .ref (gA (cg K) 37)), (1, .int v1)]) dX8_shut_79 (by decide) rfl ?_
    exact n_sub [7, 5, 4, 3, 2, 1, 0] rfl (Mo_shut_L81_ok F (Mo_shut_B173_ok F) FU _ _ _ _ _ _ _ _)
  rw [if_pos e2]
  refine n_bipush F (-4 : Int32) dX8_shut_25 (by decide) ?_
  exact n_iret F rfl rfl dX8_shut_27
def Mo_shut (w : Wd) (a1 : Int32) : Option (Int32 × Wd) := (if a1 = (-1 : Int32) then (Mo_shut_B15 w a1) else (if (Mo_isSeeker w a1) = (0 : Int32) then some ((-2 : Int32), w) else (Mo_shut_B15 w a1)))
set_option maxRecDepth 100000 in
set_option maxHeartbeats 4000000 in
theorem ct_Mo_shut {l : Launch} {g : GG} {σ : Sd} (hg : OKg g σ) (hb : σ.2.1 = false) (hx : ∀ c ∈ ([37, 38, 42] : List Nat), c ∈ σ.1) (w : Wd) (a1 : Int32) {q : Int32 × Wd} (hq : Mo_shut w a1 = some q) : CT l g σ yX8_shut cX8_shut 9 (some .int) 4 89 [.ref (gA g 37), .int a1] w (some (.int q.1)) q.2 := by
  refine ct_of (rt := rtI) (res := Mo_shut w a1) (q := q) (own := RX8) (b := false) hg hb hx (by decide) rfl (Nat.le_of_ble_eq_true rfl) hq (fun K e1 e2 e3 F => ?_)
  subst e1 e2 e3
  rw [Mo_shut]
  show N K _ _ w 0 [(0, .ref (gA (cg K) 37)), (1, .int a1)] []
  refine n_iload_n F dX8_shut_0 rfl 1 rfl ?_
  refine n_iconst F (-1 : Int32) dX8_shut_1 (by decide) ?_
  refine n_icmp_eq F 15 dX8_shut_2 (by decide) (fun e1 => ?_) (fun e1 => ?_)
  · rw [if_pos e1]
    exact n_sub [0, 1] rfl (Mo_shut_B15_ok F _ _)
  rw [if_neg e1]
  refine n_iload_n F dX8_shut_5 rfl 1 rfl ?_
  refine n_callSi F cb_X8_isSeeker lm_RX8_168 (ct_Mo_isSeeker (fx_ok F) (fx_sd F) (fx_ix F rfl) w a1) rfl rfl (Nat.le_of_ble_eq_true rfl) ⟨Nat.le_of_ble_eq_true rfl, Nat.le_of_ble_eq_true rfl⟩ dX8_shut_6 ?_
  refine n_if_ne F 15 dX8_shut_9 (by decide) (fun e15 => ?_) (fun e15 => ?_)
  · rw [if_neg e15]
    exact n_sub [0, 1] rfl (Mo_shut_B15_ok F _ _)
  rw [if_pos e15]
  refine n_bipush F (-2 : Int32) dX8_shut_12 (by decide) ?_
  exact n_iret F rfl rfl dX8_shut_14
theorem dX8_hides_0 : decode cX8_hides 0 = .ok (.iload_n 1, 1) := by decide +kernel
theorem dX8_hides_1 : decode cX8_hides 1 = .ok (.i2l, 1) := by decide +kernel
theorem dX8_hides_2 : decode cX8_hides 2 = .ok (.lconst 0, 1) := by decide +kernel
theorem dX8_hides_3 : decode cX8_hides 3 = .ok (.lconst 1, 1) := by decide +kernel
theorem dX8_hides_4 : decode cX8_hides 4 = .ok (.invokestatic 63, 3) := by decide +kernel
theorem dX8_hides_7 : decode cX8_hides 7 = .ok (.ifCond .ne 6, 3) := by decide +kernel
theorem dX8_hides_10 : decode cX8_hides 10 = .ok (.bipush (-3), 2) := by decide +kernel
theorem dX8_hides_12 : decode cX8_hides 12 = .ok (.ireturn, 1) := by decide +kernel
theorem dX8_hides_13 : decode cX8_hides 13 = .ok (.aload_n 0, 1) := by decide +kernel
theorem dX8_hides_14 : decode cX8_hides 14 = .ok (.getfield 7, 3) := by decide +kernel
theorem dX8_hides_17 : decode cX8_hides 17 = .ok (.iconst 3, 1) := by decide +kernel
theorem dX8_hides_18 : decode cX8_hides 18 = .ok (.iaload, 1) := by decide +kernel
theorem dX8_hides_19 : decode cX8_hides 19 = .ok (.iconst 1, 1) := by decide +kernel
theorem dX8_hides_20 : decode cX8_hides 20 = .ok (.if_icmp .eq 13, 3) := by decide +kernel
theorem dX8_hides_23 : decode cX8_hides 23 = .ok (.aload_n 0, 1) := by decide +kernel
theorem dX8_hides_24 : decode cX8_hides 24 = .ok (.getfield 7, 3) := by decide +kernel
theorem dX8_hides_27 : decode cX8_hides 27 = .ok (.iconst 2, 1) := by decide +kernel
theorem dX8_hides_28 : decode cX8_hides 28 = .ok (.iaload, 1) := by decide +kernel
theorem dX8_hides_29 : decode cX8_hides 29 = .ok (.iconst 1, 1) := by decide +kernel
theorem dX8_hides_30 : decode cX8_hides 30 = .ok (.if_icmp .ne 6, 3) := by decide +kernel
theorem dX8_hides_33 : decode cX8_hides 33 = .ok (.bipush (-4), 2) := by decide +kernel
theorem dX8_hides_35 : decode cX8_hides 35 = .ok (.ireturn, 1) := by decide +kernel
theorem dX8_hides_36 : decode cX8_hides 36 = .ok (.iconst (-1), 1) := by decide +kernel
theorem dX8_hides_37 : decode cX8_hides 37 = .ok (.istore_n 2, 1) := by decide +kernel
theorem dX8_hides_38 : decode cX8_hides 38 = .ok (.iconst (-1), 1) := by decide +kernel
theorem dX8_hides_39 : decode cX8_hides 39 = .ok (.istore_n 3, 1) := by decide +kernel
theorem dX8_hides_40 : decode cX8_hides 40 = .ok (.iconst 0, 1) := by decide +kernel
theorem dX8_hides_41 : decode cX8_hides 41 = .ok (.istore 4, 2) := by decide +kernel
theorem dX8_hides_43 : decode cX8_hides 43 = .ok (.iload 4, 2) := by decide +kernel
theorem dX8_hides_45 : decode cX8_hides 45 = .ok (.aload_n 0, 1) := by decide +kernel
theorem dX8_hides_46 : decode cX8_hides 46 = .ok (.getfield 131, 3) := by decide +kernel
theorem dX8_hides_49 : decode cX8_hides 49 = .ok (.if_icmp .ge 80, 3) := by decide +kernel
theorem dX8_hides_52 : decode cX8_hides 52 = .ok (.aload_n 0, 1) := by decide +kernel
theorem dX8_hides_53 : decode cX8_hides 53 = .ok (.invokevirtual 161, 3) := by decide +kernel
theorem dX8_hides_56 : decode cX8_hides 56 = .ok (.iload 4, 2) := by decide +kernel
theorem dX8_hides_58 : decode cX8_hides 58 = .ok (.invokestatic 164, 3) := by decide +kernel
theorem dX8_hides_61 : decode cX8_hides 61 = .ok (.ifCond .eq 62, 3) := by decide +kernel
theorem dX8_hides_64 : decode cX8_hides 64 = .ok (.aload_n 0, 1) := by decide +kernel
theorem dX8_hides_65 : decode cX8_hides 65 = .ok (.aload_n 0, 1) := by decide +kernel
theorem dX8_hides_66 : decode cX8_hides 66 = .ok (.getfield 27, 3) := by decide +kernel
theorem dX8_hides_69 : decode cX8_hides 69 = .ok (.bipush 6, 2) := by decide +kernel
theorem dX8_hides_71 : decode cX8_hides 71 = .ok (.iload 4, 2) := by decide +kernel
theorem dX8_hides_73 : decode cX8_hides 73 = .ok (.imul, 1) := by decide +kernel
theorem dX8_hides_74 : decode cX8_hides 74 = .ok (.iconst 5, 1) := by decide +kernel
theorem dX8_hides_75 : decode cX8_hides 75 = .ok (.iadd, 1) := by decide +kernel
theorem dX8_hides_76 : decode cX8_hides 76 = .ok (.iaload, 1) := by decide +kernel
theorem dX8_hides_77 : decode cX8_hides 77 = .ok (.invokevirtual 180, 3) := by decide +kernel
theorem dX8_hides_80 : decode cX8_hides 80 = .ok (.aload_n 0, 1) := by decide +kernel
theorem dX8_hides_81 : decode cX8_hides 81 = .ok (.getfield 171, 3) := by decide +kernel
theorem dX8_hides_84 : decode cX8_hides 84 = .ok (.invokestatic 193, 3) := by decide +kernel
theorem dX8_hides_87 : decode cX8_hides 87 = .ok (.aload_n 0, 1) := by decide +kernel
theorem dX8_hides_88 : decode cX8_hides 88 = .ok (.getfield 174, 3) := by decide +kernel
theorem dX8_hides_91 : decode cX8_hides 91 = .ok (.invokestatic 193, 3) := by decide +kernel
theorem dX8_hides_94 : decode cX8_hides 94 = .ok (.iadd, 1) := by decide +kernel
theorem dX8_hides_95 : decode cX8_hides 95 = .ok (.istore 5, 2) := by decide +kernel
theorem dX8_hides_97 : decode cX8_hides 97 = .ok (.iload 5, 2) := by decide +kernel
theorem dX8_hides_99 : decode cX8_hides 99 = .ok (.iload_n 3, 1) := by decide +kernel
theorem dX8_hides_100 : decode cX8_hides 100 = .ok (.if_icmp .le 8, 3) := by decide +kernel
theorem dX8_hides_103 : decode cX8_hides 103 = .ok (.iload 4, 2) := by decide +kernel
theorem dX8_hides_105 : decode cX8_hides 105 = .ok (.goto 4, 3) := by decide +kernel
theorem dX8_hides_108 : decode cX8_hides 108 = .ok (.iload_n 2, 1) := by decide +kernel
theorem dX8_hides_109 : decode cX8_hides 109 = .ok (.istore_n 2, 1) := by decide +kernel
theorem dX8_hides_110 : decode cX8_hides 110 = .ok (.iload 5, 2) := by decide +kernel
theorem dX8_hides_112 : decode cX8_hides 112 = .ok (.iload_n 3, 1) := by decide +kernel
theorem dX8_hides_113 : decode cX8_hides 113 = .ok (.if_icmp .le 8, 3) := by decide +kernel
theorem dX8_hides_116 : decode cX8_hides 116 = .ok (.iload 5, 2) := by decide +kernel
theorem dX8_hides_118 : decode cX8_hides 118 = .ok (.goto 4, 3) := by decide +kernel
theorem dX8_hides_121 : decode cX8_hides 121 = .ok (.iload_n 3, 1) := by decide +kernel
theorem dX8_hides_122 : decode cX8_hides 122 = .ok (.istore_n 3, 1) := by decide +kernel
theorem dX8_hides_123 : decode cX8_hides 123 = .ok (.iinc 4 1, 3) := by decide +kernel
theorem dX8_hides_126 : decode cX8_hides 126 = .ok (.goto (-83), 3) := by decide +kernel
theorem dX8_hides_129 : decode cX8_hides 129 = .ok (.iload_n 1, 1) := by decide +kernel
theorem dX8_hides_130 : decode cX8_hides 130 = .ok (.ifCond .ne 7, 3) := by decide +kernel
theorem dX8_hides_133 : decode cX8_hides 133 = .ok (.iload_n 2, 1) := by decide +kernel
theorem dX8_hides_134 : decode cX8_hides 134 = .ok (.goto 4, 3) := by decide +kernel
theorem dX8_hides_137 : decode cX8_hides 137 = .ok (.iload_n 3, 1) := by decide +kernel
theorem dX8_hides_138 : decode cX8_hides 138 = .ok (.ireturn, 1) := by decide +kernel
def Mo_hides_B109 (k43 : Wd → Int32 → Int32 → Int32 → Int32 → Option (Int32 × Wd)) (w : Wd) (v1 : Int32) (v3 : Int32) (v4 : Int32) (v5 : Int32) (s0 : Int32) : Option (Int32 × Wd) := (k43 w v1 s0 (if v5 ≤ v3 then v3 else v5) (v4 + (1 : Int32)))
set_option maxRecDepth 100000 in
set_option maxHeartbeats 4000000 in
theorem Mo_hides_B109_ok {K : Ctx} (F : Fx K cX8_hides 6 RX8 (some .int) 3 66 false [37, 38, 42]) {k43 : Wd → Int32 → Int32 → Int32 → Int32 → Option (Int32 × Wd)} (h43 : ∀ (w : Wd) (v1 : Int32) (v2 : Int32) (v3 : Int32) (v4 : Int32), N K rtI (k43 w v1 v2 v3 v4) w 43 [(0, .ref (gA (cg K) 37)), (1, .int v1), (2, .int v2), (3, .int v3), (4, .int v4)] []) (w : Wd) (v1 : Int32) (v3 : Int32) (v4 : Int32) (v5 : Int32) (s0 : Int32) : N K rtI (Mo_hides_B109 k43 w v1 v3 v4 v5 s0) w 109 [(0, .ref (gA (cg K) 37)), (1, .int v1), (3, .int v3), (4, .int v4), (5, .int v5)] [.int s0] := by
  rw [Mo_hides_B109]
  refine n_istore_n F (lv' := [(2, .int s0), (0, .ref (gA (cg K) 37)), (1, .int v1), (3, .int v3), (4, .int v4), (5, .int v5)]) dX8_hides_109 rfl (by decide) rfl ?_
  refine n_iload F dX8_hides_110 5 rfl ?_
  refine n_iload_n F dX8_hides_112 rfl 3 rfl ?_
  refine n_icmp_le F 121 dX8_hides_113 (by decide) (fun e12 => ?_) (fun e12 => ?_)
  · rw [if_pos e12]
    refine n_iload_n F dX8_hides_121 rfl 3 rfl ?_
    refine n_istore_n F (lv' := [(3, .int v3), (2, .int s0), (0, .ref (gA (cg K) 37)), (1, .int v1), (4, .int v4), (5, .int v5)]) dX8_hides_122 rfl (by decide) rfl ?_
    refine n_iinc F (v4 + (1 : Int32)) (lv' := [(4, .int (v4 + (1 : Int32))), (3, .int v3), (2, .int s0), (0, .ref (gA (cg K) 37)), (1, .int v1), (5, .int v5)]) dX8_hides_123 4 rfl rfl (by decide) rfl ?_
    refine n_goto F 43 dX8_hides_126 (by decide) ?_
    exact n_sub [3, 4, 2, 1, 0] rfl (h43 _ _ _ _ _)
  rw [if_neg e12]
  refine n_iload F dX8_hides_116 5 rfl ?_
  refine n_goto F 122 dX8_hides_118 (by decide) ?_
  refine n_istore_n F (lv' := [(3, .int v5), (2, .int s0), (0, .ref (gA (cg K) 37)), (1, .int v1), (4, .int v4), (5, .int v5)]) dX8_hides_122 rfl (by decide) rfl ?_
  refine n_iinc F (v4 + (1 : Int32)) (lv' := [(4, .int (v4 + (1 : Int32))), (3, .int v5), (2, .int s0), (0, .ref (gA (cg K) 37)), (1, .int v1), (5, .int v5)]) dX8_hides_123 4 rfl rfl (by decide) rfl ?_
  refine n_goto F 43 dX8_hides_126 (by decide) ?_
  exact n_sub [3, 4, 2, 1, 0] rfl (h43 _ _ _ _ _)
def Mo_hides_L43 (k129 : Wd → Int32 → Int32 → Int32 → Option (Int32 × Wd)) : Nat → Wd → Int32 → Int32 → Int32 → Int32 → Option (Int32 × Wd)
  | 0, _, _, _, _, _ => none
  | n + 1, w, v1, v2, v3, v4 => (if (w.1 37 8) ≤ v4 then (k129 w v1 v2 v3) else (Option.bind (Mo_hisTrains w) (fun q5 => (if (Mo_has w q5 v4) = (0 : Int32) then (Mo_hides_L43 k129 n w v1 v2 v3 (v4 + (1 : Int32))) else (if ib (((6 : Int32) * v4) + (5 : Int32)) 72 = true then (Option.bind (Mo_layBy w (w.1 42 (Int32.toNatClampNeg (((6 : Int32) * v4) + (5 : Int32))))) (fun q8 => (Option.bind (Mo_bits q8 (q8.1 37 18)) (fun q9 => (Option.bind (Mo_bits q8 (q8.1 37 19)) (fun q10 => (Mo_hides_B109 (Mo_hides_L43 k129 n) q8 v1 v3 v4 (q9 + q10) (if (q9 + q10) ≤ v3 then v2 else v4)))))))) else none)))))
set_option maxRecDepth 100000 in
set_option maxHeartbeats 4000000 in
theorem Mo_hides_L43_ok {K : Ctx} (F : Fx K cX8_hides 6 RX8 (some .int) 3 66 false [37, 38, 42]) {k129 : Wd → Int32 → Int32 → Int32 → Option (Int32 × Wd)} (h129 : ∀ (w : Wd) (v1 : Int32) (v2 : Int32) (v3 : Int32), N K rtI (k129 w v1 v2 v3) w 129 [(1, .int v1), (2, .int v2), (3, .int v3)] []) : ∀ (n : Nat) (w : Wd) (v1 : Int32) (v2 : Int32) (v3 : Int32) (v4 : Int32), N K rtI (Mo_hides_L43 k129 n w v1 v2 v3 v4) w 43 [(0, .ref (gA (cg K) 37)), (1, .int v1), (2, .int v2), (3, .int v3), (4, .int v4)] [] := by
  intro n
  induction n with
  | zero => intro _ _ _ _ _; exact n_none
  | succ n ih =>
    intro w v1 v2 v3 v4
    rw [Mo_hides_L43]
    refine n_iload F dX8_hides_43 4 rfl ?_
    refine n_aload_n F dX8_hides_45 rfl 0 rfl ?_
    refine n_get F ck_8 lf_RX8_131 (by decide) fg_37_8 (by decide) dX8_hides_46 ?_
    refine n_icmp_ge F 129 dX8_hides_49 (by decide) (fun e4 => ?_) (fun e4 => ?_)
    · rw [if_pos e4]
      exact n_sub [1, 2, 3] rfl (h129 _ _ _ _)
    rw [if_neg e4]
    refine n_aload_n F dX8_hides_52 rfl 0 rfl ?_
    refine n_bind (fun q5 hq5 => ?_)
    refine n_callVi F cb_X8_hisTrains lm_RX8_161 ob_37 (by decide) ⟨_, _, rfl⟩ (ct_Mo_hisTrains (fx_ok F) (fx_sd F) (fx_ix F rfl) w hq5) rfl rfl (Nat.le_of_ble_eq_true rfl) ⟨Nat.le_of_ble_eq_true rfl, Nat.le_of_ble_eq_true rfl⟩ dX8_hides_53 ?_
    refine n_iload F dX8_hides_56 4 rfl ?_
    refine n_callSi F cb_X8_has lm_RX8_164 (ct_Mo_has (fx_ok F) (fx_sd F) (fx_ix F rfl) w q5 v4) rfl rfl (Nat.le_of_ble_eq_true rfl) ⟨Nat.le_of_ble_eq_true rfl, Nat.le_of_ble_eq_true rfl⟩ dX8_hides_58 ?_
    refine n_if_eq F 123 dX8_hides_61 (by decide) (fun e6 => ?_) (fun e6 => ?_)
    · rw [if_pos e6]
      refine n_iinc F (v4 + (1 : Int32)) (lv' := [(4, .int (v4 + (1 : Int32))), (0, .ref (gA (cg K) 37)), (1, .int v1), (2, .int v2), (3, .int v3)]) dX8_hides_123 4 rfl rfl (by decide) rfl ?_
      refine n_goto F 43 dX8_hides_126 (by decide) ?_
      exact n_sub [1, 2, 3, 4, 0] rfl (ih _ _ _ _ _)
    rw [if_neg e6]
    refine n_aload_n F dX8_hides_64 rfl 0 rfl ?_
    refine n_aload_n F dX8_hides_65 rfl 0 rfl ?_
    refine n_get F ck_8 lf_RX8_27 (by decide) fg_37_7 (by decide) dX8_hides_66 ?_
    refine n_bipush F (6 : Int32) dX8_hides_69 (by decide) ?_
    refine n_iload F dX8_hides_71 4 rfl ?_
    refine n_imul F dX8_hides_73 ?_
    refine n_iconst F (5 : Int32) dX8_hides_74 (by decide) ?_
    refine n_iadd F dX8_hides_75 ?_
    refine n_chk (fun e7 => ?_)
    refine n_iald F ar_42 (by decide) (ib_in e7) rfl dX8_hides_76 ?_
    refine n_bind (fun q8 hq8 => ?_)
    refine n_callVv F cb_X8_layBy lm_RX8_180 ob_37 (by decide) ⟨_, _, rfl⟩ (ct_Mo_layBy (fx_ok F) (fx_sd F) (fx_ix F rfl) w (w.1 42 (Int32.toNatClampNeg (((6 : Int32) * v4) + (5 : Int32)))) hq8) rfl rfl (Nat.le_of_ble_eq_true rfl) ⟨Nat.le_of_ble_eq_true rfl, Nat.le_of_ble_eq_true rfl⟩ dX8_hides_77 ?_
    refine n_aload_n F dX8_hides_80 rfl 0 rfl ?_
    refine n_get F ck_8 lf_RX8_171 (by decide) fg_37_18 (by decide) dX8_hides_81 ?_
    refine n_bind (fun q9 hq9 => ?_)
    refine n_callSi F cb_X8_bits lm_RX8_193 (ct_Mo_bits (fx_ok F) (fx_sd F) (fx_ix F rfl) q8 (q8.1 37 18) hq9) rfl rfl (Nat.le_of_ble_eq_true rfl) ⟨Nat.le_of_ble_eq_true rfl, Nat.le_of_ble_eq_true rfl⟩ dX8_hides_84 ?_
    refine n_aload_n F dX8_hides_87 rfl 0 rfl ?_
    refine n_get F ck_8 lf_RX8_174 (by decide) fg_37_19 (by decide) dX8_hides_88 ?_
    refine n_bind (fun q10 hq10 => ?_)
    refine n_callSi F cb_X8_bits lm_RX8_193 (ct_Mo_bits (fx_ok F) (fx_sd F) (fx_ix F rfl) q8 (q8.1 37 19) hq10) rfl rfl (Nat.le_of_ble_eq_true rfl) ⟨Nat.le_of_ble_eq_true rfl, Nat.le_of_ble_eq_true rfl⟩ dX8_hides_91 ?_
    refine n_iadd F dX8_hides_94 ?_
    refine n_istore F (lv' := [(5, .int (q9 + q10)), (0, .ref (gA (cg K) 37)), (1, .int v1), (2, .int v2), (3, .int v3), (4, .int v4)]) dX8_hides_95 (by decide) rfl ?_
    refine n_iload F dX8_hides_97 0 rfl ?_
    refine n_iload_n F dX8_hides_99 rfl 4 rfl ?_
    refine n_icmp_le F 108 dX8_hides_100 (by decide) (fun e11 => ?_) (fun e11 => ?_)
    · rw [if_pos e11]
      refine n_iload_n F dX8_hides_108 rfl 3 rfl ?_
      exact n_sub [1, 2, 4, 5, 0] rfl (Mo_hides_B109_ok F ih _ _ _ _ _ _)
    rw [if_neg e11]
    refine n_iload F dX8_hides_103 5 rfl ?_
    refine n_goto F 109 dX8_hides_105 (by decide) ?_
    exact n_sub [1, 2, 4, 5, 0] rfl (Mo_hides_B109_ok F ih _ _ _ _ _ _)
def Mo_hides_B129 (w : Wd) (v1 : Int32) (v2 : Int32) (v3 : Int32) : Option (Int32 × Wd) := (if v1 = (0 : Int32) then some (v2, w) else some (v3, w))
set_option maxRecDepth 100000 in
set_option maxHeartbeats 4000000 in
theorem Mo_hides_B129_ok {K : Ctx} (F : Fx K cX8_hides 6 RX8 (some .int) 3 66 false [37, 38, 42]) (w : Wd) (v1 : Int32) (v2 : Int32) (v3 : Int32) : N K rtI (Mo_hides_B129 w v1 v2 v3) w 129 [(1, .int v1), (2, .int v2), (3, .int v3)] [] := by
  rw [Mo_hides_B129]
  refine n_iload_n F dX8_hides_129 rfl 0 rfl ?_
  refine n_if_ne F 137 dX8_hides_130 (by decide) (fun e13 => ?_) (fun e13 => ?_)
  · rw [if_neg e13]
    refine n_iload_n F dX8_hides_137 rfl 2 rfl ?_
    exact n_iret F rfl rfl dX8_hides_138
  rw [if_pos e13]
  refine n_iload_n F dX8_hides_133 rfl 1 rfl ?_
  refine n_goto F 138 dX8_hides_134 (by decide) ?_
  exact n_iret F rfl rfl dX8_hides_138
def Mo_hides (w : Wd) (a1 : Int32) : Option (Int32 × Wd) := (if (Mo_in w (Int32.toInt64 a1) (0 : Int64) (1 : Int64)) = (0 : Int32) then some ((-3 : Int32), w) else (if (w.1 38 3) = (1 : Int32) then some ((-4 : Int32), w) else (if (w.1 38 2) = (1 : Int32) then some ((-4 : Int32), w) else (Mo_hides_L43 Mo_hides_B129 FU w a1 (-1 : Int32) (-1 : Int32) (0 : Int32)))))
set_option maxRecDepth 100000 in
set_option maxHeartbeats 4000000 in
theorem ct_Mo_hides {l : Launch} {g : GG} {σ : Sd} (hg : OKg g σ) (hb : σ.2.1 = false) (hx : ∀ c ∈ ([37, 38, 42] : List Nat), c ∈ σ.1) (w : Wd) (a1 : Int32) {q : Int32 × Wd} (hq : Mo_hides w a1 = some q) : CT l g σ yX8_hides cX8_hides 6 (some .int) 3 66 [.ref (gA g 37), .int a1] w (some (.int q.1)) q.2 := by
  refine ct_of (rt := rtI) (res := Mo_hides w a1) (q := q) (own := RX8) (b := false) hg hb hx (by decide) rfl (Nat.le_of_ble_eq_true rfl) hq (fun K e1 e2 e3 F => ?_)
  subst e1 e2 e3
  rw [Mo_hides]
  show N K _ _ w 0 [(0, .ref (gA (cg K) 37)), (1, .int a1)] []
  refine n_iload_n F dX8_hides_0 rfl 1 rfl ?_
  refine n_i2l F dX8_hides_1 ?_
  refine n_lconst F (0 : Int64) dX8_hides_2 (by decide) ?_
  refine n_lconst F (1 : Int64) dX8_hides_3 (by decide) ?_
  refine n_callSi F cb_X8_in lm_RX8_63 (ct_Mo_in (fx_ok F) (fx_sd F) (fx_ix F rfl) w (Int32.toInt64 a1) (0 : Int64) (1 : Int64)) rfl rfl (Nat.le_of_ble_eq_true rfl) ⟨Nat.le_of_ble_eq_true rfl, Nat.le_of_ble_eq_true rfl⟩ dX8_hides_4 ?_
  refine n_if_ne F 13 dX8_hides_7 (by decide) (fun e1 => ?_) (fun e1 => ?_)
  · rw [if_neg e1]
    refine n_aload_n F dX8_hides_13 rfl 0 rfl ?_
    refine n_get F ck_8 lf_RX8_7 (by decide) fg_37_0 (by decide) dX8_hides_14 ?_
    refine n_iconst F (3 : Int32) dX8_hides_17 (by decide) ?_
    refine n_iald F ar_38 (by decide) (ib_c (n := 45) (by decide)) (j := 3) (by decide) dX8_hides_18 ?_
    refine n_iconst F (1 : Int32) dX8_hides_19 (by decide) ?_
    refine n_icmp_eq F 33 dX8_hides_20 (by decide) (fun e2 => ?_) (fun e2 => ?_)
    · rw [if_pos e2]
      refine n_bipush F (-4 : Int32) dX8_hides_33 (by decide) ?_
      exact n_iret F rfl rfl dX8_hides_35
    rw [if_neg e2]
    refine n_aload_n F dX8_hides_23 rfl 0 rfl ?_
    refine n_get F ck_8 lf_RX8_7 (by decide) fg_37_0 (by decide) dX8_hides_24 ?_
    refine n_iconst F (2 : Int32) dX8_hides_27 (by decide) ?_
    refine n_iald F ar_38 (by decide) (ib_c (n := 45) (by decide)) (j := 2) (by decide) dX8_hides_28 ?_
    refine n_iconst F (1 : Int32) dX8_hides_29 (by decide) ?_
    refine n_icmp_ne F 36 dX8_hides_30 (by decide) (fun e3 => ?_) (fun e3 => ?_)
    · rw [if_neg e3]
      refine n_iconst F (-1 : Int32) dX8_hides_36 (by decide) ?_
      refine n_istore_n F (lv' := [(2, .int (-1 : Int32)), (0, .ref (gA (cg K) 37)), (1, .int a1)]) dX8_hides_37 rfl (by decide) rfl ?_
      refine n_iconst F (-1 : Int32) dX8_hides_38 (by decide) ?_
      refine n_istore_n F (lv' := [(3, .int (-1 : Int32)), (2, .int (-1 : Int32)), (0, .ref (gA (cg K) 37)), (1, .int a1)]) dX8_hides_39 rfl (by decide) rfl ?_
      refine n_iconst F (0 : Int32) dX8_hides_40 (by decide) ?_
      refine n_istore F (lv' := [(4, .int (0 : Int32)), (3, .int (-1 : Int32)), (2, .int (-1 : Int32)), (0, .ref (gA (cg K) 37)), (1, .int a1)]) dX8_hides_41 (by decide) rfl ?_
      exact n_sub [3, 4, 2, 1, 0] rfl (Mo_hides_L43_ok F (Mo_hides_B129_ok F) FU _ _ _ _ _)
    rw [if_pos e3]
    refine n_bipush F (-4 : Int32) dX8_hides_33 (by decide) ?_
    exact n_iret F rfl rfl dX8_hides_35
  rw [if_pos e1]
  refine n_bipush F (-3 : Int32) dX8_hides_10 (by decide) ?_
  exact n_iret F rfl rfl dX8_hides_12
theorem dX8_placeOf_0 : decode cX8_placeOf 0 = .ok (.iload_n 0, 1) := by decide +kernel
theorem dX8_placeOf_1 : decode cX8_placeOf 1 = .ok (.bipush 8, 2) := by decide +kernel
theorem dX8_placeOf_3 : decode cX8_placeOf 3 = .ok (.imul, 1) := by decide +kernel
theorem dX8_placeOf_4 : decode cX8_placeOf 4 = .ok (.iload_n 1, 1) := by decide +kernel
theorem dX8_placeOf_5 : decode cX8_placeOf 5 = .ok (.iadd, 1) := by decide +kernel
theorem dX8_placeOf_6 : decode cX8_placeOf 6 = .ok (.bipush 8, 2) := by decide +kernel
theorem dX8_placeOf_8 : decode cX8_placeOf 8 = .ok (.imul, 1) := by decide +kernel
theorem dX8_placeOf_9 : decode cX8_placeOf 9 = .ok (.iload_n 2, 1) := by decide +kernel
theorem dX8_placeOf_10 : decode cX8_placeOf 10 = .ok (.iadd, 1) := by decide +kernel
theorem dX8_placeOf_11 : decode cX8_placeOf 11 = .ok (.bipush 8, 2) := by decide +kernel
theorem dX8_placeOf_13 : decode cX8_placeOf 13 = .ok (.imul, 1) := by decide +kernel
theorem dX8_placeOf_14 : decode cX8_placeOf 14 = .ok (.iload_n 3, 1) := by decide +kernel
theorem dX8_placeOf_15 : decode cX8_placeOf 15 = .ok (.iadd, 1) := by decide +kernel
theorem dX8_placeOf_16 : decode cX8_placeOf 16 = .ok (.ireturn, 1) := by decide +kernel
def Mo_placeOf (w : Wd) (a1 : Int32) (a2 : Int32) (a3 : Int32) (a4 : Int32) : Int32 := ((((((a1 * (8 : Int32)) + a2) * (8 : Int32)) + a3) * (8 : Int32)) + a4)
set_option maxRecDepth 100000 in
set_option maxHeartbeats 4000000 in
theorem ct_Mo_placeOf {l : Launch} {g : GG} {σ : Sd} (hg : OKg g σ) (hb : σ.2.1 = false) (hx : ∀ c ∈ ([] : List Nat), c ∈ σ.1) (w : Wd) (a1 : Int32) (a2 : Int32) (a3 : Int32) (a4 : Int32) : CT l g σ yX8_placeOf cX8_placeOf 4 (some .int) 0 0 [.int a1, .int a2, .int a3, .int a4] w (some (.int (Mo_placeOf w a1 a2 a3 a4))) w := by
  refine ct_of (rt := (rtP w)) (res := some (Mo_placeOf w a1 a2 a3 a4)) (q := (Mo_placeOf w a1 a2 a3 a4)) (own := RX8) (b := false) hg hb hx (by decide) rfl (Nat.le_of_ble_eq_true rfl) rfl (fun K e1 e2 e3 F => ?_)
  subst e1 e2 e3
  rw [Mo_placeOf]
  show N K _ _ w 0 [(0, .int a1), (1, .int a2), (2, .int a3), (3, .int a4)] []
  refine n_iload_n F dX8_placeOf_0 rfl 0 rfl ?_
  refine n_bipush F (8 : Int32) dX8_placeOf_1 (by decide) ?_
  refine n_imul F dX8_placeOf_3 ?_
  refine n_iload_n F dX8_placeOf_4 rfl 1 rfl ?_
  refine n_iadd F dX8_placeOf_5 ?_
  refine n_bipush F (8 : Int32) dX8_placeOf_6 (by decide) ?_
  refine n_imul F dX8_placeOf_8 ?_
  refine n_iload_n F dX8_placeOf_9 rfl 2 rfl ?_
  refine n_iadd F dX8_placeOf_10 ?_
  refine n_bipush F (8 : Int32) dX8_placeOf_11 (by decide) ?_
  refine n_imul F dX8_placeOf_13 ?_
  refine n_iload_n F dX8_placeOf_14 rfl 3 rfl ?_
  refine n_iadd F dX8_placeOf_15 ?_
  exact n_iret F rfl rfl dX8_placeOf_16
theorem dX8_worst_0 : decode cX8_worst 0 = .ok (.iconst 0, 1) := by decide +kernel
theorem dX8_worst_1 : decode cX8_worst 1 = .ok (.istore 5, 2) := by decide +kernel
theorem dX8_worst_3 : decode cX8_worst 3 = .ok (.iconst 0, 1) := by decide +kernel
theorem dX8_worst_4 : decode cX8_worst 4 = .ok (.istore 6, 2) := by decide +kernel
theorem dX8_worst_6 : decode cX8_worst 6 = .ok (.iload 6, 2) := by decide +kernel
theorem dX8_worst_8 : decode cX8_worst 8 = .ok (.aload_n 0, 1) := by decide +kernel
theorem dX8_worst_9 : decode cX8_worst 9 = .ok (.getfield 23, 3) := by decide +kernel
theorem dX8_worst_12 : decode cX8_worst 12 = .ok (.if_icmp .ge 52, 3) := by decide +kernel
theorem dX8_worst_15 : decode cX8_worst 15 = .ok (.iload_n 2, 1) := by decide +kernel
theorem dX8_worst_16 : decode cX8_worst 16 = .ok (.iload 6, 2) := by decide +kernel
theorem dX8_worst_18 : decode cX8_worst 18 = .ok (.invokestatic 164, 3) := by decide +kernel
theorem dX8_worst_21 : decode cX8_worst 21 = .ok (.ifCond .eq 37, 3) := by decide +kernel
theorem dX8_worst_24 : decode cX8_worst 24 = .ok (.aload_n 0, 1) := by decide +kernel
theorem dX8_worst_25 : decode cX8_worst 25 = .ok (.getfield 39, 3) := by decide +kernel
theorem dX8_worst_28 : decode cX8_worst 28 = .ok (.iload_n 1, 1) := by decide +kernel
theorem dX8_worst_29 : decode cX8_worst 29 = .ok (.iconst 1, 1) := by decide +kernel
theorem dX8_worst_30 : decode cX8_worst 30 = .ok (.iadd, 1) := by decide +kernel
theorem dX8_worst_31 : decode cX8_worst 31 = .ok (.iload 6, 2) := by decide +kernel
theorem dX8_worst_33 : decode cX8_worst 33 = .ok (.iload_n 3, 1) := by decide +kernel
theorem dX8_worst_34 : decode cX8_worst 34 = .ok (.iload 4, 2) := by decide +kernel
theorem dX8_worst_36 : decode cX8_worst 36 = .ok (.invokestatic 196, 3) := by decide +kernel
theorem dX8_worst_39 : decode cX8_worst 39 = .ok (.iaload, 1) := by decide +kernel
theorem dX8_worst_40 : decode cX8_worst 40 = .ok (.istore 7, 2) := by decide +kernel
theorem dX8_worst_42 : decode cX8_worst 42 = .ok (.iload 7, 2) := by decide +kernel
theorem dX8_worst_44 : decode cX8_worst 44 = .ok (.iload 5, 2) := by decide +kernel
theorem dX8_worst_46 : decode cX8_worst 46 = .ok (.if_icmp .le 8, 3) := by decide +kernel
theorem dX8_worst_49 : decode cX8_worst 49 = .ok (.iload 7, 2) := by decide +kernel
theorem dX8_worst_51 : decode cX8_worst 51 = .ok (.goto 5, 3) := by decide +kernel
theorem dX8_worst_54 : decode cX8_worst 54 = .ok (.iload 5, 2) := by decide +kernel
theorem dX8_worst_56 : decode cX8_worst 56 = .ok (.istore 5, 2) := by decide +kernel
theorem dX8_worst_58 : decode cX8_worst 58 = .ok (.iinc 6 1, 3) := by decide +kernel
theorem dX8_worst_61 : decode cX8_worst 61 = .ok (.goto (-55), 3) := by decide +kernel
theorem dX8_worst_64 : decode cX8_worst 64 = .ok (.iload 5, 2) := by decide +kernel
theorem dX8_worst_66 : decode cX8_worst 66 = .ok (.ireturn, 1) := by decide +kernel
def Mo_worst_L6 (w : Wd) (k64 : Int32 → Option Int32) : Nat → Int32 → Int32 → Int32 → Int32 → Int32 → Int32 → Option Int32
  | 0, _, _, _, _, _, _ => none
  | n + 1, v1, v2, v3, v4, v5, v6 => (if (w.1 37 6) ≤ v6 then (k64 v5) else (if (Mo_has w v2 v6) = (0 : Int32) then (Mo_worst_L6 w k64 n v1 v2 v3 v4 v5 (v6 + (1 : Int32))) else (if ib (Mo_placeOf w (v1 + (1 : Int32)) v6 v3 v4) 6656 = true then (Mo_worst_L6 w k64 n v1 v2 v3 v4 (if (w.1 45 (Int32.toNatClampNeg (Mo_placeOf w (v1 + (1 : Int32)) v6 v3 v4))) ≤ v5 then v5 else (w.1 45 (Int32.toNatClampNeg (Mo_placeOf w (v1 + (1 : Int32)) v6 v3 v4)))) (v6 + (1 : Int32))) else none)))
set_option maxRecDepth 100000 in
set_option maxHeartbeats 4000000 in
theorem Mo_worst_L6_ok {K : Ctx} (F : Fx K cX8_worst 8 RX8 (some .int) 1 23 false [37, 45]) (w : Wd) {k64 : Int32 → Option Int32} (h64 : ∀ (v5 : Int32), N K (rtP w) (k64 v5) w 64 [(5, .int v5)] []) : ∀ (n : Nat) (v1 : Int32) (v2 : Int32) (v3 : Int32) (v4 : Int32) (v5 : Int32) (v6 : Int32), N K (rtP w) (Mo_worst_L6 w k64 n v1 v2 v3 v4 v5 v6) w 6 [(0, .ref (gA (cg K) 37)), (1, .int v1), (2, .int v2), (3, .int v3), (4, .int v4), (5, .int v5), (6, .int v6)] [] := by
  intro n
  induction n with
  | zero => intro _ _ _ _ _ _; exact n_none
  | succ n ih =>
    intro v1 v2 v3 v4 v5 v6
    rw [Mo_worst_L6]
    refine n_iload F dX8_worst_6 6 rfl ?_
    refine n_aload_n F dX8_worst_8 rfl 0 rfl ?_
    refine n_get F ck_8 lf_RX8_23 (by decide) fg_37_6 (by decide) dX8_worst_9 ?_
    refine n_icmp_ge F 64 dX8_worst_12 (by decide) (fun e1 => ?_) (fun e1 => ?_)
    · rw [if_pos e1]
      exact n_sub [5] rfl (h64 _)
    rw [if_neg e1]
    refine n_iload_n F dX8_worst_15 rfl 2 rfl ?_
    refine n_iload F dX8_worst_16 6 rfl ?_
    refine n_callSi F cb_X8_has lm_RX8_164 (ct_Mo_has (fx_ok F) (fx_sd F) (fx_ix F rfl) w v2 v6) rfl rfl (Nat.le_of_ble_eq_true rfl) ⟨Nat.le_of_ble_eq_true rfl, Nat.le_of_ble_eq_true rfl⟩ dX8_worst_18 ?_
    refine n_if_eq F 58 dX8_worst_21 (by decide) (fun e2 => ?_) (fun e2 => ?_)
    · rw [if_pos e2]
      refine n_iinc F (v6 + (1 : Int32)) (lv' := [(6, .int (v6 + (1 : Int32))), (0, .ref (gA (cg K) 37)), (1, .int v1), (2, .int v2), (3, .int v3), (4, .int v4), (5, .int v5)]) dX8_worst_58 6 rfl rfl (by decide) rfl ?_
      refine n_goto F 6 dX8_worst_61 (by decide) ?_
      exact n_sub [1, 2, 3, 4, 5, 6, 0] rfl (ih _ _ _ _ _ _)
    rw [if_neg e2]
    refine n_aload_n F dX8_worst_24 rfl 0 rfl ?_
    refine n_get F ck_8 lf_RX8_39 (by decide) fg_37_20 (by decide) dX8_worst_25 ?_
    refine n_iload_n F dX8_worst_28 rfl 1 rfl ?_
    refine n_iconst F (1 : Int32) dX8_worst_29 (by decide) ?_
    refine n_iadd F dX8_worst_30 ?_
    refine n_iload F dX8_worst_31 6 rfl ?_
    refine n_iload_n F dX8_worst_33 rfl 3 rfl ?_
    refine n_iload F dX8_worst_34 4 rfl ?_
    refine n_callSi F cb_X8_placeOf lm_RX8_196 (ct_Mo_placeOf (fx_ok F) (fx_sd F) (fx_ix F rfl) w (v1 + (1 : Int32)) v6 v3 v4) rfl rfl (Nat.le_of_ble_eq_true rfl) ⟨Nat.le_of_ble_eq_true rfl, Nat.le_of_ble_eq_true rfl⟩ dX8_worst_36 ?_
    refine n_chk (fun e3 => ?_)
    refine n_iald F ar_45 (by decide) (ib_in e3) rfl dX8_worst_39 ?_
    refine n_istore F (lv' := [(7, .int (w.1 45 (Int32.toNatClampNeg (Mo_placeOf w (v1 + (1 : Int32)) v6 v3 v4)))), (0, .ref (gA (cg K) 37)), (1, .int v1), (2, .int v2), (3, .int v3), (4, .int v4), (5, .int v5), (6, .int v6)]) dX8_worst_40 (by decide) rfl ?_
    refine n_iload F dX8_worst_42 0 rfl ?_
    refine n_iload F dX8_worst_44 6 rfl ?_
    refine n_icmp_le F 54 dX8_worst_46 (by decide) (fun e4 => ?_) (fun e4 => ?_)
    · rw [if_pos e4]
      refine n_iload F dX8_worst_54 6 rfl ?_
      refine n_istore F (lv' := [(5, .int v5), (7, .int (w.1 45 (Int32.toNatClampNeg (Mo_placeOf w (v1 + (1 : Int32)) v6 v3 v4)))), (0, .ref (gA (cg K) 37)), (1, .int v1), (2, .int v2), (3, .int v3), (4, .int v4), (6, .int v6)]) dX8_worst_56 (by decide) rfl ?_
      refine n_iinc F (v6 + (1 : Int32)) (lv' := [(6, .int (v6 + (1 : Int32))), (5, .int v5), (7, .int (w.1 45 (Int32.toNatClampNeg (Mo_placeOf w (v1 + (1 : Int32)) v6 v3 v4)))), (0, .ref (gA (cg K) 37)), (1, .int v1), (2, .int v2), (3, .int v3), (4, .int v4)]) dX8_worst_58 7 rfl rfl (by decide) rfl ?_
      refine n_goto F 6 dX8_worst_61 (by decide) ?_
      exact n_sub [3, 4, 5, 6, 7, 1, 0] rfl (ih _ _ _ _ _ _)
    rw [if_neg e4]
    refine n_iload F dX8_worst_49 0 rfl ?_
    refine n_goto F 56 dX8_worst_51 (by decide) ?_
    refine n_istore F (lv' := [(5, .int (w.1 45 (Int32.toNatClampNeg (Mo_placeOf w (v1 + (1 : Int32)) v6 v3 v4)))), (7, .int (w.1 45 (Int32.toNatClampNeg (Mo_placeOf w (v1 + (1 : Int32)) v6 v3 v4)))), (0, .ref (gA (cg K) 37)), (1, .int v1), (2, .int v2), (3, .int v3), (4, .int v4), (6, .int v6)]) dX8_worst_56 (by decide) rfl ?_
    refine n_iinc F (v6 + (1 : Int32)) (lv' := [(6, .int (v6 + (1 : Int32))), (5, .int (w.1 45 (Int32.toNatClampNeg (Mo_placeOf w (v1 + (1 : Int32)) v6 v3 v4)))), (7, .int (w.1 45 (Int32.toNatClampNeg (Mo_placeOf w (v1 + (1 : Int32)) v6 v3 v4)))), (0, .ref (gA (cg K) 37)), (1, .int v1), (2, .int v2), (3, .int v3), (4, .int v4)]) dX8_worst_58 7 rfl rfl (by decide) rfl ?_
    refine n_goto F 6 dX8_worst_61 (by decide) ?_
    exact n_sub [3, 4, 5, 6, 7, 1, 0] rfl (ih _ _ _ _ _ _)
def Mo_worst_B64 (w : Wd) (v5 : Int32) : Option Int32 := some v5
set_option maxRecDepth 100000 in
set_option maxHeartbeats 4000000 in
theorem Mo_worst_B64_ok {K : Ctx} (F : Fx K cX8_worst 8 RX8 (some .int) 1 23 false [37, 45]) (w : Wd) (v5 : Int32) : N K (rtP w) (Mo_worst_B64 w v5) w 64 [(5, .int v5)] [] := by
  rw [Mo_worst_B64]
  refine n_iload F dX8_worst_64 0 rfl ?_
  exact n_iret F rfl rfl dX8_worst_66
def Mo_worst (w : Wd) (a1 : Int32) (a2 : Int32) (a3 : Int32) (a4 : Int32) : Option Int32 := (Mo_worst_L6 w (Mo_worst_B64 w) FU a1 a2 a3 a4 (0 : Int32) (0 : Int32))
set_option maxRecDepth 100000 in
set_option maxHeartbeats 4000000 in
theorem ct_Mo_worst {l : Launch} {g : GG} {σ : Sd} (hg : OKg g σ) (hb : σ.2.1 = false) (hx : ∀ c ∈ ([37, 45] : List Nat), c ∈ σ.1) (w : Wd) (a1 : Int32) (a2 : Int32) (a3 : Int32) (a4 : Int32) {q : Int32} (hq : Mo_worst w a1 a2 a3 a4 = some q) : CT l g σ yX8_worst cX8_worst 8 (some .int) 1 23 [.ref (gA g 37), .int a1, .int a2, .int a3, .int a4] w (some (.int q)) w := by
  refine ct_of (rt := (rtP w)) (res := Mo_worst w a1 a2 a3 a4) (q := q) (own := RX8) (b := false) hg hb hx (by decide) rfl (Nat.le_of_ble_eq_true rfl) hq (fun K e1 e2 e3 F => ?_)
  subst e1 e2 e3
  rw [Mo_worst]
  show N K _ _ w 0 [(0, .ref (gA (cg K) 37)), (1, .int a1), (2, .int a2), (3, .int a3), (4, .int a4)] []
  refine n_iconst F (0 : Int32) dX8_worst_0 (by decide) ?_
  refine n_istore F (lv' := [(5, .int (0 : Int32)), (0, .ref (gA (cg K) 37)), (1, .int a1), (2, .int a2), (3, .int a3), (4, .int a4)]) dX8_worst_1 (by decide) rfl ?_
  refine n_iconst F (0 : Int32) dX8_worst_3 (by decide) ?_
  refine n_istore F (lv' := [(6, .int (0 : Int32)), (5, .int (0 : Int32)), (0, .ref (gA (cg K) 37)), (1, .int a1), (2, .int a2), (3, .int a3), (4, .int a4)]) dX8_worst_4 (by decide) rfl ?_
  exact n_sub [2, 3, 4, 5, 6, 1, 0] rfl (Mo_worst_L6_ok F w (Mo_worst_B64_ok F w) FU _ _ _ _ _ _)
theorem dX8_bestFrom_0 : decode cX8_bestFrom 0 = .ok (.iload_n 2, 1) := by decide +kernel
theorem dX8_bestFrom_1 : decode cX8_bestFrom 1 = .ok (.iload_n 3, 1) := by decide +kernel
theorem dX8_bestFrom_2 : decode cX8_bestFrom 2 = .ok (.if_icmp .eq 9, 3) := by decide +kernel
theorem dX8_bestFrom_5 : decode cX8_bestFrom 5 = .ok (.iload_n 2, 1) := by decide +kernel
theorem dX8_bestFrom_6 : decode cX8_bestFrom 6 = .ok (.iload 4, 2) := by decide +kernel
theorem dX8_bestFrom_8 : decode cX8_bestFrom 8 = .ok (.if_icmp .ne 5, 3) := by decide +kernel
theorem dX8_bestFrom_11 : decode cX8_bestFrom 11 = .ok (.iconst 0, 1) := by decide +kernel
theorem dX8_bestFrom_12 : decode cX8_bestFrom 12 = .ok (.ireturn, 1) := by decide +kernel
theorem dX8_bestFrom_13 : decode cX8_bestFrom 13 = .ok (.iload_n 1, 1) := by decide +kernel
theorem dX8_bestFrom_14 : decode cX8_bestFrom 14 = .ok (.bipush 12, 2) := by decide +kernel
theorem dX8_bestFrom_16 : decode cX8_bestFrom 16 = .ok (.if_icmp .ne 6, 3) := by decide +kernel
theorem dX8_bestFrom_19 : decode cX8_bestFrom 19 = .ok (.bipush 99, 2) := by decide +kernel
theorem dX8_bestFrom_21 : decode cX8_bestFrom 21 = .ok (.ireturn, 1) := by decide +kernel
theorem dX8_bestFrom_22 : decode cX8_bestFrom 22 = .ok (.aload_n 0, 1) := by decide +kernel
theorem dX8_bestFrom_23 : decode cX8_bestFrom 23 = .ok (.getfield 7, 3) := by decide +kernel
theorem dX8_bestFrom_26 : decode cX8_bestFrom 26 = .ok (.iconst 0, 1) := by decide +kernel
theorem dX8_bestFrom_27 : decode cX8_bestFrom 27 = .ok (.iaload, 1) := by decide +kernel
theorem dX8_bestFrom_28 : decode cX8_bestFrom 28 = .ok (.iload_n 1, 1) := by decide +kernel
theorem dX8_bestFrom_29 : decode cX8_bestFrom 29 = .ok (.iadd, 1) := by decide +kernel
theorem dX8_bestFrom_30 : decode cX8_bestFrom 30 = .ok (.istore 6, 2) := by decide +kernel
theorem dX8_bestFrom_32 : decode cX8_bestFrom 32 = .ok (.aload_n 0, 1) := by decide +kernel
theorem dX8_bestFrom_33 : decode cX8_bestFrom 33 = .ok (.iload_n 2, 1) := by decide +kernel
theorem dX8_bestFrom_34 : decode cX8_bestFrom 34 = .ok (.iload 6, 2) := by decide +kernel
theorem dX8_bestFrom_36 : decode cX8_bestFrom 36 = .ok (.iload 5, 2) := by decide +kernel
theorem dX8_bestFrom_38 : decode cX8_bestFrom 38 = .ok (.invokevirtual 186, 3) := by decide +kernel
theorem dX8_bestFrom_41 : decode cX8_bestFrom 41 = .ok (.istore 7, 2) := by decide +kernel
theorem dX8_bestFrom_43 : decode cX8_bestFrom 43 = .ok (.iload 7, 2) := by decide +kernel
theorem dX8_bestFrom_45 : decode cX8_bestFrom 45 = .ok (.ifCond .ne 9, 3) := by decide +kernel
theorem dX8_bestFrom_48 : decode cX8_bestFrom 48 = .ok (.iconst 1, 1) := by decide +kernel
theorem dX8_bestFrom_49 : decode cX8_bestFrom 49 = .ok (.iload_n 2, 1) := by decide +kernel
theorem dX8_bestFrom_50 : decode cX8_bestFrom 50 = .ok (.ishl, 1) := by decide +kernel
theorem dX8_bestFrom_51 : decode cX8_bestFrom 51 = .ok (.goto 5, 3) := by decide +kernel
theorem dX8_bestFrom_54 : decode cX8_bestFrom 54 = .ok (.iload 7, 2) := by decide +kernel
theorem dX8_bestFrom_56 : decode cX8_bestFrom 56 = .ok (.istore 7, 2) := by decide +kernel
theorem dX8_bestFrom_58 : decode cX8_bestFrom 58 = .ok (.aload_n 0, 1) := by decide +kernel
theorem dX8_bestFrom_59 : decode cX8_bestFrom 59 = .ok (.iload_n 3, 1) := by decide +kernel
theorem dX8_bestFrom_60 : decode cX8_bestFrom 60 = .ok (.iload 6, 2) := by decide +kernel
theorem dX8_bestFrom_62 : decode cX8_bestFrom 62 = .ok (.iload 5, 2) := by decide +kernel
theorem dX8_bestFrom_64 : decode cX8_bestFrom 64 = .ok (.invokevirtual 190, 3) := by decide +kernel
theorem dX8_bestFrom_67 : decode cX8_bestFrom 67 = .ok (.istore 8, 2) := by decide +kernel
theorem dX8_bestFrom_69 : decode cX8_bestFrom 69 = .ok (.aload_n 0, 1) := by decide +kernel
theorem dX8_bestFrom_70 : decode cX8_bestFrom 70 = .ok (.iload 4, 2) := by decide +kernel
theorem dX8_bestFrom_72 : decode cX8_bestFrom 72 = .ok (.iload 6, 2) := by decide +kernel
theorem dX8_bestFrom_74 : decode cX8_bestFrom 74 = .ok (.iload 5, 2) := by decide +kernel
theorem dX8_bestFrom_76 : decode cX8_bestFrom 76 = .ok (.invokevirtual 190, 3) := by decide +kernel
theorem dX8_bestFrom_79 : decode cX8_bestFrom 79 = .ok (.istore 9, 2) := by decide +kernel
theorem dX8_bestFrom_81 : decode cX8_bestFrom 81 = .ok (.bipush 99, 2) := by decide +kernel
theorem dX8_bestFrom_83 : decode cX8_bestFrom 83 = .ok (.istore 10, 2) := by decide +kernel
theorem dX8_bestFrom_85 : decode cX8_bestFrom 85 = .ok (.iconst 0, 1) := by decide +kernel
theorem dX8_bestFrom_86 : decode cX8_bestFrom 86 = .ok (.istore 11, 2) := by decide +kernel
theorem dX8_bestFrom_88 : decode cX8_bestFrom 88 = .ok (.iload 11, 2) := by decide +kernel
theorem dX8_bestFrom_90 : decode cX8_bestFrom 90 = .ok (.bipush 64, 2) := by decide +kernel
theorem dX8_bestFrom_92 : decode cX8_bestFrom 92 = .ok (.if_icmp .ge 72, 3) := by decide +kernel
theorem dX8_bestFrom_95 : decode cX8_bestFrom 95 = .ok (.iload 8, 2) := by decide +kernel
theorem dX8_bestFrom_97 : decode cX8_bestFrom 97 = .ok (.iload 11, 2) := by decide +kernel
theorem dX8_bestFrom_99 : decode cX8_bestFrom 99 = .ok (.bipush 8, 2) := by decide +kernel
theorem dX8_bestFrom_101 : decode cX8_bestFrom 101 = .ok (.idiv, 1) := by decide +kernel
theorem dX8_bestFrom_102 : decode cX8_bestFrom 102 = .ok (.invokestatic 164, 3) := by decide +kernel
theorem dX8_bestFrom_105 : decode cX8_bestFrom 105 = .ok (.ifCond .eq 53, 3) := by decide +kernel
theorem dX8_bestFrom_108 : decode cX8_bestFrom 108 = .ok (.iload 9, 2) := by decide +kernel
theorem dX8_bestFrom_110 : decode cX8_bestFrom 110 = .ok (.iload 11, 2) := by decide +kernel
theorem dX8_bestFrom_112 : decode cX8_bestFrom 112 = .ok (.bipush 8, 2) := by decide +kernel
theorem dX8_bestFrom_114 : decode cX8_bestFrom 114 = .ok (.irem, 1) := by decide +kernel
theorem dX8_bestFrom_115 : decode cX8_bestFrom 115 = .ok (.invokestatic 164, 3) := by decide +kernel
theorem dX8_bestFrom_118 : decode cX8_bestFrom 118 = .ok (.ifCond .eq 40, 3) := by decide +kernel
theorem dX8_bestFrom_121 : decode cX8_bestFrom 121 = .ok (.iconst 1, 1) := by decide +kernel
theorem dX8_bestFrom_122 : decode cX8_bestFrom 122 = .ok (.aload_n 0, 1) := by decide +kernel
theorem dX8_bestFrom_123 : decode cX8_bestFrom 123 = .ok (.iload_n 1, 1) := by decide +kernel
theorem dX8_bestFrom_124 : decode cX8_bestFrom 124 = .ok (.iload 7, 2) := by decide +kernel
theorem dX8_bestFrom_126 : decode cX8_bestFrom 126 = .ok (.iload 11, 2) := by decide +kernel
theorem dX8_bestFrom_128 : decode cX8_bestFrom 128 = .ok (.bipush 8, 2) := by decide +kernel
theorem dX8_bestFrom_130 : decode cX8_bestFrom 130 = .ok (.idiv, 1) := by decide +kernel
theorem dX8_bestFrom_131 : decode cX8_bestFrom 131 = .ok (.iload 11, 2) := by decide +kernel
theorem dX8_bestFrom_133 : decode cX8_bestFrom 133 = .ok (.bipush 8, 2) := by decide +kernel
theorem dX8_bestFrom_135 : decode cX8_bestFrom 135 = .ok (.irem, 1) := by decide +kernel
theorem dX8_bestFrom_136 : decode cX8_bestFrom 136 = .ok (.invokevirtual 200, 3) := by decide +kernel
theorem dX8_bestFrom_139 : decode cX8_bestFrom 139 = .ok (.iadd, 1) := by decide +kernel
theorem dX8_bestFrom_140 : decode cX8_bestFrom 140 = .ok (.istore 12, 2) := by decide +kernel
theorem dX8_bestFrom_142 : decode cX8_bestFrom 142 = .ok (.iload 12, 2) := by decide +kernel
theorem dX8_bestFrom_144 : decode cX8_bestFrom 144 = .ok (.iload 10, 2) := by decide +kernel
theorem dX8_bestFrom_146 : decode cX8_bestFrom 146 = .ok (.if_icmp .ge 8, 3) := by decide +kernel
theorem dX8_bestFrom_149 : decode cX8_bestFrom 149 = .ok (.iload 12, 2) := by decide +kernel
theorem dX8_bestFrom_151 : decode cX8_bestFrom 151 = .ok (.goto 5, 3) := by decide +kernel
theorem dX8_bestFrom_154 : decode cX8_bestFrom 154 = .ok (.iload 10, 2) := by decide +kernel
theorem dX8_bestFrom_156 : decode cX8_bestFrom 156 = .ok (.istore 10, 2) := by decide +kernel
theorem dX8_bestFrom_158 : decode cX8_bestFrom 158 = .ok (.iinc 11 1, 3) := by decide +kernel
theorem dX8_bestFrom_161 : decode cX8_bestFrom 161 = .ok (.goto (-73), 3) := by decide +kernel
theorem dX8_bestFrom_164 : decode cX8_bestFrom 164 = .ok (.iload 10, 2) := by decide +kernel
theorem dX8_bestFrom_166 : decode cX8_bestFrom 166 = .ok (.ireturn, 1) := by decide +kernel
def Mo_bestFrom_L88 (w : Wd) (k164 : Int32 → Option Int32) : Nat → Int32 → Int32 → Int32 → Int32 → Int32 → Int32 → Option Int32
  | 0, _, _, _, _, _, _ => none
  | n + 1, v1, v7, v8, v9, v10, v11 => (if (64 : Int32) ≤ v11 then (k164 v10) else (if (Mo_has w v8 (v11 / (8 : Int32))) = (0 : Int32) then (Mo_bestFrom_L88 w k164 n v1 v7 v8 v9 v10 (v11 + (1 : Int32))) else (if (Mo_has w v9 (v11 - v11 / (8 : Int32) * (8 : Int32))) = (0 : Int32) then (Mo_bestFrom_L88 w k164 n v1 v7 v8 v9 v10 (v11 + (1 : Int32))) else (Option.bind (Mo_worst w v1 v7 (v11 / (8 : Int32)) (v11 - v11 / (8 : Int32) * (8 : Int32))) (fun q11 => (Mo_bestFrom_L88 w k164 n v1 v7 v8 v9 (if v10 ≤ ((1 : Int32) + q11) then v10 else ((1 : Int32) + q11)) (v11 + (1 : Int32))))))))
set_option maxRecDepth 100000 in
set_option maxHeartbeats 4000000 in
theorem Mo_bestFrom_L88_ok {K : Ctx} (F : Fx K cX8_bestFrom 13 RX8 (some .int) 3 71 false [37, 38, 42, 45]) (w : Wd) {k164 : Int32 → Option Int32} (h164 : ∀ (v10 : Int32), N K (rtP w) (k164 v10) w 164 [(10, .int v10)] []) : ∀ (n : Nat) (v1 : Int32) (v7 : Int32) (v8 : Int32) (v9 : Int32) (v10 : Int32) (v11 : Int32), N K (rtP w) (Mo_bestFrom_L88 w k164 n v1 v7 v8 v9 v10 v11) w 88 [(0, .ref (gA (cg K) 37)), (1, .int v1), (7, .int v7), (8, .int v8), (9, .int v9), (10, .int v10), (11, .int v11)] [] := by
  intro n
  induction n with
  | zero => intro _ _ _ _ _ _; exact n_none
  | succ n ih =>
    intro v1 v7 v8 v9 v10 v11
    rw [Mo_bestFrom_L88]
    refine n_iload F dX8_bestFrom_88 6 rfl ?_
    refine n_bipush F (64 : Int32) dX8_bestFrom_90 (by decide) ?_
    refine n_icmp_ge F 164 dX8_bestFrom_92 (by decide) (fun e8 => ?_) (fun e8 => ?_)
    · rw [if_pos e8]
      exact n_sub [5] rfl (h164 _)
    rw [if_neg e8]
    refine n_iload F dX8_bestFrom_95 3 rfl ?_
    refine n_iload F dX8_bestFrom_97 6 rfl ?_
    refine n_bipush F (8 : Int32) dX8_bestFrom_99 (by decide) ?_
    refine n_idiv F dX8_bestFrom_101 (by decide) ?_
    refine n_callSi F cb_X8_has lm_RX8_164 (ct_Mo_has (fx_ok F) (fx_sd F) (fx_ix F rfl) w v8 (v11 / (8 : Int32))) rfl rfl (Nat.le_of_ble_eq_true rfl) ⟨Nat.le_of_ble_eq_true rfl, Nat.le_of_ble_eq_true rfl⟩ dX8_bestFrom_102 ?_
    refine n_if_eq F 158 dX8_bestFrom_105 (by decide) (fun e9 => ?_) (fun e9 => ?_)
    · rw [if_pos e9]
      refine n_iinc F (v11 + (1 : Int32)) (lv' := [(11, .int (v11 + (1 : Int32))), (0, .ref (gA (cg K) 37)), (1, .int v1), (7, .int v7), (8, .int v8), (9, .int v9), (10, .int v10)]) dX8_bestFrom_158 6 rfl rfl (by decide) rfl ?_
      refine n_goto F 88 dX8_bestFrom_161 (by decide) ?_
      exact n_sub [1, 2, 3, 4, 5, 6, 0] rfl (ih _ _ _ _ _ _)
    rw [if_neg e9]
    refine n_iload F dX8_bestFrom_108 4 rfl ?_
    refine n_iload F dX8_bestFrom_110 6 rfl ?_
    refine n_bipush F (8 : Int32) dX8_bestFrom_112 (by decide) ?_
    refine n_irem F dX8_bestFrom_114 (by decide) ?_
    refine n_callSi F cb_X8_has lm_RX8_164 (ct_Mo_has (fx_ok F) (fx_sd F) (fx_ix F rfl) w v9 (v11 - v11 / (8 : Int32) * (8 : Int32))) rfl rfl (Nat.le_of_ble_eq_true rfl) ⟨Nat.le_of_ble_eq_true rfl, Nat.le_of_ble_eq_true rfl⟩ dX8_bestFrom_115 ?_
    refine n_if_eq F 158 dX8_bestFrom_118 (by decide) (fun e10 => ?_) (fun e10 => ?_)
    · rw [if_pos e10]
      refine n_iinc F (v11 + (1 : Int32)) (lv' := [(11, .int (v11 + (1 : Int32))), (0, .ref (gA (cg K) 37)), (1, .int v1), (7, .int v7), (8, .int v8), (9, .int v9), (10, .int v10)]) dX8_bestFrom_158 6 rfl rfl (by decide) rfl ?_
      refine n_goto F 88 dX8_bestFrom_161 (by decide) ?_
      exact n_sub [1, 2, 3, 4, 5, 6, 0] rfl (ih _ _ _ _ _ _)
    rw [if_neg e10]
    refine n_iconst F (1 : Int32) dX8_bestFrom_121 (by decide) ?_
    refine n_aload_n F dX8_bestFrom_122 rfl 0 rfl ?_
    refine n_iload_n F dX8_bestFrom_123 rfl 1 rfl ?_
    refine n_iload F dX8_bestFrom_124 2 rfl ?_
    refine n_iload F dX8_bestFrom_126 6 rfl ?_
    refine n_bipush F (8 : Int32) dX8_bestFrom_128 (by decide) ?_
    refine n_idiv F dX8_bestFrom_130 (by decide) ?_
    refine n_iload F dX8_bestFrom_131 6 rfl ?_
    refine n_bipush F (8 : Int32) dX8_bestFrom_133 (by decide) ?_
    refine n_irem F dX8_bestFrom_135 (by decide) ?_
    refine n_bind (fun q11 hq11 => ?_)
    refine n_callVi F cb_X8_worst lm_RX8_200 ob_37 (by decide) ⟨_, _, rfl⟩ (ct_Mo_worst (fx_ok F) (fx_sd F) (fx_ix F rfl) w v1 v7 (v11 / (8 : Int32)) (v11 - v11 / (8 : Int32) * (8 : Int32)) hq11) rfl rfl (Nat.le_of_ble_eq_true rfl) ⟨Nat.le_of_ble_eq_true rfl, Nat.le_of_ble_eq_true rfl⟩ dX8_bestFrom_136 ?_
    refine n_iadd F dX8_bestFrom_139 ?_
    refine n_istore F (lv' := [(12, .int ((1 : Int32) + q11)), (0, .ref (gA (cg K) 37)), (1, .int v1), (7, .int v7), (8, .int v8), (9, .int v9), (10, .int v10), (11, .int v11)]) dX8_bestFrom_140 (by decide) rfl ?_
    refine n_iload F dX8_bestFrom_142 0 rfl ?_
    refine n_iload F dX8_bestFrom_144 6 rfl ?_
    refine n_icmp_ge F 154 dX8_bestFrom_146 (by decide) (fun e12 => ?_) (fun e12 => ?_)
    · rw [if_pos e12]
      refine n_iload F dX8_bestFrom_154 6 rfl ?_
      refine n_istore F (lv' := [(10, .int v10), (12, .int ((1 : Int32) + q11)), (0, .ref (gA (cg K) 37)), (1, .int v1), (7, .int v7), (8, .int v8), (9, .int v9), (11, .int v11)]) dX8_bestFrom_156 (by decide) rfl ?_
      refine n_iinc F (v11 + (1 : Int32)) (lv' := [(11, .int (v11 + (1 : Int32))), (10, .int v10), (12, .int ((1 : Int32) + q11)), (0, .ref (gA (cg K) 37)), (1, .int v1), (7, .int v7), (8, .int v8), (9, .int v9)]) dX8_bestFrom_158 7 rfl rfl (by decide) rfl ?_
      refine n_goto F 88 dX8_bestFrom_161 (by decide) ?_
      exact n_sub [3, 4, 5, 6, 7, 1, 0] rfl (ih _ _ _ _ _ _)
    rw [if_neg e12]
    refine n_iload F dX8_bestFrom_149 0 rfl ?_
    refine n_goto F 156 dX8_bestFrom_151 (by decide) ?_
    refine n_istore F (lv' := [(10, .int ((1 : Int32) + q11)), (12, .int ((1 : Int32) + q11)), (0, .ref (gA (cg K) 37)), (1, .int v1), (7, .int v7), (8, .int v8), (9, .int v9), (11, .int v11)]) dX8_bestFrom_156 (by decide) rfl ?_
    refine n_iinc F (v11 + (1 : Int32)) (lv' := [(11, .int (v11 + (1 : Int32))), (10, .int ((1 : Int32) + q11)), (12, .int ((1 : Int32) + q11)), (0, .ref (gA (cg K) 37)), (1, .int v1), (7, .int v7), (8, .int v8), (9, .int v9)]) dX8_bestFrom_158 7 rfl rfl (by decide) rfl ?_
    refine n_goto F 88 dX8_bestFrom_161 (by decide) ?_
    exact n_sub [3, 4, 5, 6, 7, 1, 0] rfl (ih _ _ _ _ _ _)
def Mo_bestFrom_B164 (w : Wd) (v10 : Int32) : Option Int32 := some v10
set_option maxRecDepth 100000 in
set_option maxHeartbeats 4000000 in
theorem Mo_bestFrom_B164_ok {K : Ctx} (F : Fx K cX8_bestFrom 13 RX8 (some .int) 3 71 false [37, 38, 42, 45]) (w : Wd) (v10 : Int32) : N K (rtP w) (Mo_bestFrom_B164 w v10) w 164 [(10, .int v10)] [] := by
  rw [Mo_bestFrom_B164]
  refine n_iload F dX8_bestFrom_164 0 rfl ?_
  exact n_iret F rfl rfl dX8_bestFrom_166
def Mo_bestFrom_B56 (w : Wd) (v1 : Int32) (v3 : Int32) (v4 : Int32) (v5 : Int32) (v6 : Int32) (s0 : Int32) : Option Int32 := (Option.bind (Mo_reach w v3 v6 v5) (fun q6 => (Option.bind (Mo_reach w v4 v6 v5) (fun q7 => (Mo_bestFrom_L88 w (Mo_bestFrom_B164 w) FU v1 s0 q6 q7 (99 : Int32) (0 : Int32))))))
set_option maxRecDepth 100000 in
set_option maxHeartbeats 4000000 in
theorem Mo_bestFrom_B56_ok {K : Ctx} (F : Fx K cX8_bestFrom 13 RX8 (some .int) 3 71 false [37, 38, 42, 45]) (w : Wd) (v1 : Int32) (v3 : Int32) (v4 : Int32) (v5 : Int32) (v6 : Int32) (s0 : Int32) : N K (rtP w) (Mo_bestFrom_B56 w v1 v3 v4 v5 v6 s0) w 56 [(0, .ref (gA (cg K) 37)), (1, .int v1), (3, .int v3), (4, .int v4), (5, .int v5), (6, .int v6)] [.int s0] := by
  rw [Mo_bestFrom_B56]
  refine n_istore F (lv' := [(7, .int s0), (0, .ref (gA (cg K) 37)), (1, .int v1), (3, .int v3), (4, .int v4), (5, .int v5), (6, .int v6)]) dX8_bestFrom_56 (by decide) rfl ?_
  refine n_aload_n F dX8_bestFrom_58 rfl 1 rfl ?_
  refine n_iload_n F dX8_bestFrom_59 rfl 3 rfl ?_
  refine n_iload F dX8_bestFrom_60 6 rfl ?_
  refine n_iload F dX8_bestFrom_62 5 rfl ?_
  refine n_bind (fun q6 hq6 => ?_)
  refine n_callVi F cb_X8_reach lm_RX8_190 ob_37 (by decide) ⟨_, _, rfl⟩ (ct_Mo_reach (fx_ok F) (fx_sd F) (fx_ix F rfl) w v3 v6 v5 hq6) rfl rfl (Nat.le_of_ble_eq_true rfl) ⟨Nat.le_of_ble_eq_true rfl, Nat.le_of_ble_eq_true rfl⟩ dX8_bestFrom_64 ?_
  refine n_istore F (lv' := [(8, .int q6), (7, .int s0), (0, .ref (gA (cg K) 37)), (1, .int v1), (3, .int v3), (4, .int v4), (5, .int v5), (6, .int v6)]) dX8_bestFrom_67 (by decide) rfl ?_
  refine n_aload_n F dX8_bestFrom_69 rfl 2 rfl ?_
  refine n_iload F dX8_bestFrom_70 5 rfl ?_
  refine n_iload F dX8_bestFrom_72 7 rfl ?_
  refine n_iload F dX8_bestFrom_74 6 rfl ?_
  refine n_bind (fun q7 hq7 => ?_)
  refine n_callVi F cb_X8_reach lm_RX8_190 ob_37 (by decide) ⟨_, _, rfl⟩ (ct_Mo_reach (fx_ok F) (fx_sd F) (fx_ix F rfl) w v4 v6 v5 hq7) rfl rfl (Nat.le_of_ble_eq_true rfl) ⟨Nat.le_of_ble_eq_true rfl, Nat.le_of_ble_eq_true rfl⟩ dX8_bestFrom_76 ?_
  refine n_istore F (lv' := [(9, .int q7), (8, .int q6), (7, .int s0), (0, .ref (gA (cg K) 37)), (1, .int v1), (3, .int v3), (4, .int v4), (5, .int v5), (6, .int v6)]) dX8_bestFrom_79 (by decide) rfl ?_
  refine n_bipush F (99 : Int32) dX8_bestFrom_81 (by decide) ?_
  refine n_istore F (lv' := [(10, .int (99 : Int32)), (9, .int q7), (8, .int q6), (7, .int s0), (0, .ref (gA (cg K) 37)), (1, .int v1), (3, .int v3), (4, .int v4), (5, .int v5), (6, .int v6)]) dX8_bestFrom_83 (by decide) rfl ?_
  refine n_iconst F (0 : Int32) dX8_bestFrom_85 (by decide) ?_
  refine n_istore F (lv' := [(11, .int (0 : Int32)), (10, .int (99 : Int32)), (9, .int q7), (8, .int q6), (7, .int s0), (0, .ref (gA (cg K) 37)), (1, .int v1), (3, .int v3), (4, .int v4), (5, .int v5), (6, .int v6)]) dX8_bestFrom_86 (by decide) rfl ?_
  exact n_sub [5, 6, 4, 3, 2, 1, 0] rfl (Mo_bestFrom_L88_ok F w (Mo_bestFrom_B164_ok F w) FU _ _ _ _ _ _)
def Mo_bestFrom (w : Wd) (a1 : Int32) (a2 : Int32) (a3 : Int32) (a4 : Int32) (a5 : Int32) : Option Int32 := (if a2 = a3 then some (0 : Int32) else (if a2 = a4 then some (0 : Int32) else (if a1 = (12 : Int32) then some (99 : Int32) else (Option.bind (Mo_nightsFrom w a2 ((w.1 38 0) + a1) a5) (fun q4 => (Mo_bestFrom_B56 w a1 a3 a4 a5 ((w.1 38 0) + a1) (if q4 = (0 : Int32) then ((1 : Int32) <<< (a2 &&& (31 : Int32))) else q4)))))))
set_option maxRecDepth 100000 in
set_option maxHeartbeats 4000000 in
theorem ct_Mo_bestFrom {l : Launch} {g : GG} {σ : Sd} (hg : OKg g σ) (hb : σ.2.1 = false) (hx : ∀ c ∈ ([37, 38, 42, 45] : List Nat), c ∈ σ.1) (w : Wd) (a1 : Int32) (a2 : Int32) (a3 : Int32) (a4 : Int32) (a5 : Int32) {q : Int32} (hq : Mo_bestFrom w a1 a2 a3 a4 a5 = some q) : CT l g σ yX8_bestFrom cX8_bestFrom 13 (some .int) 3 71 [.ref (gA g 37), .int a1, .int a2, .int a3, .int a4, .int a5] w (some (.int q)) w := by
  refine ct_of (rt := (rtP w)) (res := Mo_bestFrom w a1 a2 a3 a4 a5) (q := q) (own := RX8) (b := false) hg hb hx (by decide) rfl (Nat.le_of_ble_eq_true rfl) hq (fun K e1 e2 e3 F => ?_)
  subst e1 e2 e3
  rw [Mo_bestFrom]
  show N K _ _ w 0 [(0, .ref (gA (cg K) 37)), (1, .int a1), (2, .int a2), (3, .int a3), (4, .int a4), (5, .int a5)] []
  refine n_iload_n F dX8_bestFrom_0 rfl 2 rfl ?_
  refine n_iload_n F dX8_bestFrom_1 rfl 3 rfl ?_
  refine n_icmp_eq F 11 dX8_bestFrom_2 (by decide) (fun e1 => ?_) (fun e1 => ?_)
  · rw [if_pos e1]
    refine n_iconst F (0 : Int32) dX8_bestFrom_11 (by decide) ?_
    exact n_iret F rfl rfl dX8_bestFrom_12
  rw [if_neg e1]
  refine n_iload_n F dX8_bestFrom_5 rfl 2 rfl ?_
  refine n_iload F dX8_bestFrom_6 4 rfl ?_
  refine n_icmp_ne F 13 dX8_bestFrom_8 (by decide) (fun e2 => ?_) (fun e2 => ?_)
  · rw [if_neg e2]
    refine n_iload_n F dX8_bestFrom_13 rfl 1 rfl ?_
    refine n_bipush F (12 : Int32) dX8_bestFrom_14 (by decide) ?_
    refine n_icmp_ne F 22 dX8_bestFrom_16 (by decide) (fun e3 => ?_) (fun e3 => ?_)
    · rw [if_neg e3]
      refine n_aload_n F dX8_bestFrom_22 rfl 0 rfl ?_
      refine n_get F ck_8 lf_RX8_7 (by decide) fg_37_0 (by decide) dX8_bestFrom_23 ?_
      refine n_iconst F (0 : Int32) dX8_bestFrom_26 (by decide) ?_
      refine n_iald F ar_38 (by decide) (ib_c (n := 45) (by decide)) (j := 0) (by decide) dX8_bestFrom_27 ?_
      refine n_iload_n F dX8_bestFrom_28 rfl 1 rfl ?_
      refine n_iadd F dX8_bestFrom_29 ?_
      refine n_istore F (lv' := [(6, .int ((w.1 38 0) + a1)), (0, .ref (gA (cg K) 37)), (1, .int a1), (2, .int a2), (3, .int a3), (4, .int a4), (5, .int a5)]) dX8_bestFrom_30 (by decide) rfl ?_
      refine n_aload_n F dX8_bestFrom_32 rfl 1 rfl ?_
      refine n_iload_n F dX8_bestFrom_33 rfl 3 rfl ?_
      refine n_iload F dX8_bestFrom_34 0 rfl ?_
      refine n_iload F dX8_bestFrom_36 6 rfl ?_
      refine n_bind (fun q4 hq4 => ?_)
      refine n_callVi F cb_X8_nightsFrom lm_RX8_186 ob_37 (by decide) ⟨_, _, rfl⟩ (ct_Mo_nightsFrom (fx_ok F) (fx_sd F) (fx_ix F rfl) w a2 ((w.1 38 0) + a1) a5 hq4) rfl rfl (Nat.le_of_ble_eq_true rfl) ⟨Nat.le_of_ble_eq_true rfl, Nat.le_of_ble_eq_true rfl⟩ dX8_bestFrom_38 ?_
      refine n_istore F (lv' := [(7, .int q4), (6, .int ((w.1 38 0) + a1)), (0, .ref (gA (cg K) 37)), (1, .int a1), (2, .int a2), (3, .int a3), (4, .int a4), (5, .int a5)]) dX8_bestFrom_41 (by decide) rfl ?_
      refine n_iload F dX8_bestFrom_43 0 rfl ?_
      refine n_if_ne F 54 dX8_bestFrom_45 (by decide) (fun e5 => ?_) (fun e5 => ?_)
      · rw [if_neg e5]
        refine n_iload F dX8_bestFrom_54 0 rfl ?_
        exact n_sub [2, 3, 5, 6, 7, 1] rfl (Mo_bestFrom_B56_ok F w _ _ _ _ _ _)
      rw [if_pos e5]
      refine n_iconst F (1 : Int32) dX8_bestFrom_48 (by decide) ?_
      refine n_iload_n F dX8_bestFrom_49 rfl 4 rfl ?_
      refine n_ishl F dX8_bestFrom_50 ?_
      refine n_goto F 56 dX8_bestFrom_51 (by decide) ?_
      exact n_sub [2, 3, 5, 6, 7, 1] rfl (Mo_bestFrom_B56_ok F w _ _ _ _ _ _)
    rw [if_pos e3]
    refine n_bipush F (99 : Int32) dX8_bestFrom_19 (by decide) ?_
    exact n_iret F rfl rfl dX8_bestFrom_21
  rw [if_pos e2]
  refine n_iconst F (0 : Int32) dX8_bestFrom_11 (by decide) ?_
  exact n_iret F rfl rfl dX8_bestFrom_12
