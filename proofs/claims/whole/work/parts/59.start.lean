/-! What the Statement gives of the start: the tables, the string constants -/
def k_tm (i : Nat) : Term := .string RX3 (sIdx.getD i 0)
abbrev k_gn : List Cond := flatC (Jvm.Cond.and given_1 narrow_1)
theorem gn_ex : ∀ i, i < 6 → Cond.exactly (k_tm i) "java/lang/String" ∈ k_gn := by decide +kernel
theorem gn_co : ∀ i, i < 6 → Cond.eq (.field (k_tm i) "java/lang/String" "coder" "B") (.int 0) ∈ k_gn := by decide +kernel
theorem gn_ar : ∀ i, i < 6 → Cond.arrayOf (.field (k_tm i) "java/lang/String" "value" "[B") .byte ∈ k_gn := by decide +kernel
theorem gn_le : ∀ i, i < 6 → Cond.eq (.length (.field (k_tm i) "java/lang/String" "value" "[B")) (.int (Int32.ofNat (sLen.getD i 0))) ∈ k_gn := by decide +kernel
theorem gn_el : ∀ i, i < 6 → ∀ j, j < sLen.getD i 0 → Cond.eq (.elem (.field (k_tm i) "java/lang/String" "value" "[B") (.int (Int32.ofNat j))) (.int ((sByt.getD i []).getD j 0)) ∈ k_gn := by decide +kernel
theorem gn_ne : ∀ i, i < 6 → ∀ j, j < 6 → i ≠ j → Cond.not (Cond.eq (k_tm i) (k_tm j)) ∈ k_gn ∨ Cond.not (Cond.eq (k_tm j) (k_tm i)) ∈ k_gn := by decide +kernel
theorem gn_cs : Cond.eq (.static "java/lang/String" "COMPACT_STRINGS" "Z") (.int 1) ∈ k_gn := by decide +kernel
theorem gn_si : Cond.isRef (.static "jdk/internal/util/Preconditions" "SIOOBE_FORMATTER" "Ljava/util/function/BiFunction;") ∈ k_gn := by decide +kernel
theorem tw_sr : ∀ i, i < 6 → Cond.stringRef RX3 (sIdx.getD i 0) (sTxt.getD i "") ∈ lw_tbl := by
  intro i hi
  match i, hi with
  | 0, _ => exact List.mem_of_getElem? (i := 424) (by decide +kernel)
  | 1, _ => exact List.mem_of_getElem? (i := 477) (by decide +kernel)
  | 2, _ => exact List.mem_of_getElem? (i := 478) (by decide +kernel)
  | 3, _ => exact List.mem_of_getElem? (i := 479) (by decide +kernel)
  | 4, _ => exact List.mem_of_getElem? (i := 480) (by decide +kernel)
  | 5, _ => exact List.mem_of_getElem? (i := 481) (by decide +kernel)
theorem tw_l1 : Cond.laysStatic "java/lang/String" "COMPACT_STRINGS" "Z" ∈ lw_tbl := List.mem_of_getElem? (i := 438) (by decide +kernel)
theorem tw_l2 : Cond.laysStatic "jdk/internal/util/Preconditions" "SIOOBE_FORMATTER" "Ljava/util/function/BiFunction;" ∈ lw_tbl := List.mem_of_getElem? (i := 454) (by decide +kernel)
theorem tw_i1 : Cond.initialized "java/lang/String" ∈ lw_tbl := List.mem_of_getElem? (i := 64) (by decide +kernel)
theorem tw_i2 : Cond.initialized "jdk/internal/util/Preconditions" ∈ lw_tbl := List.mem_of_getElem? (i := 66) (by decide +kernel)
theorem tw_nf : ∀ q ∈ nstF, Cond.fieldLinkNest q.1 q.2.1 q.2.2.1 q.2.2.2.1 q.2.2.2.2 RX7 ∈ lw_tbl := by decide +kernel
theorem tw_nm : ∀ q ∈ nstM, Cond.methodLinkNest q.1 q.2.1 q.2.2 RX7 ∈ lw_tbl := by decide +kernel
theorem nw_L7 : Cond.classLink RL 7 RX7 ∈ TB ∧ Cond.instantiable RX7 10 ∈ TB ∧ Cond.initialized RX7 ∈ TB := ⟨tb_of 70 (by decide +kernel) rfl, tb_of 71 (by decide +kernel) rfl, tb_of 53 (by decide +kernel) rfl⟩
theorem nw_L10 : Cond.classLink RL 10 RX8 ∈ TB ∧ Cond.instantiable RX8 26 ∈ TB ∧ Cond.initialized RX8 ∈ TB := ⟨tb_of 853 (by decide +kernel) rfl, tb_of 854 (by decide +kernel) rfl, tb_of 63 (by decide +kernel) rfl⟩
theorem lc_L9 : Cond.methodLink RL 9 yX7_init ∈ TB ∧ Cond.instanceMethod yX7_init ∈ TB := ⟨tb_of 72 (by decide +kernel) rfl, tb_of 73 (by decide +kernel) rfl⟩
theorem lc_L12 : Cond.methodLink RL 12 yX8_init ∈ TB ∧ Cond.instanceMethod yX8_init ∈ TB := ⟨tb_of 855 (by decide +kernel) rfl, tb_of 856 (by decide +kernel) rfl⟩
theorem cb_L7 : CwB yX7_init cX7_init 1 none 0 := ⟨tb_of 74 (by decide +kernel) rfl, tb_of 53 (by decide +kernel) rfl, by decide +kernel⟩
theorem cb_L8 : CwB yX8_init cX8_init 1 none 0 := ⟨tb_of 857 (by decide +kernel) rfl, tb_of 63 (by decide +kernel) rfl, by decide +kernel⟩
theorem tbw {args : Array Value} {s : State} (hts : ∀ w ∈ lw_tbl, w.before args s = true) : ∀ w ∈ TB, w.before args s = true := fun w hw => hts w (List.mem_filter.mp hw).1
theorem nst_start {args : Array Value} {s : State} (hts : ∀ w ∈ lw_tbl, w.before args s = true) : Nst s := ⟨fun q hq => va_Nw.of rfl (hts _ (tw_nf q hq)), fun q hq => va_Nw.of rfl (hts _ (tw_nm q hq))⟩
theorem sk_start {args : Array Value} {s : State} (hts : ∀ w ∈ lw_tbl, w.before args s = true) (hgv : (Jvm.Cond.and given_1 narrow_1).before args s = true) : ∃ adK adV : Nat → Nat, ∀ (D : va_G) (ids : ClassId × ClassId × ClassId × ClassId) (f : Nat → Nat), SKa (D, ids, f, adK, adV) (fun q : Nat => s.heap.size ≤ q) s s.heap := by
  have hs := flat_of_before _ hgv
  have hA : ∀ a : Nat, a < s.heap.size → ¬ s.heap.size ≤ a := fun a h => Nat.not_le.mpr h
  obtain ⟨adK, adV, h1, h2⟩ := vk_Sof (args := args) (s := s) (N := 6) (tm := k_tm) (len := sLen) (byt := sByt) (A := fun q : Nat => s.heap.size ≤ q) (fun i hi => by match i, hi with | 0, _ => decide | 1, _ => decide | 2, _ => decide | 3, _ => decide | 4, _ => decide | 5, _ => decide) (fun i hi => hs _ (gn_ex i hi)) (fun i hi => hs _ (gn_co i hi)) (fun i hi => hs _ (gn_ar i hi)) (fun i hi => hs _ (gn_le i hi)) (fun i hi j hj => hs _ (gn_el i hi j hj)) (fun i j hi hj hij => (gn_ne i hi j hj hij).elim (fun h => Or.inl (hs _ h)) (fun h => Or.inr (hs _ h))) hA
  exact ⟨adK, adV, fun D ids f => ⟨h1, fun i hi => vk_R.of (hts _ (tw_sr i hi)) (h2 i hi), va_Zof (hts _ tw_l1) (hts _ tw_i1) (va_eqt (hs _ gn_cs)) hA, va_Zqof (hts _ tw_l2) (hts _ tw_i2) (hs _ gn_si) hA⟩⟩
theorem arr_known {args : Array Value} {s : State} {ty : FieldType} (h : (Cond.arrayClass ty).before args s = true) : ∃ c : ClassId, ArrOfT s c ty ∧ s.vm.findClass ("[" ++ ty.toString) = some c := by
  obtain ⟨c, k, comp, h1, h2, h3⟩ := Cond.arrayClass_spec h
  exact ⟨c, fun n z => ⟨fun k h => (by cases h), k, h2, comp, h3⟩, h1⟩
theorem k_start {args : Array Value} {s : State} (hts : ∀ w ∈ TB, w.before args s = true) : ∃ (D : va_G) (ids : ClassId × ClassId × ClassId × ClassId), ∀ (r : (Nat → Nat) × (Nat → Nat) × (Nat → Nat)), va_K (gD (D, ids, r)) vwCl (tyl (D, ids, r)) s := by
  obtain ⟨c0, i0, h0⟩ := u_known (C := RX0) (T := TX0) (N := 6) (n := 6) hts ck_0.2.1 (hts _ nw_RX7_47.2.1)
  obtain ⟨c1, i1, h1⟩ := u_known (C := RX1) (T := TX1) (N := 7) (n := 7) hts ck_1.2.1 (hts _ nw_RX7_16.2.1)
  obtain ⟨c2, i2, h2⟩ := u_known (C := RX2) (T := TX2) (N := 10) (n := 10) hts ck_2.2.1 (hts _ nw_RX7_56.2.1)
  obtain ⟨c3, i3, h3⟩ := u_known (C := RX3) (T := TX3) (N := 7) (n := 7) hts ck_3.2.1 (hts _ nw_RX7_23.2.1)
  obtain ⟨c4, i4, h4⟩ := u_known (C := RX4) (T := TX4) (N := 6) (n := 6) hts ck_4.2.1 (hts _ nw_RX7_63.2.1)
  obtain ⟨c5, i5, h5⟩ := u_known (C := RX5) (T := TX5) (N := 12) (n := 12) hts ck_5.2.1 (hts _ nw_RX7_32.2.1)
  obtain ⟨c6, i6, h6⟩ := u_known (C := RX6) (T := TX6) (N := 2) (n := 2) hts ck_6.2.1 (hts _ nw_RX7_9.2.1)
  obtain ⟨c7, i7, h7⟩ := u_known (C := RX7) (T := TX7) (N := 10) (n := 10) hts ck_7.2.1 (hts _ nw_L7.2.1)
  obtain ⟨c8, i8, h8⟩ := u_known (C := RX8) (T := TX8) (N := 26) (n := 26) hts ck_8.2.1 (hts _ nw_L10.2.1)
  obtain ⟨a, a1, a2⟩ := arr_known (hts _ ac_int)
  obtain ⟨b, b1, b2⟩ := arr_known (hts _ ac_char)
  obtain ⟨c, d1, d2⟩ := arr_known (hts _ ac_long)
  obtain ⟨d, e1, e2⟩ := arr_known (hts _ ac_boolean)
  refine ⟨(fun k => [c0, c1, c2, c3, c4, c5, c6, c7, c8].getD k c0, fun k => [i0, i1, i2, i3, i4, i5, i6, i7, i8].getD k i0), (a, b, c, d), fun r => ⟨fun k q hq => ?_, fun k q hq => ?_⟩⟩
  · match k, hq with
    | 0, hq => cases hq; exact h0
    | 1, hq => cases hq; exact h1
    | 2, hq => cases hq; exact h2
    | 3, hq => cases hq; exact h3
    | 4, hq => cases hq; exact h4
    | 5, hq => cases hq; exact h5
    | 6, hq => cases hq; exact h6
    | 7, hq => cases hq; exact h7
    | 8, hq => cases hq; exact h8
    | k + 9, hq => simp [vwCl] at hq
  · match k, hq with
    | 0, hq => cases hq; exact ⟨a1, a2⟩
    | 1, hq => cases hq; exact ⟨b1, b2⟩
    | 2, hq => cases hq; exact ⟨d1, d2⟩
    | 3, hq => cases hq; exact ⟨e1, e2⟩
    | k + 4, hq => simp [tyl] at hq
/-- a constructor is called from the law -/
theorem lw_call {p : Program} {l : Launch} {e : Env} {s : State} {m : MethodId} {args : Array Value} {below : List Frame} {meth : Method} {c : Code} {Q : State → Prop} (hx : p.tables.exec = Jvm.exec) (hb : c.code = cL_law) (hml : c.maxLocals = 4) (hown : s.vm.findClass RL = some m.cls) (hts : ∀ w ∈ TB, w.before args s = true) {g : GG} (hK : va_K (gD g) vwCl (tyl g) s) (hN : Nst s) (hSK : SKa g (fun q : Nat => s.heap.size ≤ q) s s.heap) {y : MethodName} {c2 : ByteArray} {nL2 fr2 lo2 mc2 ms2 idx q0 pc ce sl : Nat} {ws wc wr : va_W} {Post2 : va_W → Prop} {lv : List (Nat × Value)} {st : List Value} (hB : CwB y c2 nL2 none 0) (hL : Cond.methodLink RL idx y ∈ TB ∧ Cond.instanceMethod y ∈ TB) (hy : y.name = "<init>") (M : ncC l g y c2 nL2 fr2 lo2 mc2 ms2 [.ref q0] wc Post2) (isC isR : List Nat) (hC : isC.map (fun i => ws[i]?) = wc.map some) (hR : isR.map (fun i => ws[i]?) = wr.map some) (hnC : va_nd isC = true) (hnR : va_nd isR = true) (hdis : ∀ i ∈ isR, i ∉ isC)
    (hst : (st.map fun v => v.category).sum ≤ 8) (hroom : fr2 + 1 ≤ 12 ∧ 8 + (nL2 + 11) + lo2 ≤ 426) (hf : ce + mc2 ≤ 50 ∧ sl + ms2 ≤ 9110) (hd : decode cL_law pc = .ok (.invokespecial idx, 3)) {H : Heap} {locs : List Loc} {ls : Array Slot} (hP : va_P (gD g) vwCl ws H) (hD : va_D (fun q : Nat => s.heap.size ≤ q) ws) (hS : va_S (fun q : Nat => s.heap.size ≤ q) s.heap H locs) (hl : lv_has ls 4 lv)
    (kk : ∀ w1 (H1 : Heap) (locs1 : List Loc), Post2 w1 → va_P (gD g) vwCl (wr ++ w1) H1 → va_D (fun q : Nat => s.heap.size ≤ q) (wr ++ w1) → va_S (fun q : Nat => s.heap.size ≤ q) s.heap H1 locs1 → W p l e room_1 s m args below meth c H1 locs1 (ce + mc2) (sl + ms2) Q (F0 m (pc + 3) ls st)) : W p l e room_1 s m args below meth c H locs ce sl Q (F0 m pc ls (.ref q0 :: st)) := by
  have hA : ∀ q : Nat, s.heap.size ≤ q → (fun q : Nat => s.heap.size ≤ q) q := fun _ h => h
  have hPc : va_P (gD g) vwCl wc H := sub_P hP hC
  have hDc := hD.sub isC hnC hC
  have hFc := va_free (wc := wc) hD hS hA isC hC
  refine va_callv (va_runI (As := []) (rest := st) (own := RL) (Ts := TB) ⟨hx, hb, hml, hown, hts⟩ (M H.size) ⟨callB_of 0 hts (tb_code hB.1) rfl rfl rfl (hts _ hB.2.1) (hts _ hL.1) hB.2.2 hroom, hy, hts _ hL.2⟩ ⟨nc_blind, fun U hU hW => ⟨rfl, by rw [hU], by rw [hU]; exact hPc, va_K.moved hW.alike hK, hDc.weaken (fun _ _ _ _ => trivial), hN.warm hW, by rw [hU]; exact ((hSK.warm hW).kept hS.2.1).narrow hFc⟩⟩ rfl rfl hl.1 rfl (lv_room hst) hd hf) hS (fun q _ h => hFc q h) hFc (fun w1 t H1 locs1 ht hvm hw hB1 hz1 hk1 hS1 => ?_)
  obtain ⟨hP1, hD1⟩ := hB1
  rw [ht] at hP1
  obtain ⟨hP2, hD2⟩ := va_join (wr := wr) (w1 := w1) hP hD isC isR hC hR hnR hdis hk1 hFc hP1 hD1
  exact kk w1 H1 locs1 hw hP2 hD2 hS1
