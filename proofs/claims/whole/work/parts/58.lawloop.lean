/-! The law: its switch, its loop (by program, wip/whole/mk58.py) -/
section LLoop
variable {K : CtxL} {x m : Wd} {i : Int32} {st : List Value}
theorem lj_tabIn (F : ljF K) {v : Int32} {off : Int} {tgt : Nat} (h1 : ¬ v.toInt < 0) (h2 : ¬ 26 < v.toInt) (ho : (#[124, 187, 200, 213, 226, 259, 292, 325, 348, 381, 394, 417, 440, 453, 466, 479, 492, 515, 538, 551, 574, 597, 610, 623, 667, 690, 713] : Array Int)[(v.toInt - 0).toNat]? = some off) (ht : ((32 : Nat) : Int) + off = (tgt : Int)) (kk : ljJ K x m i tgt st) : ljJ K x m i 32 (.int v :: st) := by
  obtain ⟨p, l, e, s, mi, below, meth, c, b, L, xs, g⟩ := K
  obtain ⟨⟨hx, hb, -⟩, -⟩ := F
  exact fun H locs ls hP hS hl => lv_tableIn hx hb dL_law_32 h1 h2 ho ht (kk H locs ls hP hS hl)
theorem lj_tabOut (F : ljF K) {v : Int32} (h : v.toInt < 0 ∨ 26 < v.toInt) (kk : ljJ K x m i 768 st) : ljJ K x m i 32 (.int v :: st) := by
  obtain ⟨p, l, e, s, mi, below, meth, c, b, L, xs, g⟩ := K
  obtain ⟨⟨hx, hb, -⟩, -⟩ := F
  exact fun H locs ls hP hS hl => lv_tableOut hx hb dL_law_32 h (tgt := 768) (by decide) (kk H locs ls hP hS hl)
theorem lj_inc (F : ljF K) (kk : ljJ K x m (i + 4) 771 st) : ljJ K x m i 768 st := by
  obtain ⟨p, l, e, s, mi, below, meth, c, b, L, xs, g⟩ := K
  obtain ⟨⟨hx, hb, -⟩, -⟩ := F
  exact fun H locs ls hP hS hl => lv_iinc (v := i + 4) (lv' := [(3, .int (i + 4)), (0, .ref b), (1, .ref (gA g 0)), (2, .ref (gA g 37))]) hx hb dL_law_768 hl (k := 3) rfl rfl (by decide) rfl (fun ls hl => kk H locs ls hP hS (lv_sub hl [1, 2, 3, 0] rfl))
theorem lj_gt (F : ljF K) {u v : Int32} (kt : v < u → ljJ K x m i 774 st) (kf : ¬ v < u → ljJ K x m i 26 st) : ljJ K x m i 23 (.int v :: .int u :: st) := by
  obtain ⟨p, l, e, s, mi, below, meth, c, b, L, xs, g⟩ := K
  obtain ⟨⟨hx, hb, -⟩, -⟩ := F
  exact fun H locs ls hP hS hl => lv_icmp_gt hx hb dL_law_23 (tgt := 774) (by decide) (fun h => kt h H locs ls hP hS hl) (fun h => kf h H locs ls hP hS hl)
theorem lj_end (F : ljF K) : ljJ K x m i 774 [] := by
  obtain ⟨p, l, e, s, mi, below, meth, c, b, L, xs, g⟩ := K
  obtain ⟨⟨hx, hb, hr, hml, hown, hts, hX, hbl, hlocks, hgv⟩, -⟩ := F
  intro H locs ls hP hS hl
  refine va_forget (fun q hq => hS.2.2 q hq) ?_
  refine lv_iconst (v := 1) hx hb dL_law_774 (by decide) ?_
  exact lw_ret hx hb hr hlocks dL_law_775
/-- the switch -/
theorem lj_switch (F : ljF K) {j : Nat} (h : Rel x m) (hi : i = nI j) (hj : j + 3 < kL K) (v : Int32) (hv : ∃ k, k < 32 ∧ v = nI k) (kk : ∀ x' m', Rel x' m' → ljJ K x' m' i 768 []) : ljJ K x m i 32 [.int v] := by
  obtain ⟨k, hk, rfl⟩ := hv
  match k, hk with
  | 0, _ => exact lj_tabIn F (off := 124) (tgt := 156) (by decide) (by decide) (by decide) (by decide) (lw_c_write F h hi hj kk)
  | 1, _ => exact lj_tabIn F (off := 187) (tgt := 219) (by decide) (by decide) (by decide) (by decide) (lw_c_erase F h hi hj kk)
  | 2, _ => exact lj_tabIn F (off := 200) (tgt := 232) (by decide) (by decide) (by decide) (by decide) (lw_c_fault F h hi hj kk)
  | 3, _ => exact lj_tabIn F (off := 213) (tgt := 245) (by decide) (by decide) (by decide) (by decide) (lw_c_land F h hi hj kk)
  | 4, _ => exact lj_tabIn F (off := 226) (tgt := 258) (by decide) (by decide) (by decide) (by decide) (lw_c_train F h hi hj kk)
  | 5, _ => exact lj_tabIn F (off := 259) (tgt := 291) (by decide) (by decide) (by decide) (by decide) (lw_c_runs F h hi hj kk)
  | 6, _ => exact lj_tabIn F (off := 292) (tgt := 324) (by decide) (by decide) (by decide) (by decide) (lw_c_as F h hi hj kk)
  | 7, _ => exact lj_tabIn F (off := 325) (tgt := 357) (by decide) (by decide) (by decide) (by decide) (lw_c_ride F h hi hj kk)
  | 8, _ => exact lj_tabIn F (off := 348) (tgt := 380) (by decide) (by decide) (by decide) (by decide) (lw_c_send F h hi hj kk)
  | 9, _ => exact lj_tabIn F (off := 381) (tgt := 413) (by decide) (by decide) (by decide) (by decide) (lw_c_noon F h hi hj kk)
  | 10, _ => exact lj_tabIn F (off := 394) (tgt := 426) (by decide) (by decide) (by decide) (by decide) (lw_c_he F h hi hj kk)
  | 11, _ => exact lj_tabIn F (off := 417) (tgt := 449) (by decide) (by decide) (by decide) (by decide) (lw_c_seeker F h hi hj kk)
  | 12, _ => exact lj_tabIn F (off := 440) (tgt := 472) (by decide) (by decide) (by decide) (by decide) (lw_c_may F h hi hj kk)
  | 13, _ => exact lj_tabIn F (off := 453) (tgt := 485) (by decide) (by decide) (by decide) (by decide) (lw_c_way F h hi hj kk)
  | 14, _ => exact lj_tabIn F (off := 466) (tgt := 498) (by decide) (by decide) (by decide) (by decide) (lw_c_next F h hi hj kk)
  | 15, _ => exact lj_tabIn F (off := 479) (tgt := 511) (by decide) (by decide) (by decide) (by decide) (lw_c_letter F h hi hj kk)
  | 16, _ => exact lj_tabIn F (off := 492) (tgt := 524) (by decide) (by decide) (by decide) (by decide) (lw_c_shut F h hi hj kk)
  | 17, _ => exact lj_tabIn F (off := 515) (tgt := 547) (by decide) (by decide) (by decide) (by decide) (lw_c_hides F h hi hj kk)
  | 18, _ => exact lj_tabIn F (off := 538) (tgt := 570) (by decide) (by decide) (by decide) (by decide) (lw_c_chase F h hi hj kk)
  | 19, _ => exact lj_tabIn F (off := 551) (tgt := 583) (by decide) (by decide) (by decide) (by decide) (lw_c_closed F h hi hj kk)
  | 20, _ => exact lj_tabIn F (off := 574) (tgt := 606) (by decide) (by decide) (by decide) (by decide) (lw_c_log F h hi hj kk)
  | 21, _ => exact lj_tabIn F (off := 597) (tgt := 629) (by decide) (by decide) (by decide) (by decide) (lw_c_burn F h hi hj kk)
  | 22, _ => exact lj_tabIn F (off := 610) (tgt := 642) (by decide) (by decide) (by decide) (by decide) (lw_c_judge F h hi hj kk)
  | 23, _ => exact lj_tabIn F (off := 623) (tgt := 655) (by decide) (by decide) (by decide) (by decide) (lw_c_late F h hi hj kk)
  | 24, _ => exact lj_tabIn F (off := 667) (tgt := 699) (by decide) (by decide) (by decide) (by decide) (lw_c_keep F h hi hj kk)
  | 25, _ => exact lj_tabIn F (off := 690) (tgt := 722) (by decide) (by decide) (by decide) (by decide) (lw_c_back F h hi hj kk)
  | 26, _ => exact lj_tabIn F (off := 713) (tgt := 745) (by decide) (by decide) (by decide) (by decide) (lw_c_count F h hi hj kk)
  | 27, _ => exact lj_tabOut F (by decide) (kk x m h)
  | 28, _ => exact lj_tabOut F (by decide) (kk x m h)
  | 29, _ => exact lj_tabOut F (by decide) (kk x m h)
  | 30, _ => exact lj_tabOut F (by decide) (kk x m h)
  | 31, _ => exact lj_tabOut F (by decide) (kk x m h)
  | k + 32, hk => exact absurd hk (by omega)
theorem sub4 {L j : Nat} (hL : L ≤ 2048) (hj : j < 2 ^ 31) (h : ¬ nI L - 4 < nI j) : j + 4 ≤ L := by
  by_cases h4 : 4 ≤ L
  · rw [show (4 : Int32) = nI 4 from rfl, pk_sub h4] at h
    rcases Nat.lt_or_ge (L - 4) j with q | q
    · exact absurd (nI_lt q hj) h
    · omega
  · exfalso
    apply h
    have hn : nI L - 4 < 0 := by
      match L, h4 with
      | 0, _ => decide
      | 1, _ => decide
      | 2, _ => decide
      | 3, _ => decide
      | L + 4, h4 => omega
    have hp : ¬ nI j < 0 := nI_pos hj
    rw [Int32.lt_iff_toInt_lt] at hn hp ⊢
    omega
theorem lw_loop (F : ljF K) : ∀ (d j : Nat) (x m : Wd), Rel x m → kL K < j + d → j ≤ 2048 → ljJ K x m (nI j) 18 [] := by
  have hL := lj_L F
  intro d
  induction d with
  | zero =>
    intro j x m h hd hj
    refine lj_i3 F dL_law_18 ?_
    refine lj_a0 F dL_law_19 ?_
    refine lj_len F dL_law_20 ?_
    refine lj_iconst F 4 dL_law_21 (by decide) ?_
    refine lj_isub F dL_law_22 ?_
    refine lj_gt F (fun _ => lj_end F) (fun q => ?_)
    have := sub4 hL (by omega) q
    omega
  | succ d ih =>
    intro j x m h hd hj
    refine lj_i3 F dL_law_18 ?_
    refine lj_a0 F dL_law_19 ?_
    refine lj_len F dL_law_20 ?_
    refine lj_iconst F 4 dL_law_21 (by decide) ?_
    refine lj_isub F dL_law_22 ?_
    refine lj_gt F (fun _ => lj_end F) (fun q => ?_)
    have h4 := sub4 hL (by omega) q
    refine lj_a0 F dL_law_26 ?_
    refine lj_i3 F dL_law_27 ?_
    refine lj_ld F (ib_in (ib_nI (by omega) (by omega))) dL_law_28 ?_
    refine lj_bipush F 31 dL_law_29 (by decide) ?_
    refine lj_iand F dL_law_31 ?_
    refine lj_switch F h rfl (by omega) _ (pk_andE _ (m := 31) 5 (by decide)) (fun x' m' h' => ?_)
    refine lj_inc F ?_
    refine lj_goto F 18 dL_law_771 (by decide) ?_
    rw [show nI j + 4 = nI (j + 4) from nI_add j 4]
    exact ih (j + 4) x' m' h' (by omega) (by omega)
end LLoop
/-- both worlds, just made -/
theorem rel_start {x m : Wd} (hx : StX x) (hm : StM m) : Rel x m := by
  obtain ⟨a0, a1, a2, a3, a4, a5, a6, a7, a8, a9⟩ := hx
  obtain ⟨b0, b1, b2, b3, b4, b5, b6, b7, b8, b9⟩ := hm
  refine ⟨3, 0, 0, 5, fun _ _ => 0, fun _ => 9, fun _ => -1, 0, fun _ => 0, 0, fun _ => 0, fun _ => false, zB 0 (fun _ => 9) (fun _ => -1), ⟨by decide, by decide, by decide, fun t ht => by omega⟩, ?_, ⟨by decide, a1, b0, fun j hj => by omega⟩, ⟨by decide, a8, b7, fun j hj => by omega⟩, ⟨a0, fun i hi => ⟨b8 i hi, fun q => absurd (show false = true from q) (by decide)⟩⟩, a9, b9, zB_ok (by decide) (fun k hk => by decide) (fun i hi => Or.inl rfl)⟩
  exact ⟨⟨a3, fun t k ht => by omega⟩, ⟨b2, fun t k ht => by omega⟩, a2, b1, a4, b3, a5, b4, fun k hk => ⟨a6 k hk, b5 k hk, show (9 : Nat) ≤ 9 by decide⟩, fun i hi => ⟨a7 i hi, b6 i hi, Or.inl rfl⟩, by decide, by decide, by decide⟩
