/-- the char at k of the constant i -/
def sCh (i : Nat) (k : Int32) : Int32 := (((sByt.getD i []).getD k.toNatClampNeg 0 &&& 255).toUInt32 % 65536).toInt32
theorem n_ldcS {K : Ctx} {cc : ByteArray} {nL : Nat} {ret : Option FieldType} {fr lo : Nat} {b : Bool} {nd : List Nat} {ρ : Type} {rt : ρ → Option Value × Wd} {res : Option ρ} {w : Wd} {pc : Nat} {lv : List (Nat × Value)} {st : List Value} (F : Fx K cc nL RX3 ret fr lo b nd) (i : Nat) (hi : i < 6) {idx : Nat} (hidx : sIdx.getD i 0 = idx) (hd : decode cc pc = .ok (.ldc idx, 2)) (k : N K rt res w (pc + 2) lv (.ref (gK (cg K) i) :: st)) : N K rt res w pc lv st := by
  obtain ⟨p, l, e, R, s, m, args, below, meth, c, g, σ⟩ := K
  obtain ⟨hx, hb, hml, hown, hts, hK, hN, hSK, hg, hlk, hrt, hR, hσ, hix⟩ := F
  subst hidx
  exact fun q hq H locs ls hP hS hl => va_ldcS hx hb hown (hSK.2.1 i hi) hd (k q hq H locs ls hP hS hl)
theorem n_gsC {K : Ctx} {cc : ByteArray} {nL : Nat} {own : String} {ret : Option FieldType} {fr lo : Nat} {b : Bool} {nd : List Nat} {ρ : Type} {rt : ρ → Option Value × Wd} {res : Option ρ} {w : Wd} {pc : Nat} {lv : List (Nat × Value)} {st : List Value} (F : Fx K cc nL own ret fr lo b nd) {idx : Nat} (hL : Cond.fieldLink own idx "java/lang/String" "COMPACT_STRINGS" "Z" ∈ TB) (hd : decode cc pc = .ok (.getstatic idx, 3)) (k : N K rt res w (pc + 3) lv (.int 1 :: st)) : N K rt res w pc lv st := by
  obtain ⟨p, l, e, R, s, m, args, below, meth, c, g, σ⟩ := K
  obtain ⟨hx, hb, hml, hown, hts, hK, hN, hSK, hg, hlk, hrt, hR, hσ, hix⟩ := F
  exact fun q hq H locs ls hP hS hl => va_gets hx hb hSK.2.2.1 hS hown (hts _ hL) (fun _ h => h) hd (k q hq H locs ls hP hS hl)
theorem n_gsF {K : Ctx} {cc : ByteArray} {nL : Nat} {own : String} {ret : Option FieldType} {fr lo : Nat} {b : Bool} {nd : List Nat} {ρ : Type} {rt : ρ → Option Value × Wd} {res : Option ρ} {w : Wd} {pc : Nat} {lv : List (Nat × Value)} {st : List Value} (F : Fx K cc nL own ret fr lo b nd) {idx : Nat} (hL : Cond.fieldLink own idx "jdk/internal/util/Preconditions" "SIOOBE_FORMATTER" "Ljava/util/function/BiFunction;" ∈ TB) (hd : decode cc pc = .ok (.getstatic idx, 3)) (k : ∀ v : Value, (v = .null ∨ ∃ t, v = .ref t) → N K rt res w (pc + 3) lv (v :: st)) : N K rt res w pc lv st := by
  obtain ⟨p, l, e, R, s, m, args, below, meth, c, g, σ⟩ := K
  obtain ⟨hx, hb, hml, hown, hts, hK, hN, hSK, hg, hlk, hrt, hR, hσ, hix⟩ := F
  rcases hSK.2.2.2 with h | ⟨t, h⟩
  · exact fun q hq H locs ls hP hS hl => va_gets hx hb h hS hown (hts _ hL) (fun _ h => h) hd (k _ (Or.inl rfl) q hq H locs ls hP hS hl)
  · exact fun q hq H locs ls hP hS hl => va_gets hx hb h hS hown (hts _ hL) (fun _ h => h) hd (k _ (Or.inr ⟨t, rfl⟩) q hq H locs ls hP hS hl)
theorem n_sCoder {K : Ctx} {cc : ByteArray} {nL : Nat} {own : String} {ret : Option FieldType} {fr lo : Nat} {b : Bool} {nd : List Nat} {ρ : Type} {rt : ρ → Option Value × Wd} {res : Option ρ} {w : Wd} {pc : Nat} {lv : List (Nat × Value)} {st : List Value} (F : Fx K cc nL own ret fr lo b nd) {i idx : Nat} (hi : i < 6) (hL : Cond.fieldLink own idx "java/lang/String" "coder" "B" ∈ TB) (hd : decode cc pc = .ok (.getfield idx, 3)) (k : N K rt res w (pc + 3) lv (.int 0 :: st)) : N K rt res w pc lv (.ref (gK (cg K) i) :: st) := by
  obtain ⟨p, l, e, R, s, m, args, below, meth, c, g, σ⟩ := K
  obtain ⟨hx, hb, hml, hown, hts, hK, hN, hSK, hg, hlk, hrt, hR, hσ, hix⟩ := F
  exact fun q hq H locs ls hP hS hl => vk_getf hx hb (hSK.1.1 i hi).2.1 hS hown (hts _ hL) (fun _ h => h) hd (k q hq H locs ls hP hS hl)
theorem n_sVal {K : Ctx} {cc : ByteArray} {nL : Nat} {own : String} {ret : Option FieldType} {fr lo : Nat} {b : Bool} {nd : List Nat} {ρ : Type} {rt : ρ → Option Value × Wd} {res : Option ρ} {w : Wd} {pc : Nat} {lv : List (Nat × Value)} {st : List Value} (F : Fx K cc nL own ret fr lo b nd) {i idx : Nat} (hi : i < 6) (hL : Cond.fieldLink own idx "java/lang/String" "value" "[B" ∈ TB) (hd : decode cc pc = .ok (.getfield idx, 3)) (k : N K rt res w (pc + 3) lv (.ref (gV (cg K) i) :: st)) : N K rt res w pc lv (.ref (gK (cg K) i) :: st) := by
  obtain ⟨p, l, e, R, s, m, args, below, meth, c, g, σ⟩ := K
  obtain ⟨hx, hb, hml, hown, hts, hK, hN, hSK, hg, hlk, hrt, hR, hσ, hix⟩ := F
  exact fun q hq H locs ls hP hS hl => vk_getf hx hb (hSK.1.1 i hi).2.2.1 hS hown (hts _ hL) (fun _ h => h) hd (k q hq H locs ls hP hS hl)
theorem n_sLen {K : Ctx} {cc : ByteArray} {nL : Nat} {own : String} {ret : Option FieldType} {fr lo : Nat} {b : Bool} {nd : List Nat} {ρ : Type} {rt : ρ → Option Value × Wd} {res : Option ρ} {w : Wd} {pc : Nat} {lv : List (Nat × Value)} {st : List Value} (F : Fx K cc nL own ret fr lo b nd) {i : Nat} (hi : i < 6) (hd : decode cc pc = .ok (.arraylength, 1)) (k : N K rt res w (pc + 1) lv (.int (nI (sLen.getD i 0)) :: st)) : N K rt res w pc lv (.ref (gV (cg K) i) :: st) := by
  obtain ⟨p, l, e, R, s, m, args, below, meth, c, g, σ⟩ := K
  obtain ⟨hx, hb, hml, hown, hts, hK, hN, hSK, hg, hlk, hrt, hR, hσ, hix⟩ := F
  exact fun q hq H locs ls hP hS hl => va_tlen hx hb (hSK.1.1 i hi).2.2.2 hS rfl hd (k q hq H locs ls hP hS hl)
theorem n_sByte {K : Ctx} {cc : ByteArray} {nL : Nat} {own : String} {ret : Option FieldType} {fr lo : Nat} {b : Bool} {nd : List Nat} {ρ : Type} {rt : ρ → Option Value × Wd} {res : Option ρ} {w : Wd} {pc : Nat} {lv : List (Nat × Value)} {st : List Value} (F : Fx K cc nL own ret fr lo b nd) {i : Nat} (hi : i < 6) {j : Int32} (hj : vp_in j (sLen.getD i 0)) (hd : decode cc pc = .ok (.baload, 1)) (k : N K rt res w (pc + 1) lv (.int ((sByt.getD i []).getD j.toNatClampNeg 0) :: st)) : N K rt res w pc lv (.int j :: .ref (gV (cg K) i) :: st) := by
  obtain ⟨p, l, e, R, s, m, args, below, meth, c, g, σ⟩ := K
  obtain ⟨hx, hb, hml, hown, hts, hK, hN, hSK, hg, hlk, hrt, hR, hσ, hix⟩ := F
  exact fun q hq H locs ls hP hS hl => va_tb hx hb (hSK.1.1 i hi).2.2.2 hS hj rfl hd (k q hq H locs ls hP hS hl)
theorem n_callStr {K : Ctx} {cc : ByteArray} {nL : Nat} {own : String} {ret : Option FieldType} {fr lo : Nat} {b : Bool} {nd : List Nat} {ρ : Type} {rt : ρ → Option Value × Wd} {res : Option ρ} {w : Wd} {pc : Nat} {lv : List (Nat × Value)} {st : List Value} (F : Fx K cc nL own ret fr lo b nd) {y : MethodName} {c2 : ByteArray} {nL2 : Nat} {ret2 : Option FieldType} {fr2 lo2 idx n : Nat} {As : List Value} {v : Int32} {stk : List Value} {i : Nat} (hi : i < 6) (hy : y.cls = "java/lang/String") (hB : CwB y c2 nL2 ret2 n) (hL : Cond.methodLink own idx y ∈ TB ∧ Cond.instanceMethod y ∈ TB ∧ Cond.selects y.cls y y ∈ TB)
    (M : CT K.2.1 (cg K) K.2.2.2.2.2.2.2.2.2.2.2 y c2 nL2 ret2 fr2 lo2 (.ref (gK (cg K) i) :: As) w (some (.int v)) w) (hn : As.length = n) (hstk : stk = As.reverse ++ .ref (gK (cg K) i) :: st) (hst : (st.map fun v => v.category).sum ≤ 8) (hroom : fr2 + 1 ≤ fr ∧ 8 + (nL2 + 11) + lo2 ≤ lo) (hd : decode cc pc = .ok (.invokevirtual idx, 3)) (k : N K rt res w (pc + 3) lv (.int v :: st)) : N K rt res w pc lv stk := by
  refine n_run F M (fun H locs ls hP hS hl => ?_) k
  have hU := fun U hU hW => hd_at F hP hS U hU hW
  obtain ⟨p, l, e, R, s, m, args, below, meth, c, g, σ⟩ := K
  obtain ⟨hx, hb, hml, hown, hts, hK, hN, hSK, hg, hlk, hrt, hR, hσ, hix⟩ := F
  subst hR
  refine va_runV (C := y.cls) (Ts := TB) ⟨hx, hb, rfl, hown, hts⟩ M ⟨callB_of n hts (tb_code hB.1) rfl rfl rfl (hts _ hB.2.1) (hts _ hL.1) hB.2.2 hroom, hts _ hL.2.1, hts _ hL.2.2⟩ ⟨HD_blind, by rw [hy]; exact vk_recv hSK.1 hi hS, fun U h1 h2 => ⟨rfl, hU U h1 h2⟩⟩ rfl hn hl.1 hstk (lv_room hst) hd ⟨Nat.le_refl _, Nat.le_refl _⟩
theorem cb_J3_checkIndex_8e157 : CwB yJ3_checkIndex_8e157 cJ3_checkIndex_8e157 3 (some .int) 3 := ⟨tb_of 457 (by decide +kernel) rfl, tb_of 66 (by decide +kernel) rfl, by decide +kernel⟩
theorem cb_J0_checkIndex_df160 : CwB yJ0_checkIndex_df160 cJ0_checkIndex_df160 2 none 2 := ⟨tb_of 452 (by decide +kernel) rfl, tb_of 64 (by decide +kernel) rfl, by decide +kernel⟩
theorem cb_J1_charAt_3b067 : CwB yJ1_charAt_3b067 cJ1_charAt_3b067 2 (some .char) 2 := ⟨tb_of 449 (by decide +kernel) rfl, tb_of 65 (by decide +kernel) rfl, by decide +kernel⟩
theorem cb_J0_isLatin1_aae02 : CwB yJ0_isLatin1_aae02 cJ0_isLatin1_aae02 1 (some .boolean) 0 := ⟨tb_of 446 (by decide +kernel) rfl, tb_of 64 (by decide +kernel) rfl, by decide +kernel⟩
theorem cb_J0_coder_7d493 : CwB yJ0_coder_7d493 cJ0_coder_7d493 1 (some .byte) 0 := ⟨tb_of 436 (by decide +kernel) rfl, tb_of 64 (by decide +kernel) rfl, by decide +kernel⟩
theorem cb_J0_length_8abf5 : CwB yJ0_length_8abf5 cJ0_length_8abf5 1 (some .int) 0 := ⟨tb_of 432 (by decide +kernel) rfl, tb_of 64 (by decide +kernel) rfl, by decide +kernel⟩
theorem cb_J0_charAt_5068e : CwB yJ0_charAt_5068e cJ0_charAt_5068e 2 (some .char) 1 := ⟨tb_of 442 (by decide +kernel) rfl, tb_of 64 (by decide +kernel) rfl, by decide +kernel⟩
theorem lm_RJ0_1059 : Cond.methodLink RJ0 1059 yJ3_checkIndex_8e157 ∈ TB ∧ Cond.static yJ3_checkIndex_8e157 ∈ TB := ⟨tb_of 455 (by decide +kernel) rfl, tb_of 456 (by decide +kernel) rfl⟩
theorem lm_RJ1_9 : Cond.methodLink RJ1 9 yJ0_checkIndex_df160 ∈ TB ∧ Cond.static yJ0_checkIndex_df160 ∈ TB := ⟨tb_of 450 (by decide +kernel) rfl, tb_of 451 (by decide +kernel) rfl⟩
theorem lm_RJ0_335 : Cond.methodLink RJ0 335 yJ0_coder_7d493 ∈ TB ∧ Cond.instanceMethod yJ0_coder_7d493 ∈ TB ∧ Cond.selects yJ0_coder_7d493.cls yJ0_coder_7d493 yJ0_coder_7d493 ∈ TB := ⟨tb_of 433 (by decide +kernel) rfl, tb_of 434 (by decide +kernel) rfl, tb_of 435 (by decide +kernel) rfl⟩
theorem lm_RJ0_492 : Cond.methodLink RJ0 492 yJ0_isLatin1_aae02 ∈ TB ∧ Cond.instanceMethod yJ0_isLatin1_aae02 ∈ TB ∧ Cond.selects yJ0_isLatin1_aae02.cls yJ0_isLatin1_aae02 yJ0_isLatin1_aae02 ∈ TB := ⟨tb_of 443 (by decide +kernel) rfl, tb_of 444 (by decide +kernel) rfl, tb_of 445 (by decide +kernel) rfl⟩
theorem lm_RJ0_495 : Cond.methodLink RJ0 495 yJ1_charAt_3b067 ∈ TB ∧ Cond.static yJ1_charAt_3b067 ∈ TB := ⟨tb_of 447 (by decide +kernel) rfl, tb_of 448 (by decide +kernel) rfl⟩
theorem lf_coder : Cond.fieldLink RJ0 15 "java/lang/String" "coder" "B" ∈ TB := tb_of 1185 (by decide +kernel) rfl
theorem lf_value : Cond.fieldLink RJ0 9 "java/lang/String" "value" "[B" ∈ TB := tb_of 1184 (by decide +kernel) rfl
theorem lf_compact : Cond.fieldLink RJ0 38 "java/lang/String" "COMPACT_STRINGS" "Z" ∈ TB := tb_of 437 (by decide +kernel) rfl
theorem lf_form : Cond.fieldLink RJ0 1053 "jdk/internal/util/Preconditions" "SIOOBE_FORMATTER" "Ljava/util/function/BiFunction;" ∈ TB := tb_of 453 (by decide +kernel) rfl
theorem lm_RX3_102 : Cond.methodLink RX3 102 yJ0_length_8abf5 ∈ TB ∧ Cond.instanceMethod yJ0_length_8abf5 ∈ TB ∧ Cond.selects yJ0_length_8abf5.cls yJ0_length_8abf5 yJ0_length_8abf5 ∈ TB := ⟨tb_of 429 (by decide +kernel) rfl, tb_of 430 (by decide +kernel) rfl, tb_of 431 (by decide +kernel) rfl⟩
theorem lm_RX3_106 : Cond.methodLink RX3 106 yJ0_charAt_5068e ∈ TB ∧ Cond.instanceMethod yJ0_charAt_5068e ∈ TB ∧ Cond.selects yJ0_charAt_5068e.cls yJ0_charAt_5068e yJ0_charAt_5068e ∈ TB := ⟨tb_of 439 (by decide +kernel) rfl, tb_of 440 (by decide +kernel) rfl, tb_of 441 (by decide +kernel) rfl⟩
theorem dJ0_length_8abf5_0 : decode cJ0_length_8abf5 0 = .ok (.aload_n 0, 1) := by decide +kernel
theorem dJ0_length_8abf5_1 : decode cJ0_length_8abf5 1 = .ok (.getfield 9, 3) := by decide +kernel
theorem dJ0_length_8abf5_4 : decode cJ0_length_8abf5 4 = .ok (.arraylength, 1) := by decide +kernel
theorem dJ0_length_8abf5_5 : decode cJ0_length_8abf5 5 = .ok (.aload_n 0, 1) := by decide +kernel
theorem dJ0_length_8abf5_6 : decode cJ0_length_8abf5 6 = .ok (.invokevirtual 335, 3) := by decide +kernel
theorem dJ0_length_8abf5_9 : decode cJ0_length_8abf5 9 = .ok (.ishr, 1) := by decide +kernel
theorem dJ0_length_8abf5_10 : decode cJ0_length_8abf5 10 = .ok (.ireturn, 1) := by decide +kernel
theorem dJ0_coder_7d493_0 : decode cJ0_coder_7d493 0 = .ok (.getstatic 38, 3) := by decide +kernel
theorem dJ0_coder_7d493_3 : decode cJ0_coder_7d493 3 = .ok (.ifCond .eq 10, 3) := by decide +kernel
theorem dJ0_coder_7d493_6 : decode cJ0_coder_7d493 6 = .ok (.aload_n 0, 1) := by decide +kernel
theorem dJ0_coder_7d493_7 : decode cJ0_coder_7d493 7 = .ok (.getfield 15, 3) := by decide +kernel
theorem dJ0_coder_7d493_10 : decode cJ0_coder_7d493 10 = .ok (.goto 4, 3) := by decide +kernel
theorem dJ0_coder_7d493_13 : decode cJ0_coder_7d493 13 = .ok (.iconst 1, 1) := by decide +kernel
theorem dJ0_coder_7d493_14 : decode cJ0_coder_7d493 14 = .ok (.ireturn, 1) := by decide +kernel
theorem dJ0_charAt_5068e_0 : decode cJ0_charAt_5068e 0 = .ok (.aload_n 0, 1) := by decide +kernel
theorem dJ0_charAt_5068e_1 : decode cJ0_charAt_5068e 1 = .ok (.invokevirtual 492, 3) := by decide +kernel
theorem dJ0_charAt_5068e_4 : decode cJ0_charAt_5068e 4 = .ok (.ifCond .eq 12, 3) := by decide +kernel
theorem dJ0_charAt_5068e_7 : decode cJ0_charAt_5068e 7 = .ok (.aload_n 0, 1) := by decide +kernel
theorem dJ0_charAt_5068e_8 : decode cJ0_charAt_5068e 8 = .ok (.getfield 9, 3) := by decide +kernel
theorem dJ0_charAt_5068e_11 : decode cJ0_charAt_5068e 11 = .ok (.iload_n 1, 1) := by decide +kernel
theorem dJ0_charAt_5068e_12 : decode cJ0_charAt_5068e 12 = .ok (.invokestatic 495, 3) := by decide +kernel
theorem dJ0_charAt_5068e_15 : decode cJ0_charAt_5068e 15 = .ok (.ireturn, 1) := by decide +kernel
theorem dJ0_charAt_5068e_16 : decode cJ0_charAt_5068e 16 = .ok (.aload_n 0, 1) := by decide +kernel
theorem dJ0_charAt_5068e_17 : decode cJ0_charAt_5068e 17 = .ok (.getfield 9, 3) := by decide +kernel
theorem dJ0_charAt_5068e_20 : decode cJ0_charAt_5068e 20 = .ok (.iload_n 1, 1) := by decide +kernel
theorem dJ0_charAt_5068e_21 : decode cJ0_charAt_5068e 21 = .ok (.invokestatic 498, 3) := by decide +kernel
theorem dJ0_charAt_5068e_24 : decode cJ0_charAt_5068e 24 = .ok (.ireturn, 1) := by decide +kernel
theorem dJ0_isLatin1_aae02_0 : decode cJ0_isLatin1_aae02 0 = .ok (.getstatic 38, 3) := by decide +kernel
theorem dJ0_isLatin1_aae02_3 : decode cJ0_isLatin1_aae02 3 = .ok (.ifCond .eq 14, 3) := by decide +kernel
theorem dJ0_isLatin1_aae02_6 : decode cJ0_isLatin1_aae02 6 = .ok (.aload_n 0, 1) := by decide +kernel
theorem dJ0_isLatin1_aae02_7 : decode cJ0_isLatin1_aae02 7 = .ok (.getfield 15, 3) := by decide +kernel
theorem dJ0_isLatin1_aae02_10 : decode cJ0_isLatin1_aae02 10 = .ok (.ifCond .ne 7, 3) := by decide +kernel
theorem dJ0_isLatin1_aae02_13 : decode cJ0_isLatin1_aae02 13 = .ok (.iconst 1, 1) := by decide +kernel
theorem dJ0_isLatin1_aae02_14 : decode cJ0_isLatin1_aae02 14 = .ok (.goto 4, 3) := by decide +kernel
theorem dJ0_isLatin1_aae02_17 : decode cJ0_isLatin1_aae02 17 = .ok (.iconst 0, 1) := by decide +kernel
theorem dJ0_isLatin1_aae02_18 : decode cJ0_isLatin1_aae02 18 = .ok (.ireturn, 1) := by decide +kernel
theorem dJ1_charAt_3b067_0 : decode cJ1_charAt_3b067 0 = .ok (.iload_n 1, 1) := by decide +kernel
theorem dJ1_charAt_3b067_1 : decode cJ1_charAt_3b067 1 = .ok (.aload_n 0, 1) := by decide +kernel
theorem dJ1_charAt_3b067_2 : decode cJ1_charAt_3b067 2 = .ok (.arraylength, 1) := by decide +kernel
theorem dJ1_charAt_3b067_3 : decode cJ1_charAt_3b067 3 = .ok (.invokestatic 9, 3) := by decide +kernel
theorem dJ1_charAt_3b067_6 : decode cJ1_charAt_3b067 6 = .ok (.aload_n 0, 1) := by decide +kernel
theorem dJ1_charAt_3b067_7 : decode cJ1_charAt_3b067 7 = .ok (.iload_n 1, 1) := by decide +kernel
theorem dJ1_charAt_3b067_8 : decode cJ1_charAt_3b067 8 = .ok (.baload, 1) := by decide +kernel
theorem dJ1_charAt_3b067_9 : decode cJ1_charAt_3b067 9 = .ok (.sipush 255, 3) := by decide +kernel
theorem dJ1_charAt_3b067_12 : decode cJ1_charAt_3b067 12 = .ok (.iand, 1) := by decide +kernel
theorem dJ1_charAt_3b067_13 : decode cJ1_charAt_3b067 13 = .ok (.i2c, 1) := by decide +kernel
theorem dJ1_charAt_3b067_14 : decode cJ1_charAt_3b067 14 = .ok (.ireturn, 1) := by decide +kernel
theorem dJ0_checkIndex_df160_0 : decode cJ0_checkIndex_df160 0 = .ok (.iload_n 0, 1) := by decide +kernel
theorem dJ0_checkIndex_df160_1 : decode cJ0_checkIndex_df160 1 = .ok (.iload_n 1, 1) := by decide +kernel
theorem dJ0_checkIndex_df160_2 : decode cJ0_checkIndex_df160 2 = .ok (.getstatic 1053, 3) := by decide +kernel
theorem dJ0_checkIndex_df160_5 : decode cJ0_checkIndex_df160 5 = .ok (.invokestatic 1059, 3) := by decide +kernel
theorem dJ0_checkIndex_df160_8 : decode cJ0_checkIndex_df160 8 = .ok (.pop, 1) := by decide +kernel
theorem dJ0_checkIndex_df160_9 : decode cJ0_checkIndex_df160 9 = .ok (.return_, 1) := by decide +kernel
theorem dJ3_checkIndex_8e157_0 : decode cJ3_checkIndex_8e157 0 = .ok (.iload_n 0, 1) := by decide +kernel
theorem dJ3_checkIndex_8e157_1 : decode cJ3_checkIndex_8e157 1 = .ok (.ifCond .lt 8, 3) := by decide +kernel
theorem dJ3_checkIndex_8e157_4 : decode cJ3_checkIndex_8e157 4 = .ok (.iload_n 0, 1) := by decide +kernel
theorem dJ3_checkIndex_8e157_5 : decode cJ3_checkIndex_8e157 5 = .ok (.iload_n 1, 1) := by decide +kernel
theorem dJ3_checkIndex_8e157_6 : decode cJ3_checkIndex_8e157 6 = .ok (.if_icmp .lt 10, 3) := by decide +kernel
theorem dJ3_checkIndex_8e157_9 : decode cJ3_checkIndex_8e157 9 = .ok (.aload_n 2, 1) := by decide +kernel
theorem dJ3_checkIndex_8e157_10 : decode cJ3_checkIndex_8e157 10 = .ok (.iload_n 0, 1) := by decide +kernel
theorem dJ3_checkIndex_8e157_11 : decode cJ3_checkIndex_8e157 11 = .ok (.iload_n 1, 1) := by decide +kernel
theorem dJ3_checkIndex_8e157_12 : decode cJ3_checkIndex_8e157 12 = .ok (.invokestatic 95, 3) := by decide +kernel
theorem dJ3_checkIndex_8e157_15 : decode cJ3_checkIndex_8e157 15 = .ok (.athrow, 1) := by decide +kernel
theorem dJ3_checkIndex_8e157_16 : decode cJ3_checkIndex_8e157 16 = .ok (.iload_n 0, 1) := by decide +kernel
theorem dJ3_checkIndex_8e157_17 : decode cJ3_checkIndex_8e157 17 = .ok (.ireturn, 1) := by decide +kernel
set_option maxRecDepth 100000 in
set_option maxHeartbeats 4000000 in
theorem ct_checkIndex {l : Launch} {g : GG} {σ : Sd} (hg : OKg g σ) {b : Bool} (hb : σ.2.1 = b) (w : Wd) {i n : Int32} {v : Value} (hv : v = .null ∨ ∃ t, v = .ref t) (h0 : ¬ i < 0) (h1 : i < n) : CT l g σ yJ3_checkIndex_8e157 cJ3_checkIndex_8e157 3 (some .int) 0 0 [.int i, .int n, v] w (some (.int i)) w := by
  refine ct_of (rt := fun _ : Unit => ((some (.int i)), w)) (res := some ()) (q := ()) (own := RJ3) (b := b) (nd := []) hg hb (fun _ h => absurd h List.not_mem_nil) (by decide) rfl (by rcases hv with rfl | ⟨t, rfl⟩ <;> exact Nat.le_of_ble_eq_true rfl) rfl (fun K e1 e2 e3 F => ?_)
  subst e1 e2 e3
  show N K _ _ w 0 [(0, .int i), (1, .int n), (2, v)] []
  refine n_iload_n F dJ3_checkIndex_8e157_0 rfl 0 rfl ?_
  refine n_if_lt F 9 dJ3_checkIndex_8e157_1 (by decide) (fun e => absurd e h0) (fun _ => ?_)
  refine n_iload_n F dJ3_checkIndex_8e157_4 rfl 0 rfl ?_
  refine n_iload_n F dJ3_checkIndex_8e157_5 rfl 1 rfl ?_
  refine n_icmp_lt F 16 dJ3_checkIndex_8e157_6 (by decide) (fun _ => ?_) (fun e => absurd h1 e)
  refine n_iload_n F dJ3_checkIndex_8e157_16 rfl 0 rfl ?_
  exact n_iret F rfl rfl dJ3_checkIndex_8e157_17
set_option maxRecDepth 100000 in
set_option maxHeartbeats 4000000 in
theorem ct_scheck {l : Launch} {g : GG} {σ : Sd} (hg : OKg g σ) {b : Bool} (hb : σ.2.1 = b) (w : Wd) {i n : Int32} (h0 : ¬ i < 0) (h1 : i < n) : CT l g σ yJ0_checkIndex_df160 cJ0_checkIndex_df160 2 none 1 22 [.int i, .int n] w none w := by
  refine ct_of (rt := fun _ : Unit => (none, w)) (res := some ()) (q := ()) (own := RJ0) (b := b) (nd := []) hg hb (fun _ h => absurd h List.not_mem_nil) (by decide) rfl (Nat.le_of_ble_eq_true rfl) rfl (fun K e1 e2 e3 F => ?_)
  subst e1 e2 e3
  show N K _ _ w 0 [(0, .int i), (1, .int n)] []
  refine n_iload_n F dJ0_checkIndex_df160_0 rfl 0 rfl ?_
  refine n_iload_n F dJ0_checkIndex_df160_1 rfl 1 rfl ?_
  refine n_gsF F lf_form dJ0_checkIndex_df160_2 (fun v hv => ?_)
  refine n_callSi F cb_J3_checkIndex_8e157 lm_RJ0_1059 (ct_checkIndex (fx_ok F) (fx_sd F) w hv h0 h1) rfl rfl (Nat.le_of_ble_eq_true rfl) ⟨Nat.le_of_ble_eq_true rfl, Nat.le_of_ble_eq_true rfl⟩ dJ0_checkIndex_df160_5 ?_
  refine n_pop F dJ0_checkIndex_df160_8 rfl ?_
  exact n_vret F rfl rfl dJ0_checkIndex_df160_9
theorem sCh_char (i : Nat) (k : Int32) : narrow .char (.int (sCh i k)) = .int (sCh i k) := pk_nc _
theorem sLen_lt : ∀ i, i < 6 → sLen.getD i 0 < 2 ^ 31 := by decide
theorem sIn {i : Nat} (hi : i < 6) {k : Int32} (h : ib k (sLen.getD i 0) = true) : ¬ k < 0 ∧ k < nI (sLen.getD i 0) := by
  obtain ⟨j, hj, rfl⟩ := vp_in_of (ib_in h) (sLen_lt i hi)
  exact ⟨nI_pos (Nat.lt_trans hj (sLen_lt i hi)), nI_lt hj (sLen_lt i hi)⟩
set_option maxRecDepth 100000 in
set_option maxHeartbeats 4000000 in
theorem ct_l1charAt {l : Launch} {g : GG} {σ : Sd} (hg : OKg g σ) {b : Bool} (hb : σ.2.1 = b) (w : Wd) {i : Nat} (hi : i < 6) {k : Int32} (hk : ib k (sLen.getD i 0) = true) : CT l g σ yJ1_charAt_3b067 cJ1_charAt_3b067 2 (some .char) 2 43 [.ref (gV g i), .int k] w (some (.int (sCh i k))) w := by
  refine ct_of (rt := fun _ : Unit => ((some (.int (sCh i k))), w)) (res := some ()) (q := ()) (own := RJ1) (b := b) (nd := []) hg hb (fun _ h => absurd h List.not_mem_nil) (by decide) rfl (Nat.le_of_ble_eq_true rfl) rfl (fun K e1 e2 e3 F => ?_)
  subst e1 e2 e3
  show N K _ _ w 0 [(0, .ref (gV (cg K) i)), (1, .int k)] []
  refine n_iload_n F dJ1_charAt_3b067_0 rfl 1 rfl ?_
  refine n_aload_n F dJ1_charAt_3b067_1 rfl 0 rfl ?_
  refine n_sLen F hi dJ1_charAt_3b067_2 ?_
  refine n_callSv F cb_J0_checkIndex_df160 lm_RJ1_9 (ct_scheck (fx_ok F) (fx_sd F) w (sIn hi hk).1 (sIn hi hk).2) rfl rfl (Nat.le_of_ble_eq_true rfl) ⟨Nat.le_of_ble_eq_true rfl, Nat.le_of_ble_eq_true rfl⟩ dJ1_charAt_3b067_3 ?_
  refine n_aload_n F dJ1_charAt_3b067_6 rfl 0 rfl ?_
  refine n_iload_n F dJ1_charAt_3b067_7 rfl 1 rfl ?_
  refine n_sByte F hi (ib_in hk) dJ1_charAt_3b067_8 ?_
  refine n_sipush F (255 : Int32) dJ1_charAt_3b067_9 (by decide) ?_
  refine n_iand F dJ1_charAt_3b067_12 ?_
  refine n_i2c F dJ1_charAt_3b067_13 ?_
  exact n_zret F .char rfl (sCh_char i k) rfl dJ1_charAt_3b067_14
set_option maxRecDepth 100000 in
set_option maxHeartbeats 4000000 in
theorem ct_isLatin1 {l : Launch} {g : GG} {σ : Sd} (hg : OKg g σ) {b : Bool} (hb : σ.2.1 = b) (w : Wd) {i : Nat} (hi : i < 6) : CT l g σ yJ0_isLatin1_aae02 cJ0_isLatin1_aae02 1 (some .boolean) 0 0 [.ref (gK g i)] w (some (.int 1)) w := by
  refine ct_of (rt := fun _ : Unit => ((some (.int 1)), w)) (res := some ()) (q := ()) (own := RJ0) (b := b) (nd := []) hg hb (fun _ h => absurd h List.not_mem_nil) (by decide) rfl (Nat.le_of_ble_eq_true rfl) rfl (fun K e1 e2 e3 F => ?_)
  subst e1 e2 e3
  show N K _ _ w 0 [(0, .ref (gK (cg K) i))] []
  refine n_gsC F lf_compact dJ0_isLatin1_aae02_0 ?_
  refine n_if_eq F 17 dJ0_isLatin1_aae02_3 (by decide) (fun e => absurd e (by decide)) (fun _ => ?_)
  refine n_aload_n F dJ0_isLatin1_aae02_6 rfl 0 rfl ?_
  refine n_sCoder F hi lf_coder dJ0_isLatin1_aae02_7 ?_
  refine n_if_ne F 17 dJ0_isLatin1_aae02_10 (by decide) (fun e => absurd rfl e) (fun _ => ?_)
  refine n_iconst F (1 : Int32) dJ0_isLatin1_aae02_13 (by decide) ?_
  refine n_goto F 18 dJ0_isLatin1_aae02_14 (by decide) ?_
  exact n_zret F .boolean rfl rfl rfl dJ0_isLatin1_aae02_18
set_option maxRecDepth 100000 in
set_option maxHeartbeats 4000000 in
theorem ct_coder {l : Launch} {g : GG} {σ : Sd} (hg : OKg g σ) {b : Bool} (hb : σ.2.1 = b) (w : Wd) {i : Nat} (hi : i < 6) : CT l g σ yJ0_coder_7d493 cJ0_coder_7d493 1 (some .byte) 0 0 [.ref (gK g i)] w (some (.int 0)) w := by
  refine ct_of (rt := fun _ : Unit => ((some (.int 0)), w)) (res := some ()) (q := ()) (own := RJ0) (b := b) (nd := []) hg hb (fun _ h => absurd h List.not_mem_nil) (by decide) rfl (Nat.le_of_ble_eq_true rfl) rfl (fun K e1 e2 e3 F => ?_)
  subst e1 e2 e3
  show N K _ _ w 0 [(0, .ref (gK (cg K) i))] []
  refine n_gsC F lf_compact dJ0_coder_7d493_0 ?_
  refine n_if_eq F 13 dJ0_coder_7d493_3 (by decide) (fun e => absurd e (by decide)) (fun _ => ?_)
  refine n_aload_n F dJ0_coder_7d493_6 rfl 0 rfl ?_
  refine n_sCoder F hi lf_coder dJ0_coder_7d493_7 ?_
  refine n_goto F 14 dJ0_coder_7d493_10 (by decide) ?_
  exact n_zret F .byte rfl rfl rfl dJ0_coder_7d493_14
set_option maxRecDepth 100000 in
set_option maxHeartbeats 4000000 in
theorem ct_slen {l : Launch} {g : GG} {σ : Sd} (hg : OKg g σ) {b : Bool} (hb : σ.2.1 = b) (w : Wd) {i : Nat} (hi : i < 6) : CT l g σ yJ0_length_8abf5 cJ0_length_8abf5 1 (some .int) 1 20 [.ref (gK g i)] w (some (.int (nI (sLen.getD i 0)))) w := by
  refine ct_of (rt := fun _ : Unit => ((some (.int (nI (sLen.getD i 0)))), w)) (res := some ()) (q := ()) (own := RJ0) (b := b) (nd := []) hg hb (fun _ h => absurd h List.not_mem_nil) (by decide) rfl (Nat.le_of_ble_eq_true rfl) rfl (fun K e1 e2 e3 F => ?_)
  subst e1 e2 e3
  show N K _ _ w 0 [(0, .ref (gK (cg K) i))] []
  refine n_aload_n F dJ0_length_8abf5_0 rfl 0 rfl ?_
  refine n_sVal F hi lf_value dJ0_length_8abf5_1 ?_
  refine n_sLen F hi dJ0_length_8abf5_4 ?_
  refine n_aload_n F dJ0_length_8abf5_5 rfl 0 rfl ?_
  refine n_callStr F hi rfl cb_J0_coder_7d493 lm_RJ0_335 (ct_coder (fx_ok F) (fx_sd F) w hi) rfl rfl (Nat.le_of_ble_eq_true rfl) ⟨Nat.le_of_ble_eq_true rfl, Nat.le_of_ble_eq_true rfl⟩ dJ0_length_8abf5_6 ?_
  refine n_ishr F dJ0_length_8abf5_9 ?_
  rw [sc_shr0 (sLen_lt i hi)]
  exact n_iret F rfl rfl dJ0_length_8abf5_10
set_option maxRecDepth 100000 in
set_option maxHeartbeats 4000000 in
theorem ct_scharAt {l : Launch} {g : GG} {σ : Sd} (hg : OKg g σ) {b : Bool} (hb : σ.2.1 = b) (w : Wd) {i : Nat} (hi : i < 6) {k : Int32} (hk : ib k (sLen.getD i 0) = true) : CT l g σ yJ0_charAt_5068e cJ0_charAt_5068e 2 (some .char) 3 64 [.ref (gK g i), .int k] w (some (.int (sCh i k))) w := by
  refine ct_of (rt := fun _ : Unit => ((some (.int (sCh i k))), w)) (res := some ()) (q := ()) (own := RJ0) (b := b) (nd := []) hg hb (fun _ h => absurd h List.not_mem_nil) (by decide) rfl (Nat.le_of_ble_eq_true rfl) rfl (fun K e1 e2 e3 F => ?_)
  subst e1 e2 e3
  show N K _ _ w 0 [(0, .ref (gK (cg K) i)), (1, .int k)] []
  refine n_aload_n F dJ0_charAt_5068e_0 rfl 0 rfl ?_
  refine n_callStr F hi rfl cb_J0_isLatin1_aae02 lm_RJ0_492 (ct_isLatin1 (fx_ok F) (fx_sd F) w hi) rfl rfl (Nat.le_of_ble_eq_true rfl) ⟨Nat.le_of_ble_eq_true rfl, Nat.le_of_ble_eq_true rfl⟩ dJ0_charAt_5068e_1 ?_
  refine n_if_eq F 16 dJ0_charAt_5068e_4 (by decide) (fun e => absurd e (by decide)) (fun _ => ?_)
  refine n_aload_n F dJ0_charAt_5068e_7 rfl 0 rfl ?_
  refine n_sVal F hi lf_value dJ0_charAt_5068e_8 ?_
  refine n_iload_n F dJ0_charAt_5068e_11 rfl 1 rfl ?_
  refine n_callSi F cb_J1_charAt_3b067 lm_RJ0_495 (ct_l1charAt (fx_ok F) (fx_sd F) w hi hk) rfl rfl (Nat.le_of_ble_eq_true rfl) ⟨Nat.le_of_ble_eq_true rfl, Nat.le_of_ble_eq_true rfl⟩ dJ0_charAt_5068e_12 ?_
  exact n_zret F .char rfl (sCh_char i k) rfl dJ0_charAt_5068e_15
theorem n_slen {K : Ctx} {cc : ByteArray} {nL : Nat} {ret : Option FieldType} {fr lo : Nat} {b : Bool} {nd : List Nat} {ρ : Type} {rt : ρ → Option Value × Wd} {res : Option ρ} {w : Wd} {pc : Nat} {lv : List (Nat × Value)} {st : List Value} (F : Fx K cc nL RX3 ret fr lo b nd) {i : Nat} (hi : i < 6) (hroom : 2 ≤ fr ∧ 40 ≤ lo) (hst : (st.map fun v => v.category).sum ≤ 8) (hd : decode cc pc = .ok (.invokevirtual 102, 3)) (k : N K rt res w (pc + 3) lv (.int (nI (sLen.getD i 0)) :: st)) : N K rt res w pc lv (.ref (gK (cg K) i) :: st) :=
  n_callStr F hi rfl cb_J0_length_8abf5 lm_RX3_102 (ct_slen (fx_ok F) (fx_sd F) w hi) rfl rfl hst hroom hd k
theorem n_sch {K : Ctx} {cc : ByteArray} {nL : Nat} {ret : Option FieldType} {fr lo : Nat} {b : Bool} {nd : List Nat} {ρ : Type} {rt : ρ → Option Value × Wd} {res : Option ρ} {w : Wd} {pc : Nat} {lv : List (Nat × Value)} {st : List Value} (F : Fx K cc nL RX3 ret fr lo b nd) {i : Nat} (hi : i < 6) {j : Int32} (hj : ib j (sLen.getD i 0) = true) (hroom : 4 ≤ fr ∧ 85 ≤ lo) (hst : (st.map fun v => v.category).sum ≤ 8) (hd : decode cc pc = .ok (.invokevirtual 106, 3)) (k : N K rt res w (pc + 3) lv (.int (sCh i j) :: st)) : N K rt res w pc lv (.int j :: .ref (gK (cg K) i) :: st) :=
  n_callStr F hi rfl cb_J0_charAt_5068e lm_RX3_106 (ct_scharAt (fx_ok F) (fx_sd F) w hi hj) rfl rfl hst hroom hd k
