theorem dX8_reach_0 : decode cX8_reach 0 = .ok (.iload_n 1, 1) := by decide +kernel
theorem dX8_reach_1 : decode cX8_reach 1 = .ok (.iconst (-1), 1) := by decide +kernel
theorem dX8_reach_2 : decode cX8_reach 2 = .ok (.if_icmp .eq 9, 3) := by decide +kernel
theorem dX8_reach_5 : decode cX8_reach 5 = .ok (.iload_n 1, 1) := by decide +kernel
theorem dX8_reach_6 : decode cX8_reach 6 = .ok (.bipush 7, 2) := by decide +kernel
theorem dX8_reach_8 : decode cX8_reach 8 = .ok (.if_icmp .ne 9, 3) := by decide +kernel
theorem dX8_reach_11 : decode cX8_reach 11 = .ok (.sipush 128, 3) := by decide +kernel
theorem dX8_reach_14 : decode cX8_reach 14 = .ok (.goto 14, 3) := by decide +kernel
theorem dX8_reach_17 : decode cX8_reach 17 = .ok (.iconst 1, 1) := by decide +kernel
theorem dX8_reach_18 : decode cX8_reach 18 = .ok (.iload_n 1, 1) := by decide +kernel
theorem dX8_reach_19 : decode cX8_reach 19 = .ok (.ishl, 1) := by decide +kernel
theorem dX8_reach_20 : decode cX8_reach 20 = .ok (.aload_n 0, 1) := by decide +kernel
theorem dX8_reach_21 : decode cX8_reach 21 = .ok (.iload_n 1, 1) := by decide +kernel
theorem dX8_reach_22 : decode cX8_reach 22 = .ok (.iload_n 2, 1) := by decide +kernel
theorem dX8_reach_23 : decode cX8_reach 23 = .ok (.iload_n 3, 1) := by decide +kernel
theorem dX8_reach_24 : decode cX8_reach 24 = .ok (.invokevirtual 186, 3) := by decide +kernel
theorem dX8_reach_27 : decode cX8_reach 27 = .ok (.ior, 1) := by decide +kernel
theorem dX8_reach_28 : decode cX8_reach 28 = .ok (.ireturn, 1) := by decide +kernel
def Mo_reach (w : Wd) (a1 : Int32) (a2 : Int32) (a3 : Int32) : Option Int32 := (if a1 = (-1 : Int32) then some (128 : Int32) else (if a1 = (7 : Int32) then some (128 : Int32) else (Option.bind (Mo_nightsFrom w a1 a2 a3) (fun q3 => some (((1 : Int32) <<< (a1 &&& (31 : Int32))) ||| q3)))))
set_option maxRecDepth 100000 in
set_option maxHeartbeats 4000000 in
theorem ct_Mo_reach {l : Launch} {g : GG} {σ : Sd} (hg : OKg g σ) (hb : σ.2.1 = false) (hx : ∀ c ∈ ([37, 42] : List Nat), c ∈ σ.1) (w : Wd) (a1 : Int32) (a2 : Int32) (a3 : Int32) {q : Int32} (hq : Mo_reach w a1 a2 a3 = some q) : CT l g σ yX8_reach cX8_reach 4 (some .int) 2 48 [.ref (gA g 37), .int a1, .int a2, .int a3] w (some (.int q)) w := by
  refine ct_of (rt := (rtP w)) (res := Mo_reach w a1 a2 a3) (q := q) (own := RX8) (b := false) hg hb hx (by decide) rfl (Nat.le_of_ble_eq_true rfl) hq (fun K e1 e2 e3 F => ?_)
  subst e1 e2 e3
  rw [Mo_reach]
  show N K _ _ w 0 [(0, .ref (gA (cg K) 37)), (1, .int a1), (2, .int a2), (3, .int a3)] []
  refine n_iload_n F dX8_reach_0 rfl 1 rfl ?_
  refine n_iconst F (-1 : Int32) dX8_reach_1 (by decide) ?_
  refine n_icmp_eq F 11 dX8_reach_2 (by decide) (fun e1 => ?_) (fun e1 => ?_)
  · rw [if_pos e1]
    refine n_sipush F (128 : Int32) dX8_reach_11 (by decide) ?_
    refine n_goto F 28 dX8_reach_14 (by decide) ?_
    exact n_iret F rfl rfl dX8_reach_28
  rw [if_neg e1]
  refine n_iload_n F dX8_reach_5 rfl 1 rfl ?_
  refine n_bipush F (7 : Int32) dX8_reach_6 (by decide) ?_
  refine n_icmp_ne F 17 dX8_reach_8 (by decide) (fun e2 => ?_) (fun e2 => ?_)
  · rw [if_neg e2]
    refine n_iconst F (1 : Int32) dX8_reach_17 (by decide) ?_
    refine n_iload_n F dX8_reach_18 rfl 1 rfl ?_
    refine n_ishl F dX8_reach_19 ?_
    refine n_aload_n F dX8_reach_20 rfl 0 rfl ?_
    refine n_iload_n F dX8_reach_21 rfl 1 rfl ?_
    refine n_iload_n F dX8_reach_22 rfl 2 rfl ?_
    refine n_iload_n F dX8_reach_23 rfl 3 rfl ?_
    refine n_bind (fun q3 hq3 => ?_)
    refine n_callVi F cb_X8_nightsFrom lm_RX8_186 ob_37 (by decide) ⟨_, _, rfl⟩ (ct_Mo_nightsFrom (fx_ok F) (fx_sd F) (fx_ix F rfl) w a1 a2 a3 hq3) rfl rfl (Nat.le_of_ble_eq_true rfl) ⟨Nat.le_of_ble_eq_true rfl, Nat.le_of_ble_eq_true rfl⟩ dX8_reach_24 ?_
    refine n_ior F dX8_reach_27 ?_
    exact n_iret F rfl rfl dX8_reach_28
  rw [if_pos e2]
  refine n_sipush F (128 : Int32) dX8_reach_11 (by decide) ?_
  refine n_goto F 28 dX8_reach_14 (by decide) ?_
  exact n_iret F rfl rfl dX8_reach_28
theorem dX8_shut_0 : decode cX8_shut 0 = .ok (.iload_n 1, 1) := by decide +kernel
theorem dX8_shut_1 : decode cX8_shut 1 = .ok (.iconst (-1), 1) := by decide +kernel
theorem dX8_shut_2 : decode cX8_shut 2 = .ok (.if_icmp .eq 13, 3) := by decide +kernel
theorem dX8_shut_5 : decode cX8_shut 5 = .ok (.iload_n 1, 1) := by decide +kernel
theorem dX8_shut_6 : decode cX8_shut 6 = .ok (.invokestatic 168, 3) := by decide +kernel
theorem dX8_shut_9 : decode cX8_shut 9 = .ok (.ifCond .ne 6, 3) := by decide +kernel
theorem dX8_shut_12 : decode cX8_shut 12 = .ok (.bipush (-2), 2) := by decide +kernel
theorem dX8_shut_14 : decode cX8_shut 14 = .ok (.ireturn, 1) := by decide +kernel
theorem dX8_shut_15 : decode cX8_shut 15 = .ok (.aload_n 0, 1) := by decide +kernel
theorem dX8_shut_16 : decode cX8_shut 16 = .ok (.getfield 7, 3) := by decide +kernel
theorem dX8_shut_19 : decode cX8_shut 19 = .ok (.iconst 3, 1) := by decide +kernel
theorem dX8_shut_20 : decode cX8_shut 20 = .ok (.iaload, 1) := by decide +kernel
theorem dX8_shut_21 : decode cX8_shut 21 = .ok (.iconst 1, 1) := by decide +kernel
theorem dX8_shut_22 : decode cX8_shut 22 = .ok (.if_icmp .ne 6, 3) := by decide +kernel
theorem dX8_shut_25 : decode cX8_shut 25 = .ok (.bipush (-4), 2) := by decide +kernel
theorem dX8_shut_27 : decode cX8_shut 27 = .ok (.ireturn, 1) := by decide +kernel
theorem dX8_shut_28 : decode cX8_shut 28 = .ok (.aload_n 0, 1) := by decide +kernel
theorem dX8_shut_29 : decode cX8_shut 29 = .ok (.invokevirtual 183, 3) := by decide +kernel
theorem dX8_shut_32 : decode cX8_shut 32 = .ok (.istore_n 2, 1) := by decide +kernel
theorem dX8_shut_33 : decode cX8_shut 33 = .ok (.aload_n 0, 1) := by decide +kernel
theorem dX8_shut_34 : decode cX8_shut 34 = .ok (.aload_n 0, 1) := by decide +kernel
theorem dX8_shut_35 : decode cX8_shut 35 = .ok (.getfield 7, 3) := by decide +kernel
theorem dX8_shut_38 : decode cX8_shut 38 = .ok (.bipush 8, 2) := by decide +kernel
theorem dX8_shut_40 : decode cX8_shut 40 = .ok (.iaload, 1) := by decide +kernel
theorem dX8_shut_41 : decode cX8_shut 41 = .ok (.aload_n 0, 1) := by decide +kernel
theorem dX8_shut_42 : decode cX8_shut 42 = .ok (.getfield 7, 3) := by decide +kernel
theorem dX8_shut_45 : decode cX8_shut 45 = .ok (.iconst 0, 1) := by decide +kernel
theorem dX8_shut_46 : decode cX8_shut 46 = .ok (.iaload, 1) := by decide +kernel
theorem dX8_shut_47 : decode cX8_shut 47 = .ok (.iconst (-1), 1) := by decide +kernel
theorem dX8_shut_48 : decode cX8_shut 48 = .ok (.invokevirtual 190, 3) := by decide +kernel
theorem dX8_shut_51 : decode cX8_shut 51 = .ok (.istore_n 3, 1) := by decide +kernel
theorem dX8_shut_52 : decode cX8_shut 52 = .ok (.aload_n 0, 1) := by decide +kernel
theorem dX8_shut_53 : decode cX8_shut 53 = .ok (.aload_n 0, 1) := by decide +kernel
theorem dX8_shut_54 : decode cX8_shut 54 = .ok (.getfield 7, 3) := by decide +kernel
theorem dX8_shut_57 : decode cX8_shut 57 = .ok (.bipush 9, 2) := by decide +kernel
theorem dX8_shut_59 : decode cX8_shut 59 = .ok (.iaload, 1) := by decide +kernel
theorem dX8_shut_60 : decode cX8_shut 60 = .ok (.aload_n 0, 1) := by decide +kernel
theorem dX8_shut_61 : decode cX8_shut 61 = .ok (.getfield 7, 3) := by decide +kernel
theorem dX8_shut_64 : decode cX8_shut 64 = .ok (.iconst 0, 1) := by decide +kernel
theorem dX8_shut_65 : decode cX8_shut 65 = .ok (.iaload, 1) := by decide +kernel
theorem dX8_shut_66 : decode cX8_shut 66 = .ok (.iconst (-1), 1) := by decide +kernel
theorem dX8_shut_67 : decode cX8_shut 67 = .ok (.invokevirtual 190, 3) := by decide +kernel
theorem dX8_shut_70 : decode cX8_shut 70 = .ok (.istore 4, 2) := by decide +kernel
theorem dX8_shut_72 : decode cX8_shut 72 = .ok (.iconst (-1), 1) := by decide +kernel
theorem dX8_shut_73 : decode cX8_shut 73 = .ok (.istore 5, 2) := by decide +kernel
theorem dX8_shut_75 : decode cX8_shut 75 = .ok (.iconst 0, 1) := by decide +kernel
theorem dX8_shut_76 : decode cX8_shut 76 = .ok (.istore 6, 2) := by decide +kernel
theorem dX8_shut_78 : decode cX8_shut 78 = .ok (.iconst 0, 1) := by decide +kernel
theorem dX8_shut_79 : decode cX8_shut 79 = .ok (.istore 7, 2) := by decide +kernel
theorem dX8_shut_81 : decode cX8_shut 81 = .ok (.iload 7, 2) := by decide +kernel
theorem dX8_shut_83 : decode cX8_shut 83 = .ok (.bipush 64, 2) := by decide +kernel
theorem dX8_shut_85 : decode cX8_shut 85 = .ok (.if_icmp .ge 88, 3) := by decide +kernel
theorem dX8_shut_88 : decode cX8_shut 88 = .ok (.iload_n 3, 1) := by decide +kernel
theorem dX8_shut_89 : decode cX8_shut 89 = .ok (.iload 7, 2) := by decide +kernel
theorem dX8_shut_91 : decode cX8_shut 91 = .ok (.bipush 8, 2) := by decide +kernel
theorem dX8_shut_93 : decode cX8_shut 93 = .ok (.idiv, 1) := by decide +kernel
theorem dX8_shut_94 : decode cX8_shut 94 = .ok (.invokestatic 164, 3) := by decide +kernel
theorem dX8_shut_97 : decode cX8_shut 97 = .ok (.ifCond .eq 70, 3) := by decide +kernel
theorem dX8_shut_100 : decode cX8_shut 100 = .ok (.iload 4, 2) := by decide +kernel
theorem dX8_shut_102 : decode cX8_shut 102 = .ok (.iload 7, 2) := by decide +kernel
theorem dX8_shut_104 : decode cX8_shut 104 = .ok (.bipush 8, 2) := by decide +kernel
theorem dX8_shut_106 : decode cX8_shut 106 = .ok (.irem, 1) := by decide +kernel
theorem dX8_shut_107 : decode cX8_shut 107 = .ok (.invokestatic 164, 3) := by decide +kernel
theorem dX8_shut_110 : decode cX8_shut 110 = .ok (.ifCond .eq 57, 3) := by decide +kernel
theorem dX8_shut_113 : decode cX8_shut 113 = .ok (.iload_n 2, 1) := by decide +kernel
theorem dX8_shut_114 : decode cX8_shut 114 = .ok (.iconst 1, 1) := by decide +kernel
theorem dX8_shut_115 : decode cX8_shut 115 = .ok (.iload 7, 2) := by decide +kernel
theorem dX8_shut_117 : decode cX8_shut 117 = .ok (.bipush 8, 2) := by decide +kernel
theorem dX8_shut_119 : decode cX8_shut 119 = .ok (.idiv, 1) := by decide +kernel
theorem dX8_shut_120 : decode cX8_shut 120 = .ok (.ishl, 1) := by decide +kernel
theorem dX8_shut_121 : decode cX8_shut 121 = .ok (.iconst 1, 1) := by decide +kernel
theorem dX8_shut_122 : decode cX8_shut 122 = .ok (.iload 7, 2) := by decide +kernel
theorem dX8_shut_124 : decode cX8_shut 124 = .ok (.bipush 8, 2) := by decide +kernel
theorem dX8_shut_126 : decode cX8_shut 126 = .ok (.irem, 1) := by decide +kernel
theorem dX8_shut_127 : decode cX8_shut 127 = .ok (.ishl, 1) := by decide +kernel
theorem dX8_shut_128 : decode cX8_shut 128 = .ok (.ior, 1) := by decide +kernel
theorem dX8_shut_129 : decode cX8_shut 129 = .ok (.iand, 1) := by decide +kernel
theorem dX8_shut_130 : decode cX8_shut 130 = .ok (.invokestatic 193, 3) := by decide +kernel
theorem dX8_shut_133 : decode cX8_shut 133 = .ok (.istore 8, 2) := by decide +kernel
theorem dX8_shut_135 : decode cX8_shut 135 = .ok (.iload 8, 2) := by decide +kernel
theorem dX8_shut_137 : decode cX8_shut 137 = .ok (.iload 5, 2) := by decide +kernel
theorem dX8_shut_139 : decode cX8_shut 139 = .ok (.if_icmp .le 8, 3) := by decide +kernel
theorem dX8_shut_142 : decode cX8_shut 142 = .ok (.iload 7, 2) := by decide +kernel
theorem dX8_shut_144 : decode cX8_shut 144 = .ok (.goto 5, 3) := by decide +kernel
theorem dX8_shut_147 : decode cX8_shut 147 = .ok (.iload 6, 2) := by decide +kernel
theorem dX8_shut_149 : decode cX8_shut 149 = .ok (.istore 6, 2) := by decide +kernel
theorem dX8_shut_151 : decode cX8_shut 151 = .ok (.iload 8, 2) := by decide +kernel
theorem dX8_shut_153 : decode cX8_shut 153 = .ok (.iload 5, 2) := by decide +kernel
theorem dX8_shut_155 : decode cX8_shut 155 = .ok (.if_icmp .le 8, 3) := by decide +kernel
theorem dX8_shut_158 : decode cX8_shut 158 = .ok (.iload 8, 2) := by decide +kernel
theorem dX8_shut_160 : decode cX8_shut 160 = .ok (.goto 5, 3) := by decide +kernel
theorem dX8_shut_163 : decode cX8_shut 163 = .ok (.iload 5, 2) := by decide +kernel
theorem dX8_shut_165 : decode cX8_shut 165 = .ok (.istore 5, 2) := by decide +kernel
theorem dX8_shut_167 : decode cX8_shut 167 = .ok (.iinc 7 1, 3) := by decide +kernel
theorem dX8_shut_170 : decode cX8_shut 170 = .ok (.goto (-89), 3) := by decide +kernel
theorem dX8_shut_173 : decode cX8_shut 173 = .ok (.iload_n 1, 1) := by decide +kernel
theorem dX8_shut_174 : decode cX8_shut 174 = .ok (.ifCond .ne 11, 3) := by decide +kernel
theorem dX8_shut_177 : decode cX8_shut 177 = .ok (.iload 6, 2) := by decide +kernel
theorem dX8_shut_179 : decode cX8_shut 179 = .ok (.bipush 8, 2) := by decide +kernel
theorem dX8_shut_181 : decode cX8_shut 181 = .ok (.idiv, 1) := by decide +kernel
theorem dX8_shut_182 : decode cX8_shut 182 = .ok (.goto 8, 3) := by decide +kernel
theorem dX8_shut_185 : decode cX8_shut 185 = .ok (.iload 6, 2) := by decide +kernel
theorem dX8_shut_187 : decode cX8_shut 187 = .ok (.bipush 8, 2) := by decide +kernel
theorem dX8_shut_189 : decode cX8_shut 189 = .ok (.irem, 1) := by decide +kernel
theorem dX8_shut_190 : decode cX8_shut 190 = .ok (.istore 7, 2) := by decide +kernel
theorem dX8_shut_192 : decode cX8_shut 192 = .ok (.iload_n 1, 1) := by decide +kernel
theorem dX8_shut_193 : decode cX8_shut 193 = .ok (.iconst (-1), 1) := by decide +kernel
theorem dX8_shut_194 : decode cX8_shut 194 = .ok (.if_icmp .ne 8, 3) := by decide +kernel
theorem dX8_shut_197 : decode cX8_shut 197 = .ok (.iload 5, 2) := by decide +kernel
theorem dX8_shut_199 : decode cX8_shut 199 = .ok (.goto 16, 3) := by decide +kernel
theorem dX8_shut_202 : decode cX8_shut 202 = .ok (.iload 7, 2) := by decide +kernel
theorem dX8_shut_204 : decode cX8_shut 204 = .ok (.bipush 7, 2) := by decide +kernel
theorem dX8_shut_206 : decode cX8_shut 206 = .ok (.if_icmp .ne 7, 3) := by decide +kernel
theorem dX8_shut_209 : decode cX8_shut 209 = .ok (.iconst (-1), 1) := by decide +kernel
theorem dX8_shut_210 : decode cX8_shut 210 = .ok (.goto 5, 3) := by decide +kernel
theorem dX8_shut_213 : decode cX8_shut 213 = .ok (.iload 7, 2) := by decide +kernel
theorem dX8_shut_215 : decode cX8_shut 215 = .ok (.ireturn, 1) := by decide +kernel
def Mo_shut_B149 (k81 : Wd → Int32 → Int32 → Int32 → Int32 → Int32 → Int32 → Int32 → Option (Int32 × Wd)) (w : Wd) (v1 : Int32) (v2 : Int32) (v3 : Int32) (v4 : Int32) (v5 : Int32) (v7 : Int32) (v8 : Int32) (s0 : Int32) : Option (Int32 × Wd) := (k81 w v1 v2 v3 v4 (if v8 ≤ v5 then v5 else v8) s0 (v7 + (1 : Int32)))
set_option maxRecDepth 100000 in
set_option maxHeartbeats 4000000 in
theorem Mo_shut_B149_ok {K : Ctx} (F : Fx K cX8_shut 9 RX8 (some .int) 4 89 false [37, 38, 42]) {k81 : Wd → Int32 → Int32 → Int32 → Int32 → Int32 → Int32 → Int32 → Option (Int32 × Wd)} (h81 : ∀ (w : Wd) (v1 : Int32) (v2 : Int32) (v3 : Int32) (v4 : Int32) (v5 : Int32) (v6 : Int32) (v7 : Int32), N K rtI (k81 w v1 v2 v3 v4 v5 v6 v7) w 81 [(1, .int v1), (2, .int v2), (3, .int v3), (4, .int v4), (5, .int v5), (6, .int v6), (7, .int v7)] []) (w : Wd) (v1 : Int32) (v2 : Int32) (v3 : Int32) (v4 : Int32) (v5 : Int32) (v7 : Int32) (v8 : Int32) (s0 : Int32) : N K rtI (Mo_shut_B149 k81 w v1 v2 v3 v4 v5 v7 v8 s0) w 149 [(1, .int v1), (2, .int v2), (3, .int v3), (4, .int v4), (5, .int v5), (7, .int v7), (8, .int v8)] [.int s0] := by
  rw [Mo_shut_B149]
  refine n_istore F (lv' := [(6, .int s0), (1, .int v1), (2, .int v2), (3, .int v3), (4, .int v4), (5, .int v5), (7, .int v7), (8, .int v8)]) dX8_shut_149 (by decide) rfl ?_
  refine n_iload F dX8_shut_151 7 rfl ?_
  refine n_iload F dX8_shut_153 5 rfl ?_
  refine n_icmp_le F 163 dX8_shut_155 (by decide) (fun e11 => ?_) (fun e11 => ?_)
  · rw [if_pos e11]
    refine n_iload F dX8_shut_163 5 rfl ?_
    refine n_istore F (lv' := [(5, .int v5), (6, .int s0), (1, .int v1), (2, .int v2), (3, .int v3), (4, .int v4), (7, .int v7), (8, .int v8)]) dX8_shut_165 (by decide) rfl ?_
    refine n_iinc F (v7 + (1 : Int32)) (lv' := [(7, .int (v7 + (1 : Int32))), (5, .int v5), (6, .int s0), (1, .int v1), (2, .int v2), (3, .int v3), (4, .int v4), (8, .int v8)]) dX8_shut_167 6 rfl rfl (by decide) rfl ?_
    refine n_goto F 81 dX8_shut_170 (by decide) ?_
    exact n_sub [3, 4, 5, 6, 1, 2, 0] rfl (h81 _ _ _ _ _ _ _ _)
  rw [if_neg e11]
  refine n_iload F dX8_shut_158 7 rfl ?_
  refine n_goto F 165 dX8_shut_160 (by decide) ?_
  refine n_istore F (lv' := [(5, .int v8), (6, .int s0), (1, .int v1), (2, .int v2), (3, .int v3), (4, .int v4), (7, .int v7), (8, .int v8)]) dX8_shut_165 (by decide) rfl ?_
  refine n_iinc F (v7 + (1 : Int32)) (lv' := [(7, .int (v7 + (1 : Int32))), (5, .int v8), (6, .int s0), (1, .int v1), (2, .int v2), (3, .int v3), (4, .int v4), (8, .int v8)]) dX8_shut_167 6 rfl rfl (by decide) rfl ?_
  refine n_goto F 81 dX8_shut_170 (by decide) ?_
  exact n_sub [3, 4, 5, 6, 1, 2, 0] rfl (h81 _ _ _ _ _ _ _ _)
def Mo_shut_L81 (k173 : Wd → Int32 → Int32 → Int32 → Option (Int32 × Wd)) : Nat → Wd → Int32 → Int32 → Int32 → Int32 → Int32 → Int32 → Int32 → Option (Int32 × Wd)
  | 0, _, _, _, _, _, _, _, _ => none
  | n + 1, w, v1, v2, v3, v4, v5, v6, v7 => (if (64 : Int32) ≤ v7 then (k173 w v1 v5 v6) else (if (Mo_has w v3 (v7 / (8 : Int32))) = (0 : Int32) then (Mo_shut_L81 k173 n w v1 v2 v3 v4 v5 v6 (v7 + (1 : Int32))) else (if (Mo_has w v4 (v7 - v7 / (8 : Int32) * (8 : Int32))) = (0 : Int32) then (Mo_shut_L81 k173 n w v1 v2 v3 v4 v5 v6 (v7 + (1 : Int32))) else (Option.bind (Mo_bits w (v2 &&& (((1 : Int32) <<< ((v7 / (8 : Int32)) &&& (31 : Int32))) ||| ((1 : Int32) <<< ((v7 - v7 / (8 : Int32) * (8 : Int32)) &&& (31 : Int32)))))) (fun q9 => (Mo_shut_B149 (Mo_shut_L81 k173 n) w v1 v2 v3 v4 v5 v7 q9 (if q9 ≤ v5 then v6 else v7)))))))
set_option maxRecDepth 100000 in
set_option maxHeartbeats 4000000 in
theorem Mo_shut_L81_ok {K : Ctx} (F : Fx K cX8_shut 9 RX8 (some .int) 4 89 false [37, 38, 42]) {k173 : Wd → Int32 → Int32 → Int32 → Option (Int32 × Wd)} (h173 : ∀ (w : Wd) (v1 : Int32) (v5 : Int32) (v6 : Int32), N K rtI (k173 w v1 v5 v6) w 173 [(1, .int v1), (5, .int v5), (6, .int v6)] []) : ∀ (n : Nat) (w : Wd) (v1 : Int32) (v2 : Int32) (v3 : Int32) (v4 : Int32) (v5 : Int32) (v6 : Int32) (v7 : Int32), N K rtI (Mo_shut_L81 k173 n w v1 v2 v3 v4 v5 v6 v7) w 81 [(1, .int v1), (2, .int v2), (3, .int v3), (4, .int v4), (5, .int v5), (6, .int v6), (7, .int v7)] [] := by
  intro n
  induction n with
  | zero => intro _ _ _ _ _ _ _ _; exact n_none
  | succ n ih =>
    intro w v1 v2 v3 v4 v5 v6 v7
    rw [Mo_shut_L81]
    refine n_iload F dX8_shut_81 6 rfl ?_
    refine n_bipush F (64 : Int32) dX8_shut_83 (by decide) ?_
    refine n_icmp_ge F 173 dX8_shut_85 (by decide) (fun e6 => ?_) (fun e6 => ?_)
    · rw [if_pos e6]
      exact n_sub [0, 4, 5] rfl (h173 _ _ _ _)
    rw [if_neg e6]
    refine n_iload_n F dX8_shut_88 rfl 2 rfl ?_
    refine n_iload F dX8_shut_89 6 rfl ?_
    refine n_bipush F (8 : Int32) dX8_shut_91 (by decide) ?_
    refine n_idiv F dX8_shut_93 (by decide) ?_
    refine n_callSi F cb_X8_has lm_RX8_164 (ct_Mo_has (fx_ok F) (fx_sd F) (fx_ix F rfl) w v3 (v7 / (8 : Int32))) rfl rfl (Nat.le_of_ble_eq_true rfl) ⟨Nat.le_of_ble_eq_true rfl, Nat.le_of_ble_eq_true rfl⟩ dX8_shut_94 ?_
    refine n_if_eq F 167 dX8_shut_97 (by decide) (fun e7 => ?_) (fun e7 => ?_)
    · rw [if_pos e7]
      refine n_iinc F (v7 + (1 : Int32)) (lv' := [(7, .int (v7 + (1 : Int32))), (1, .int v1), (2, .int v2), (3, .int v3), (4, .int v4), (5, .int v5), (6, .int v6)]) dX8_shut_167 6 rfl rfl (by decide) rfl ?_
      refine n_goto F 81 dX8_shut_170 (by decide) ?_
      exact n_sub [1, 2, 3, 4, 5, 6, 0] rfl (ih _ _ _ _ _ _ _ _)
    rw [if_neg e7]
    refine n_iload F dX8_shut_100 3 rfl ?_
    refine n_iload F dX8_shut_102 6 rfl ?_
    refine n_bipush F (8 : Int32) dX8_shut_104 (by decide) ?_
    refine n_irem F dX8_shut_106 (by decide) ?_
    refine n_callSi F cb_X8_has lm_RX8_164 (ct_Mo_has (fx_ok F) (fx_sd F) (fx_ix F rfl) w v4 (v7 - v7 / (8 : Int32) * (8 : Int32))) rfl rfl (Nat.le_of_ble_eq_true rfl) ⟨Nat.le_of_ble_eq_true rfl, Nat.le_of_ble_eq_true rfl⟩ dX8_shut_107 ?_
    refine n_if_eq F 167 dX8_shut_110 (by decide) (fun e8 => ?_) (fun e8 => ?_)
    · rw [if_pos e8]
      refine n_iinc F (v7 + (1 : Int32)) (lv' := [(7, .int (v7 + (1 : Int32))), (1, .int v1), (2, .int v2), (3, .int v3), (4, .int v4), (5, .int v5), (6, .int v6)]) dX8_shut_167 6 rfl rfl (by decide) rfl ?_
      refine n_goto F 81 dX8_shut_170 (by decide) ?_
      exact n_sub [1, 2, 3, 4, 5, 6, 0] rfl (ih _ _ _ _ _ _ _ _)
    rw [if_neg e8]
    refine n_iload_n F dX8_shut_113 rfl 1 rfl ?_
    refine n_iconst F (1 : Int32) dX8_shut_114 (by decide) ?_
    refine n_iload F dX8_shut_115 6 rfl ?_
    refine n_bipush F (8 : Int32) dX8_shut_117 (by decide) ?_
    refine n_idiv F dX8_shut_119 (by decide) ?_
    refine n_ishl F dX8_shut_120 ?_
    refine n_iconst F (1 : Int32) dX8_shut_121 (by decide) ?_
    refine n_iload F dX8_shut_122 6 rfl ?_
    refine n_bipush F (8 : Int32) dX8_shut_124 (by decide) ?_
    refine n_irem F dX8_shut_126 (by decide) ?_
    refine n_ishl F dX8_shut_127 ?_
    refine n_ior F dX8_shut_128 ?_
    refine n_iand F dX8_shut_129 ?_
    refine n_bind (fun q9 hq9 => ?_)
    refine n_callSi F cb_X8_bits lm_RX8_193 (ct_Mo_bits (fx_ok F) (fx_sd F) (fx_ix F rfl) w (v2 &&& (((1 : Int32) <<< ((v7 / (8 : Int32)) &&& (31 : Int32))) ||| ((1 : Int32) <<< ((v7 - v7 / (8 : Int32) * (8 : Int32)) &&& (31 : Int32))))) hq9) rfl rfl (Nat.le_of_ble_eq_true rfl) ⟨Nat.le_of_ble_eq_true rfl, Nat.le_of_ble_eq_true rfl⟩ dX8_shut_130 ?_
    refine n_istore F (lv' := [(8, .int q9), (1, .int v1), (2, .int v2), (3, .int v3), (4, .int v4), (5, .int v5), (6, .int v6), (7, .int v7)]) dX8_shut_133 (by decide) rfl ?_
    refine n_iload F dX8_shut_135 0 rfl ?_
    refine n_iload F dX8_shut_137 5 rfl ?_
    refine n_icmp_le F 147 dX8_shut_139 (by decide) (fun e10 => ?_) (fun e10 => ?_)
    · rw [if_pos e10]
      refine n_iload F dX8_shut_147 6 rfl ?_
      exact n_sub [1, 2, 3, 4, 5, 7, 0] rfl (Mo_shut_B149_ok F ih _ _ _ _ _ _ _ _ _)
    rw [if_neg e10]
    refine n_iload F dX8_shut_142 7 rfl ?_
    refine n_goto F 149 dX8_shut_144 (by decide) ?_
    exact n_sub [1, 2, 3, 4, 5, 7, 0] rfl (Mo_shut_B149_ok F ih _ _ _ _ _ _ _ _ _)
def Mo_shut_B190 (w : Wd) (v1 : Int32) (v5 : Int32) (s0 : Int32) : Option (Int32 × Wd) := (if v1 = (-1 : Int32) then some (v5, w) else (if s0 = (7 : Int32) then some ((-1 : Int32), w) else some (s0, w)))
set_option maxRecDepth 100000 in
set_option maxHeartbeats 4000000 in
theorem Mo_shut_B190_ok {K : Ctx} (F : Fx K cX8_shut 9 RX8 (some .int) 4 89 false [37, 38, 42]) (w : Wd) (v1 : Int32) (v5 : Int32) (s0 : Int32) : N K rtI (Mo_shut_B190 w v1 v5 s0) w 190 [(1, .int v1), (5, .int v5)] [.int s0] := by
  rw [Mo_shut_B190]
  refine n_istore F (lv' := [(7, .int s0), (1, .int v1), (5, .int v5)]) dX8_shut_190 (by decide) rfl ?_
  refine n_iload_n F dX8_shut_192 rfl 1 rfl ?_
  refine n_iconst F (-1 : Int32) dX8_shut_193 (by decide) ?_
  refine n_icmp_ne F 202 dX8_shut_194 (by decide) (fun e13 => ?_) (fun e13 => ?_)
  · rw [if_neg e13]
    refine n_iload F dX8_shut_202 0 rfl ?_
    refine n_bipush F (7 : Int32) dX8_shut_204 (by decide) ?_
    refine n_icmp_ne F 213 dX8_shut_206 (by decide) (fun e14 => ?_) (fun e14 => ?_)
    · rw [if_neg e14]
      refine n_iload F dX8_shut_213 0 rfl ?_
      exact n_iret F rfl rfl dX8_shut_215
    rw [if_pos e14]
    refine n_iconst F (-1 : Int32) dX8_shut_209 (by decide) ?_
    refine n_goto F 215 dX8_shut_210 (by decide) ?_
    exact n_iret F rfl rfl dX8_shut_215
  rw [if_pos e13]
  refine n_iload F dX8_shut_197 2 rfl ?_
  refine n_goto F 215 dX8_shut_199 (by decide) ?_
  exact n_iret F rfl rfl dX8_shut_215
def Mo_shut_B173 (w : Wd) (v1 : Int32) (v5 : Int32) (v6 : Int32) : Option (Int32 × Wd) := (Mo_shut_B190 w v1 v5 (if v1 = (0 : Int32) then (v6 / (8 : Int32)) else (v6 - v6 / (8 : Int32) * (8 : Int32))))
set_option maxRecDepth 100000 in
set_option maxHeartbeats 4000000 in
theorem Mo_shut_B173_ok {K : Ctx} (F : Fx K cX8_shut 9 RX8 (some .int) 4 89 false [37, 38, 42]) (w : Wd) (v1 : Int32) (v5 : Int32) (v6 : Int32) : N K rtI (Mo_shut_B173 w v1 v5 v6) w 173 [(1, .int v1), (5, .int v5), (6, .int v6)] [] := by
  rw [Mo_shut_B173]
  refine n_iload_n F dX8_shut_173 rfl 0 rfl ?_
  refine n_if_ne F 185 dX8_shut_174 (by decide) (fun e12 => ?_) (fun e12 => ?_)
  · rw [if_neg e12]
    refine n_iload F dX8_shut_185 2 rfl ?_
    refine n_bipush F (8 : Int32) dX8_shut_187 (by decide) ?_
    refine n_irem F dX8_shut_189 (by decide) ?_
    exact n_sub [0, 1] rfl (Mo_shut_B190_ok F _ _ _ _)
  rw [if_pos e12]
  refine n_iload F dX8_shut_177 2 rfl ?_
  refine n_bipush F (8 : Int32) dX8_shut_179 (by decide) ?_
  refine n_idiv F dX8_shut_181 (by decide) ?_
  refine n_goto F 190 dX8_shut_182 (by decide) ?_
  exact n_sub [0, 1] rfl (Mo_shut_B190_ok F _ _ _ _)
def Mo_shut_B15 (w : Wd) (v1 : Int32) : Option (Int32 × Wd) := (if (w.1 38 3) = (1 : Int32) then some ((-4 : Int32), w) else (Option.bind (Mo_nextOf w) (fun q3 => (Option.bind (Mo_reach (q3.2) ((q3.2).1 38 8) ((q3.2).1 38 0) (-1 : Int32)) (fun q4 => (Option.bind (Mo_reach (q3.2) ((q3.2).1 38 9) ((q3.2).1 38 0) (-1 : Int32)) (fun q5 => (Mo_shut_L81 Mo_shut_B173 FU (q3.2) v1 (q3.1) q4 q5 (-1 : Int32) (0 : Int32) (0 : Int32)))))))))
set_option maxRecDepth 100000 in
set_option maxHeartbeats 4000000 in
theorem Mo_shut_B15_ok {K : Ctx} (F : Fx K cX8_shut 9 RX8 (some .int) 4 89 false [37, 38, 42]) (w : Wd) (v1 : Int32) : N K rtI (Mo_shut_B15 w v1) w 15 [(0, .ref (gA (cg K) 37)), (1, .int v1)] [] := by
  rw [Mo_shut_B15]
  refine n_aload_n F dX8_shut_15 rfl 0 rfl ?_
  refine n_get F ck_8 lf_RX8_7 (by decide) fg_37_0 (by decide) dX8_shut_16 ?_
  refine n_iconst F (3 : Int32) dX8_shut_19 (by decide) ?_
  refine n_iald F ar_38 (by decide) (ib_c (n := 45) (by decide)) (j := 3) (by decide) dX8_shut_20 ?_
  refine n_iconst F (1 : Int32) dX8_shut_21 (by decide) ?_
  refine n_icmp_ne F 28 dX8_shut_22 (by decide) (fun e2 => ?_) (fun e2 => ?_)
  · rw [if_neg e2]
    refine n_aload_n F dX8_shut_28 rfl 0 rfl ?_
    refine n_bind (fun q3 hq3 => ?_)
    refine n_callVi F cb_X8_nextOf lm_RX8_183 ob_37 (by decide) ⟨_, _, rfl⟩ (ct_Mo_nextOf (fx_ok F) (fx_sd F) (fx_ix F rfl) w hq3) rfl rfl (Nat.le_of_ble_eq_true rfl) ⟨Nat.le_of_ble_eq_true rfl, Nat.le_of_ble_eq_true rfl⟩ dX8_shut_29 ?_
    refine n_istore_n F (lv' := [(2, .int (q3.1)), (0, .ref (gA (cg K) 37)), (1, .int v1)]) dX8_shut_32 rfl (by decide) rfl ?_
    refine n_aload_n F dX8_shut_33 rfl 1 rfl ?_
    refine n_aload_n F dX8_shut_34 rfl 1 rfl ?_
    refine n_get F ck_8 lf_RX8_7 (by decide) fg_37_0 (by decide) dX8_shut_35 ?_
    refine n_bipush F (8 : Int32) dX8_shut_38 (by decide) ?_
    refine n_iald F ar_38 (by decide) (ib_c (n := 45) (by decide)) (j := 8) (by decide) dX8_shut_40 ?_
    refine n_aload_n F dX8_shut_41 rfl 1 rfl ?_
    refine n_get F ck_8 lf_RX8_7 (by decide) fg_37_0 (by decide) dX8_shut_42 ?_
    refine n_iconst F (0 : Int32) dX8_shut_45 (by decide) ?_
    refine n_iald F ar_38 (by decide) (ib_c (n := 45) (by decide)) (j := 0) (by decide) dX8_shut_46 ?_
    refine n_iconst F (-1 : Int32) dX8_shut_47 (by decide) ?_
    refine n_bind (fun q4 hq4 => ?_)
    refine n_callVi F cb_X8_reach lm_RX8_190 ob_37 (by decide) ⟨_, _, rfl⟩ (ct_Mo_reach (fx_ok F) (fx_sd F) (fx_ix F rfl) (q3.2) ((q3.2).1 38 8) ((q3.2).1 38 0) (-1 : Int32) hq4) rfl rfl (Nat.le_of_ble_eq_true rfl) ⟨Nat.le_of_ble_eq_true rfl, Nat.le_of_ble_eq_true rfl⟩ dX8_shut_48 ?_
    refine n_istore_n F (lv' := [(3, .int q4), (2, .int (q3.1)), (0, .ref (gA (cg K) 37)), (1, .int v1)]) dX8_shut_51 rfl (by decide) rfl ?_
    refine n_aload_n F dX8_shut_52 rfl 2 rfl ?_
    refine n_aload_n F dX8_shut_53 rfl 2 rfl ?_
    refine n_get F ck_8 lf_RX8_7 (by decide) fg_37_0 (by decide) dX8_shut_54 ?_
    refine n_bipush F (9 : Int32) dX8_shut_57 (by decide) ?_
    refine n_iald F ar_38 (by decide) (ib_c (n := 45) (by decide)) (j := 9) (by decide) dX8_shut_59 ?_
    refine n_aload_n F dX8_shut_60 rfl 2 rfl ?_
    refine n_get F ck_8 lf_RX8_7 (by decide) fg_37_0 (by decide) dX8_shut_61 ?_
    refine n_iconst F (0 : Int32) dX8_shut_64 (by decide) ?_
    refine n_iald F ar_38 (by decide) (ib_c (n := 45) (by decide)) (j := 0) (by decide) dX8_shut_65 ?_
    refine n_iconst F (-1 : Int32) dX8_shut_66 (by decide) ?_
    refine n_bind (fun q5 hq5 => ?_)
    refine n_callVi F cb_X8_reach lm_RX8_190 ob_37 (by decide) ⟨_, _, rfl⟩ (ct_Mo_reach (fx_ok F) (fx_sd F) (fx_ix F rfl) (q3.2) ((q3.2).1 38 9) ((q3.2).1 38 0) (-1 : Int32) hq5) rfl rfl (Nat.le_of_ble_eq_true rfl) ⟨Nat.le_of_ble_eq_true rfl, Nat.le_of_ble_eq_true rfl⟩ dX8_shut_67 ?_
    refine n_istore F (lv' := [(4, .int q5), (3, .int q4), (2, .int (q3.1)), (0, .ref (gA (cg K) 37)), (1, .int v1)]) dX8_shut_70 (by decide) rfl ?_
    refine n_iconst F (-1 : Int32) dX8_shut_72 (by decide) ?_
    refine n_istore F (lv' := [(5, .int (-1 : Int32)), (4, .int q5), (3, .int q4), (2, .int (q3.1)), (0, .ref (gA (cg K) 37)), (1, .int v1)]) dX8_shut_73 (by decide) rfl ?_
    refine n_iconst F (0 : Int32) dX8_shut_75 (by decide) ?_
    refine n_istore F (lv' := [(6, .int (0 : Int32)), (5, .int (-1 : Int32)), (4, .int q5), (3, .int q4), (2, .int (q3.1)), (0, .ref (gA (cg K) 37)), (1, .int v1)]) dX8_shut_76 (by decide) rfl ?_
    refine n_iconst F (0 : Int32) dX8_shut_78 (by decide) ?_
    refine n_istore F (lv' := [(7, .int (0 : Int32)), (6, .int (0 : Int32)), (5, .int (-1 : Int32)), (4, .int q5), (3, .int q4), (2, .int (q3.1)), (0, .ref (gA (cg K) 37)), (1, .int v1)]) dX8_shut_79 (by decide) rfl ?_
    exact n_sub [7, 5, 4, 3, 2, 1, 0] rfl (Mo_shut_L81_ok F (Mo_shut_B173_ok F) FU _ _ _ _ _ _ _ _)
  rw [if_pos e2]
  refine n_bipush F (-4 : Int32) dX8_shut_25 (by decide) ?_
  exact n_iret F rfl rfl dX8_shut_27
def Mo_shut (w : Wd) (a1 : Int32) : Option (Int32 × Wd) := (if a1 = (-1 : Int32) then (Mo_shut_B15 w a1) else (if (Mo_isSeeker w a1) = (0 : Int32) then some ((-2 : Int32), w) else (Mo_shut_B15 w a1)))
set_option maxRecDepth 100000 in
set_option maxHeartbeats 4000000 in
theorem ct_Mo_shut {l : Launch} {g : GG} {σ : Sd} (hg : OKg g σ) (hb : σ.2.1 = false) (hx : ∀ c ∈ ([37, 38, 42] : List Nat), c ∈ σ.1) (w : Wd) (a1 : Int32) {q : Int32 × Wd} (hq : Mo_shut w a1 = some q) : CT l g σ yX8_shut cX8_shut 9 (some .int) 4 89 [.ref (gA g 37), .int a1] w (some (.int q.1)) q.2 := by
  refine ct_of (rt := rtI) (res := Mo_shut w a1) (q := q) (own := RX8) (b := false) hg hb hx (by decide) rfl (Nat.le_of_ble_eq_true rfl) hq (fun K e1 e2 e3 F => ?_)
  subst e1 e2 e3
  rw [Mo_shut]
  show N K _ _ w 0 [(0, .ref (gA (cg K) 37)), (1, .int a1)] []
  refine n_iload_n F dX8_shut_0 rfl 1 rfl ?_
  refine n_iconst F (-1 : Int32) dX8_shut_1 (by decide) ?_
  refine n_icmp_eq F 15 dX8_shut_2 (by decide) (fun e1 => ?_) (fun e1 => ?_)
  · rw [if_pos e1]
    exact n_sub [0, 1] rfl (Mo_shut_B15_ok F _ _)
  rw [if_neg e1]
  refine n_iload_n F dX8_shut_5 rfl 1 rfl ?_
  refine n_callSi F cb_X8_isSeeker lm_RX8_168 (ct_Mo_isSeeker (fx_ok F) (fx_sd F) (fx_ix F rfl) w a1) rfl rfl (Nat.le_of_ble_eq_true rfl) ⟨Nat.le_of_ble_eq_true rfl, Nat.le_of_ble_eq_true rfl⟩ dX8_shut_6 ?_
  refine n_if_ne F 15 dX8_shut_9 (by decide) (fun e15 => ?_) (fun e15 => ?_)
  · rw [if_neg e15]
    exact n_sub [0, 1] rfl (Mo_shut_B15_ok F _ _)
  rw [if_pos e15]
  refine n_bipush F (-2 : Int32) dX8_shut_12 (by decide) ?_
  exact n_iret F rfl rfl dX8_shut_14
theorem dX8_hides_0 : decode cX8_hides 0 = .ok (.iload_n 1, 1) := by decide +kernel
theorem dX8_hides_1 : decode cX8_hides 1 = .ok (.i2l, 1) := by decide +kernel
theorem dX8_hides_2 : decode cX8_hides 2 = .ok (.lconst 0, 1) := by decide +kernel
theorem dX8_hides_3 : decode cX8_hides 3 = .ok (.lconst 1, 1) := by decide +kernel
theorem dX8_hides_4 : decode cX8_hides 4 = .ok (.invokestatic 63, 3) := by decide +kernel
theorem dX8_hides_7 : decode cX8_hides 7 = .ok (.ifCond .ne 6, 3) := by decide +kernel
theorem dX8_hides_10 : decode cX8_hides 10 = .ok (.bipush (-3), 2) := by decide +kernel
theorem dX8_hides_12 : decode cX8_hides 12 = .ok (.ireturn, 1) := by decide +kernel
theorem dX8_hides_13 : decode cX8_hides 13 = .ok (.aload_n 0, 1) := by decide +kernel
theorem dX8_hides_14 : decode cX8_hides 14 = .ok (.getfield 7, 3) := by decide +kernel
theorem dX8_hides_17 : decode cX8_hides 17 = .ok (.iconst 3, 1) := by decide +kernel
theorem dX8_hides_18 : decode cX8_hides 18 = .ok (.iaload, 1) := by decide +kernel
theorem dX8_hides_19 : decode cX8_hides 19 = .ok (.iconst 1, 1) := by decide +kernel
theorem dX8_hides_20 : decode cX8_hides 20 = .ok (.if_icmp .eq 13, 3) := by decide +kernel
theorem dX8_hides_23 : decode cX8_hides 23 = .ok (.aload_n 0, 1) := by decide +kernel
theorem dX8_hides_24 : decode cX8_hides 24 = .ok (.getfield 7, 3) := by decide +kernel
theorem dX8_hides_27 : decode cX8_hides 27 = .ok (.iconst 2, 1) := by decide +kernel
theorem dX8_hides_28 : decode cX8_hides 28 = .ok (.iaload, 1) := by decide +kernel
theorem dX8_hides_29 : decode cX8_hides 29 = .ok (.iconst 1, 1) := by decide +kernel
theorem dX8_hides_30 : decode cX8_hides 30 = .ok (.if_icmp .ne 6, 3) := by decide +kernel
theorem dX8_hides_33 : decode cX8_hides 33 = .ok (.bipush (-4), 2) := by decide +kernel
theorem dX8_hides_35 : decode cX8_hides 35 = .ok (.ireturn, 1) := by decide +kernel
theorem dX8_hides_36 : decode cX8_hides 36 = .ok (.iconst (-1), 1) := by decide +kernel
theorem dX8_hides_37 : decode cX8_hides 37 = .ok (.istore_n 2, 1) := by decide +kernel
theorem dX8_hides_38 : decode cX8_hides 38 = .ok (.iconst (-1), 1) := by decide +kernel
theorem dX8_hides_39 : decode cX8_hides 39 = .ok (.istore_n 3, 1) := by decide +kernel
theorem dX8_hides_40 : decode cX8_hides 40 = .ok (.iconst 0, 1) := by decide +kernel
theorem dX8_hides_41 : decode cX8_hides 41 = .ok (.istore 4, 2) := by decide +kernel
theorem dX8_hides_43 : decode cX8_hides 43 = .ok (.iload 4, 2) := by decide +kernel
theorem dX8_hides_45 : decode cX8_hides 45 = .ok (.aload_n 0, 1) := by decide +kernel
theorem dX8_hides_46 : decode cX8_hides 46 = .ok (.getfield 131, 3) := by decide +kernel
theorem dX8_hides_49 : decode cX8_hides 49 = .ok (.if_icmp .ge 80, 3) := by decide +kernel
theorem dX8_hides_52 : decode cX8_hides 52 = .ok (.aload_n 0, 1) := by decide +kernel
theorem dX8_hides_53 : decode cX8_hides 53 = .ok (.invokevirtual 161, 3) := by decide +kernel
theorem dX8_hides_56 : decode cX8_hides 56 = .ok (.iload 4, 2) := by decide +kernel
theorem dX8_hides_58 : decode cX8_hides 58 = .ok (.invokestatic 164, 3) := by decide +kernel
theorem dX8_hides_61 : decode cX8_hides 61 = .ok (.ifCond .eq 62, 3) := by decide +kernel
theorem dX8_hides_64 : decode cX8_hides 64 = .ok (.aload_n 0, 1) := by decide +kernel
theorem dX8_hides_65 : decode cX8_hides 65 = .ok (.aload_n 0, 1) := by decide +kernel
theorem dX8_hides_66 : decode cX8_hides 66 = .ok (.getfield 27, 3) := by decide +kernel
theorem dX8_hides_69 : decode cX8_hides 69 = .ok (.bipush 6, 2) := by decide +kernel
theorem dX8_hides_71 : decode cX8_hides 71 = .ok (.iload 4, 2) := by decide +kernel
theorem dX8_hides_73 : decode cX8_hides 73 = .ok (.imul, 1) := by decide +kernel
theorem dX8_hides_74 : decode cX8_hides 74 = .ok (.iconst 5, 1) := by decide +kernel
theorem dX8_hides_75 : decode cX8_hides 75 = .ok (.iadd, 1) := by decide +kernel
theorem dX8_hides_76 : decode cX8_hides 76 = .ok (.iaload, 1) := by decide +kernel
theorem dX8_hides_77 : decode cX8_hides 77 = .ok (.invokevirtual 180, 3) := by decide +kernel
theorem dX8_hides_80 : decode cX8_hides 80 = .ok (.aload_n 0, 1) := by decide +kernel
theorem dX8_hides_81 : decode cX8_hides 81 = .ok (.getfield 171, 3) := by decide +kernel
theorem dX8_hides_84 : decode cX8_hides 84 = .ok (.invokestatic 193, 3) := by decide +kernel
theorem dX8_hides_87 : decode cX8_hides 87 = .ok (.aload_n 0, 1) := by decide +kernel
theorem dX8_hides_88 : decode cX8_hides 88 = .ok (.getfield 174, 3) := by decide +kernel
theorem dX8_hides_91 : decode cX8_hides 91 = .ok (.invokestatic 193, 3) := by decide +kernel
theorem dX8_hides_94 : decode cX8_hides 94 = .ok (.iadd, 1) := by decide +kernel
theorem dX8_hides_95 : decode cX8_hides 95 = .ok (.istore 5, 2) := by decide +kernel
theorem dX8_hides_97 : decode cX8_hides 97 = .ok (.iload 5, 2) := by decide +kernel
theorem dX8_hides_99 : decode cX8_hides 99 = .ok (.iload_n 3, 1) := by decide +kernel
theorem dX8_hides_100 : decode cX8_hides 100 = .ok (.if_icmp .le 8, 3) := by decide +kernel
theorem dX8_hides_103 : decode cX8_hides 103 = .ok (.iload 4, 2) := by decide +kernel
theorem dX8_hides_105 : decode cX8_hides 105 = .ok (.goto 4, 3) := by decide +kernel
theorem dX8_hides_108 : decode cX8_hides 108 = .ok (.iload_n 2, 1) := by decide +kernel
theorem dX8_hides_109 : decode cX8_hides 109 = .ok (.istore_n 2, 1) := by decide +kernel
theorem dX8_hides_110 : decode cX8_hides 110 = .ok (.iload 5, 2) := by decide +kernel
theorem dX8_hides_112 : decode cX8_hides 112 = .ok (.iload_n 3, 1) := by decide +kernel
theorem dX8_hides_113 : decode cX8_hides 113 = .ok (.if_icmp .le 8, 3) := by decide +kernel
theorem dX8_hides_116 : decode cX8_hides 116 = .ok (.iload 5, 2) := by decide +kernel
theorem dX8_hides_118 : decode cX8_hides 118 = .ok (.goto 4, 3) := by decide +kernel
theorem dX8_hides_121 : decode cX8_hides 121 = .ok (.iload_n 3, 1) := by decide +kernel
theorem dX8_hides_122 : decode cX8_hides 122 = .ok (.istore_n 3, 1) := by decide +kernel
theorem dX8_hides_123 : decode cX8_hides 123 = .ok (.iinc 4 1, 3) := by decide +kernel
theorem dX8_hides_126 : decode cX8_hides 126 = .ok (.goto (-83), 3) := by decide +kernel
theorem dX8_hides_129 : decode cX8_hides 129 = .ok (.iload_n 1, 1) := by decide +kernel
theorem dX8_hides_130 : decode cX8_hides 130 = .ok (.ifCond .ne 7, 3) := by decide +kernel
theorem dX8_hides_133 : decode cX8_hides 133 = .ok (.iload_n 2, 1) := by decide +kernel
theorem dX8_hides_134 : decode cX8_hides 134 = .ok (.goto 4, 3) := by decide +kernel
theorem dX8_hides_137 : decode cX8_hides 137 = .ok (.iload_n 3, 1) := by decide +kernel
theorem dX8_hides_138 : decode cX8_hides 138 = .ok (.ireturn, 1) := by decide +kernel
def Mo_hides_B109 (k43 : Wd → Int32 → Int32 → Int32 → Int32 → Option (Int32 × Wd)) (w : Wd) (v1 : Int32) (v3 : Int32) (v4 : Int32) (v5 : Int32) (s0 : Int32) : Option (Int32 × Wd) := (k43 w v1 s0 (if v5 ≤ v3 then v3 else v5) (v4 + (1 : Int32)))
set_option maxRecDepth 100000 in
set_option maxHeartbeats 4000000 in
theorem Mo_hides_B109_ok {K : Ctx} (F : Fx K cX8_hides 6 RX8 (some .int) 3 66 false [37, 38, 42]) {k43 : Wd → Int32 → Int32 → Int32 → Int32 → Option (Int32 × Wd)} (h43 : ∀ (w : Wd) (v1 : Int32) (v2 : Int32) (v3 : Int32) (v4 : Int32), N K rtI (k43 w v1 v2 v3 v4) w 43 [(0, .ref (gA (cg K) 37)), (1, .int v1), (2, .int v2), (3, .int v3), (4, .int v4)] []) (w : Wd) (v1 : Int32) (v3 : Int32) (v4 : Int32) (v5 : Int32) (s0 : Int32) : N K rtI (Mo_hides_B109 k43 w v1 v3 v4 v5 s0) w 109 [(0, .ref (gA (cg K) 37)), (1, .int v1), (3, .int v3), (4, .int v4), (5, .int v5)] [.int s0] := by
  rw [Mo_hides_B109]
  refine n_istore_n F (lv' := [(2, .int s0), (0, .ref (gA (cg K) 37)), (1, .int v1), (3, .int v3), (4, .int v4), (5, .int v5)]) dX8_hides_109 rfl (by decide) rfl ?_
  refine n_iload F dX8_hides_110 5 rfl ?_
  refine n_iload_n F dX8_hides_112 rfl 3 rfl ?_
  refine n_icmp_le F 121 dX8_hides_113 (by decide) (fun e12 => ?_) (fun e12 => ?_)
  · rw [if_pos e12]
    refine n_iload_n F dX8_hides_121 rfl 3 rfl ?_
    refine n_istore_n F (lv' := [(3, .int v3), (2, .int s0), (0, .ref (gA (cg K) 37)), (1, .int v1), (4, .int v4), (5, .int v5)]) dX8_hides_122 rfl (by decide) rfl ?_
    refine n_iinc F (v4 + (1 : Int32)) (lv' := [(4, .int (v4 + (1 : Int32))), (3, .int v3), (2, .int s0), (0, .ref (gA (cg K) 37)), (1, .int v1), (5, .int v5)]) dX8_hides_123 4 rfl rfl (by decide) rfl ?_
    refine n_goto F 43 dX8_hides_126 (by decide) ?_
    exact n_sub [3, 4, 2, 1, 0] rfl (h43 _ _ _ _ _)
  rw [if_neg e12]
  refine n_iload F dX8_hides_116 5 rfl ?_
  refine n_goto F 122 dX8_hides_118 (by decide) ?_
  refine n_istore_n F (lv' := [(3, .int v5), (2, .int s0), (0, .ref (gA (cg K) 37)), (1, .int v1), (4, .int v4), (5, .int v5)]) dX8_hides_122 rfl (by decide) rfl ?_
  refine n_iinc F (v4 + (1 : Int32)) (lv' := [(4, .int (v4 + (1 : Int32))), (3, .int v5), (2, .int s0), (0, .ref (gA (cg K) 37)), (1, .int v1), (5, .int v5)]) dX8_hides_123 4 rfl rfl (by decide) rfl ?_
  refine n_goto F 43 dX8_hides_126 (by decide) ?_
  exact n_sub [3, 4, 2, 1, 0] rfl (h43 _ _ _ _ _)
def Mo_hides_L43 (k129 : Wd → Int32 → Int32 → Int32 → Option (Int32 × Wd)) : Nat → Wd → Int32 → Int32 → Int32 → Int32 → Option (Int32 × Wd)
  | 0, _, _, _, _, _ => none
  | n + 1, w, v1, v2, v3, v4 => (if (w.1 37 8) ≤ v4 then (k129 w v1 v2 v3) else (Option.bind (Mo_hisTrains w) (fun q5 => (if (Mo_has w q5 v4) = (0 : Int32) then (Mo_hides_L43 k129 n w v1 v2 v3 (v4 + (1 : Int32))) else (if ib (((6 : Int32) * v4) + (5 : Int32)) 72 = true then (Option.bind (Mo_layBy w (w.1 42 (Int32.toNatClampNeg (((6 : Int32) * v4) + (5 : Int32))))) (fun q8 => (Option.bind (Mo_bits q8 (q8.1 37 18)) (fun q9 => (Option.bind (Mo_bits q8 (q8.1 37 19)) (fun q10 => (Mo_hides_B109 (Mo_hides_L43 k129 n) q8 v1 v3 v4 (q9 + q10) (if (q9 + q10) ≤ v3 then v2 else v4)))))))) else none)))))
set_option maxRecDepth 100000 in
set_option maxHeartbeats 4000000 in
theorem Mo_hides_L43_ok {K : Ctx} (F : Fx K cX8_hides 6 RX8 (some .int) 3 66 false [37, 38, 42]) {k129 : Wd → Int32 → Int32 → Int32 → Option (Int32 × Wd)} (h129 : ∀ (w : Wd) (v1 : Int32) (v2 : Int32) (v3 : Int32), N K rtI (k129 w v1 v2 v3) w 129 [(1, .int v1), (2, .int v2), (3, .int v3)] []) : ∀ (n : Nat) (w : Wd) (v1 : Int32) (v2 : Int32) (v3 : Int32) (v4 : Int32), N K rtI (Mo_hides_L43 k129 n w v1 v2 v3 v4) w 43 [(0, .ref (gA (cg K) 37)), (1, .int v1), (2, .int v2), (3, .int v3), (4, .int v4)] [] := by
  intro n
  induction n with
  | zero => intro _ _ _ _ _; exact n_none
  | succ n ih =>
    intro w v1 v2 v3 v4
    rw [Mo_hides_L43]
    refine n_iload F dX8_hides_43 4 rfl ?_
    refine n_aload_n F dX8_hides_45 rfl 0 rfl ?_
    refine n_get F ck_8 lf_RX8_131 (by decide) fg_37_8 (by decide) dX8_hides_46 ?_
    refine n_icmp_ge F 129 dX8_hides_49 (by decide) (fun e4 => ?_) (fun e4 => ?_)
    · rw [if_pos e4]
      exact n_sub [1, 2, 3] rfl (h129 _ _ _ _)
    rw [if_neg e4]
    refine n_aload_n F dX8_hides_52 rfl 0 rfl ?_
    refine n_bind (fun q5 hq5 => ?_)
    refine n_callVi F cb_X8_hisTrains lm_RX8_161 ob_37 (by decide) ⟨_, _, rfl⟩ (ct_Mo_hisTrains (fx_ok F) (fx_sd F) (fx_ix F rfl) w hq5) rfl rfl (Nat.le_of_ble_eq_true rfl) ⟨Nat.le_of_ble_eq_true rfl, Nat.le_of_ble_eq_true rfl⟩ dX8_hides_53 ?_
    refine n_iload F dX8_hides_56 4 rfl ?_
    refine n_callSi F cb_X8_has lm_RX8_164 (ct_Mo_has (fx_ok F) (fx_sd F) (fx_ix F rfl) w q5 v4) rfl rfl (Nat.le_of_ble_eq_true rfl) ⟨Nat.le_of_ble_eq_true rfl, Nat.le_of_ble_eq_true rfl⟩ dX8_hides_58 ?_
    refine n_if_eq F 123 dX8_hides_61 (by decide) (fun e6 => ?_) (fun e6 => ?_)
    · rw [if_pos e6]
      refine n_iinc F (v4 + (1 : Int32)) (lv' := [(4, .int (v4 + (1 : Int32))), (0, .ref (gA (cg K) 37)), (1, .int v1), (2, .int v2), (3, .int v3)]) dX8_hides_123 4 rfl rfl (by decide) rfl ?_
      refine n_goto F 43 dX8_hides_126 (by decide) ?_
      exact n_sub [1, 2, 3, 4, 0] rfl (ih _ _ _ _ _)
    rw [if_neg e6]
    refine n_aload_n F dX8_hides_64 rfl 0 rfl ?_
    refine n_aload_n F dX8_hides_65 rfl 0 rfl ?_
    refine n_get F ck_8 lf_RX8_27 (by decide) fg_37_7 (by decide) dX8_hides_66 ?_
    refine n_bipush F (6 : Int32) dX8_hides_69 (by decide) ?_
    refine n_iload F dX8_hides_71 4 rfl ?_
    refine n_imul F dX8_hides_73 ?_
    refine n_iconst F (5 : Int32) dX8_hides_74 (by decide) ?_
    refine n_iadd F dX8_hides_75 ?_
    refine n_chk (fun e7 => ?_)
    refine n_iald F ar_42 (by decide) (ib_in e7) rfl dX8_hides_76 ?_
    refine n_bind (fun q8 hq8 => ?_)
    refine n_callVv F cb_X8_layBy lm_RX8_180 ob_37 (by decide) ⟨_, _, rfl⟩ (ct_Mo_layBy (fx_ok F) (fx_sd F) (fx_ix F rfl) w (w.1 42 (Int32.toNatClampNeg (((6 : Int32) * v4) + (5 : Int32)))) hq8) rfl rfl (Nat.le_of_ble_eq_true rfl) ⟨Nat.le_of_ble_eq_true rfl, Nat.le_of_ble_eq_true rfl⟩ dX8_hides_77 ?_
    refine n_aload_n F dX8_hides_80 rfl 0 rfl ?_
    refine n_get F ck_8 lf_RX8_171 (by decide) fg_37_18 (by decide) dX8_hides_81 ?_
    refine n_bind (fun q9 hq9 => ?_)
    refine n_callSi F cb_X8_bits lm_RX8_193 (ct_Mo_bits (fx_ok F) (fx_sd F) (fx_ix F rfl) q8 (q8.1 37 18) hq9) rfl rfl (Nat.le_of_ble_eq_true rfl) ⟨Nat.le_of_ble_eq_true rfl, Nat.le_of_ble_eq_true rfl⟩ dX8_hides_84 ?_
    refine n_aload_n F dX8_hides_87 rfl 0 rfl ?_
    refine n_get F ck_8 lf_RX8_174 (by decide) fg_37_19 (by decide) dX8_hides_88 ?_
    refine n_bind (fun q10 hq10 => ?_)
    refine n_callSi F cb_X8_bits lm_RX8_193 (ct_Mo_bits (fx_ok F) (fx_sd F) (fx_ix F rfl) q8 (q8.1 37 19) hq10) rfl rfl (Nat.le_of_ble_eq_true rfl) ⟨Nat.le_of_ble_eq_true rfl, Nat.le_of_ble_eq_true rfl⟩ dX8_hides_91 ?_
    refine n_iadd F dX8_hides_94 ?_
    refine n_istore F (lv' := [(5, .int (q9 + q10)), (0, .ref (gA (cg K) 37)), (1, .int v1), (2, .int v2), (3, .int v3), (4, .int v4)]) dX8_hides_95 (by decide) rfl ?_
    refine n_iload F dX8_hides_97 0 rfl ?_
    refine n_iload_n F dX8_hides_99 rfl 4 rfl ?_
    refine n_icmp_le F 108 dX8_hides_100 (by decide) (fun e11 => ?_) (fun e11 => ?_)
    · rw [if_pos e11]
      refine n_iload_n F dX8_hides_108 rfl 3 rfl ?_
      exact n_sub [1, 2, 4, 5, 0] rfl (Mo_hides_B109_ok F ih _ _ _ _ _ _)
    rw [if_neg e11]
    refine n_iload F dX8_hides_103 5 rfl ?_
    refine n_goto F 109 dX8_hides_105 (by decide) ?_
    exact n_sub [1, 2, 4, 5, 0] rfl (Mo_hides_B109_ok F ih _ _ _ _ _ _)
def Mo_hides_B129 (w : Wd) (v1 : Int32) (v2 : Int32) (v3 : Int32) : Option (Int32 × Wd) := (if v1 = (0 : Int32) then some (v2, w) else some (v3, w))
set_option maxRecDepth 100000 in
set_option maxHeartbeats 4000000 in
theorem Mo_hides_B129_ok {K : Ctx} (F : Fx K cX8_hides 6 RX8 (some .int) 3 66 false [37, 38, 42]) (w : Wd) (v1 : Int32) (v2 : Int32) (v3 : Int32) : N K rtI (Mo_hides_B129 w v1 v2 v3) w 129 [(1, .int v1), (2, .int v2), (3, .int v3)] [] := by
  rw [Mo_hides_B129]
  refine n_iload_n F dX8_hides_129 rfl 0 rfl ?_
  refine n_if_ne F 137 dX8_hides_130 (by decide) (fun e13 => ?_) (fun e13 => ?_)
  · rw [if_neg e13]
    refine n_iload_n F dX8_hides_137 rfl 2 rfl ?_
    exact n_iret F rfl rfl dX8_hides_138
  rw [if_pos e13]
  refine n_iload_n F dX8_hides_133 rfl 1 rfl ?_
  refine n_goto F 138 dX8_hides_134 (by decide) ?_
  exact n_iret F rfl rfl dX8_hides_138
def Mo_hides (w : Wd) (a1 : Int32) : Option (Int32 × Wd) := (if (Mo_in w (Int32.toInt64 a1) (0 : Int64) (1 : Int64)) = (0 : Int32) then some ((-3 : Int32), w) else (if (w.1 38 3) = (1 : Int32) then some ((-4 : Int32), w) else (if (w.1 38 2) = (1 : Int32) then some ((-4 : Int32), w) else (Mo_hides_L43 Mo_hides_B129 FU w a1 (-1 : Int32) (-1 : Int32) (0 : Int32)))))
set_option maxRecDepth 100000 in
set_option maxHeartbeats 4000000 in
theorem ct_Mo_hides {l : Launch} {g : GG} {σ : Sd} (hg : OKg g σ) (hb : σ.2.1 = false) (hx : ∀ c ∈ ([37, 38, 42] : List Nat), c ∈ σ.1) (w : Wd) (a1 : Int32) {q : Int32 × Wd} (hq : Mo_hides w a1 = some q) : CT l g σ yX8_hides cX8_hides 6 (some .int) 3 66 [.ref (gA g 37), .int a1] w (some (.int q.1)) q.2 := by
  refine ct_of (rt := rtI) (res := Mo_hides w a1) (q := q) (own := RX8) (b := false) hg hb hx (by decide) rfl (Nat.le_of_ble_eq_true rfl) hq (fun K e1 e2 e3 F => ?_)
  subst e1 e2 e3
  rw [Mo_hides]
  show N K _ _ w 0 [(0, .ref (gA (cg K) 37)), (1, .int a1)] []
  refine n_iload_n F dX8_hides_0 rfl 1 rfl ?_
  refine n_i2l F dX8_hides_1 ?_
  refine n_lconst F (0 : Int64) dX8_hides_2 (by decide) ?_
  refine n_lconst F (1 : Int64) dX8_hides_3 (by decide) ?_
  refine n_callSi F cb_X8_in lm_RX8_63 (ct_Mo_in (fx_ok F) (fx_sd F) (fx_ix F rfl) w (Int32.toInt64 a1) (0 : Int64) (1 : Int64)) rfl rfl (Nat.le_of_ble_eq_true rfl) ⟨Nat.le_of_ble_eq_true rfl, Nat.le_of_ble_eq_true rfl⟩ dX8_hides_4 ?_
  refine n_if_ne F 13 dX8_hides_7 (by decide) (fun e1 => ?_) (fun e1 => ?_)
  · rw [if_neg e1]
    refine n_aload_n F dX8_hides_13 rfl 0 rfl ?_
    refine n_get F ck_8 lf_RX8_7 (by decide) fg_37_0 (by decide) dX8_hides_14 ?_
    refine n_iconst F (3 : Int32) dX8_hides_17 (by decide) ?_
    refine n_iald F ar_38 (by decide) (ib_c (n := 45) (by decide)) (j := 3) (by decide) dX8_hides_18 ?_
    refine n_iconst F (1 : Int32) dX8_hides_19 (by decide) ?_
    refine n_icmp_eq F 33 dX8_hides_20 (by decide) (fun e2 => ?_) (fun e2 => ?_)
    · rw [if_pos e2]
      refine n_bipush F (-4 : Int32) dX8_hides_33 (by decide) ?_
      exact n_iret F rfl rfl dX8_hides_35
    rw [if_neg e2]
    refine n_aload_n F dX8_hides_23 rfl 0 rfl ?_
    refine n_get F ck_8 lf_RX8_7 (by decide) fg_37_0 (by decide) dX8_hides_24 ?_
    refine n_iconst F (2 : Int32) dX8_hides_27 (by decide) ?_
    refine n_iald F ar_38 (by decide) (ib_c (n := 45) (by decide)) (j := 2) (by decide) dX8_hides_28 ?_
    refine n_iconst F (1 : Int32) dX8_hides_29 (by decide) ?_
    refine n_icmp_ne F 36 dX8_hides_30 (by decide) (fun e3 => ?_) (fun e3 => ?_)
    · rw [if_neg e3]
      refine n_iconst F (-1 : Int32) dX8_hides_36 (by decide) ?_
      refine n_istore_n F (lv' := [(2, .int (-1 : Int32)), (0, .ref (gA (cg K) 37)), (1, .int a1)]) dX8_hides_37 rfl (by decide) rfl ?_
      refine n_iconst F (-1 : Int32) dX8_hides_38 (by decide) ?_
      refine n_istore_n F (lv' := [(3, .int (-1 : Int32)), (2, .int (-1 : Int32)), (0, .ref (gA (cg K) 37)), (1, .int a1)]) dX8_hides_39 rfl (by decide) rfl ?_
      refine n_iconst F (0 : Int32) dX8_hides_40 (by decide) ?_
      refine n_istore F (lv' := [(4, .int (0 : Int32)), (3, .int (-1 : Int32)), (2, .int (-1 : Int32)), (0, .ref (gA (cg K) 37)), (1, .int a1)]) dX8_hides_41 (by decide) rfl ?_
      exact n_sub [3, 4, 2, 1, 0] rfl (Mo_hides_L43_ok F (Mo_hides_B129_ok F) FU _ _ _ _ _)
    rw [if_pos e3]
    refine n_bipush F (-4 : Int32) dX8_hides_33 (by decide) ?_
    exact n_iret F rfl rfl dX8_hides_35
  rw [if_pos e1]
  refine n_bipush F (-3 : Int32) dX8_hides_10 (by decide) ?_
  exact n_iret F rfl rfl dX8_hides_12
theorem dX8_placeOf_0 : decode cX8_placeOf 0 = .ok (.iload_n 0, 1) := by decide +kernel
theorem dX8_placeOf_1 : decode cX8_placeOf 1 = .ok (.bipush 8, 2) := by decide +kernel
theorem dX8_placeOf_3 : decode cX8_placeOf 3 = .ok (.imul, 1) := by decide +kernel
theorem dX8_placeOf_4 : decode cX8_placeOf 4 = .ok (.iload_n 1, 1) := by decide +kernel
theorem dX8_placeOf_5 : decode cX8_placeOf 5 = .ok (.iadd, 1) := by decide +kernel
theorem dX8_placeOf_6 : decode cX8_placeOf 6 = .ok (.bipush 8, 2) := by decide +kernel
theorem dX8_placeOf_8 : decode cX8_placeOf 8 = .ok (.imul, 1) := by decide +kernel
theorem dX8_placeOf_9 : decode cX8_placeOf 9 = .ok (.iload_n 2, 1) := by decide +kernel
theorem dX8_placeOf_10 : decode cX8_placeOf 10 = .ok (.iadd, 1) := by decide +kernel
theorem dX8_placeOf_11 : decode cX8_placeOf 11 = .ok (.bipush 8, 2) := by decide +kernel
theorem dX8_placeOf_13 : decode cX8_placeOf 13 = .ok (.imul, 1) := by decide +kernel
theorem dX8_placeOf_14 : decode cX8_placeOf 14 = .ok (.iload_n 3, 1) := by decide +kernel
theorem dX8_placeOf_15 : decode cX8_placeOf 15 = .ok (.iadd, 1) := by decide +kernel
theorem dX8_placeOf_16 : decode cX8_placeOf 16 = .ok (.ireturn, 1) := by decide +kernel
def Mo_placeOf (w : Wd) (a1 : Int32) (a2 : Int32) (a3 : Int32) (a4 : Int32) : Int32 := ((((((a1 * (8 : Int32)) + a2) * (8 : Int32)) + a3) * (8 : Int32)) + a4)
set_option maxRecDepth 100000 in
set_option maxHeartbeats 4000000 in
theorem ct_Mo_placeOf {l : Launch} {g : GG} {σ : Sd} (hg : OKg g σ) (hb : σ.2.1 = false) (hx : ∀ c ∈ ([] : List Nat), c ∈ σ.1) (w : Wd) (a1 : Int32) (a2 : Int32) (a3 : Int32) (a4 : Int32) : CT l g σ yX8_placeOf cX8_placeOf 4 (some .int) 0 0 [.int a1, .int a2, .int a3, .int a4] w (some (.int (Mo_placeOf w a1 a2 a3 a4))) w := by
  refine ct_of (rt := (rtP w)) (res := some (Mo_placeOf w a1 a2 a3 a4)) (q := (Mo_placeOf w a1 a2 a3 a4)) (own := RX8) (b := false) hg hb hx (by decide) rfl (Nat.le_of_ble_eq_true rfl) rfl (fun K e1 e2 e3 F => ?_)
  subst e1 e2 e3
  rw [Mo_placeOf]
  show N K _ _ w 0 [(0, .int a1), (1, .int a2), (2, .int a3), (3, .int a4)] []
  refine n_iload_n F dX8_placeOf_0 rfl 0 rfl ?_
  refine n_bipush F (8 : Int32) dX8_placeOf_1 (by decide) ?_
  refine n_imul F dX8_placeOf_3 ?_
  refine n_iload_n F dX8_placeOf_4 rfl 1 rfl ?_
  refine n_iadd F dX8_placeOf_5 ?_
  refine n_bipush F (8 : Int32) dX8_placeOf_6 (by decide) ?_
  refine n_imul F dX8_placeOf_8 ?_
  refine n_iload_n F dX8_placeOf_9 rfl 2 rfl ?_
  refine n_iadd F dX8_placeOf_10 ?_
  refine n_bipush F (8 : Int32) dX8_placeOf_11 (by decide) ?_
  refine n_imul F dX8_placeOf_13 ?_
  refine n_iload_n F dX8_placeOf_14 rfl 3 rfl ?_
  refine n_iadd F dX8_placeOf_15 ?_
  exact n_iret F rfl rfl dX8_placeOf_16
theorem dX8_worst_0 : decode cX8_worst 0 = .ok (.iconst 0, 1) := by decide +kernel
theorem dX8_worst_1 : decode cX8_worst 1 = .ok (.istore 5, 2) := by decide +kernel
theorem dX8_worst_3 : decode cX8_worst 3 = .ok (.iconst 0, 1) := by decide +kernel
theorem dX8_worst_4 : decode cX8_worst 4 = .ok (.istore 6, 2) := by decide +kernel
theorem dX8_worst_6 : decode cX8_worst 6 = .ok (.iload 6, 2) := by decide +kernel
theorem dX8_worst_8 : decode cX8_worst 8 = .ok (.aload_n 0, 1) := by decide +kernel
theorem dX8_worst_9 : decode cX8_worst 9 = .ok (.getfield 23, 3) := by decide +kernel
theorem dX8_worst_12 : decode cX8_worst 12 = .ok (.if_icmp .ge 52, 3) := by decide +kernel
theorem dX8_worst_15 : decode cX8_worst 15 = .ok (.iload_n 2, 1) := by decide +kernel
theorem dX8_worst_16 : decode cX8_worst 16 = .ok (.iload 6, 2) := by decide +kernel
theorem dX8_worst_18 : decode cX8_worst 18 = .ok (.invokestatic 164, 3) := by decide +kernel
theorem dX8_worst_21 : decode cX8_worst 21 = .ok (.ifCond .eq 37, 3) := by decide +kernel
theorem dX8_worst_24 : decode cX8_worst 24 = .ok (.aload_n 0, 1) := by decide +kernel
theorem dX8_worst_25 : decode cX8_worst 25 = .ok (.getfield 39, 3) := by decide +kernel
theorem dX8_worst_28 : decode cX8_worst 28 = .ok (.iload_n 1, 1) := by decide +kernel
theorem dX8_worst_29 : decode cX8_worst 29 = .ok (.iconst 1, 1) := by decide +kernel
theorem dX8_worst_30 : decode cX8_worst 30 = .ok (.iadd, 1) := by decide +kernel
theorem dX8_worst_31 : decode cX8_worst 31 = .ok (.iload 6, 2) := by decide +kernel
theorem dX8_worst_33 : decode cX8_worst 33 = .ok (.iload_n 3, 1) := by decide +kernel
theorem dX8_worst_34 : decode cX8_worst 34 = .ok (.iload 4, 2) := by decide +kernel
theorem dX8_worst_36 : decode cX8_worst 36 = .ok (.invokestatic 196, 3) := by decide +kernel
theorem dX8_worst_39 : decode cX8_worst 39 = .ok (.iaload, 1) := by decide +kernel
theorem dX8_worst_40 : decode cX8_worst 40 = .ok (.istore 7, 2) := by decide +kernel
theorem dX8_worst_42 : decode cX8_worst 42 = .ok (.iload 7, 2) := by decide +kernel
theorem dX8_worst_44 : decode cX8_worst 44 = .ok (.iload 5, 2) := by decide +kernel
theorem dX8_worst_46 : decode cX8_worst 46 = .ok (.if_icmp .le 8, 3) := by decide +kernel
theorem dX8_worst_49 : decode cX8_worst 49 = .ok (.iload 7, 2) := by decide +kernel
theorem dX8_worst_51 : decode cX8_worst 51 = .ok (.goto 5, 3) := by decide +kernel
theorem dX8_worst_54 : decode cX8_worst 54 = .ok (.iload 5, 2) := by decide +kernel
theorem dX8_worst_56 : decode cX8_worst 56 = .ok (.istore 5, 2) := by decide +kernel
theorem dX8_worst_58 : decode cX8_worst 58 = .ok (.iinc 6 1, 3) := by decide +kernel
theorem dX8_worst_61 : decode cX8_worst 61 = .ok (.goto (-55), 3) := by decide +kernel
theorem dX8_worst_64 : decode cX8_worst 64 = .ok (.iload 5, 2) := by decide +kernel
theorem dX8_worst_66 : decode cX8_worst 66 = .ok (.ireturn, 1) := by decide +kernel
def Mo_worst_L6 (w : Wd) (k64 : Int32 → Option Int32) : Nat → Int32 → Int32 → Int32 → Int32 → Int32 → Int32 → Option Int32
  | 0, _, _, _, _, _, _ => none
  | n + 1, v1, v2, v3, v4, v5, v6 => (if (w.1 37 6) ≤ v6 then (k64 v5) else (if (Mo_has w v2 v6) = (0 : Int32) then (Mo_worst_L6 w k64 n v1 v2 v3 v4 v5 (v6 + (1 : Int32))) else (if ib (Mo_placeOf w (v1 + (1 : Int32)) v6 v3 v4) 6656 = true then (Mo_worst_L6 w k64 n v1 v2 v3 v4 (if (w.1 45 (Int32.toNatClampNeg (Mo_placeOf w (v1 + (1 : Int32)) v6 v3 v4))) ≤ v5 then v5 else (w.1 45 (Int32.toNatClampNeg (Mo_placeOf w (v1 + (1 : Int32)) v6 v3 v4)))) (v6 + (1 : Int32))) else none)))
set_option maxRecDepth 100000 in
set_option maxHeartbeats 4000000 in
theorem Mo_worst_L6_ok {K : Ctx} (F : Fx K cX8_worst 8 RX8 (some .int) 1 23 false [37, 45]) (w : Wd) {k64 : Int32 → Option Int32} (h64 : ∀ (v5 : Int32), N K (rtP w) (k64 v5) w 64 [(5, .int v5)] []) : ∀ (n : Nat) (v1 : Int32) (v2 : Int32) (v3 : Int32) (v4 : Int32) (v5 : Int32) (v6 : Int32), N K (rtP w) (Mo_worst_L6 w k64 n v1 v2 v3 v4 v5 v6) w 6 [(0, .ref (gA (cg K) 37)), (1, .int v1), (2, .int v2), (3, .int v3), (4, .int v4), (5, .int v5), (6, .int v6)] [] := by
  intro n
  induction n with
  | zero => intro _ _ _ _ _ _; exact n_none
  | succ n ih =>
    intro v1 v2 v3 v4 v5 v6
    rw [Mo_worst_L6]
    refine n_iload F dX8_worst_6 6 rfl ?_
    refine n_aload_n F dX8_worst_8 rfl 0 rfl ?_
    refine n_get F ck_8 lf_RX8_23 (by decide) fg_37_6 (by decide) dX8_worst_9 ?_
    refine n_icmp_ge F 64 dX8_worst_12 (by decide) (fun e1 => ?_) (fun e1 => ?_)
    · rw [if_pos e1]
      exact n_sub [5] rfl (h64 _)
    rw [if_neg e1]
    refine n_iload_n F dX8_worst_15 rfl 2 rfl ?_
    refine n_iload F dX8_worst_16 6 rfl ?_
    refine n_callSi F cb_X8_has lm_RX8_164 (ct_Mo_has (fx_ok F) (fx_sd F) (fx_ix F rfl) w v2 v6) rfl rfl (Nat.le_of_ble_eq_true rfl) ⟨Nat.le_of_ble_eq_true rfl, Nat.le_of_ble_eq_true rfl⟩ dX8_worst_18 ?_
    refine n_if_eq F 58 dX8_worst_21 (by decide) (fun e2 => ?_) (fun e2 => ?_)
    · rw [if_pos e2]
      refine n_iinc F (v6 + (1 : Int32)) (lv' := [(6, .int (v6 + (1 : Int32))), (0, .ref (gA (cg K) 37)), (1, .int v1), (2, .int v2), (3, .int v3), (4, .int v4), (5, .int v5)]) dX8_worst_58 6 rfl rfl (by decide) rfl ?_
      refine n_goto F 6 dX8_worst_61 (by decide) ?_
      exact n_sub [1, 2, 3, 4, 5, 6, 0] rfl (ih _ _ _ _ _ _)
    rw [if_neg e2]
    refine n_aload_n F dX8_worst_24 rfl 0 rfl ?_
    refine n_get F ck_8 lf_RX8_39 (by decide) fg_37_20 (by decide) dX8_worst_25 ?_
    refine n_iload_n F dX8_worst_28 rfl 1 rfl ?_
    refine n_iconst F (1 : Int32) dX8_worst_29 (by decide) ?_
    refine n_iadd F dX8_worst_30 ?_
    refine n_iload F dX8_worst_31 6 rfl ?_
    refine n_iload_n F dX8_worst_33 rfl 3 rfl ?_
    refine n_iload F dX8_worst_34 4 rfl ?_
    refine n_callSi F cb_X8_placeOf lm_RX8_196 (ct_Mo_placeOf (fx_ok F) (fx_sd F) (fx_ix F rfl) w (v1 + (1 : Int32)) v6 v3 v4) rfl rfl (Nat.le_of_ble_eq_true rfl) ⟨Nat.le_of_ble_eq_true rfl, Nat.le_of_ble_eq_true rfl⟩ dX8_worst_36 ?_
    refine n_chk (fun e3 => ?_)
    refine n_iald F ar_45 (by decide) (ib_in e3) rfl dX8_worst_39 ?_
    refine n_istore F (lv' := [(7, .int (w.1 45 (Int32.toNatClampNeg (Mo_placeOf w (v1 + (1 : Int32)) v6 v3 v4)))), (0, .ref (gA (cg K) 37)), (1, .int v1), (2, .int v2), (3, .int v3), (4, .int v4), (5, .int v5), (6, .int v6)]) dX8_worst_40 (by decide) rfl ?_
    refine n_iload F dX8_worst_42 0 rfl ?_
    refine n_iload F dX8_worst_44 6 rfl ?_
    refine n_icmp_le F 54 dX8_worst_46 (by decide) (fun e4 => ?_) (fun e4 => ?_)
    · rw [if_pos e4]
      refine n_iload F dX8_worst_54 6 rfl ?_
      refine n_istore F (lv' := [(5, .int v5), (7, .int (w.1 45 (Int32.toNatClampNeg (Mo_placeOf w (v1 + (1 : Int32)) v6 v3 v4)))), (0, .ref (gA (cg K) 37)), (1, .int v1), (2, .int v2), (3, .int v3), (4, .int v4), (6, .int v6)]) dX8_worst_56 (by decide) rfl ?_
      refine n_iinc F (v6 + (1 : Int32)) (lv' := [(6, .int (v6 + (1 : Int32))), (5, .int v5), (7, .int (w.1 45 (Int32.toNatClampNeg (Mo_placeOf w (v1 + (1 : Int32)) v6 v3 v4)))), (0, .ref (gA (cg K) 37)), (1, .int v1), (2, .int v2), (3, .int v3), (4, .int v4)]) dX8_worst_58 7 rfl rfl (by decide) rfl ?_
      refine n_goto F 6 dX8_worst_61 (by decide) ?_
      exact n_sub [3, 4, 5, 6, 7, 1, 0] rfl (ih _ _ _ _ _ _)
    rw [if_neg e4]
    refine n_iload F dX8_worst_49 0 rfl ?_
    refine n_goto F 56 dX8_worst_51 (by decide) ?_
    refine n_istore F (lv' := [(5, .int (w.1 45 (Int32.toNatClampNeg (Mo_placeOf w (v1 + (1 : Int32)) v6 v3 v4)))), (7, .int (w.1 45 (Int32.toNatClampNeg (Mo_placeOf w (v1 + (1 : Int32)) v6 v3 v4)))), (0, .ref (gA (cg K) 37)), (1, .int v1), (2, .int v2), (3, .int v3), (4, .int v4), (6, .int v6)]) dX8_worst_56 (by decide) rfl ?_
    refine n_iinc F (v6 + (1 : Int32)) (lv' := [(6, .int (v6 + (1 : Int32))), (5, .int (w.1 45 (Int32.toNatClampNeg (Mo_placeOf w (v1 + (1 : Int32)) v6 v3 v4)))), (7, .int (w.1 45 (Int32.toNatClampNeg (Mo_placeOf w (v1 + (1 : Int32)) v6 v3 v4)))), (0, .ref (gA (cg K) 37)), (1, .int v1), (2, .int v2), (3, .int v3), (4, .int v4)]) dX8_worst_58 7 rfl rfl (by decide) rfl ?_
    refine n_goto F 6 dX8_worst_61 (by decide) ?_
    exact n_sub [3, 4, 5, 6, 7, 1, 0] rfl (ih _ _ _ _ _ _)
def Mo_worst_B64 (w : Wd) (v5 : Int32) : Option Int32 := some v5
set_option maxRecDepth 100000 in
set_option maxHeartbeats 4000000 in
theorem Mo_worst_B64_ok {K : Ctx} (F : Fx K cX8_worst 8 RX8 (some .int) 1 23 false [37, 45]) (w : Wd) (v5 : Int32) : N K (rtP w) (Mo_worst_B64 w v5) w 64 [(5, .int v5)] [] := by
  rw [Mo_worst_B64]
  refine n_iload F dX8_worst_64 0 rfl ?_
  exact n_iret F rfl rfl dX8_worst_66
def Mo_worst (w : Wd) (a1 : Int32) (a2 : Int32) (a3 : Int32) (a4 : Int32) : Option Int32 := (Mo_worst_L6 w (Mo_worst_B64 w) FU a1 a2 a3 a4 (0 : Int32) (0 : Int32))
set_option maxRecDepth 100000 in
set_option maxHeartbeats 4000000 in
theorem ct_Mo_worst {l : Launch} {g : GG} {σ : Sd} (hg : OKg g σ) (hb : σ.2.1 = false) (hx : ∀ c ∈ ([37, 45] : List Nat), c ∈ σ.1) (w : Wd) (a1 : Int32) (a2 : Int32) (a3 : Int32) (a4 : Int32) {q : Int32} (hq : Mo_worst w a1 a2 a3 a4 = some q) : CT l g σ yX8_worst cX8_worst 8 (some .int) 1 23 [.ref (gA g 37), .int a1, .int a2, .int a3, .int a4] w (some (.int q)) w := by
  refine ct_of (rt := (rtP w)) (res := Mo_worst w a1 a2 a3 a4) (q := q) (own := RX8) (b := false) hg hb hx (by decide) rfl (Nat.le_of_ble_eq_true rfl) hq (fun K e1 e2 e3 F => ?_)
  subst e1 e2 e3
  rw [Mo_worst]
  show N K _ _ w 0 [(0, .ref (gA (cg K) 37)), (1, .int a1), (2, .int a2), (3, .int a3), (4, .int a4)] []
  refine n_iconst F (0 : Int32) dX8_worst_0 (by decide) ?_
  refine n_istore F (lv' := [(5, .int (0 : Int32)), (0, .ref (gA (cg K) 37)), (1, .int a1), (2, .int a2), (3, .int a3), (4, .int a4)]) dX8_worst_1 (by decide) rfl ?_
  refine n_iconst F (0 : Int32) dX8_worst_3 (by decide) ?_
  refine n_istore F (lv' := [(6, .int (0 : Int32)), (5, .int (0 : Int32)), (0, .ref (gA (cg K) 37)), (1, .int a1), (2, .int a2), (3, .int a3), (4, .int a4)]) dX8_worst_4 (by decide) rfl ?_
  exact n_sub [2, 3, 4, 5, 6, 1, 0] rfl (Mo_worst_L6_ok F w (Mo_worst_B64_ok F w) FU _ _ _ _ _ _)
theorem dX8_bestFrom_0 : decode cX8_bestFrom 0 = .ok (.iload_n 2, 1) := by decide +kernel
theorem dX8_bestFrom_1 : decode cX8_bestFrom 1 = .ok (.iload_n 3, 1) := by decide +kernel
theorem dX8_bestFrom_2 : decode cX8_bestFrom 2 = .ok (.if_icmp .eq 9, 3) := by decide +kernel
theorem dX8_bestFrom_5 : decode cX8_bestFrom 5 = .ok (.iload_n 2, 1) := by decide +kernel
theorem dX8_bestFrom_6 : decode cX8_bestFrom 6 = .ok (.iload 4, 2) := by decide +kernel
theorem dX8_bestFrom_8 : decode cX8_bestFrom 8 = .ok (.if_icmp .ne 5, 3) := by decide +kernel
theorem dX8_bestFrom_11 : decode cX8_bestFrom 11 = .ok (.iconst 0, 1) := by decide +kernel
theorem dX8_bestFrom_12 : decode cX8_bestFrom 12 = .ok (.ireturn, 1) := by decide +kernel
theorem dX8_bestFrom_13 : decode cX8_bestFrom 13 = .ok (.iload_n 1, 1) := by decide +kernel
theorem dX8_bestFrom_14 : decode cX8_bestFrom 14 = .ok (.bipush 12, 2) := by decide +kernel
theorem dX8_bestFrom_16 : decode cX8_bestFrom 16 = .ok (.if_icmp .ne 6, 3) := by decide +kernel
theorem dX8_bestFrom_19 : decode cX8_bestFrom 19 = .ok (.bipush 99, 2) := by decide +kernel
theorem dX8_bestFrom_21 : decode cX8_bestFrom 21 = .ok (.ireturn, 1) := by decide +kernel
theorem dX8_bestFrom_22 : decode cX8_bestFrom 22 = .ok (.aload_n 0, 1) := by decide +kernel
theorem dX8_bestFrom_23 : decode cX8_bestFrom 23 = .ok (.getfield 7, 3) := by decide +kernel
theorem dX8_bestFrom_26 : decode cX8_bestFrom 26 = .ok (.iconst 0, 1) := by decide +kernel
theorem dX8_bestFrom_27 : decode cX8_bestFrom 27 = .ok (.iaload, 1) := by decide +kernel
theorem dX8_bestFrom_28 : decode cX8_bestFrom 28 = .ok (.iload_n 1, 1) := by decide +kernel
theorem dX8_bestFrom_29 : decode cX8_bestFrom 29 = .ok (.iadd, 1) := by decide +kernel
theorem dX8_bestFrom_30 : decode cX8_bestFrom 30 = .ok (.istore 6, 2) := by decide +kernel
theorem dX8_bestFrom_32 : decode cX8_bestFrom 32 = .ok (.aload_n 0, 1) := by decide +kernel
theorem dX8_bestFrom_33 : decode cX8_bestFrom 33 = .ok (.iload_n 2, 1) := by decide +kernel
theorem dX8_bestFrom_34 : decode cX8_bestFrom 34 = .ok (.iload 6, 2) := by decide +kernel
theorem dX8_bestFrom_36 : decode cX8_bestFrom 36 = .ok (.iload 5, 2) := by decide +kernel
theorem dX8_bestFrom_38 : decode cX8_bestFrom 38 = .ok (.invokevirtual 186, 3) := by decide +kernel
theorem dX8_bestFrom_41 : decode cX8_bestFrom 41 = .ok (.istore 7, 2) := by decide +kernel
theorem dX8_bestFrom_43 : decode cX8_bestFrom 43 = .ok (.iload 7, 2) := by decide +kernel
theorem dX8_bestFrom_45 : decode cX8_bestFrom 45 = .ok (.ifCond .ne 9, 3) := by decide +kernel
theorem dX8_bestFrom_48 : decode cX8_bestFrom 48 = .ok (.iconst 1, 1) := by decide +kernel
theorem dX8_bestFrom_49 : decode cX8_bestFrom 49 = .ok (.iload_n 2, 1) := by decide +kernel
theorem dX8_bestFrom_50 : decode cX8_bestFrom 50 = .ok (.ishl, 1) := by decide +kernel
theorem dX8_bestFrom_51 : decode cX8_bestFrom 51 = .ok (.goto 5, 3) := by decide +kernel
theorem dX8_bestFrom_54 : decode cX8_bestFrom 54 = .ok (.iload 7, 2) := by decide +kernel
theorem dX8_bestFrom_56 : decode cX8_bestFrom 56 = .ok (.istore 7, 2) := by decide +kernel
theorem dX8_bestFrom_58 : decode cX8_bestFrom 58 = .ok (.aload_n 0, 1) := by decide +kernel
theorem dX8_bestFrom_59 : decode cX8_bestFrom 59 = .ok (.iload_n 3, 1) := by decide +kernel
theorem dX8_bestFrom_60 : decode cX8_bestFrom 60 = .ok (.iload 6, 2) := by decide +kernel
theorem dX8_bestFrom_62 : decode cX8_bestFrom 62 = .ok (.iload 5, 2) := by decide +kernel
theorem dX8_bestFrom_64 : decode cX8_bestFrom 64 = .ok (.invokevirtual 190, 3) := by decide +kernel
theorem dX8_bestFrom_67 : decode cX8_bestFrom 67 = .ok (.istore 8, 2) := by decide +kernel
theorem dX8_bestFrom_69 : decode cX8_bestFrom 69 = .ok (.aload_n 0, 1) := by decide +kernel
theorem dX8_bestFrom_70 : decode cX8_bestFrom 70 = .ok (.iload 4, 2) := by decide +kernel
theorem dX8_bestFrom_72 : decode cX8_bestFrom 72 = .ok (.iload 6, 2) := by decide +kernel
theorem dX8_bestFrom_74 : decode cX8_bestFrom 74 = .ok (.iload 5, 2) := by decide +kernel
theorem dX8_bestFrom_76 : decode cX8_bestFrom 76 = .ok (.invokevirtual 190, 3) := by decide +kernel
theorem dX8_bestFrom_79 : decode cX8_bestFrom 79 = .ok (.istore 9, 2) := by decide +kernel
theorem dX8_bestFrom_81 : decode cX8_bestFrom 81 = .ok (.bipush 99, 2) := by decide +kernel
theorem dX8_bestFrom_83 : decode cX8_bestFrom 83 = .ok (.istore 10, 2) := by decide +kernel
theorem dX8_bestFrom_85 : decode cX8_bestFrom 85 = .ok (.iconst 0, 1) := by decide +kernel
theorem dX8_bestFrom_86 : decode cX8_bestFrom 86 = .ok (.istore 11, 2) := by decide +kernel
theorem dX8_bestFrom_88 : decode cX8_bestFrom 88 = .ok (.iload 11, 2) := by decide +kernel
theorem dX8_bestFrom_90 : decode cX8_bestFrom 90 = .ok (.bipush 64, 2) := by decide +kernel
theorem dX8_bestFrom_92 : decode cX8_bestFrom 92 = .ok (.if_icmp .ge 72, 3) := by decide +kernel
theorem dX8_bestFrom_95 : decode cX8_bestFrom 95 = .ok (.iload 8, 2) := by decide +kernel
theorem dX8_bestFrom_97 : decode cX8_bestFrom 97 = .ok (.iload 11, 2) := by decide +kernel
theorem dX8_bestFrom_99 : decode cX8_bestFrom 99 = .ok (.bipush 8, 2) := by decide +kernel
theorem dX8_bestFrom_101 : decode cX8_bestFrom 101 = .ok (.idiv, 1) := by decide +kernel
theorem dX8_bestFrom_102 : decode cX8_bestFrom 102 = .ok (.invokestatic 164, 3) := by decide +kernel
theorem dX8_bestFrom_105 : decode cX8_bestFrom 105 = .ok (.ifCond .eq 53, 3) := by decide +kernel
theorem dX8_bestFrom_108 : decode cX8_bestFrom 108 = .ok (.iload 9, 2) := by decide +kernel
theorem dX8_bestFrom_110 : decode cX8_bestFrom 110 = .ok (.iload 11, 2) := by decide +kernel
theorem dX8_bestFrom_112 : decode cX8_bestFrom 112 = .ok (.bipush 8, 2) := by decide +kernel
theorem dX8_bestFrom_114 : decode cX8_bestFrom 114 = .ok (.irem, 1) := by decide +kernel
theorem dX8_bestFrom_115 : decode cX8_bestFrom 115 = .ok (.invokestatic 164, 3) := by decide +kernel
theorem dX8_bestFrom_118 : decode cX8_bestFrom 118 = .ok (.ifCond .eq 40, 3) := by decide +kernel
theorem dX8_bestFrom_121 : decode cX8_bestFrom 121 = .ok (.iconst 1, 1) := by decide +kernel
theorem dX8_bestFrom_122 : decode cX8_bestFrom 122 = .ok (.aload_n 0, 1) := by decide +kernel
theorem dX8_bestFrom_123 : decode cX8_bestFrom 123 = .ok (.iload_n 1, 1) := by decide +kernel
theorem dX8_bestFrom_124 : decode cX8_bestFrom 124 = .ok (.iload 7, 2) := by decide +kernel
theorem dX8_bestFrom_126 : decode cX8_bestFrom 126 = .ok (.iload 11, 2) := by decide +kernel
theorem dX8_bestFrom_128 : decode cX8_bestFrom 128 = .ok (.bipush 8, 2) := by decide +kernel
theorem dX8_bestFrom_130 : decode cX8_bestFrom 130 = .ok (.idiv, 1) := by decide +kernel
theorem dX8_bestFrom_131 : decode cX8_bestFrom 131 = .ok (.iload 11, 2) := by decide +kernel
theorem dX8_bestFrom_133 : decode cX8_bestFrom 133 = .ok (.bipush 8, 2) := by decide +kernel
theorem dX8_bestFrom_135 : decode cX8_bestFrom 135 = .ok (.irem, 1) := by decide +kernel
theorem dX8_bestFrom_136 : decode cX8_bestFrom 136 = .ok (.invokevirtual 200, 3) := by decide +kernel
theorem dX8_bestFrom_139 : decode cX8_bestFrom 139 = .ok (.iadd, 1) := by decide +kernel
theorem dX8_bestFrom_140 : decode cX8_bestFrom 140 = .ok (.istore 12, 2) := by decide +kernel
theorem dX8_bestFrom_142 : decode cX8_bestFrom 142 = .ok (.iload 12, 2) := by decide +kernel
theorem dX8_bestFrom_144 : decode cX8_bestFrom 144 = .ok (.iload 10, 2) := by decide +kernel
theorem dX8_bestFrom_146 : decode cX8_bestFrom 146 = .ok (.if_icmp .ge 8, 3) := by decide +kernel
theorem dX8_bestFrom_149 : decode cX8_bestFrom 149 = .ok (.iload 12, 2) := by decide +kernel
theorem dX8_bestFrom_151 : decode cX8_bestFrom 151 = .ok (.goto 5, 3) := by decide +kernel
theorem dX8_bestFrom_154 : decode cX8_bestFrom 154 = .ok (.iload 10, 2) := by decide +kernel
theorem dX8_bestFrom_156 : decode cX8_bestFrom 156 = .ok (.istore 10, 2) := by decide +kernel
theorem dX8_bestFrom_158 : decode cX8_bestFrom 158 = .ok (.iinc 11 1, 3) := by decide +kernel
theorem dX8_bestFrom_161 : decode cX8_bestFrom 161 = .ok (.goto (-73), 3) := by decide +kernel
theorem dX8_bestFrom_164 : decode cX8_bestFrom 164 = .ok (.iload 10, 2) := by decide +kernel
theorem dX8_bestFrom_166 : decode cX8_bestFrom 166 = .ok (.ireturn, 1) := by decide +kernel
def Mo_bestFrom_L88 (w : Wd) (k164 : Int32 → Option Int32) : Nat → Int32 → Int32 → Int32 → Int32 → Int32 → Int32 → Option Int32
  | 0, _, _, _, _, _, _ => none
  | n + 1, v1, v7, v8, v9, v10, v11 => (if (64 : Int32) ≤ v11 then (k164 v10) else (if (Mo_has w v8 (v11 / (8 : Int32))) = (0 : Int32) then (Mo_bestFrom_L88 w k164 n v1 v7 v8 v9 v10 (v11 + (1 : Int32))) else (if (Mo_has w v9 (v11 - v11 / (8 : Int32) * (8 : Int32))) = (0 : Int32) then (Mo_bestFrom_L88 w k164 n v1 v7 v8 v9 v10 (v11 + (1 : Int32))) else (Option.bind (Mo_worst w v1 v7 (v11 / (8 : Int32)) (v11 - v11 / (8 : Int32) * (8 : Int32))) (fun q11 => (Mo_bestFrom_L88 w k164 n v1 v7 v8 v9 (if v10 ≤ ((1 : Int32) + q11) then v10 else ((1 : Int32) + q11)) (v11 + (1 : Int32))))))))
set_option maxRecDepth 100000 in
set_option maxHeartbeats 4000000 in
theorem Mo_bestFrom_L88_ok {K : Ctx} (F : Fx K cX8_bestFrom 13 RX8 (some .int) 3 71 false [37, 38, 42, 45]) (w : Wd) {k164 : Int32 → Option Int32} (h164 : ∀ (v10 : Int32), N K (rtP w) (k164 v10) w 164 [(10, .int v10)] []) : ∀ (n : Nat) (v1 : Int32) (v7 : Int32) (v8 : Int32) (v9 : Int32) (v10 : Int32) (v11 : Int32), N K (rtP w) (Mo_bestFrom_L88 w k164 n v1 v7 v8 v9 v10 v11) w 88 [(0, .ref (gA (cg K) 37)), (1, .int v1), (7, .int v7), (8, .int v8), (9, .int v9), (10, .int v10), (11, .int v11)] [] := by
  intro n
  induction n with
  | zero => intro _ _ _ _ _ _; exact n_none
  | succ n ih =>
    intro v1 v7 v8 v9 v10 v11
    rw [Mo_bestFrom_L88]
    refine n_iload F dX8_bestFrom_88 6 rfl ?_
    refine n_bipush F (64 : Int32) dX8_bestFrom_90 (by decide) ?_
    refine n_icmp_ge F 164 dX8_bestFrom_92 (by decide) (fun e8 => ?_) (fun e8 => ?_)
    · rw [if_pos e8]
      exact n_sub [5] rfl (h164 _)
    rw [if_neg e8]
    refine n_iload F dX8_bestFrom_95 3 rfl ?_
    refine n_iload F dX8_bestFrom_97 6 rfl ?_
    refine n_bipush F (8 : Int32) dX8_bestFrom_99 (by decide) ?_
    refine n_idiv F dX8_bestFrom_101 (by decide) ?_
    refine n_callSi F cb_X8_has lm_RX8_164 (ct_Mo_has (fx_ok F) (fx_sd F) (fx_ix F rfl) w v8 (v11 / (8 : Int32))) rfl rfl (Nat.le_of_ble_eq_true rfl) ⟨Nat.le_of_ble_eq_true rfl, Nat.le_of_ble_eq_true rfl⟩ dX8_bestFrom_102 ?_
    refine n_if_eq F 158 dX8_bestFrom_105 (by decide) (fun e9 => ?_) (fun e9 => ?_)
    · rw [if_pos e9]
      refine n_iinc F (v11 + (1 : Int32)) (lv' := [(11, .int (v11 + (1 : Int32))), (0, .ref (gA (cg K) 37)), (1, .int v1), (7, .int v7), (8, .int v8), (9, .int v9), (10, .int v10)]) dX8_bestFrom_158 6 rfl rfl (by decide) rfl ?_
      refine n_goto F 88 dX8_bestFrom_161 (by decide) ?_
      exact n_sub [1, 2, 3, 4, 5, 6, 0] rfl (ih _ _ _ _ _ _)
    rw [if_neg e9]
    refine n_iload F dX8_bestFrom_108 4 rfl ?_
    refine n_iload F dX8_bestFrom_110 6 rfl ?_
    refine n_bipush F (8 : Int32) dX8_bestFrom_112 (by decide) ?_
    refine n_irem F dX8_bestFrom_114 (by decide) ?_
    refine n_callSi F cb_X8_has lm_RX8_164 (ct_Mo_has (fx_ok F) (fx_sd F) (fx_ix F rfl) w v9 (v11 - v11 / (8 : Int32) * (8 : Int32))) rfl rfl (Nat.le_of_ble_eq_true rfl) ⟨Nat.le_of_ble_eq_true rfl, Nat.le_of_ble_eq_true rfl⟩ dX8_bestFrom_115 ?_
    refine n_if_eq F 158 dX8_bestFrom_118 (by decide) (fun e10 => ?_) (fun e10 => ?_)
    · rw [if_pos e10]
      refine n_iinc F (v11 + (1 : Int32)) (lv' := [(11, .int (v11 + (1 : Int32))), (0, .ref (gA (cg K) 37)), (1, .int v1), (7, .int v7), (8, .int v8), (9, .int v9), (10, .int v10)]) dX8_bestFrom_158 6 rfl rfl (by decide) rfl ?_
      refine n_goto F 88 dX8_bestFrom_161 (by decide) ?_
      exact n_sub [1, 2, 3, 4, 5, 6, 0] rfl (ih _ _ _ _ _ _)
    rw [if_neg e10]
    refine n_iconst F (1 : Int32) dX8_bestFrom_121 (by decide) ?_
    refine n_aload_n F dX8_bestFrom_122 rfl 0 rfl ?_
    refine n_iload_n F dX8_bestFrom_123 rfl 1 rfl ?_
    refine n_iload F dX8_bestFrom_124 2 rfl ?_
    refine n_iload F dX8_bestFrom_126 6 rfl ?_
    refine n_bipush F (8 : Int32) dX8_bestFrom_128 (by decide) ?_
    refine n_idiv F dX8_bestFrom_130 (by decide) ?_
    refine n_iload F dX8_bestFrom_131 6 rfl ?_
    refine n_bipush F (8 : Int32) dX8_bestFrom_133 (by decide) ?_
    refine n_irem F dX8_bestFrom_135 (by decide) ?_
    refine n_bind (fun q11 hq11 => ?_)
    refine n_callVi F cb_X8_worst lm_RX8_200 ob_37 (by decide) ⟨_, _, rfl⟩ (ct_Mo_worst (fx_ok F) (fx_sd F) (fx_ix F rfl) w v1 v7 (v11 / (8 : Int32)) (v11 - v11 / (8 : Int32) * (8 : Int32)) hq11) rfl rfl (Nat.le_of_ble_eq_true rfl) ⟨Nat.le_of_ble_eq_true rfl, Nat.le_of_ble_eq_true rfl⟩ dX8_bestFrom_136 ?_
    refine n_iadd F dX8_bestFrom_139 ?_
    refine n_istore F (lv' := [(12, .int ((1 : Int32) + q11)), (0, .ref (gA (cg K) 37)), (1, .int v1), (7, .int v7), (8, .int v8), (9, .int v9), (10, .int v10), (11, .int v11)]) dX8_bestFrom_140 (by decide) rfl ?_
    refine n_iload F dX8_bestFrom_142 0 rfl ?_
    refine n_iload F dX8_bestFrom_144 6 rfl ?_
    refine n_icmp_ge F 154 dX8_bestFrom_146 (by decide) (fun e12 => ?_) (fun e12 => ?_)
    · rw [if_pos e12]
      refine n_iload F dX8_bestFrom_154 6 rfl ?_
      refine n_istore F (lv' := [(10, .int v10), (12, .int ((1 : Int32) + q11)), (0, .ref (gA (cg K) 37)), (1, .int v1), (7, .int v7), (8, .int v8), (9, .int v9), (11, .int v11)]) dX8_bestFrom_156 (by decide) rfl ?_
      refine n_iinc F (v11 + (1 : Int32)) (lv' := [(11, .int (v11 + (1 : Int32))), (10, .int v10), (12, .int ((1 : Int32) + q11)), (0, .ref (gA (cg K) 37)), (1, .int v1), (7, .int v7), (8, .int v8), (9, .int v9)]) dX8_bestFrom_158 7 rfl rfl (by decide) rfl ?_
      refine n_goto F 88 dX8_bestFrom_161 (by decide) ?_
      exact n_sub [3, 4, 5, 6, 7, 1, 0] rfl (ih _ _ _ _ _ _)
    rw [if_neg e12]
    refine n_iload F dX8_bestFrom_149 0 rfl ?_
    refine n_goto F 156 dX8_bestFrom_151 (by decide) ?_
    refine n_istore F (lv' := [(10, .int ((1 : Int32) + q11)), (12, .int ((1 : Int32) + q11)), (0, .ref (gA (cg K) 37)), (1, .int v1), (7, .int v7), (8, .int v8), (9, .int v9), (11, .int v11)]) dX8_bestFrom_156 (by decide) rfl ?_
    refine n_iinc F (v11 + (1 : Int32)) (lv' := [(11, .int (v11 + (1 : Int32))), (10, .int ((1 : Int32) + q11)), (12, .int ((1 : Int32) + q11)), (0, .ref (gA (cg K) 37)), (1, .int v1), (7, .int v7), (8, .int v8), (9, .int v9)]) dX8_bestFrom_158 7 rfl rfl (by decide) rfl ?_
    refine n_goto F 88 dX8_bestFrom_161 (by decide) ?_
    exact n_sub [3, 4, 5, 6, 7, 1, 0] rfl (ih _ _ _ _ _ _)
def Mo_bestFrom_B164 (w : Wd) (v10 : Int32) : Option Int32 := some v10
set_option maxRecDepth 100000 in
set_option maxHeartbeats 4000000 in
theorem Mo_bestFrom_B164_ok {K : Ctx} (F : Fx K cX8_bestFrom 13 RX8 (some .int) 3 71 false [37, 38, 42, 45]) (w : Wd) (v10 : Int32) : N K (rtP w) (Mo_bestFrom_B164 w v10) w 164 [(10, .int v10)] [] := by
  rw [Mo_bestFrom_B164]
  refine n_iload F dX8_bestFrom_164 0 rfl ?_
  exact n_iret F rfl rfl dX8_bestFrom_166
def Mo_bestFrom_B56 (w : Wd) (v1 : Int32) (v3 : Int32) (v4 : Int32) (v5 : Int32) (v6 : Int32) (s0 : Int32) : Option Int32 := (Option.bind (Mo_reach w v3 v6 v5) (fun q6 => (Option.bind (Mo_reach w v4 v6 v5) (fun q7 => (Mo_bestFrom_L88 w (Mo_bestFrom_B164 w) FU v1 s0 q6 q7 (99 : Int32) (0 : Int32))))))
set_option maxRecDepth 100000 in
set_option maxHeartbeats 4000000 in
theorem Mo_bestFrom_B56_ok {K : Ctx} (F : Fx K cX8_bestFrom 13 RX8 (some .int) 3 71 false [37, 38, 42, 45]) (w : Wd) (v1 : Int32) (v3 : Int32) (v4 : Int32) (v5 : Int32) (v6 : Int32) (s0 : Int32) : N K (rtP w) (Mo_bestFrom_B56 w v1 v3 v4 v5 v6 s0) w 56 [(0, .ref (gA (cg K) 37)), (1, .int v1), (3, .int v3), (4, .int v4), (5, .int v5), (6, .int v6)] [.int s0] := by
  rw [Mo_bestFrom_B56]
  refine n_istore F (lv' := [(7, .int s0), (0, .ref (gA (cg K) 37)), (1, .int v1), (3, .int v3), (4, .int v4), (5, .int v5), (6, .int v6)]) dX8_bestFrom_56 (by decide) rfl ?_
  refine n_aload_n F dX8_bestFrom_58 rfl 1 rfl ?_
  refine n_iload_n F dX8_bestFrom_59 rfl 3 rfl ?_
  refine n_iload F dX8_bestFrom_60 6 rfl ?_
  refine n_iload F dX8_bestFrom_62 5 rfl ?_
  refine n_bind (fun q6 hq6 => ?_)
  refine n_callVi F cb_X8_reach lm_RX8_190 ob_37 (by decide) ⟨_, _, rfl⟩ (ct_Mo_reach (fx_ok F) (fx_sd F) (fx_ix F rfl) w v3 v6 v5 hq6) rfl rfl (Nat.le_of_ble_eq_true rfl) ⟨Nat.le_of_ble_eq_true rfl, Nat.le_of_ble_eq_true rfl⟩ dX8_bestFrom_64 ?_
  refine n_istore F (lv' := [(8, .int q6), (7, .int s0), (0, .ref (gA (cg K) 37)), (1, .int v1), (3, .int v3), (4, .int v4), (5, .int v5), (6, .int v6)]) dX8_bestFrom_67 (by decide) rfl ?_
  refine n_aload_n F dX8_bestFrom_69 rfl 2 rfl ?_
  refine n_iload F dX8_bestFrom_70 5 rfl ?_
  refine n_iload F dX8_bestFrom_72 7 rfl ?_
  refine n_iload F dX8_bestFrom_74 6 rfl ?_
  refine n_bind (fun q7 hq7 => ?_)
  refine n_callVi F cb_X8_reach lm_RX8_190 ob_37 (by decide) ⟨_, _, rfl⟩ (ct_Mo_reach (fx_ok F) (fx_sd F) (fx_ix F rfl) w v4 v6 v5 hq7) rfl rfl (Nat.le_of_ble_eq_true rfl) ⟨Nat.le_of_ble_eq_true rfl, Nat.le_of_ble_eq_true rfl⟩ dX8_bestFrom_76 ?_
  refine n_istore F (lv' := [(9, .int q7), (8, .int q6), (7, .int s0), (0, .ref (gA (cg K) 37)), (1, .int v1), (3, .int v3), (4, .int v4), (5, .int v5), (6, .int v6)]) dX8_bestFrom_79 (by decide) rfl ?_
  refine n_bipush F (99 : Int32) dX8_bestFrom_81 (by decide) ?_
  refine n_istore F (lv' := [(10, .int (99 : Int32)), (9, .int q7), (8, .int q6), (7, .int s0), (0, .ref (gA (cg K) 37)), (1, .int v1), (3, .int v3), (4, .int v4), (5, .int v5), (6, .int v6)]) dX8_bestFrom_83 (by decide) rfl ?_
  refine n_iconst F (0 : Int32) dX8_bestFrom_85 (by decide) ?_
  refine n_istore F (lv' := [(11, .int (0 : Int32)), (10, .int (99 : Int32)), (9, .int q7), (8, .int q6), (7, .int s0), (0, .ref (gA (cg K) 37)), (1, .int v1), (3, .int v3), (4, .int v4), (5, .int v5), (6, .int v6)]) dX8_bestFrom_86 (by decide) rfl ?_
  exact n_sub [5, 6, 4, 3, 2, 1, 0] rfl (Mo_bestFrom_L88_ok F w (Mo_bestFrom_B164_ok F w) FU _ _ _ _ _ _)
def Mo_bestFrom (w : Wd) (a1 : Int32) (a2 : Int32) (a3 : Int32) (a4 : Int32) (a5 : Int32) : Option Int32 := (if a2 = a3 then some (0 : Int32) else (if a2 = a4 then some (0 : Int32) else (if a1 = (12 : Int32) then some (99 : Int32) else (Option.bind (Mo_nightsFrom w a2 ((w.1 38 0) + a1) a5) (fun q4 => (Mo_bestFrom_B56 w a1 a3 a4 a5 ((w.1 38 0) + a1) (if q4 = (0 : Int32) then ((1 : Int32) <<< (a2 &&& (31 : Int32))) else q4)))))))
set_option maxRecDepth 100000 in
set_option maxHeartbeats 4000000 in
theorem ct_Mo_bestFrom {l : Launch} {g : GG} {σ : Sd} (hg : OKg g σ) (hb : σ.2.1 = false) (hx : ∀ c ∈ ([37, 38, 42, 45] : List Nat), c ∈ σ.1) (w : Wd) (a1 : Int32) (a2 : Int32) (a3 : Int32) (a4 : Int32) (a5 : Int32) {q : Int32} (hq : Mo_bestFrom w a1 a2 a3 a4 a5 = some q) : CT l g σ yX8_bestFrom cX8_bestFrom 13 (some .int) 3 71 [.ref (gA g 37), .int a1, .int a2, .int a3, .int a4, .int a5] w (some (.int q)) w := by
  refine ct_of (rt := (rtP w)) (res := Mo_bestFrom w a1 a2 a3 a4 a5) (q := q) (own := RX8) (b := false) hg hb hx (by decide) rfl (Nat.le_of_ble_eq_true rfl) hq (fun K e1 e2 e3 F => ?_)
  subst e1 e2 e3
  rw [Mo_bestFrom]
  show N K _ _ w 0 [(0, .ref (gA (cg K) 37)), (1, .int a1), (2, .int a2), (3, .int a3), (4, .int a4), (5, .int a5)] []
  refine n_iload_n F dX8_bestFrom_0 rfl 2 rfl ?_
  refine n_iload_n F dX8_bestFrom_1 rfl 3 rfl ?_
  refine n_icmp_eq F 11 dX8_bestFrom_2 (by decide) (fun e1 => ?_) (fun e1 => ?_)
  · rw [if_pos e1]
    refine n_iconst F (0 : Int32) dX8_bestFrom_11 (by decide) ?_
    exact n_iret F rfl rfl dX8_bestFrom_12
  rw [if_neg e1]
  refine n_iload_n F dX8_bestFrom_5 rfl 2 rfl ?_
  refine n_iload F dX8_bestFrom_6 4 rfl ?_
  refine n_icmp_ne F 13 dX8_bestFrom_8 (by decide) (fun e2 => ?_) (fun e2 => ?_)
  · rw [if_neg e2]
    refine n_iload_n F dX8_bestFrom_13 rfl 1 rfl ?_
    refine n_bipush F (12 : Int32) dX8_bestFrom_14 (by decide) ?_
    refine n_icmp_ne F 22 dX8_bestFrom_16 (by decide) (fun e3 => ?_) (fun e3 => ?_)
    · rw [if_neg e3]
      refine n_aload_n F dX8_bestFrom_22 rfl 0 rfl ?_
      refine n_get F ck_8 lf_RX8_7 (by decide) fg_37_0 (by decide) dX8_bestFrom_23 ?_
      refine n_iconst F (0 : Int32) dX8_bestFrom_26 (by decide) ?_
      refine n_iald F ar_38 (by decide) (ib_c (n := 45) (by decide)) (j := 0) (by decide) dX8_bestFrom_27 ?_
      refine n_iload_n F dX8_bestFrom_28 rfl 1 rfl ?_
      refine n_iadd F dX8_bestFrom_29 ?_
      refine n_istore F (lv' := [(6, .int ((w.1 38 0) + a1)), (0, .ref (gA (cg K) 37)), (1, .int a1), (2, .int a2), (3, .int a3), (4, .int a4), (5, .int a5)]) dX8_bestFrom_30 (by decide) rfl ?_
      refine n_aload_n F dX8_bestFrom_32 rfl 1 rfl ?_
      refine n_iload_n F dX8_bestFrom_33 rfl 3 rfl ?_
      refine n_iload F dX8_bestFrom_34 0 rfl ?_
      refine n_iload F dX8_bestFrom_36 6 rfl ?_
      refine n_bind (fun q4 hq4 => ?_)
      refine n_callVi F cb_X8_nightsFrom lm_RX8_186 ob_37 (by decide) ⟨_, _, rfl⟩ (ct_Mo_nightsFrom (fx_ok F) (fx_sd F) (fx_ix F rfl) w a2 ((w.1 38 0) + a1) a5 hq4) rfl rfl (Nat.le_of_ble_eq_true rfl) ⟨Nat.le_of_ble_eq_true rfl, Nat.le_of_ble_eq_true rfl⟩ dX8_bestFrom_38 ?_
      refine n_istore F (lv' := [(7, .int q4), (6, .int ((w.1 38 0) + a1)), (0, .ref (gA (cg K) 37)), (1, .int a1), (2, .int a2), (3, .int a3), (4, .int a4), (5, .int a5)]) dX8_bestFrom_41 (by decide) rfl ?_
      refine n_iload F dX8_bestFrom_43 0 rfl ?_
      refine n_if_ne F 54 dX8_bestFrom_45 (by decide) (fun e5 => ?_) (fun e5 => ?_)
      · rw [if_neg e5]
        refine n_iload F dX8_bestFrom_54 0 rfl ?_
        exact n_sub [2, 3, 5, 6, 7, 1] rfl (Mo_bestFrom_B56_ok F w _ _ _ _ _ _)
      rw [if_pos e5]
      refine n_iconst F (1 : Int32) dX8_bestFrom_48 (by decide) ?_
      refine n_iload_n F dX8_bestFrom_49 rfl 4 rfl ?_
      refine n_ishl F dX8_bestFrom_50 ?_
      refine n_goto F 56 dX8_bestFrom_51 (by decide) ?_
      exact n_sub [2, 3, 5, 6, 7, 1] rfl (Mo_bestFrom_B56_ok F w _ _ _ _ _ _)
    rw [if_pos e3]
    refine n_bipush F (99 : Int32) dX8_bestFrom_19 (by decide) ?_
    exact n_iret F rfl rfl dX8_bestFrom_21
  rw [if_pos e2]
  refine n_iconst F (0 : Int32) dX8_bestFrom_11 (by decide) ?_
  exact n_iret F rfl rfl dX8_bestFrom_12
theorem dX8_chaseBy_0 : decode cX8_chaseBy 0 = .ok (.bipush 12, 2) := by decide +kernel
theorem dX8_chaseBy_2 : decode cX8_chaseBy 2 = .ok (.istore_n 2, 1) := by decide +kernel
theorem dX8_chaseBy_3 : decode cX8_chaseBy 3 = .ok (.iload_n 2, 1) := by decide +kernel
theorem dX8_chaseBy_4 : decode cX8_chaseBy 4 = .ok (.ifCond .lt 70, 3) := by decide +kernel
theorem dX8_chaseBy_7 : decode cX8_chaseBy 7 = .ok (.iconst 0, 1) := by decide +kernel
theorem dX8_chaseBy_8 : decode cX8_chaseBy 8 = .ok (.istore_n 3, 1) := by decide +kernel
theorem dX8_chaseBy_9 : decode cX8_chaseBy 9 = .ok (.iload_n 3, 1) := by decide +kernel
theorem dX8_chaseBy_10 : decode cX8_chaseBy 10 = .ok (.sipush 512, 3) := by decide +kernel
theorem dX8_chaseBy_13 : decode cX8_chaseBy 13 = .ok (.if_icmp .ge 55, 3) := by decide +kernel
theorem dX8_chaseBy_16 : decode cX8_chaseBy 16 = .ok (.iload_n 3, 1) := by decide +kernel
theorem dX8_chaseBy_17 : decode cX8_chaseBy 17 = .ok (.bipush 64, 2) := by decide +kernel
theorem dX8_chaseBy_19 : decode cX8_chaseBy 19 = .ok (.idiv, 1) := by decide +kernel
theorem dX8_chaseBy_20 : decode cX8_chaseBy 20 = .ok (.istore 4, 2) := by decide +kernel
theorem dX8_chaseBy_22 : decode cX8_chaseBy 22 = .ok (.iload 4, 2) := by decide +kernel
theorem dX8_chaseBy_24 : decode cX8_chaseBy 24 = .ok (.aload_n 0, 1) := by decide +kernel
theorem dX8_chaseBy_25 : decode cX8_chaseBy 25 = .ok (.getfield 23, 3) := by decide +kernel
theorem dX8_chaseBy_28 : decode cX8_chaseBy 28 = .ok (.if_icmp .ge 34, 3) := by decide +kernel
theorem dX8_chaseBy_31 : decode cX8_chaseBy 31 = .ok (.aload_n 0, 1) := by decide +kernel
theorem dX8_chaseBy_32 : decode cX8_chaseBy 32 = .ok (.getfield 39, 3) := by decide +kernel
theorem dX8_chaseBy_35 : decode cX8_chaseBy 35 = .ok (.sipush 512, 3) := by decide +kernel
theorem dX8_chaseBy_38 : decode cX8_chaseBy 38 = .ok (.iload_n 2, 1) := by decide +kernel
theorem dX8_chaseBy_39 : decode cX8_chaseBy 39 = .ok (.imul, 1) := by decide +kernel
theorem dX8_chaseBy_40 : decode cX8_chaseBy 40 = .ok (.iload_n 3, 1) := by decide +kernel
theorem dX8_chaseBy_41 : decode cX8_chaseBy 41 = .ok (.iadd, 1) := by decide +kernel
theorem dX8_chaseBy_42 : decode cX8_chaseBy 42 = .ok (.aload_n 0, 1) := by decide +kernel
theorem dX8_chaseBy_43 : decode cX8_chaseBy 43 = .ok (.iload_n 2, 1) := by decide +kernel
theorem dX8_chaseBy_44 : decode cX8_chaseBy 44 = .ok (.iload 4, 2) := by decide +kernel
theorem dX8_chaseBy_46 : decode cX8_chaseBy 46 = .ok (.iload_n 3, 1) := by decide +kernel
theorem dX8_chaseBy_47 : decode cX8_chaseBy 47 = .ok (.bipush 8, 2) := by decide +kernel
theorem dX8_chaseBy_49 : decode cX8_chaseBy 49 = .ok (.idiv, 1) := by decide +kernel
theorem dX8_chaseBy_50 : decode cX8_chaseBy 50 = .ok (.bipush 8, 2) := by decide +kernel
theorem dX8_chaseBy_52 : decode cX8_chaseBy 52 = .ok (.irem, 1) := by decide +kernel
theorem dX8_chaseBy_53 : decode cX8_chaseBy 53 = .ok (.iload_n 3, 1) := by decide +kernel
theorem dX8_chaseBy_54 : decode cX8_chaseBy 54 = .ok (.bipush 8, 2) := by decide +kernel
theorem dX8_chaseBy_56 : decode cX8_chaseBy 56 = .ok (.irem, 1) := by decide +kernel
theorem dX8_chaseBy_57 : decode cX8_chaseBy 57 = .ok (.iload_n 1, 1) := by decide +kernel
theorem dX8_chaseBy_58 : decode cX8_chaseBy 58 = .ok (.invokevirtual 203, 3) := by decide +kernel
theorem dX8_chaseBy_61 : decode cX8_chaseBy 61 = .ok (.iastore, 1) := by decide +kernel
theorem dX8_chaseBy_62 : decode cX8_chaseBy 62 = .ok (.iinc 3 1, 3) := by decide +kernel
theorem dX8_chaseBy_65 : decode cX8_chaseBy 65 = .ok (.goto (-56), 3) := by decide +kernel
theorem dX8_chaseBy_68 : decode cX8_chaseBy 68 = .ok (.iinc 2 (-1), 3) := by decide +kernel
theorem dX8_chaseBy_71 : decode cX8_chaseBy 71 = .ok (.goto (-68), 3) := by decide +kernel
theorem dX8_chaseBy_74 : decode cX8_chaseBy 74 = .ok (.aload_n 0, 1) := by decide +kernel
theorem dX8_chaseBy_75 : decode cX8_chaseBy 75 = .ok (.getfield 7, 3) := by decide +kernel
theorem dX8_chaseBy_78 : decode cX8_chaseBy 78 = .ok (.bipush 8, 2) := by decide +kernel
theorem dX8_chaseBy_80 : decode cX8_chaseBy 80 = .ok (.iaload, 1) := by decide +kernel
theorem dX8_chaseBy_81 : decode cX8_chaseBy 81 = .ok (.iconst (-1), 1) := by decide +kernel
theorem dX8_chaseBy_82 : decode cX8_chaseBy 82 = .ok (.if_icmp .ne 8, 3) := by decide +kernel
theorem dX8_chaseBy_85 : decode cX8_chaseBy 85 = .ok (.bipush 7, 2) := by decide +kernel
theorem dX8_chaseBy_87 : decode cX8_chaseBy 87 = .ok (.goto 10, 3) := by decide +kernel
theorem dX8_chaseBy_90 : decode cX8_chaseBy 90 = .ok (.aload_n 0, 1) := by decide +kernel
theorem dX8_chaseBy_91 : decode cX8_chaseBy 91 = .ok (.getfield 7, 3) := by decide +kernel
theorem dX8_chaseBy_94 : decode cX8_chaseBy 94 = .ok (.bipush 8, 2) := by decide +kernel
theorem dX8_chaseBy_96 : decode cX8_chaseBy 96 = .ok (.iaload, 1) := by decide +kernel
theorem dX8_chaseBy_97 : decode cX8_chaseBy 97 = .ok (.istore_n 2, 1) := by decide +kernel
theorem dX8_chaseBy_98 : decode cX8_chaseBy 98 = .ok (.aload_n 0, 1) := by decide +kernel
theorem dX8_chaseBy_99 : decode cX8_chaseBy 99 = .ok (.getfield 7, 3) := by decide +kernel
theorem dX8_chaseBy_102 : decode cX8_chaseBy 102 = .ok (.bipush 9, 2) := by decide +kernel
theorem dX8_chaseBy_104 : decode cX8_chaseBy 104 = .ok (.iaload, 1) := by decide +kernel
theorem dX8_chaseBy_105 : decode cX8_chaseBy 105 = .ok (.iconst (-1), 1) := by decide +kernel
theorem dX8_chaseBy_106 : decode cX8_chaseBy 106 = .ok (.if_icmp .ne 8, 3) := by decide +kernel
theorem dX8_chaseBy_109 : decode cX8_chaseBy 109 = .ok (.bipush 7, 2) := by decide +kernel
theorem dX8_chaseBy_111 : decode cX8_chaseBy 111 = .ok (.goto 10, 3) := by decide +kernel
theorem dX8_chaseBy_114 : decode cX8_chaseBy 114 = .ok (.aload_n 0, 1) := by decide +kernel
theorem dX8_chaseBy_115 : decode cX8_chaseBy 115 = .ok (.getfield 7, 3) := by decide +kernel
theorem dX8_chaseBy_118 : decode cX8_chaseBy 118 = .ok (.bipush 9, 2) := by decide +kernel
theorem dX8_chaseBy_120 : decode cX8_chaseBy 120 = .ok (.iaload, 1) := by decide +kernel
theorem dX8_chaseBy_121 : decode cX8_chaseBy 121 = .ok (.istore_n 3, 1) := by decide +kernel
theorem dX8_chaseBy_122 : decode cX8_chaseBy 122 = .ok (.aload_n 0, 1) := by decide +kernel
theorem dX8_chaseBy_123 : decode cX8_chaseBy 123 = .ok (.getfield 39, 3) := by decide +kernel
theorem dX8_chaseBy_126 : decode cX8_chaseBy 126 = .ok (.iconst 0, 1) := by decide +kernel
theorem dX8_chaseBy_127 : decode cX8_chaseBy 127 = .ok (.aload_n 0, 1) := by decide +kernel
theorem dX8_chaseBy_128 : decode cX8_chaseBy 128 = .ok (.getfield 7, 3) := by decide +kernel
theorem dX8_chaseBy_131 : decode cX8_chaseBy 131 = .ok (.iconst 1, 1) := by decide +kernel
theorem dX8_chaseBy_132 : decode cX8_chaseBy 132 = .ok (.iaload, 1) := by decide +kernel
theorem dX8_chaseBy_133 : decode cX8_chaseBy 133 = .ok (.iload_n 2, 1) := by decide +kernel
theorem dX8_chaseBy_134 : decode cX8_chaseBy 134 = .ok (.iload_n 3, 1) := by decide +kernel
theorem dX8_chaseBy_135 : decode cX8_chaseBy 135 = .ok (.invokestatic 196, 3) := by decide +kernel
theorem dX8_chaseBy_138 : decode cX8_chaseBy 138 = .ok (.iaload, 1) := by decide +kernel
theorem dX8_chaseBy_139 : decode cX8_chaseBy 139 = .ok (.istore 4, 2) := by decide +kernel
theorem dX8_chaseBy_141 : decode cX8_chaseBy 141 = .ok (.iload 4, 2) := by decide +kernel
theorem dX8_chaseBy_143 : decode cX8_chaseBy 143 = .ok (.bipush 99, 2) := by decide +kernel
theorem dX8_chaseBy_145 : decode cX8_chaseBy 145 = .ok (.if_icmp .lt 8, 3) := by decide +kernel
theorem dX8_chaseBy_148 : decode cX8_chaseBy 148 = .ok (.bipush 99, 2) := by decide +kernel
theorem dX8_chaseBy_150 : decode cX8_chaseBy 150 = .ok (.goto 5, 3) := by decide +kernel
theorem dX8_chaseBy_153 : decode cX8_chaseBy 153 = .ok (.iload 4, 2) := by decide +kernel
theorem dX8_chaseBy_155 : decode cX8_chaseBy 155 = .ok (.ireturn, 1) := by decide +kernel
def Mo_chaseBy_L9 (k68 : Wd → Int32 → Int32 → Option (Int32 × Wd)) : Nat → Wd → Int32 → Int32 → Int32 → Option (Int32 × Wd)
  | 0, _, _, _, _ => none
  | n + 1, w, v1, v2, v3 => (if (512 : Int32) ≤ v3 then (k68 w v1 v2) else (if (w.1 37 6) ≤ (v3 / (64 : Int32)) then (Mo_chaseBy_L9 k68 n w v1 v2 (v3 + (1 : Int32))) else (Option.bind (Mo_bestFrom w v2 (v3 / (64 : Int32)) ((v3 / (8 : Int32)) - (v3 / (8 : Int32)) / (8 : Int32) * (8 : Int32)) (v3 - v3 / (8 : Int32) * (8 : Int32)) v1) (fun q4 => (if ib (((512 : Int32) * v2) + v3) 6656 = true then (Mo_chaseBy_L9 k68 n (sI w 45 (Int32.toNatClampNeg (((512 : Int32) * v2) + v3)) q4) v1 v2 (v3 + (1 : Int32))) else none)))))
set_option maxRecDepth 100000 in
set_option maxHeartbeats 4000000 in
theorem Mo_chaseBy_L9_ok {K : Ctx} (F : Fx K cX8_chaseBy 5 RX8 (some .int) 4 103 false [37, 38, 42, 45]) {k68 : Wd → Int32 → Int32 → Option (Int32 × Wd)} (h68 : ∀ (w : Wd) (v1 : Int32) (v2 : Int32), N K rtI (k68 w v1 v2) w 68 [(0, .ref (gA (cg K) 37)), (1, .int v1), (2, .int v2)] []) : ∀ (n : Nat) (w : Wd) (v1 : Int32) (v2 : Int32) (v3 : Int32), N K rtI (Mo_chaseBy_L9 k68 n w v1 v2 v3) w 9 [(0, .ref (gA (cg K) 37)), (1, .int v1), (2, .int v2), (3, .int v3)] [] := by
  intro n
  induction n with
  | zero => intro _ _ _ _; exact n_none
  | succ n ih =>
    intro w v1 v2 v3
    rw [Mo_chaseBy_L9]
    refine n_iload_n F dX8_chaseBy_9 rfl 3 rfl ?_
    refine n_sipush F (512 : Int32) dX8_chaseBy_10 (by decide) ?_
    refine n_icmp_ge F 68 dX8_chaseBy_13 (by decide) (fun e2 => ?_) (fun e2 => ?_)
    · rw [if_pos e2]
      exact n_sub [0, 1, 2] rfl (h68 _ _ _)
    rw [if_neg e2]
    refine n_iload_n F dX8_chaseBy_16 rfl 3 rfl ?_
    refine n_bipush F (64 : Int32) dX8_chaseBy_17 (by decide) ?_
    refine n_idiv F dX8_chaseBy_19 (by decide) ?_
    refine n_istore F (lv' := [(4, .int (v3 / (64 : Int32))), (0, .ref (gA (cg K) 37)), (1, .int v1), (2, .int v2), (3, .int v3)]) dX8_chaseBy_20 (by decide) rfl ?_
    refine n_iload F dX8_chaseBy_22 0 rfl ?_
    refine n_aload_n F dX8_chaseBy_24 rfl 1 rfl ?_
    refine n_get F ck_8 lf_RX8_23 (by decide) fg_37_6 (by decide) dX8_chaseBy_25 ?_
    refine n_icmp_ge F 62 dX8_chaseBy_28 (by decide) (fun e3 => ?_) (fun e3 => ?_)
    · rw [if_pos e3]
      refine n_iinc F (v3 + (1 : Int32)) (lv' := [(3, .int (v3 + (1 : Int32))), (4, .int (v3 / (64 : Int32))), (0, .ref (gA (cg K) 37)), (1, .int v1), (2, .int v2)]) dX8_chaseBy_62 4 rfl rfl (by decide) rfl ?_
      refine n_goto F 9 dX8_chaseBy_65 (by decide) ?_
      exact n_sub [2, 3, 4, 0] rfl (ih _ _ _ _)
    rw [if_neg e3]
    refine n_aload_n F dX8_chaseBy_31 rfl 1 rfl ?_
    refine n_get F ck_8 lf_RX8_39 (by decide) fg_37_20 (by decide) dX8_chaseBy_32 ?_
    refine n_sipush F (512 : Int32) dX8_chaseBy_35 (by decide) ?_
    refine n_iload_n F dX8_chaseBy_38 rfl 3 rfl ?_
    refine n_imul F dX8_chaseBy_39 ?_
    refine n_iload_n F dX8_chaseBy_40 rfl 4 rfl ?_
    refine n_iadd F dX8_chaseBy_41 ?_
    refine n_aload_n F dX8_chaseBy_42 rfl 1 rfl ?_
    refine n_iload_n F dX8_chaseBy_43 rfl 3 rfl ?_
    refine n_iload F dX8_chaseBy_44 0 rfl ?_
    refine n_iload_n F dX8_chaseBy_46 rfl 4 rfl ?_
    refine n_bipush F (8 : Int32) dX8_chaseBy_47 (by decide) ?_
    refine n_idiv F dX8_chaseBy_49 (by decide) ?_
    refine n_bipush F (8 : Int32) dX8_chaseBy_50 (by decide) ?_
    refine n_irem F dX8_chaseBy_52 (by decide) ?_
    refine n_iload_n F dX8_chaseBy_53 rfl 4 rfl ?_
    refine n_bipush F (8 : Int32) dX8_chaseBy_54 (by decide) ?_
    refine n_irem F dX8_chaseBy_56 (by decide) ?_
    refine n_iload_n F dX8_chaseBy_57 rfl 2 rfl ?_
    refine n_bind (fun q4 hq4 => ?_)
    refine n_callVi F cb_X8_bestFrom lm_RX8_203 ob_37 (by decide) ⟨_, _, rfl⟩ (ct_Mo_bestFrom (fx_ok F) (fx_sd F) (fx_ix F rfl) w v2 (v3 / (64 : Int32)) ((v3 / (8 : Int32)) - (v3 / (8 : Int32)) / (8 : Int32) * (8 : Int32)) (v3 - v3 / (8 : Int32) * (8 : Int32)) v1 hq4) rfl rfl (Nat.le_of_ble_eq_true rfl) ⟨Nat.le_of_ble_eq_true rfl, Nat.le_of_ble_eq_true rfl⟩ dX8_chaseBy_58 ?_
    refine n_chk (fun e5 => ?_)
    refine n_iast F ar_45 (by decide) (ib_in e5) rfl dX8_chaseBy_61 ?_
    refine n_iinc F (v3 + (1 : Int32)) (lv' := [(3, .int (v3 + (1 : Int32))), (4, .int (v3 / (64 : Int32))), (0, .ref (gA (cg K) 37)), (1, .int v1), (2, .int v2)]) dX8_chaseBy_62 4 rfl rfl (by decide) rfl ?_
    refine n_goto F 9 dX8_chaseBy_65 (by decide) ?_
    exact n_sub [2, 3, 4, 0] rfl (ih _ _ _ _)
def Mo_chaseBy_B68 (k3 : Wd → Int32 → Int32 → Option (Int32 × Wd)) (w : Wd) (v1 : Int32) (v2 : Int32) : Option (Int32 × Wd) := (k3 w v1 (v2 + (-1 : Int32)))
set_option maxRecDepth 100000 in
set_option maxHeartbeats 4000000 in
theorem Mo_chaseBy_B68_ok {K : Ctx} (F : Fx K cX8_chaseBy 5 RX8 (some .int) 4 103 false [37, 38, 42, 45]) {k3 : Wd → Int32 → Int32 → Option (Int32 × Wd)} (h3 : ∀ (w : Wd) (v1 : Int32) (v2 : Int32), N K rtI (k3 w v1 v2) w 3 [(0, .ref (gA (cg K) 37)), (1, .int v1), (2, .int v2)] []) (w : Wd) (v1 : Int32) (v2 : Int32) : N K rtI (Mo_chaseBy_B68 k3 w v1 v2) w 68 [(0, .ref (gA (cg K) 37)), (1, .int v1), (2, .int v2)] [] := by
  rw [Mo_chaseBy_B68]
  refine n_iinc F (v2 + (-1 : Int32)) (lv' := [(2, .int (v2 + (-1 : Int32))), (0, .ref (gA (cg K) 37)), (1, .int v1)]) dX8_chaseBy_68 2 rfl rfl (by decide) rfl ?_
  refine n_goto F 3 dX8_chaseBy_71 (by decide) ?_
  exact n_sub [1, 2, 0] rfl (h3 _ _ _)
def Mo_chaseBy_L3 (k74 : Wd → Option (Int32 × Wd)) : Nat → Wd → Int32 → Int32 → Option (Int32 × Wd)
  | 0, _, _, _ => none
  | n + 1, w, v1, v2 => (if v2 < (0 : Int32) then (k74 w) else (Mo_chaseBy_L9 (Mo_chaseBy_B68 (Mo_chaseBy_L3 k74 n)) FU w v1 v2 (0 : Int32)))
set_option maxRecDepth 100000 in
set_option maxHeartbeats 4000000 in
theorem Mo_chaseBy_L3_ok {K : Ctx} (F : Fx K cX8_chaseBy 5 RX8 (some .int) 4 103 false [37, 38, 42, 45]) {k74 : Wd → Option (Int32 × Wd)} (h74 : ∀ (w : Wd), N K rtI (k74 w) w 74 [(0, .ref (gA (cg K) 37))] []) : ∀ (n : Nat) (w : Wd) (v1 : Int32) (v2 : Int32), N K rtI (Mo_chaseBy_L3 k74 n w v1 v2) w 3 [(0, .ref (gA (cg K) 37)), (1, .int v1), (2, .int v2)] [] := by
  intro n
  induction n with
  | zero => intro _ _ _; exact n_none
  | succ n ih =>
    intro w v1 v2
    rw [Mo_chaseBy_L3]
    refine n_iload_n F dX8_chaseBy_3 rfl 2 rfl ?_
    refine n_if_lt F 74 dX8_chaseBy_4 (by decide) (fun e1 => ?_) (fun e1 => ?_)
    · rw [if_pos e1]
      exact n_sub [0] rfl (h74 _)
    rw [if_neg e1]
    refine n_iconst F (0 : Int32) dX8_chaseBy_7 (by decide) ?_
    refine n_istore_n F (lv' := [(3, .int (0 : Int32)), (0, .ref (gA (cg K) 37)), (1, .int v1), (2, .int v2)]) dX8_chaseBy_8 rfl (by decide) rfl ?_
    exact n_sub [1, 2, 3, 0] rfl (Mo_chaseBy_L9_ok F (Mo_chaseBy_B68_ok F ih) FU _ _ _ _)
def Mo_chaseBy_B121 (w : Wd) (v2 : Int32) (s0 : Int32) : Option (Int32 × Wd) := (if ib (Mo_placeOf w (0 : Int32) (w.1 38 1) v2 s0) 6656 = true then (if (w.1 45 (Int32.toNatClampNeg (Mo_placeOf w (0 : Int32) (w.1 38 1) v2 s0))) < (99 : Int32) then some ((w.1 45 (Int32.toNatClampNeg (Mo_placeOf w (0 : Int32) (w.1 38 1) v2 s0))), w) else some ((99 : Int32), w)) else none)
set_option maxRecDepth 100000 in
set_option maxHeartbeats 4000000 in
theorem Mo_chaseBy_B121_ok {K : Ctx} (F : Fx K cX8_chaseBy 5 RX8 (some .int) 4 103 false [37, 38, 42, 45]) (w : Wd) (v2 : Int32) (s0 : Int32) : N K rtI (Mo_chaseBy_B121 w v2 s0) w 121 [(0, .ref (gA (cg K) 37)), (2, .int v2)] [.int s0] := by
  rw [Mo_chaseBy_B121]
  refine n_istore_n F (lv' := [(3, .int s0), (0, .ref (gA (cg K) 37)), (2, .int v2)]) dX8_chaseBy_121 rfl (by decide) rfl ?_
  refine n_aload_n F dX8_chaseBy_122 rfl 1 rfl ?_
  refine n_get F ck_8 lf_RX8_39 (by decide) fg_37_20 (by decide) dX8_chaseBy_123 ?_
  refine n_iconst F (0 : Int32) dX8_chaseBy_126 (by decide) ?_
  refine n_aload_n F dX8_chaseBy_127 rfl 1 rfl ?_
  refine n_get F ck_8 lf_RX8_7 (by decide) fg_37_0 (by decide) dX8_chaseBy_128 ?_
  refine n_iconst F (1 : Int32) dX8_chaseBy_131 (by decide) ?_
  refine n_iald F ar_38 (by decide) (ib_c (n := 45) (by decide)) (j := 1) (by decide) dX8_chaseBy_132 ?_
  refine n_iload_n F dX8_chaseBy_133 rfl 2 rfl ?_
  refine n_iload_n F dX8_chaseBy_134 rfl 0 rfl ?_
  refine n_callSi F cb_X8_placeOf lm_RX8_196 (ct_Mo_placeOf (fx_ok F) (fx_sd F) (fx_ix F rfl) w (0 : Int32) (w.1 38 1) v2 s0) rfl rfl (Nat.le_of_ble_eq_true rfl) ⟨Nat.le_of_ble_eq_true rfl, Nat.le_of_ble_eq_true rfl⟩ dX8_chaseBy_135 ?_
  refine n_chk (fun e8 => ?_)
  refine n_iald F ar_45 (by decide) (ib_in e8) rfl dX8_chaseBy_138 ?_
  refine n_istore F (lv' := [(4, .int (w.1 45 (Int32.toNatClampNeg (Mo_placeOf w (0 : Int32) (w.1 38 1) v2 s0)))), (3, .int s0), (0, .ref (gA (cg K) 37)), (2, .int v2)]) dX8_chaseBy_139 (by decide) rfl ?_
  refine n_iload F dX8_chaseBy_141 0 rfl ?_
  refine n_bipush F (99 : Int32) dX8_chaseBy_143 (by decide) ?_
  refine n_icmp_lt F 153 dX8_chaseBy_145 (by decide) (fun e9 => ?_) (fun e9 => ?_)
  · rw [if_pos e9]
    refine n_iload F dX8_chaseBy_153 0 rfl ?_
    exact n_iret F rfl rfl dX8_chaseBy_155
  rw [if_neg e9]
  refine n_bipush F (99 : Int32) dX8_chaseBy_148 (by decide) ?_
  refine n_goto F 155 dX8_chaseBy_150 (by decide) ?_
  exact n_iret F rfl rfl dX8_chaseBy_155
def Mo_chaseBy_B97 (w : Wd) (s0 : Int32) : Option (Int32 × Wd) := (Mo_chaseBy_B121 w s0 (if (w.1 38 9) = (-1 : Int32) then (7 : Int32) else (w.1 38 9)))
set_option maxRecDepth 100000 in
set_option maxHeartbeats 4000000 in
theorem Mo_chaseBy_B97_ok {K : Ctx} (F : Fx K cX8_chaseBy 5 RX8 (some .int) 4 103 false [37, 38, 42, 45]) (w : Wd) (s0 : Int32) : N K rtI (Mo_chaseBy_B97 w s0) w 97 [(0, .ref (gA (cg K) 37))] [.int s0] := by
  rw [Mo_chaseBy_B97]
  refine n_istore_n F (lv' := [(2, .int s0), (0, .ref (gA (cg K) 37))]) dX8_chaseBy_97 rfl (by decide) rfl ?_
  refine n_aload_n F dX8_chaseBy_98 rfl 1 rfl ?_
  refine n_get F ck_8 lf_RX8_7 (by decide) fg_37_0 (by decide) dX8_chaseBy_99 ?_
  refine n_bipush F (9 : Int32) dX8_chaseBy_102 (by decide) ?_
  refine n_iald F ar_38 (by decide) (ib_c (n := 45) (by decide)) (j := 9) (by decide) dX8_chaseBy_104 ?_
  refine n_iconst F (-1 : Int32) dX8_chaseBy_105 (by decide) ?_
  refine n_icmp_ne F 114 dX8_chaseBy_106 (by decide) (fun e7 => ?_) (fun e7 => ?_)
  · rw [if_neg e7]
    refine n_aload_n F dX8_chaseBy_114 rfl 1 rfl ?_
    refine n_get F ck_8 lf_RX8_7 (by decide) fg_37_0 (by decide) dX8_chaseBy_115 ?_
    refine n_bipush F (9 : Int32) dX8_chaseBy_118 (by decide) ?_
    refine n_iald F ar_38 (by decide) (ib_c (n := 45) (by decide)) (j := 9) (by decide) dX8_chaseBy_120 ?_
    exact n_sub [1, 0] rfl (Mo_chaseBy_B121_ok F _ _ _)
  rw [if_pos e7]
  refine n_bipush F (7 : Int32) dX8_chaseBy_109 (by decide) ?_
  refine n_goto F 121 dX8_chaseBy_111 (by decide) ?_
  exact n_sub [1, 0] rfl (Mo_chaseBy_B121_ok F _ _ _)
def Mo_chaseBy_B74 (w : Wd) : Option (Int32 × Wd) := (Mo_chaseBy_B97 w (if (w.1 38 8) = (-1 : Int32) then (7 : Int32) else (w.1 38 8)))
set_option maxRecDepth 100000 in
set_option maxHeartbeats 4000000 in
theorem Mo_chaseBy_B74_ok {K : Ctx} (F : Fx K cX8_chaseBy 5 RX8 (some .int) 4 103 false [37, 38, 42, 45]) (w : Wd) : N K rtI (Mo_chaseBy_B74 w) w 74 [(0, .ref (gA (cg K) 37))] [] := by
  rw [Mo_chaseBy_B74]
  refine n_aload_n F dX8_chaseBy_74 rfl 0 rfl ?_
  refine n_get F ck_8 lf_RX8_7 (by decide) fg_37_0 (by decide) dX8_chaseBy_75 ?_
  refine n_bipush F (8 : Int32) dX8_chaseBy_78 (by decide) ?_
  refine n_iald F ar_38 (by decide) (ib_c (n := 45) (by decide)) (j := 8) (by decide) dX8_chaseBy_80 ?_
  refine n_iconst F (-1 : Int32) dX8_chaseBy_81 (by decide) ?_
  refine n_icmp_ne F 90 dX8_chaseBy_82 (by decide) (fun e6 => ?_) (fun e6 => ?_)
  · rw [if_neg e6]
    refine n_aload_n F dX8_chaseBy_90 rfl 0 rfl ?_
    refine n_get F ck_8 lf_RX8_7 (by decide) fg_37_0 (by decide) dX8_chaseBy_91 ?_
    refine n_bipush F (8 : Int32) dX8_chaseBy_94 (by decide) ?_
    refine n_iald F ar_38 (by decide) (ib_c (n := 45) (by decide)) (j := 8) (by decide) dX8_chaseBy_96 ?_
    exact n_sub [0] rfl (Mo_chaseBy_B97_ok F _ _)
  rw [if_pos e6]
  refine n_bipush F (7 : Int32) dX8_chaseBy_85 (by decide) ?_
  refine n_goto F 97 dX8_chaseBy_87 (by decide) ?_
  exact n_sub [0] rfl (Mo_chaseBy_B97_ok F _ _)
def Mo_chaseBy (w : Wd) (a1 : Int32) : Option (Int32 × Wd) := (Mo_chaseBy_L3 Mo_chaseBy_B74 FU w a1 (12 : Int32))
set_option maxRecDepth 100000 in
set_option maxHeartbeats 4000000 in
theorem ct_Mo_chaseBy {l : Launch} {g : GG} {σ : Sd} (hg : OKg g σ) (hb : σ.2.1 = false) (hx : ∀ c ∈ ([37, 38, 42, 45] : List Nat), c ∈ σ.1) (w : Wd) (a1 : Int32) {q : Int32 × Wd} (hq : Mo_chaseBy w a1 = some q) : CT l g σ yX8_chaseBy cX8_chaseBy 5 (some .int) 4 103 [.ref (gA g 37), .int a1] w (some (.int q.1)) q.2 := by
  refine ct_of (rt := rtI) (res := Mo_chaseBy w a1) (q := q) (own := RX8) (b := false) hg hb hx (by decide) rfl (Nat.le_of_ble_eq_true rfl) hq (fun K e1 e2 e3 F => ?_)
  subst e1 e2 e3
  rw [Mo_chaseBy]
  show N K _ _ w 0 [(0, .ref (gA (cg K) 37)), (1, .int a1)] []
  refine n_bipush F (12 : Int32) dX8_chaseBy_0 (by decide) ?_
  refine n_istore_n F (lv' := [(2, .int (12 : Int32)), (0, .ref (gA (cg K) 37)), (1, .int a1)]) dX8_chaseBy_2 rfl (by decide) rfl ?_
  exact n_sub [1, 2, 0] rfl (Mo_chaseBy_L3_ok F (Mo_chaseBy_B74_ok F) FU _ _ _)
theorem dX8_isNoChase_0 : decode cX8_isNoChase 0 = .ok (.aload_n 0, 1) := by decide +kernel
theorem dX8_isNoChase_1 : decode cX8_isNoChase 1 = .ok (.getfield 7, 3) := by decide +kernel
theorem dX8_isNoChase_4 : decode cX8_isNoChase 4 = .ok (.iconst 2, 1) := by decide +kernel
theorem dX8_isNoChase_5 : decode cX8_isNoChase 5 = .ok (.iaload, 1) := by decide +kernel
theorem dX8_isNoChase_6 : decode cX8_isNoChase 6 = .ok (.iconst 1, 1) := by decide +kernel
theorem dX8_isNoChase_7 : decode cX8_isNoChase 7 = .ok (.if_icmp .eq 25, 3) := by decide +kernel
theorem dX8_isNoChase_10 : decode cX8_isNoChase 10 = .ok (.aload_n 0, 1) := by decide +kernel
theorem dX8_isNoChase_11 : decode cX8_isNoChase 11 = .ok (.getfield 7, 3) := by decide +kernel
theorem dX8_isNoChase_14 : decode cX8_isNoChase 14 = .ok (.bipush 8, 2) := by decide +kernel
theorem dX8_isNoChase_16 : decode cX8_isNoChase 16 = .ok (.iaload, 1) := by decide +kernel
theorem dX8_isNoChase_17 : decode cX8_isNoChase 17 = .ok (.iconst (-1), 1) := by decide +kernel
theorem dX8_isNoChase_18 : decode cX8_isNoChase 18 = .ok (.if_icmp .ne 18, 3) := by decide +kernel
theorem dX8_isNoChase_21 : decode cX8_isNoChase 21 = .ok (.aload_n 0, 1) := by decide +kernel
theorem dX8_isNoChase_22 : decode cX8_isNoChase 22 = .ok (.getfield 7, 3) := by decide +kernel
theorem dX8_isNoChase_25 : decode cX8_isNoChase 25 = .ok (.bipush 9, 2) := by decide +kernel
theorem dX8_isNoChase_27 : decode cX8_isNoChase 27 = .ok (.iaload, 1) := by decide +kernel
theorem dX8_isNoChase_28 : decode cX8_isNoChase 28 = .ok (.iconst (-1), 1) := by decide +kernel
theorem dX8_isNoChase_29 : decode cX8_isNoChase 29 = .ok (.if_icmp .ne 7, 3) := by decide +kernel
theorem dX8_isNoChase_32 : decode cX8_isNoChase 32 = .ok (.iconst 1, 1) := by decide +kernel
theorem dX8_isNoChase_33 : decode cX8_isNoChase 33 = .ok (.goto 4, 3) := by decide +kernel
theorem dX8_isNoChase_36 : decode cX8_isNoChase 36 = .ok (.iconst 0, 1) := by decide +kernel
theorem dX8_isNoChase_37 : decode cX8_isNoChase 37 = .ok (.ireturn, 1) := by decide +kernel
def Mo_isNoChase (w : Wd) : Int32 := (if (w.1 38 2) = (1 : Int32) then (1 : Int32) else (if (w.1 38 8) = (-1 : Int32) then (if (w.1 38 9) = (-1 : Int32) then (1 : Int32) else (0 : Int32)) else (0 : Int32)))
set_option maxRecDepth 100000 in
set_option maxHeartbeats 4000000 in
theorem ct_Mo_isNoChase {l : Launch} {g : GG} {σ : Sd} (hg : OKg g σ) (hb : σ.2.1 = false) (hx : ∀ c ∈ ([37, 38] : List Nat), c ∈ σ.1) (w : Wd) : CT l g σ yX8_isNoChase cX8_isNoChase 1 (some .boolean) 0 0 [.ref (gA g 37)] w (some (.int (Mo_isNoChase w))) w := by
  refine ct_of (rt := (rtP w)) (res := some (Mo_isNoChase w)) (q := (Mo_isNoChase w)) (own := RX8) (b := false) hg hb hx (by decide) rfl (Nat.le_of_ble_eq_true rfl) rfl (fun K e1 e2 e3 F => ?_)
  subst e1 e2 e3
  rw [Mo_isNoChase]
  show N K _ _ w 0 [(0, .ref (gA (cg K) 37))] []
  refine n_aload_n F dX8_isNoChase_0 rfl 0 rfl ?_
  refine n_get F ck_8 lf_RX8_7 (by decide) fg_37_0 (by decide) dX8_isNoChase_1 ?_
  refine n_iconst F (2 : Int32) dX8_isNoChase_4 (by decide) ?_
  refine n_iald F ar_38 (by decide) (ib_c (n := 45) (by decide)) (j := 2) (by decide) dX8_isNoChase_5 ?_
  refine n_iconst F (1 : Int32) dX8_isNoChase_6 (by decide) ?_
  refine n_icmp_eq F 32 dX8_isNoChase_7 (by decide) (fun e1 => ?_) (fun e1 => ?_)
  · rw [if_pos e1]
    refine n_iconst F (1 : Int32) dX8_isNoChase_32 (by decide) ?_
    refine n_goto F 37 dX8_isNoChase_33 (by decide) ?_
    exact n_zret F .boolean rfl rfl rfl dX8_isNoChase_37
  rw [if_neg e1]
  refine n_aload_n F dX8_isNoChase_10 rfl 0 rfl ?_
  refine n_get F ck_8 lf_RX8_7 (by decide) fg_37_0 (by decide) dX8_isNoChase_11 ?_
  refine n_bipush F (8 : Int32) dX8_isNoChase_14 (by decide) ?_
  refine n_iald F ar_38 (by decide) (ib_c (n := 45) (by decide)) (j := 8) (by decide) dX8_isNoChase_16 ?_
  refine n_iconst F (-1 : Int32) dX8_isNoChase_17 (by decide) ?_
  refine n_icmp_ne F 36 dX8_isNoChase_18 (by decide) (fun e2 => ?_) (fun e2 => ?_)
  · rw [if_neg e2]
    refine n_iconst F (0 : Int32) dX8_isNoChase_36 (by decide) ?_
    exact n_zret F .boolean rfl rfl rfl dX8_isNoChase_37
  rw [if_pos e2]
  refine n_aload_n F dX8_isNoChase_21 rfl 0 rfl ?_
  refine n_get F ck_8 lf_RX8_7 (by decide) fg_37_0 (by decide) dX8_isNoChase_22 ?_
  refine n_bipush F (9 : Int32) dX8_isNoChase_25 (by decide) ?_
  refine n_iald F ar_38 (by decide) (ib_c (n := 45) (by decide)) (j := 9) (by decide) dX8_isNoChase_27 ?_
  refine n_iconst F (-1 : Int32) dX8_isNoChase_28 (by decide) ?_
  refine n_icmp_ne F 36 dX8_isNoChase_29 (by decide) (fun e3 => ?_) (fun e3 => ?_)
  · rw [if_neg e3]
    refine n_iconst F (0 : Int32) dX8_isNoChase_36 (by decide) ?_
    exact n_zret F .boolean rfl rfl rfl dX8_isNoChase_37
  rw [if_pos e3]
  refine n_iconst F (1 : Int32) dX8_isNoChase_32 (by decide) ?_
  refine n_goto F 37 dX8_isNoChase_33 (by decide) ?_
  exact n_zret F .boolean rfl rfl rfl dX8_isNoChase_37
theorem bz_Mo_isNoChase (w : Wd) : (Mo_isNoChase w) &&& (1 : Int32) = (Mo_isNoChase w) := by
  unfold Mo_isNoChase
  first | exact bz_auto | (repeat' split) <;> first | rfl | assumption
