/-! CHASE: the reference's least days -/
/-- what a place of the reference's table means -/
def Gd (T : Nat) (tr : Tr) (dy c : Int32) (a h z o val : Nat) : Prop := val ≤ 99 ∧ ∀ v, v < 99 → (val ≤ v ↔ Wn T tr dy c (min v (12 - a)) a h z o)
def MC (T : Nat) (tr : Tr) (dy c : Int32) (m : Wd) (a h z o : Nat) : Prop := ∃ val, m.1 45 (512 * a + 64 * h + 8 * z + o) = nI val ∧ Gd T tr dy c a h z o val
section Purs3
variable {S T : Nat} {tr : Tr}
theorem mo_place (m : Wd) (a h z o : Nat) : Mo_placeOf m (nI a) (nI h) (nI z) (nI o) = nI (512 * a + 64 * h + 8 * z + o) := by
  unfold Mo_placeOf
  rw [show (8 : Int32) = nI 8 from rfl, pk_mul, nI_add, pk_mul, nI_add, pk_mul, nI_add]
  congr 1; omega
theorem mo_reach8 {m : Wd} (h : TM m T tr) (hT : TOK S T tr) {z : Nat} (hz : z < 8) (dy c : Int32) : Mo_reach m (nI z) dy c = some (nI (rea T tr z dy c)) := by
  unfold Mo_reach rea
  rw [if_neg (nI_m1 (by omega))]
  by_cases e : z = 7
  · rw [if_pos e, e, if_pos (show nI 7 = 7 from rfl)]; rfl
  · rw [if_neg e, if_neg (show ¬ nI z = 7 from fun q => e ((nI_eq (a := z) (b := 7) (by omega) (by decide)).mp q)), mo_nights h hT (by omega), Option.bind_some, shl1_nI (by omega), fa_or]
theorem rea_bit (hT : TOK S T tr) {z b : Nat} (hz : z < 8) (dy c : Int32) : (rea T tr z dy c).testBit b = true ↔ (b = z ∨ Ev T tr dy c z b) := by
  have h7 := hT.2.1
  unfold rea
  by_cases e : z = 7
  · rw [if_pos e, show 128 = 2 ^ 7 from rfl, Nat.testBit_two_pow, decide_eq_true_eq]
    constructor
    · intro q; exact Or.inl (by omega)
    · rintro (q | q)
      · omega
      · obtain ⟨t, h1, -, -, h4, -⟩ := (ngt_bit b).mp q
        have := (hT.2.2.2 t h1).1
        omega
  · rw [if_neg e, Nat.testBit_or, Bool.or_eq_true, Nat.testBit_two_pow, decide_eq_true_eq]
    unfold Ev
    exact ⟨fun q => q.imp Eq.symm id, fun q => q.imp Eq.symm id⟩
theorem worst_L {m : Wd} (hS : m.1 37 6 = nI S) (h7 : S ≤ 7) {a z o nx : Nat} (ha : a < 12) (hz : z < 8) (ho : o < 8) (hnx : nx < 2 ^ 31) {G : Nat → Nat} (hG : ∀ h, h < S → m.1 45 (512 * (a + 1) + 64 * h + 8 * z + o) = nI (G h) ∧ G h ≤ 99) (k : Int32 → Option Int32) : ∀ (d j n acc : Nat), j + d = S → d < n → acc ≤ 99 → ∃ res, Mo_worst_L6 m k n (nI a) (nI nx) (nI z) (nI o) (nI acc) (nI j) = k (nI res) ∧ res ≤ 99 ∧ ∀ v, res ≤ v ↔ acc ≤ v ∧ ∀ h', j ≤ h' → h' < S → nx.testBit h' = true → G h' ≤ v := by
  intro d
  induction d with
  | zero =>
    intro j n acc hj hn hacc
    obtain ⟨n, rfl⟩ : ∃ q, n = q + 1 := ⟨n - 1, by omega⟩
    rw [Mo_worst_L6, hS, if_pos (nI_le (by omega) (by omega))]
    exact ⟨acc, rfl, hacc, fun v => ⟨fun q => ⟨q, fun h' a b => by omega⟩, fun q => q.1⟩⟩
  | succ d ih =>
    intro j n acc hj hn hacc
    obtain ⟨n, rfl⟩ : ∃ q, n = q + 1 := ⟨n - 1, by omega⟩
    have hjS : j < S := by omega
    obtain ⟨g1, g2⟩ := hG j hjS
    rw [Mo_worst_L6, hS, if_neg (nI_ge hjS (by omega)), mo_has hnx (by omega), nI_1, nI_1, mo_place, if_pos (ib_nI (by omega) (by decide)), nI_clamp (by omega), g1]
    cases hb : nx.testBit j with
    | false =>
      rw [bi_f, if_pos rfl]
      obtain ⟨res, f1, f2, f3⟩ := ih (j + 1) n acc (by omega) (by omega) hacc
      refine ⟨res, f1, f2, fun v => ?_⟩
      rw [f3 v]
      constructor
      · rintro ⟨p, q⟩
        refine ⟨p, fun h' e1 e2 e3 => ?_⟩
        by_cases e : h' = j
        · rw [e, hb] at e3; exact absurd e3 (by decide)
        · exact q h' (by omega) e2 e3
      · rintro ⟨p, q⟩
        exact ⟨p, fun h' e1 e2 e3 => q h' (by omega) e2 e3⟩
    | true =>
      rw [bi_t, if_neg one_ne]
      have e : (if nI (G j) ≤ nI acc then nI acc else nI (G j)) = nI (max acc (G j)) := by
        by_cases q : G j ≤ acc
        · rw [if_pos (nI_le q (by omega)), Nat.max_eq_left q]
        · rw [if_neg (nI_ge (by omega) (by omega)), Nat.max_eq_right (by omega)]
      rw [e]
      obtain ⟨res, f1, f2, f3⟩ := ih (j + 1) n (max acc (G j)) (by omega) (by omega) (by omega)
      refine ⟨res, f1, f2, fun v => ?_⟩
      rw [f3 v, Nat.max_le]
      constructor
      · rintro ⟨⟨p, p'⟩, q⟩
        refine ⟨p, fun h' e1 e2 e3 => ?_⟩
        by_cases e : h' = j
        · rw [e]; exact p'
        · exact q h' (by omega) e2 e3
      · rintro ⟨p, q⟩
        exact ⟨⟨p, q j (by omega) hjS hb⟩, fun h' e1 e2 e3 => q h' (by omega) e2 e3⟩
theorem best_L {m : Wd} (hS : m.1 37 6 = nI S) (h7 : S ≤ 7) {a nx c0 c1 : Nat} (ha : a < 12) (hnx : nx < 2 ^ 31) (h0 : c0 < 2 ^ 31) (h1 : c1 < 2 ^ 31) {G : Nat → Nat → Nat → Nat} (hG : ∀ h z o, h < S → z < 8 → o < 8 → m.1 45 (512 * (a + 1) + 64 * h + 8 * z + o) = nI (G h z o) ∧ G h z o ≤ 99) (k : Int32 → Option Int32) : ∀ (d j n acc : Nat), j + d = 64 → d < n → acc ≤ 99 → ∃ res, Mo_bestFrom_L88 m k n (nI a) (nI nx) (nI c0) (nI c1) (nI acc) (nI j) = k (nI res) ∧ res ≤ 99 ∧ ∀ v, res ≤ v ↔ acc ≤ v ∨ ∃ u, j ≤ u ∧ u < 64 ∧ c0.testBit (u / 8) = true ∧ c1.testBit (u % 8) = true ∧ 1 ≤ v ∧ ∀ h', h' < S → nx.testBit h' = true → G h' (u / 8) (u % 8) ≤ v - 1 := by
  intro d
  induction d with
  | zero =>
    intro j n acc hj hn hacc
    obtain ⟨n, rfl⟩ : ∃ q, n = q + 1 := ⟨n - 1, by omega⟩
    rw [Mo_bestFrom_L88, if_pos (show (64 : Int32) ≤ nI j from nI_le (a := 64) (by omega) (by omega))]
    exact ⟨acc, rfl, hacc, fun v => ⟨Or.inl, fun q => q.elim id fun ⟨u, a, b, _⟩ => by omega⟩⟩
  | succ d ih =>
    intro j n acc hj hn hacc
    obtain ⟨n, rfl⟩ : ∃ q, n = q + 1 := ⟨n - 1, by omega⟩
    have q1 : nI j / (8 : Int32) = nI (j / 8) := pk_div (d := 8) (by omega) (by decide) (by decide)
    have q2 : nI j - nI (j / 8) * (8 : Int32) = nI (j % 8) := by rw [← q1]; exact pk_rem (d := 8) (by omega) (by decide) (by decide)
    rw [Mo_bestFrom_L88, if_neg (show ¬ (64 : Int32) ≤ nI j from nI_ge (b := 64) (by omega) (by decide)), q1, q2, mo_has h0 (by omega), mo_has h1 (by omega), nI_1]
    have skip : ¬ (c0.testBit (j / 8) = true ∧ c1.testBit (j % 8) = true) → ∃ res, Mo_bestFrom_L88 m k n (nI a) (nI nx) (nI c0) (nI c1) (nI acc) (nI (j + 1)) = k (nI res) ∧ res ≤ 99 ∧ ∀ v, res ≤ v ↔ acc ≤ v ∨ ∃ u, j ≤ u ∧ u < 64 ∧ c0.testBit (u / 8) = true ∧ c1.testBit (u % 8) = true ∧ 1 ≤ v ∧ ∀ h', h' < S → nx.testBit h' = true → G h' (u / 8) (u % 8) ≤ v - 1 := by
      intro hno
      obtain ⟨res, f1, f2, f3⟩ := ih (j + 1) n acc (by omega) (by omega) hacc
      refine ⟨res, f1, f2, fun v => ?_⟩
      rw [f3 v]
      constructor
      · rintro (p | ⟨u, e1, e2⟩)
        · exact Or.inl p
        · exact Or.inr ⟨u, by omega, e2⟩
      · rintro (p | ⟨u, e1, e2, e3, e4, e5⟩)
        · exact Or.inl p
        · by_cases e : u = j
          · rw [e] at e3 e4; exact absurd ⟨e3, e4⟩ hno
          · exact Or.inr ⟨u, by omega, e2, e3, e4, e5⟩
    cases hb0 : c0.testBit (j / 8) with
    | false =>
      rw [bi_f, if_pos rfl]
      exact skip fun q => by rw [hb0] at q; exact absurd q.1 (by decide)
    | true =>
      rw [bi_t, if_neg one_ne]
      cases hb1 : c1.testBit (j % 8) with
      | false =>
        rw [bi_f, if_pos rfl]
        exact skip fun q => by rw [hb1] at q; exact absurd q.2 (by decide)
      | true =>
        rw [bi_t, if_neg one_ne]
        unfold Mo_worst
        obtain ⟨wst, w1, w2, w3⟩ := worst_L hS h7 ha (z := j / 8) (o := j % 8) (by omega) (by omega) hnx (G := fun h => G h (j / 8) (j % 8)) (fun h hh => hG h _ _ hh (by omega) (by omega)) (Mo_worst_B64 m) S 0 FU 0 (by omega) (by unfold FU; omega) (by omega)
        rw [show Mo_worst_L6 m (Mo_worst_B64 m) FU (nI a) (nI nx) (nI (j / 8)) (nI (j % 8)) 0 0 = some (nI wst) from w1, Option.bind_some, show (1 : Int32) + nI wst = nI (1 + wst) from nI_add 1 wst]
        have e : (if nI acc ≤ nI (1 + wst) then nI acc else nI (1 + wst)) = nI (min acc (1 + wst)) := by
          by_cases q : acc ≤ 1 + wst
          · rw [if_pos (nI_le q (by omega)), Nat.min_eq_left q]
          · rw [if_neg (nI_ge (by omega) (by omega)), Nat.min_eq_right (by omega)]
        rw [e]
        obtain ⟨res, f1, f2, f3⟩ := ih (j + 1) n (min acc (1 + wst)) (by omega) (by omega) (by omega)
        refine ⟨res, f1, f2, fun v => ?_⟩
        rw [f3 v, mn_le]
        constructor
        · rintro ((p | p) | ⟨u, e1, e2⟩)
          · exact Or.inl p
          · exact Or.inr ⟨j, by omega, by omega, hb0, hb1, by omega, fun h' hh hn' => ((w3 (v - 1)).mp (by omega)).2 h' (by omega) hh hn'⟩
          · exact Or.inr ⟨u, by omega, e2⟩
        · rintro (p | ⟨u, e1, e2, e3, e4, e5, e6⟩)
          · exact Or.inl (Or.inl p)
          · by_cases e : u = j
            · rw [e] at e6
              have := (w3 (v - 1)).mpr ⟨by omega, fun h' _ hh hn' => e6 h' hh hn'⟩
              exact Or.inl (Or.inr (by omega))
            · exact Or.inr ⟨u, by omega, e2, e3, e4, e5, e6⟩
theorem mo_best {m : Wd} (hM : TM m T tr) (hT : TOK S T tr) (hS : m.1 37 6 = nI S) {dy : Int32} (hd : m.1 38 0 = dy) (c : Int32) {a h z o : Nat} (ha : a ≤ 12) (hh : h < S) (hz : z < 8) (ho : o < 8) (hC : a < 12 → ∀ h z o, h < S → z < 8 → o < 8 → MC T tr dy c m (a + 1) h z o) : ∃ val, Mo_bestFrom m (nI a) (nI h) (nI z) (nI o) c = some (nI val) ∧ Gd T tr dy c a h z o val := by
  have h7 := hT.2.1
  unfold Mo_bestFrom
  by_cases g1 : h = z
  · rw [if_pos (by rw [g1])]
    exact ⟨0, rfl, by omega, fun v _ => ⟨fun _ => Wn_c (Or.inl g1), fun _ => Nat.zero_le _⟩⟩
  rw [if_neg (fun q => g1 ((nI_eq (by omega) (by omega)).mp q))]
  by_cases g2 : h = o
  · rw [if_pos (by rw [g2])]
    exact ⟨0, rfl, by omega, fun v _ => ⟨fun _ => Wn_c (Or.inr g2), fun _ => Nat.zero_le _⟩⟩
  rw [if_neg (fun q => g2 ((nI_eq (by omega) (by omega)).mp q))]
  have g : ¬ (h = z ∨ h = o) := fun q => q.elim g1 g2
  by_cases g3 : a = 12
  · rw [if_pos (show nI a = 12 by rw [g3]; rfl)]
    refine ⟨99, rfl, Nat.le_refl _, fun v hv => ?_⟩
    rw [g3, Nat.sub_self, Nat.min_zero, Wn]
    exact ⟨fun q => by omega, fun q => absurd q g⟩
  rw [if_neg (show ¬ nI a = 12 from fun q => g3 ((nI_eq (a := a) (b := 12) (by omega) (by decide)).mp q))]
  have ha' : a < 12 := by omega
  have hC' := hC ha'
  rw [hd, mo_nights hM hT (by omega), Option.bind_some]
  have hng := ngt_lt hT h (dy + nI a) c
  have hp7 : 2 ^ S ≤ 2 ^ 7 := Nat.pow_le_pow_right (by decide) h7
  have hz2 : nI (ngt T tr h (dy + nI a) c) = 0 ↔ ngt T tr h (dy + nI a) c = 0 := nI_eq (b := 0) (by omega) (by decide)
  have hsh : (if nI (ngt T tr h (dy + nI a) c) = 0 then (1 : Int32) <<< (nI h &&& 31) else nI (ngt T tr h (dy + nI a) c)) = nI (if ngt T tr h (dy + nI a) c = 0 then 2 ^ h else ngt T tr h (dy + nI a) c) := by
    by_cases e : ngt T tr h (dy + nI a) c = 0
    · rw [if_pos (hz2.mpr e), if_pos e, shl1_nI (by omega)]
    · rw [if_neg (fun q => e (hz2.mp q)), if_neg e]
  rw [hsh]
  have hpw : 2 ^ h < 2 ^ 7 := Nat.pow_lt_pow_right (by decide) (by omega)
  have hnxl : (if ngt T tr h (dy + nI a) c = 0 then 2 ^ h else ngt T tr h (dy + nI a) c) < 2 ^ 31 := by split <;> omega
  have hnxb : ∀ h', (if ngt T tr h (dy + nI a) c = 0 then 2 ^ h else ngt T tr h (dy + nI a) c).testBit h' = true ↔ (Ev T tr (dy + nI a) c h h' ∨ h' = h ∧ ∀ b, ¬ Ev T tr (dy + nI a) c h b) := by
    intro h'
    by_cases e : ngt T tr h (dy + nI a) c = 0
    · rw [if_pos e, Nat.testBit_two_pow, decide_eq_true_eq]
      have no : ∀ b, ¬ Ev T tr (dy + nI a) c h b := fun b q => by unfold Ev at q; rw [e, Nat.zero_testBit] at q; exact absurd q (by decide)
      exact ⟨fun q => Or.inr ⟨q.symm, no⟩, fun q => q.elim (fun q => absurd q (no _)) fun q => q.1.symm⟩
    · rw [if_neg e]
      refine ⟨fun q => Or.inl q, fun q => q.elim id fun q => ?_⟩
      exfalso
      apply e
      apply bits_ext
      intro i
      rw [Nat.zero_testBit]
      exact ⟨fun w => absurd w (q.2 i), fun w => absurd w (by decide)⟩
  revert hnxl hnxb
  generalize (if ngt T tr h (dy + nI a) c = 0 then 2 ^ h else ngt T tr h (dy + nI a) c) = nx
  intro hnxl hnxb
  unfold Mo_bestFrom_B56
  rw [mo_reach8 hM hT hz, Option.bind_some, mo_reach8 hM hT ho, Option.bind_some]
  have l0 := rea_lt hT hz (dy + nI a) c
  have l1 := rea_lt hT ho (dy + nI a) c
  obtain ⟨res, f1, f2, f3⟩ := best_L hS h7 ha' hnxl (c0 := rea T tr z (dy + nI a) c) (c1 := rea T tr o (dy + nI a) c) (by omega) (by omega) (G := fun h z o => (m.1 45 (512 * (a + 1) + 64 * h + 8 * z + o)).toNatClampNeg) (fun h z o x1 x2 x3 => by
    obtain ⟨val, v1, v2, -⟩ := hC' h z o x1 x2 x3
    rw [v1, nI_clamp (by omega)]
    exact ⟨rfl, v2⟩) (Mo_bestFrom_B164 m) 64 0 FU 99 rfl (by decide) (Nat.le_refl _)
  rw [show Mo_bestFrom_L88 m (Mo_bestFrom_B164 m) FU (nI a) (nI nx) _ _ 99 0 = _ from f1]
  refine ⟨res, rfl, f2, fun v hv => ?_⟩
  rw [f3 v]
  cases v with
  | zero =>
    rw [Nat.zero_min, Wn]
    exact ⟨fun q => q.elim (fun q => by omega) fun ⟨u, _, _, _, _, q, _⟩ => by omega, fun q => absurd q g⟩
  | succ u =>
    rw [show min (u + 1) (12 - a) = min u (12 - (a + 1)) + 1 by omega, Wn]
    have cell : ∀ h' z' o', h' < S → z' < 8 → o' < 8 → ((m.1 45 (512 * (a + 1) + 64 * h' + 8 * z' + o')).toNatClampNeg ≤ u ↔ Wn T tr dy c (min u (12 - (a + 1))) (a + 1) h' z' o') := by
      intro h' z' o' x1 x2 x3
      obtain ⟨val, v1, v2, v3⟩ := hC' h' z' o' x1 x2 x3
      rw [v1, nI_clamp (by omega)]
      exact v3 u (by omega)
    have lt8 : ∀ y y', y < 8 → (y' = y ∨ Ev T tr (dy + nI a) c y y') → y' < 8 := by
      intro y y' hy w
      rcases w with w | w
      · omega
      · have := Ev_lt hT w; omega
    constructor
    · rintro (q | ⟨p, e1, e2, e3, e4, e5, e6⟩)
      · omega
      · refine Or.inr ⟨p % 8, p / 8, (rea_bit hT ho _ _).mp e4, (rea_bit hT hz _ _).mp e3, fun h' w => ?_⟩
        have hl : h' < S := by
          rcases w with w | ⟨w, -⟩
          · exact Ev_lt hT w
          · omega
        exact (cell h' _ _ hl (by omega) (by omega)).mp (e6 h' hl ((hnxb h').mpr w))
    · rintro (q | ⟨o', z', e1, e2, e3⟩)
      · exact absurd q g
      · have k1 := lt8 o o' ho e1
        have k2 := lt8 z z' hz e2
        refine Or.inr ⟨z' * 8 + o', by omega, by omega, ?_, ?_, by omega, fun h' hl hb => ?_⟩
        · rw [show (z' * 8 + o') / 8 = z' by omega]; exact (rea_bit hT hz _ _).mpr e2
        · rw [show (z' * 8 + o') % 8 = o' by omega]; exact (rea_bit hT ho _ _).mpr e1
        · rw [show (z' * 8 + o') / 8 = z' by omega, show (z' * 8 + o') % 8 = o' by omega]
          exact (cell h' z' o' hl k2 k1).mpr (e3 h' ((hnxb h').mp hb))
end Purs3
