/-! LAND -/
section Land
/-- the scene when a land begins -/
def zB (s0 : Nat) (tk : Nat → Nat) (sk : Nat → Int32) : Sc := (0, s0, false, met sk s0 false, -1, tk, sk, fun _ => -1, 2 ^ s0, 0, 2 ^ s0)
theorem zB_ok {S T s0 : Nat} {tr : Tr} {tk : Nat → Nat} {sk : Nat → Int32} (h0 : s0 < S) (hk : ∀ k, k < 3 → tk k ≤ 9) (hs : ∀ i, i < 2 → sk i = -1 ∨ ∃ s, s < S ∧ sk i = nI s) : ScOK S T tr (zB s0 tk sk) := by
  have h2 : 2 ^ s0 < 2 ^ S := Nat.pow_lt_pow_right (by decide) h0
  refine ⟨h0, hk, Or.inl rfl, hs, fun _ _ => Or.inl rfl, h2, Nat.two_pow_pos S, h2, fun h => ⟨rfl, ?_⟩⟩
  have h : met sk s0 false = true := h
  unfold met at h
  by_cases g : sk 0 = nI s0
  · exact Or.inl g
  · by_cases g1 : sk 1 = nI s0
    · exact Or.inr g1
    · rw [decide_eq_false g, decide_eq_false g1] at h
      exact absurd h (by decide)
theorem sc_begin {x : Wd} {s0 : Nat} {tk : Nat → Nat} {sk : Nat → Int32} (hs : s0 < 31) (h2 : x.1 3 2 = nI s0) (h5 : ∀ k, k < 3 → x.1 5 k = nI (tk k)) (h6 : ∀ i, i < 2 → x.1 6 i = sk i) : ∃ x', Sc_begin x = some x' ∧ ScX x' 13 (zB s0 tk sk) ∧ ∀ q, q < 13 ∨ 16 < q → x'.1 q = x.1 q := by
  unfold Sc_begin
  rw [sc_forget, Option.bind_some, show (sI x 13 1 0).1 3 2 = nI s0 from h2]
  have k14 : ∀ k, k < 3 → (cI (cI (sI (sI (sI x 13 1 0) 13 2 (nI s0)) 13 3 0) 5 0 14 0 3) 6 0 15 0 2).1 14 k = nI (tk k) := by
    intro k hk
    rw [cI_1, if_neg (by omega), cI_1, if_pos ⟨rfl, by omega, by omega⟩, Nat.sub_zero, Nat.zero_add]
    exact h5 k hk
  have k15 : ∀ i, i < 2 → (cI (cI (sI (sI (sI x 13 1 0) 13 2 (nI s0)) 13 3 0) 5 0 14 0 3) 6 0 15 0 2).1 15 i = sk i := by
    intro i hi
    rw [cI_1, if_pos ⟨rfl, by omega, by omega⟩, Nat.sub_zero, Nat.zero_add]
    exact h6 i hi
  have k13 : ∀ k, (cI (cI (sI (sI (sI x 13 1 0) 13 2 (nI s0)) 13 3 0) 5 0 14 0 3) 6 0 15 0 2).1 13 k = (sI (sI (sI x 13 1 0) 13 2 (nI s0)) 13 3 0).1 13 k := fun k => by rw [cI_1, if_neg (by omega), cI_1, if_neg (by omega)]
  have kq : ∀ q, q < 13 ∨ 16 < q → (cI (cI (sI (sI (sI x 13 1 0) 13 2 (nI s0)) 13 3 0) 5 0 14 0 3) 6 0 15 0 2).1 q = x.1 q := by
    intro q hq
    funext k
    rw [cI_1, if_neg (by omega), cI_1, if_neg (by omega), sI_ne (by omega), sI_ne (by omega), sI_ne (by omega)]
  generalize cI (cI (sI (sI (sI x 13 1 0) 13 2 (nI s0)) 13 3 0) 5 0 14 0 3) 6 0 15 0 2 = y at k14 k15 k13 kq ⊢
  have d1 : y.1 13 1 = 0 := by rw [k13]; rfl
  have d2 : y.1 13 2 = nI s0 := by rw [k13]; rfl
  have d3 : y.1 13 3 = 0 := by rw [k13]; rfl
  have w2 : (sI (sI (sI y 13 5 (-1)) 16 0 (-1)) 16 1 (-1)).1 13 2 = nI s0 := d2
  rw [sc_with (sk := sk) (he := s0) (aw := false) w2 (show (sI (sI (sI y 13 5 (-1)) 16 0 (-1)) 16 1 (-1)).1 13 3 = bi false from d3) (fun i hi => by rw [sI_ne (by decide), sI_ne (by decide), sI_ne (by decide)]; exact k15 i hi), Option.bind_some, if_pos (bi_and1 _), show (sI (sI (sI (sI y 13 5 (-1)) 16 0 (-1)) 16 1 (-1)) 13 4 (bi (met sk s0 false))).1 13 2 = nI s0 from d2, shl1_nI hs]
  refine ⟨_, rfl, ⟨d1, d2, d3, rfl, rfl, fun k hk => ?_, fun i hi => ?_, fun i hi => ?_, rfl, rfl, rfl⟩, fun q hq => ?_⟩
  · rw [sI_ne (by decide), sI_ne (by decide), sI_ne (by decide), sI_ne (by decide), sI_ne (by decide), sI_ne (by decide), sI_ne (by decide)]; exact k14 k hk
  · rw [sI_ne (by decide), sI_ne (by decide), sI_ne (by decide), sI_ne (by decide), sI_ne (by decide), sI_ne (by decide), sI_ne (by decide)]; exact k15 i hi
  · match i, hi with
    | 0, _ => rfl
    | 1, _ => rfl
  · rw [sI_ne (by omega), sI_ne (by omega), sI_ne (by omega), sI_ne (by omega), sI_ne (by omega), sI_ne (by omega), sI_ne (by omega)]; exact kq q hq
theorem mo_begin {m : Wd} {s0 : Nat} {tk : Nat → Nat} {sk : Nat → Int32} (hs : s0 < 31) (h9 : m.1 37 9 = nI s0) (h43 : ∀ k, k < 3 → m.1 43 k = nI (tk k)) (h44 : ∀ i, i < 2 → m.1 44 i = sk i) : ∃ m', Mo_begin m = some m' ∧ ScM m' 0 (zB s0 tk sk) ∧ (∀ q, q ≠ 38 → m'.1 q = m.1 q) ∧ ∀ j, 15 ≤ j → m'.1 38 j = m.1 38 j := by
  have h0 := h44 0 (by decide)
  have h1 := h44 1 (by decide)
  unfold Mo_begin
  show ∃ m', Mo_begin_L63 Mo_begin_B88 FU (if m.1 44 0 = m.1 37 9 then sI (sI (sI (sI m 38 0 0) 38 1 (m.1 37 9)) 38 2 0) 38 3 1 else (if m.1 44 1 = m.1 37 9 then sI (sI (sI (sI m 38 0 0) 38 1 (m.1 37 9)) 38 2 0) 38 3 1 else sI (sI (sI (sI m 38 0 0) 38 1 (m.1 37 9)) 38 2 0) 38 3 0)) 0 = some m' ∧ _
  rw [h0, h1, h9]
  have key : (if sk 0 = nI s0 then sI (sI (sI (sI m 38 0 0) 38 1 (nI s0)) 38 2 0) 38 3 1 else (if sk 1 = nI s0 then sI (sI (sI (sI m 38 0 0) 38 1 (nI s0)) 38 2 0) 38 3 1 else sI (sI (sI (sI m 38 0 0) 38 1 (nI s0)) 38 2 0) 38 3 0)) = sI (sI (sI (sI m 38 0 0) 38 1 (nI s0)) 38 2 0) 38 3 (bi (met sk s0 false)) := by
    unfold met
    by_cases g : sk 0 = nI s0
    · rw [if_pos g, decide_eq_true g]; rfl
    · by_cases g1 : sk 1 = nI s0
      · rw [if_neg g, if_pos g1, decide_eq_false g, decide_eq_true g1]; rfl
      · rw [if_neg g, if_neg g1, decide_eq_false g, decide_eq_false g1]; rfl
  rw [key]
  obtain ⟨ca, hca⟩ : ∃ ca, ca = met sk s0 false := ⟨_, rfl⟩
  rw [← hca]
  have w43 : ∀ k, (sI (sI (sI (sI m 38 0 0) 38 1 (nI s0)) 38 2 0) 38 3 (bi ca)).1 43 k = m.1 43 k := fun k => rfl
  have w44 : ∀ k, (sI (sI (sI (sI m 38 0 0) 38 1 (nI s0)) 38 2 0) 38 3 (bi ca)).1 44 k = m.1 44 k := fun k => rfl
  have w0 : (sI (sI (sI (sI m 38 0 0) 38 1 (nI s0)) 38 2 0) 38 3 (bi ca)).1 38 0 = 0 := rfl
  have w1 : (sI (sI (sI (sI m 38 0 0) 38 1 (nI s0)) 38 2 0) 38 3 (bi ca)).1 38 1 = nI s0 := rfl
  have w2 : (sI (sI (sI (sI m 38 0 0) 38 1 (nI s0)) 38 2 0) 38 3 (bi ca)).1 38 2 = bi false := rfl
  have w3 : (sI (sI (sI (sI m 38 0 0) 38 1 (nI s0)) 38 2 0) 38 3 (bi ca)).1 38 3 = bi ca := rfl
  have wq : ∀ q, q ≠ 38 → (sI (sI (sI (sI m 38 0 0) 38 1 (nI s0)) 38 2 0) 38 3 (bi ca)).1 q = m.1 q := fun q hq => by rw [sI_ne hq, sI_ne hq, sI_ne hq, sI_ne hq]
  have wj : ∀ j, 15 ≤ j → (sI (sI (sI (sI m 38 0 0) 38 1 (nI s0)) 38 2 0) 38 3 (bi ca)).1 38 j = m.1 38 j := fun j hj => by rw [sI_nk (by omega), sI_nk (by omega), sI_nk (by omega), sI_nk (by omega)]
  have w9 : (sI (sI (sI (sI m 38 0 0) 38 1 (nI s0)) 38 2 0) 38 3 (bi ca)).1 37 9 = nI s0 := h9
  generalize sI (sI (sI (sI m 38 0 0) 38 1 (nI s0)) 38 2 0) 38 3 (bi ca) = y at w43 w44 w0 w1 w2 w3 wq wj w9 ⊢
  have L1 : Mo_begin_L63 Mo_begin_B88 FU y 0 = Mo_begin_B88 (sI (sI (sI y 38 4 (y.1 43 0)) 38 5 (y.1 43 1)) 38 6 (y.1 43 2)) := by
    show Mo_begin_L63 Mo_begin_B88 (1996 + 1 + 1 + 1 + 1) y 0 = _
    rw [Mo_begin_L63, if_neg (by decide), if_pos (by decide), if_pos (by decide), Mo_begin_L63, if_neg (by decide), if_pos (by decide), if_pos (by decide), Mo_begin_L63, if_neg (by decide), if_pos (by decide), if_pos (by decide), Mo_begin_L63, if_pos (by decide)]
    rfl
  have L2 : ∀ z : Wd, Mo_begin_L98 Mo_begin_B134 FU z 0 = Mo_begin_B134 (sI (sI (sI (sI z 38 8 (z.1 44 0)) 38 10 (-1)) 38 9 (z.1 44 1)) 38 11 (-1)) := by
    intro z
    show Mo_begin_L98 Mo_begin_B134 (1997 + 1 + 1 + 1) z 0 = _
    rw [Mo_begin_L98, if_neg (by decide), if_pos (by decide), if_pos (by decide), if_pos (by decide), Mo_begin_L98, if_neg (by decide), if_pos (by decide), if_pos (by decide), if_pos (by decide), Mo_begin_L98, if_pos (by decide)]
    rfl
  rw [L1, w43, w43, w43, h43 0 (by decide), h43 1 (by decide), h43 2 (by decide)]
  unfold Mo_begin_B88
  rw [L2]
  unfold Mo_begin_B134
  refine ⟨_, rfl, ⟨w0, w1, w2, w3.trans (by rw [hca]), rfl, fun k hk => ?_, fun i hi => ?_, fun i hi => ?_, ?_, rfl, ?_⟩, fun q hq => ?_, fun j hj => ?_⟩
  · match k, hk with
    | 0, _ => rfl
    | 1, _ => rfl
    | 2, _ => rfl
  · match i, hi with
    | 0, _ => exact (w44 0).trans h0
    | 1, _ => exact (w44 1).trans h1
  · match i, hi with
    | 0, _ => rfl
    | 1, _ => rfl
  · show (1 : Int32) <<< (y.1 37 9 &&& 31) = nI (2 ^ s0)
    rw [w9, shl1_nI hs]
  · show (1 : Int32) <<< (y.1 37 9 &&& 31) = nI (2 ^ s0)
    rw [w9, shl1_nI hs]
  · rw [sI_ne hq, sI_ne hq, sI_ne hq, sI_ne hq, sI_ne hq, sI_ne hq, sI_ne hq, sI_ne hq, sI_ne hq, sI_ne hq, sI_ne hq]; exact wq q hq
  · rw [sI_nk (by omega), sI_nk (by omega), sI_nk (by omega), sI_nk (by omega), sI_nk (by omega), sI_nk (by omega), sI_nk (by omega), sI_nk (by omega), sI_nk (by omega), sI_nk (by omega), sI_nk (by omega)]; exact wj j hj
theorem ml_L {R : Nat → Int32} {k : Nat} (h10 : k ≤ 10) {m : Wd} {L0 : Ld} (h5 : m.1 37 5 = nI k) (h41 : m.1 41 = R) (hD : DM m L0) : ∀ {n : Nat} {L : Ld}, n ≤ k → Ch R n L0 L → ∃ m', (∀ F, Mo_land_L13 Mo_land_B35 (F + n) m 0 = Mo_land_L13 Mo_land_B35 F m' (nI n)) ∧ DM m' L ∧ FT m m' := by
  intro n
  induction n with
  | zero =>
    intro L _ hC
    exact ⟨m, fun F => rfl, by rw [show L = L0 from hC]; exact hD, FT.rf m⟩
  | succ n ih =>
    intro L hn hC
    obtain ⟨L1, hC1, w, f, hw, q1, q2, q3, q4⟩ := hC
    obtain ⟨m1, a1, a2, a3⟩ := ih (by omega) hC1
    have k41 : m1.1 41 = R := by rw [a3.1 41 (by decide) (by decide) (by decide) (by decide)]; exact h41
    have k5 : m1.1 37 5 = nI k := by rw [a3.2 5 (by decide) (by decide) (by decide) (by decide)]; exact h5
    obtain ⟨m2, b1, b2, b3⟩ := mo_tell (m := m1) (n := n) (by omega) hw a2 q3 (by rw [k41]; exact q1) (fun j hj => by rw [k41]; exact q2 j hj)
    refine ⟨m2, fun F => ?_, by rw [q4]; exact b2, a3.tr b3⟩
    rw [show F + (n + 1) = (F + 1) + n by omega, a1, Mo_land_L13, k5, if_neg (nI_ge (by omega) (by omega)), show (7 : Int32) * nI n = nI (7 * n) by rw [show (7 : Int32) = nI 7 from rfl, pk_mul], b1, Option.bind_some, nI_1]
theorem FY.xe {x x' : Wd} (c3 : FY x x') : XEq x x' := ⟨by rw [c3 0 (by omega)], by rw [c3 1 (by omega)], c3 2 (by omega), fun k _ => by rw [c3 3 (by omega)], c3 4 (by omega), c3 5 (by omega), c3 6 (by omega), fun c _ _ => c3 c (by omega), by rw [c3 32 (by omega)], c3 33 (by omega)⟩
theorem FN.me {m m' : Wd} (c4 : FN m m') : MEq m m' := by
  have e : ∀ k, k = 3 ∨ k = 6 ∨ k = 8 ∨ k = 9 ∨ k = 11 ∨ k = 22 → m'.1 37 k = m.1 37 k := fun k hk => c4.2 k (by omega) (by omega) (by omega) (by omega) (by omega) (by omega)
  exact ⟨e 3 (by omega), e 6 (by omega), e 8 (by omega), e 9 (by omega), e 11 (by omega), e 22 (by omega), c4.1 38 (by decide) (by decide), c4.1 39 (by decide) (by decide), c4.1 40 (by decide) (by decide), c4.1 42 (by decide) (by decide), c4.1 43 (by decide) (by decide), c4.1 44 (by decide) (by decide), c4.1 46 (by decide) (by decide)⟩
theorem r_land {x m : Wd} (h : Rel x m) : ∃ r x' m', Nt_land x = some (r, x') ∧ Mo_land m = some (r, m') ∧ Rel x' m' := by
  have h' := h
  obtain ⟨S, T, s0, sh, tr, tk, sk, tn, tx, ln, lg, kb, z, h1, h2, h3, h4, h5, h6, h7, h8⟩ := h'
  obtain ⟨r, x1, m1, c1, c2, c3, c4, c5⟩ := re_fault h1 h2 h3
  unfold Nt_land Mo_land
  rw [c1, c2, Option.bind_some, Option.bind_some]
  by_cases e : r = -1
  · dsimp only
    rw [if_pos e, if_pos e]
    obtain ⟨k, ⟨S', T', s', h', tr', tk', sk'⟩, k10, d2, d5, dX, dO, dC⟩ := c5 e
    obtain ⟨hT', o2, o3, o4, o5, o6⟩ := dO
    obtain ⟨x8, x81, x82, x83, x9, x10, x11⟩ := dX
    have hS7 := hT'.2.1
    have hT12 := hT'.2.2.1
    -- the class
    have y3 : (sI (La_copy_3_8 x1) 1 1 0).1 3 0 = nI S' := x8
    have y31 : (sI (La_copy_3_8 x1) 1 1 0).1 3 1 = nI T' := x81
    have y32 : (sI (La_copy_3_8 x1) 1 1 0).1 3 2 = nI s' := x82
    have y33 : (sI (La_copy_3_8 x1) 1 1 0).1 3 3 = nI h' := x83
    have y4 : ∀ t k, t < T' → k < 6 → (sI (La_copy_3_8 x1) 1 1 0).1 4 (6 * t + k) = nI (tr' t k) := by
      intro t k ht hk
      rw [← x9 t k ht hk]
      show va_cpy (x1.1 9) (x1.1 4) 0 0 72 (6 * t + k) = _
      unfold va_cpy
      rw [if_pos ⟨by omega, by omega⟩, Nat.sub_zero, Nat.zero_add]
    have y5 : ∀ k, k < 3 → (sI (La_copy_3_8 x1) 1 1 0).1 5 k = nI (tk' k) := by
      intro k hk
      rw [← x10 k hk]
      show va_cpy (x1.1 10) (x1.1 5) 0 0 3 k = _
      unfold va_cpy
      rw [if_pos ⟨by omega, by omega⟩, Nat.sub_zero, Nat.zero_add]
    have y6 : ∀ i, i < 2 → (sI (La_copy_3_8 x1) 1 1 0).1 6 i = sk' i := by
      intro k hk
      rw [← x11 k hk]
      show va_cpy (x1.1 11) (x1.1 6) 0 0 2 k = _
      unfold va_cpy
      rw [if_pos ⟨by omega, by omega⟩, Nat.sub_zero, Nat.zero_add]
    have y72 : (sI (La_copy_3_8 x1) 1 1 0).1 7 2 = nI k := d2
    have y11 : (sI (La_copy_3_8 x1) 1 1 0).1 1 1 = 0 := rfl
    generalize sI (La_copy_3_8 x1) 1 1 0 = y at y3 y31 y32 y33 y4 y5 y6 y72 y11 ⊢
    obtain ⟨x2, e1, e2, e3⟩ := sc_begin (tk := tk') (sk := sk') (by omega) y32 y5 y6
    rw [e1, Option.bind_some]
    have f7 : (sI (sI x2 32 2 0) 0 9 0).1 7 2 = nI k := by
      rw [sI_ne (by decide), sI_ne (by decide), e3 7 (by omega)]; exact y72
    rw [f7]
    -- the reference
    obtain ⟨⟨t1, t2⟩, ⟨u1, u2⟩, l1, l2, l3, l4, l5, l6, l7, l8, l9, l10, l11⟩ := h2
    have me := c4.me
    obtain ⟨m3, m6, m8, m9, m11, m22, m38, m39, m40, m42, m43, m44, m46⟩ := me
    have hD0 : DM m1 (S, T, s0, sh, tr, tk, sk) := by
      refine ⟨by rw [m6]; exact l2, by rw [m8]; exact u1, by rw [m9]; exact l4, by rw [m11]; exact l6, fun t k ht hk => by rw [m42]; exact u2 t k ht hk, fun k hk => by rw [m43]; exact (l7 k hk).2.1, fun i hi => by rw [m44]; exact (l8 i hi).2.1⟩
    obtain ⟨m2, a1, a2, a3⟩ := ml_L k10 d5 rfl hD0 (Nat.le_refl k) dC
    obtain ⟨b0, b1, b2, b3, b4, b5, b6⟩ := a2
    obtain ⟨F, hF⟩ : ∃ F, FU = (F + 1) + k := ⟨1999 - k, by unfold FU; omega⟩
    rw [hF, a1, Mo_land_L13, a3.2 5 (by decide) (by decide) (by decide) (by decide), d5, if_pos (nI_le (Nat.le_refl k) (by omega))]
    unfold Mo_land_B35
    obtain ⟨n3, g1, g2, g3, g4⟩ := mo_begin (tk := tk') (sk := sk') (by omega) b2 b5 b6
    rw [g1, Option.bind_some]
    have k5 : m2.1 37 5 = nI k := by rw [a3.2 5 (by decide) (by decide) (by decide) (by decide)]; exact d5
    have q5 : (sI (sI (sI (sI n3 37 22 0) 39 0 (vp_nar .boolean 0)) 39 1 (vp_nar .boolean 0)) 37 3 0).1 37 5 = nI k := by
      rw [sI_nk (by decide), sI_ne (by decide), sI_ne (by decide), sI_nk (by decide), g3 37 (by decide)]; exact k5
    rw [q5]
    refine ⟨nI k, _, _, rfl, rfl, S', T', s', h', tr', tk', sk', 0, fun _ => 0, 0, fun _ => 0, fun _ => false, zB s' tk' sk', hT', ?_, ?_, ?_, ?_, ?_, ?_, zB_ok o4 o2 o3⟩
    · have X : ∀ q, q = 3 ∨ q = 4 ∨ q = 5 ∨ q = 6 → (sI (sI x2 32 2 0) 0 9 0).1 q = y.1 q := fun q hq => by rw [sI_ne (by omega), sI_ne (by omega)]; exact e3 q (by omega)
      have Z : ∀ q, q = 42 ∨ q = 43 ∨ q = 44 → (sI (sI (sI (sI n3 37 22 0) 39 0 (vp_nar .boolean 0)) 39 1 (vp_nar .boolean 0)) 37 3 0).1 q = m2.1 q := fun q hq => by rw [sI_ne (by omega), sI_ne (by omega), sI_ne (by omega), sI_ne (by omega)]; exact g3 q (by omega)
      have Z7 : ∀ k, k = 6 ∨ k = 8 ∨ k = 9 ∨ k = 11 → (sI (sI (sI (sI n3 37 22 0) 39 0 (vp_nar .boolean 0)) 39 1 (vp_nar .boolean 0)) 37 3 0).1 37 k = m2.1 37 k := fun q hq => by rw [sI_nk (by omega), sI_ne (by decide), sI_ne (by decide), sI_nk (by omega), g3 37 (by decide)]
      refine ⟨⟨by rw [X 3 (by omega)]; exact y31, fun t k ht hk => by rw [X 4 (by omega)]; exact y4 t k ht hk⟩, ⟨by rw [Z7 8 (by omega)]; exact b1, fun t k ht hk => by rw [Z 42 (by omega)]; exact b4 t k ht hk⟩, by rw [X 3 (by omega)]; exact y3, by rw [Z7 6 (by omega)]; exact b0, by rw [X 3 (by omega)]; exact y32, by rw [Z7 9 (by omega)]; exact b2, by rw [X 3 (by omega)]; exact y33, by rw [Z7 11 (by omega)]; exact b3, fun k hk => ⟨by rw [X 5 (by omega)]; exact y5 k hk, by rw [Z 43 (by omega)]; exact b5 k hk, o2 k hk⟩, fun i hi => ⟨by rw [X 6 (by omega)]; exact y6 i hi, by rw [Z 44 (by omega)]; exact b6 i hi, o3 i hi⟩, o4, o5, o6⟩
    · refine ⟨by decide, ?_, rfl, fun j hj => absurd hj (Nat.not_lt_zero j)⟩
      rw [sI_ne (by decide), sI_ne (by decide), e3 1 (by omega)]; exact y11
    · exact ⟨by decide, rfl, rfl, fun j hj => absurd hj (Nat.not_lt_zero j)⟩
    · refine ⟨rfl, fun i hi => ⟨?_, fun q => absurd (show false = true from q) (by decide)⟩⟩
      match i, hi with
      | 0, _ => rfl
      | 1, _ => rfl
    · exact e2.eq (by rw [sI_ne (by decide), sI_ne (by decide)]) (by rw [sI_ne (by decide), sI_ne (by decide)]) (by rw [sI_ne (by decide), sI_ne (by decide)]) (by rw [sI_ne (by decide), sI_ne (by decide)])
    · exact g2.eq (by rw [sI_ne (by decide), sI_ne (by decide), sI_ne (by decide), sI_ne (by decide)])
  · dsimp only
    rw [if_neg e, if_neg e]
    exact ⟨-4, x1, m1, rfl, rfl, h.eq c3.xe c4.me⟩
end Land
