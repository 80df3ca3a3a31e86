/-! NOON on both sides -/
section Noon
variable {S T : Nat} {tr : Tr}
/-- where a seeker goes by what is told -/
def sgo (tr : Tr) (sk sn : Nat → Int32) (i : Nat) : Int32 := if sn i = -1 then sk i else nI (tr (sn i).toNatClampNeg 1)
def rmv (my : Nat) (s : Int32) : Nat := if s = -1 then my else cl my s.toNatClampNeg
def met (sk : Nat → Int32) (he : Nat) (aw : Bool) : Bool := !aw && (decide (sk 0 = nI he) || decide (sk 1 = nI he))
def shw (sh : Nat) (dy : Int32) : Bool := decide (dy - dy / nI sh * nI sh = 0)
/-- a scene behind the rides: the next noon -/
def zF (tr : Tr) (sh : Nat) : Sc → Sc
  | (dy, he, aw, _, _, tk, sk, sn, my, wy, lt) =>
    (dy + 1, he, aw, met (sgo tr sk sn) he aw, -1, tk, sgo tr sk sn, fun _ => -1,
      if met (sgo tr sk sn) he aw || shw sh (dy + 1) then (if aw then 0 else 2 ^ he) else rmv (rmv my (sgo tr sk sn 0)) (sgo tr sk sn 1),
      if met (sgo tr sk sn) he aw || shw sh (dy + 1) then (if aw then 2 ^ he else 0) else wy, lt)
theorem rmv_le (my : Nat) (s : Int32) : rmv my s ≤ my := by
  unfold rmv
  split
  · exact Nat.le_refl _
  · exact cl_le _ _
theorem rmv_nI (my : Nat) {s : Int32} {n : Nat} (h : s = -1 ∨ ∃ q, q < n ∧ s = nI q) (hn : n ≤ 31) (hne : ¬ s = -1) : nI my &&& (((1 : Int32) <<< (s &&& (31 : Int32))) ^^^ (-1 : Int32)) = nI (rmv my s) := by
  obtain ⟨q, hq, rfl⟩ := h.resolve_left hne
  rw [cl_nI (by omega)]
  unfold rmv
  rw [if_neg hne, nI_clamp (by omega)]
theorem sgo_ok (hT : TOK S T tr) {sk sn : Nat → Int32} (h4 : ∀ i, i < 2 → sk i = -1 ∨ ∃ s, s < S ∧ sk i = nI s) (h5 : ∀ i, i < 2 → sn i = -1 ∨ ∃ t, t < T ∧ sn i = nI t) {i : Nat} (hi : i < 2) : sgo tr sk sn i = -1 ∨ ∃ s, s < S ∧ sgo tr sk sn i = nI s := by
  have h12 := hT.2.2.1
  unfold sgo
  by_cases h : sn i = -1
  · rw [if_pos h]; exact h4 i hi
  · rw [if_neg h]
    obtain ⟨t, ht, e⟩ := (h5 i hi).resolve_left h
    rw [e, nI_clamp (by omega)]
    exact Or.inr ⟨_, (hT.2.2.2 t ht).2.1, rfl⟩
theorem sc_place {x : Wd} (h : TX x T tr) (hT : TOK S T tr) {sk sn : Nat → Int32} {i : Nat} (hi : i < 2) (c7 : x.1 15 i = sk i) (c8 : x.1 16 i = sn i) (h5 : sn i = -1 ∨ ∃ t, t < T ∧ sn i = nI t) : Sc_placeBehind x (nI i) = some (sgo tr sk sn i) := by
  have h12 := hT.2.2.1
  unfold Sc_placeBehind sgo
  rw [nt_isSk hi, if_neg one_ne, if_pos (ib_nI hi (by decide)), nI_clamp (by omega), c8, c7]
  by_cases hs : sn i = -1
  · rw [if_pos hs, if_pos hs, if_pos (ib_nI hi (by decide))]
  · rw [if_neg hs, if_neg hs, if_pos (ib_nI hi (by decide))]
    obtain ⟨t, ht, e⟩ := h5.resolve_left hs
    rw [e, la_p1 h hT ht, Option.bind_some, nI_clamp (by omega)]
theorem sc_forget (x : Wd) : Sc_forgetToday x = some (sI (sI (sI x 13 5 (-1)) 16 0 (-1)) 16 1 (-1)) := by
  unfold Sc_forgetToday Jd_fillI_16
  show (Jd_fillI_16_L5 Jd_fillI_16_B20 (1997 + 1 + 1 + 1) (sI x 13 5 (-1)) (-1) 0 2).bind (fun q1 => some q1) = _
  rw [Jd_fillI_16_L5, if_neg (by decide), if_pos (by decide), Jd_fillI_16_L5, if_neg (by decide), if_pos (by decide), Jd_fillI_16_L5, if_pos (by decide)]
  rfl
theorem sc_with {x : Wd} {sk : Nat → Int32} {he : Nat} {aw : Bool} (c2 : x.1 13 2 = nI he) (c3 : x.1 13 3 = bi aw) (c7 : ∀ i, i < 2 → x.1 15 i = sk i) : Sc_isWithSeeker x = some (bi (met sk he aw)) := by
  unfold Sc_isWithSeeker
  show Sc_isWithSeeker_L4 x (Sc_isWithSeeker_B38 x) (1997 + 1 + 1 + 1) 0 0 = _
  rw [Sc_isWithSeeker_L4, if_neg (by decide), if_pos rfl, if_pos (by decide), show (0 : Int32).toNatClampNeg = 0 from by decide, c7 0 (by decide), c2]
  have e1 : ((0 : Int32) + 1).toNatClampNeg = 1 := by decide
  unfold met
  by_cases h0 : sk 0 = nI he
  · rw [if_pos h0, Sc_isWithSeeker_L4, if_neg (by decide), if_neg one_ne, Sc_isWithSeeker_L4, if_pos (by decide)]
    unfold Sc_isWithSeeker_B38
    rw [if_neg one_ne, c3, decide_eq_true h0]
    cases aw <;> rfl
  · rw [if_neg h0, Sc_isWithSeeker_L4, if_neg (by decide), if_pos rfl, if_pos (by decide), e1, c7 1 (by decide), c2, Sc_isWithSeeker_L4, if_pos (by decide), decide_eq_false h0]
    unfold Sc_isWithSeeker_B38
    rw [c3]
    by_cases h1 : sk 1 = nI he
    · rw [if_pos h1, if_neg one_ne, decide_eq_true h1]; cases aw <;> rfl
    · rw [if_neg h1, if_pos rfl, decide_eq_false h1]; cases aw <;> rfl
theorem sc_places {x : Wd} {sh he my wy : Nat} {aw ca : Bool} {dy : Int32} {sk : Nat → Int32} (hsh : x.1 3 3 = nI sh) (h1 : 1 ≤ sh) (h9 : sh ≤ 9) (hhe : he < 31) (c1 : x.1 13 1 = dy) (c2 : x.1 13 2 = nI he) (c3 : x.1 13 3 = bi aw) (c4 : x.1 13 4 = bi ca) (c7 : ∀ i, i < 2 → x.1 15 i = sk i) (o7 : ∀ i, i < 2 → sk i = -1 ∨ ∃ s, s < 31 ∧ sk i = nI s) (c9 : x.1 13 9 = nI my) (c10 : x.1 13 10 = nI wy) :
    ∃ x', Sc_learnPlaces x = some x' ∧ (∀ c, c ≠ 13 → x'.1 c = x.1 c) ∧ (∀ k, k ≠ 9 → k ≠ 10 → x'.1 13 k = x.1 13 k) ∧ x'.1 13 9 = nI (if ca || shw sh dy then (if aw then 0 else 2 ^ he) else rmv (rmv my (sk 0)) (sk 1)) ∧ x'.1 13 10 = nI (if ca || shw sh dy then (if aw then 2 ^ he else 0) else wy) := by
  unfold Sc_learnPlaces
  rw [hsh, if_neg (nI_nle h1 (by omega)), if_pos (nI_ne0 h1 (by omega)), c1]
  have hs : (if dy - dy / nI sh * nI sh = 0 then (1 : Int32) else 0) = bi (shw sh dy) := by
    unfold shw bi
    by_cases h : dy - dy / nI sh * nI sh = 0
    · rw [if_pos h, decide_eq_true h]; rfl
    · rw [if_neg h, decide_eq_false h]; rfl
  rw [hs]
  unfold Sc_learnPlaces_B30
  rw [c4]
  have big : ∃ x', Sc_learnPlaces_B42 x = some x' ∧ (∀ c, c ≠ 13 → x'.1 c = x.1 c) ∧ (∀ k, k ≠ 9 → k ≠ 10 → x'.1 13 k = x.1 13 k) ∧ x'.1 13 9 = nI (if aw then 0 else 2 ^ he) ∧ x'.1 13 10 = nI (if aw then 2 ^ he else 0) := by
    unfold Sc_learnPlaces_B42 Sc_learnPlaces_B60
    rw [c3, c2, shl1_nI hhe]
    have g3 : ∀ v, (sI x 13 9 v).1 13 3 = bi aw := fun v => c3
    have g2 : ∀ v, (sI x 13 9 v).1 13 2 = nI he := fun v => c2
    rw [g3, g2, shl1_nI hhe]
    cases aw with
    | false =>
      rw [bi_f, if_pos rfl, if_pos rfl]
      exact ⟨_, rfl, fun c hc => by rw [sI_ne hc, sI_ne hc], fun k h1 h2 => by rw [sI_nk h2, sI_nk h1], by rw [sI_nk (by decide), sI_at]; rfl, sI_at⟩
    | true =>
      rw [bi_t, if_neg one_ne, if_neg one_ne]
      exact ⟨_, rfl, fun c hc => by rw [sI_ne hc, sI_ne hc], fun k h1 h2 => by rw [sI_nk h2, sI_nk h1], by rw [sI_nk (by decide), sI_at]; rfl, sI_at⟩
  cases ca with
  | true =>
    rw [bi_t, if_neg one_ne, Bool.true_or]
    exact big
  | false =>
    rw [bi_f, if_pos rfl, Bool.false_or]
    cases shw sh dy with
    | true => rw [bi_t, if_neg one_ne]; exact big
    | false =>
      rw [bi_f, if_pos rfl]
      show ∃ x', Sc_learnPlaces_L87 Sc_learnPlaces_B127 (1997 + 1 + 1 + 1) x 0 = some x' ∧ _
      rw [Sc_learnPlaces_L87, if_neg (by decide), if_pos (by decide), show (0 : Int32).toNatClampNeg = 0 from by decide, c7 0 (by decide), c9]
      have e1 : ((0 : Int32) + 1).toNatClampNeg = 1 := by decide
      have two : ∀ (y : Wd) (a : Nat), y.1 13 9 = nI a → (∀ c, c ≠ 13 → y.1 c = x.1 c) → (∀ k, k ≠ 9 → y.1 13 k = x.1 13 k) → ∃ x', Sc_learnPlaces_L87 Sc_learnPlaces_B127 (1997 + 1 + 1) y (0 + 1) = some x' ∧ (∀ c, c ≠ 13 → x'.1 c = x.1 c) ∧ (∀ k, k ≠ 9 → k ≠ 10 → x'.1 13 k = x.1 13 k) ∧ x'.1 13 9 = nI (rmv a (sk 1)) ∧ x'.1 13 10 = nI wy := by
        intro y a h9 hc hk
        rw [Sc_learnPlaces_L87, if_neg (by decide), if_pos (by decide), e1, hc 15 (by decide), c7 1 (by decide), h9]
        by_cases h : sk 1 = -1
        · rw [if_pos h, Sc_learnPlaces_L87, if_pos (by decide)]
          exact ⟨y, rfl, hc, fun k a1 _ => hk k a1, by rw [h9]; unfold rmv; rw [if_pos h], by rw [hk 10 (by decide)]; exact c10⟩
        · rw [if_neg h, if_pos (by decide), rmv_nI a (o7 1 (by decide)) (by decide) h, Sc_learnPlaces_L87, if_pos (by decide)]
          exact ⟨_, rfl, fun c h => by rw [sI_ne h, hc c h], fun k a1 _ => by rw [sI_nk a1, hk k a1], sI_at, by rw [sI_nk (by decide), hk 10 (by decide)]; exact c10⟩
      by_cases h : sk 0 = -1
      · rw [if_pos h]
        obtain ⟨x', f1, f2, f3, f4, f5⟩ := two x my c9 (fun _ _ => rfl) (fun _ _ => rfl)
        refine ⟨x', f1, f2, f3, ?_, f5⟩
        rw [f4]
        have : rmv my (sk 0) = my := by unfold rmv; rw [if_pos h]
        rw [this]; rfl
      · rw [if_neg h, if_pos (by decide), rmv_nI my (o7 0 (by decide)) (by decide) h]
        obtain ⟨x', f1, f2, f3, f4, f5⟩ := two _ _ sI_at (fun c h => sI_ne h) (fun k h => sI_nk h)
        exact ⟨x', f1, f2, f3, f4, f5⟩
/-- the class, behind the rides -/
theorem sc_late {x : Wd} {sh : Nat} {z : Sc} (h : TX x T tr) (hT : TOK S T tr) (hsh : x.1 3 3 = nI sh) (h1 : 1 ≤ sh) (h9 : sh ≤ 9) (hz : ScX x 13 z) (hhe : z.2.1 < S) (h4 : ∀ i, i < 2 → z.2.2.2.2.2.2.1 i = -1 ∨ ∃ s, s < S ∧ z.2.2.2.2.2.2.1 i = nI s) (h5 : ∀ i, i < 2 → z.2.2.2.2.2.2.2.1 i = -1 ∨ ∃ t, t < T ∧ z.2.2.2.2.2.2.2.1 i = nI t) : ∃ x', Sc_advance_L18 Sc_advance_B40 FU x 0 = some x' ∧ XEqS x x' ∧ ScX x' 13 (zF tr sh z) := by
  obtain ⟨dy, he, aw, ca, rd, tk, sk, sn, my, wy, lt⟩ := z
  dsimp only at hhe h4 h5
  obtain ⟨c1, c2, c3, c4, c5, c6, c7, c8, c9, c10, c11⟩ := hz
  have h7 := hT.2.1
  have hx1 := xs_sI x (c := 15) 0 (sgo tr sk sn 0) (by omega)
  show ∃ x', Sc_advance_L18 Sc_advance_B40 (1997 + 1 + 1 + 1) x 0 = some x' ∧ _
  rw [Sc_advance_L18, if_neg (by decide), show (0 : Int32) = nI 0 from rfl, sc_place h hT (i := 0) (by decide) (c7 0 (by decide)) (c8 0 (by decide)) (h5 0 (by decide)), Option.bind_some, if_pos (by decide), show (nI 0).toNatClampNeg = 0 from by decide, show nI 0 + 1 = nI 1 from rfl]
  rw [Sc_advance_L18, if_neg (by decide), sc_place (sk := sk) (h.eq hx1) hT (i := 1) (by decide) (c7 1 (by decide)) (c8 1 (by decide)) (h5 1 (by decide)), Option.bind_some, if_pos (by decide), show (nI 1).toNatClampNeg = 1 from by decide, Sc_advance_L18, if_pos (by decide)]
  unfold Sc_advance_B40
  rw [sc_forget, Option.bind_some]
  have d1 : (sI (sI x 15 0 (sgo tr sk sn 0)) 15 1 (sgo tr sk sn 1)).1 13 1 = dy := c1
  rw [d1]
  obtain ⟨y, hy⟩ : ∃ y, y = sI (sI (sI (sI (sI (sI x 15 0 (sgo tr sk sn 0)) 15 1 (sgo tr sk sn 1)) 13 1 (dy + 1)) 13 5 (-1)) 16 0 (-1)) 16 1 (-1) := ⟨_, rfl⟩
  have y15 : ∀ i, i < 2 → y.1 15 i = sgo tr sk sn i := by
    intro i hi
    rw [hy]
    match i, hi with
    | 0, _ => rfl
    | 1, _ => rfl
  have y16 : ∀ i, i < 2 → y.1 16 i = -1 := by
    intro i hi
    rw [hy]
    match i, hi with
    | 0, _ => rfl
    | 1, _ => rfl
  have y1 : y.1 13 1 = dy + 1 := by rw [hy]; rfl
  have y2 : y.1 13 2 = nI he := by rw [hy]; exact c2
  have y3 : y.1 13 3 = bi aw := by rw [hy]; exact c3
  have y5 : y.1 13 5 = -1 := by rw [hy]; rfl
  have y9 : y.1 13 9 = nI my := by rw [hy]; exact c9
  have y10 : y.1 13 10 = nI wy := by rw [hy]; exact c10
  have y11 : y.1 13 11 = nI lt := by rw [hy]; exact c11
  have y14 : ∀ k, k < 3 → y.1 14 k = nI (tk k) := by intro k hk; rw [hy]; exact c6 k hk
  have ysh : y.1 3 3 = nI sh := by rw [hy]; exact hsh
  have hxy : XEqS x y := by
    rw [hy]
    exact (((((xs_sI x (c := 15) 0 _ (by omega)).tr (xs_sI _ (c := 15) 1 _ (by omega))).tr (xs_sI _ (c := 13) 1 _ (by omega))).tr (xs_sI _ (c := 13) 5 _ (by omega))).tr (xs_sI _ (c := 16) 0 _ (by omega))).tr (xs_sI _ (c := 16) 1 _ (by omega))
  rw [← hy, sc_with y2 y3 y15, Option.bind_some, if_pos (bi_and1 _)]
  have so : ∀ i, i < 2 → sgo tr sk sn i = -1 ∨ ∃ s, s < 31 ∧ sgo tr sk sn i = nI s := fun i hi => (sgo_ok hT h4 h5 hi).imp id (fun ⟨s, a, b⟩ => ⟨s, by omega, b⟩)
  obtain ⟨w', f1, f2, f3, f4, f5⟩ := sc_places (x := sI y 13 4 (bi (met (sgo tr sk sn) he aw))) (sh := sh) (he := he) (my := my) (wy := wy) (aw := aw) (ca := met (sgo tr sk sn) he aw) (dy := dy + 1) (sk := sgo tr sk sn) ysh h1 h9 (by omega) y1 y2 y3 sI_at (fun i hi => y15 i hi) so y9 y10
  rw [f1, Option.bind_some]
  refine ⟨w', rfl, hxy.tr ((xs_sI y (c := 13) 4 (bi (met (sgo tr sk sn) he aw)) (by omega)).tr ?_), ?_⟩
  · refine ⟨by rw [f2 0 (by decide)], by rw [f2 1 (by decide)], f2 2 (by decide), fun k _ => by rw [f2 3 (by decide)], f2 4 (by decide), f2 5 (by decide), f2 6 (by decide), fun c a b => f2 c (by omega), by rw [f2 32 (by decide)], f2 33 (by decide)⟩
  · refine ⟨by rw [f3 1 (by decide) (by decide)]; exact y1, by rw [f3 2 (by decide) (by decide)]; exact y2, by rw [f3 3 (by decide) (by decide)]; exact y3, by rw [f3 4 (by decide) (by decide)]; exact sI_at, by rw [f3 5 (by decide) (by decide)]; exact y5, fun k hk => by rw [f2 14 (by decide)]; exact y14 k hk, fun i hi => by rw [f2 15 (by decide)]; exact y15 i hi, fun i hi => by rw [f2 16 (by decide)]; exact y16 i hi, f4, f5, by rw [f3 11 (by decide) (by decide)]; exact y11⟩
/-- a scene behind his own ride (or stay) -/
def zA (T : Nat) (tr : Tr) : Sc → Sc
  | (dy, he, aw, ca, rd, tk, sk, sn, my, wy, lt) =>
    if rd = -1 then (dy, he, false, ca, rd, tk, sk, sn, stk T tr my dy (kl tk) ||| wy, 0, nxX T tr tk my wy dy)
    else (dy, tr rd.toNatClampNeg 1, decide (tr rd.toNatClampNeg 4 = 2), ca, rd, (fun k => if k = tr rd.toNatClampNeg 5 then tk k - 1 else tk k), sk, sn, lay T tr my dy (tr rd.toNatClampNeg 5) 1, lay T tr my dy (tr rd.toNatClampNeg 5) 2, nxX T tr tk my wy dy)
theorem sc_ahead {x : Wd} {z : Sc} (h : TX x T tr) (hT : TOK S T tr) (hz : ScX x 13 z) (hO : ScOK S T tr z) : ∃ x', Sc_advance x = Sc_advance_L18 Sc_advance_B40 FU x' 0 ∧ XEqS x x' ∧ ScX x' 13 (zA T tr z) := by
  have hn := sc_next h hT hz hO
  obtain ⟨dy, he, aw, ca, rd, tk, sk, sn, my, wy, lt⟩ := z
  dsimp only at hn
  obtain ⟨c1, c2, c3, c4, c5, c6, c7, c8, c9, c10, c11⟩ := hz
  obtain ⟨o1, o2, o3, o4, o5, o6, o7, o8, o9⟩ := hO
  have h7 := hT.2.1
  have h12 := hT.2.2.1
  have h31 : my < 2 ^ 31 := Nat.lt_of_lt_of_le o6 (Nat.pow_le_pow_right (by decide) (by omega))
  have hkl : kl tk < 2 ^ 31 := Nat.lt_trans (kl_lt tk) (by decide)
  unfold Sc_advance
  rw [hn, Option.bind_some]
  generalize hnx : nxX T tr tk my wy dy = nx
  have hx1 := xs_sI x (c := 13) 11 (nI nx) (by omega)
  have hX1 := h.eq hx1
  unfold Sc_learnTicket
  have e5 : (sI x 13 11 (nI nx)).1 13 5 = rd := c5
  have e9 : (sI x 13 11 (nI nx)).1 13 9 = nI my := c9
  have e1 : (sI x 13 11 (nI nx)).1 13 1 = dy := c1
  have e10 : (sI x 13 11 (nI nx)).1 13 10 = nI wy := c10
  rw [e5, e9, e1, e10]
  unfold zA
  dsimp only
  rw [hnx]
  by_cases hr : rd = -1
  · rw [if_pos hr, if_pos hr, sc_kinds (x := sI x 13 11 (nI nx)) (tk := tk) c6 o2, Option.bind_some, la_stuck hX1 hT my hkl, Option.bind_some, fa_or, Option.bind_some]
    unfold Sc_moveHim
    have g5 : (sI (sI (sI (sI x 13 11 (nI nx)) 13 9 (nI (stk T tr my dy (kl tk) ||| wy))) 13 10 0) 13 3 0).1 13 5 = -1 := by
      show x.1 13 5 = -1
      rw [c5, hr]
    rw [if_pos g5, Option.bind_some]
    refine ⟨_, rfl, ((hx1.tr (xs_sI _ (c := 13) 9 _ (by omega))).tr (xs_sI _ (c := 13) 10 _ (by omega))).tr (xs_sI _ (c := 13) 3 _ (by omega)), ?_⟩
    exact ⟨c1, c2, rfl, c4, c5, c6, c7, c8, rfl, rfl, rfl⟩
  · rw [if_neg hr, if_neg hr]
    obtain ⟨t, ht, et, erid, eaw, eca⟩ := o3.resolve_left hr
    obtain ⟨a0, a1, -, -, -, a4, a5⟩ := hT.2.2.2 t ht
    have htk : 0 < tk (tr t 5) := by
      unfold rid at erid
      simp only [Bool.and_eq_true, decide_eq_true_eq] at erid
      exact erid.2
    have hk9 := o2 _ a5
    have hp : 2 ^ tr t 5 < 2 ^ 31 := Nat.pow_lt_pow_right (by decide) (by omega)
    rw [et, nI_clamp (by omega), la_p5 hX1 hT ht, Option.bind_some, shl1_nI (by omega), show (2 : Int32) = nI 2 from rfl, la_reached hX1 hT h31 hp (by decide), Option.bind_some]
    have hx2 := xs_sI (sI x 13 11 (nI nx)) (c := 13) 10 (nI (rch T tr my dy (2 ^ tr t 5) 2)) (by omega)
    have f9 : (sI (sI x 13 11 (nI nx)) 13 10 (nI (rch T tr my dy (2 ^ tr t 5) 2))).1 13 9 = nI my := c9
    have f1 : (sI (sI x 13 11 (nI nx)) 13 10 (nI (rch T tr my dy (2 ^ tr t 5) 2))).1 13 1 = dy := c1
    rw [f9, f1, show (1 : Int32) = nI 1 from rfl, la_reached (hX1.eq hx2) hT h31 hp (by decide), Option.bind_some, Option.bind_some, ← lay_rch, ← lay_rch]
    obtain ⟨y, hy⟩ : ∃ y, y = sI (sI (sI x 13 11 (nI nx)) 13 10 (nI (lay T tr my dy (tr t 5) 2))) 13 9 (nI (lay T tr my dy (tr t 5) 1)) := ⟨_, rfl⟩
    rw [← hy]
    have hxy : XEqS x y := by rw [hy]; exact (hx1.tr (xs_sI _ (c := 13) 10 _ (by omega))).tr (xs_sI _ (c := 13) 9 _ (by omega))
    have hy5 : y.1 13 5 = nI t := by rw [hy, ← et]; exact c5
    have hy14 : ∀ k, k < 3 → y.1 14 k = nI (tk k) := by intro k hk; rw [hy]; exact c6 k hk
    have yc : ScX y 13 (dy, he, aw, ca, rd, tk, sk, sn, lay T tr my dy (tr t 5) 1, lay T tr my dy (tr t 5) 2, nx) := by
      rw [hy]; exact ⟨c1, c2, c3, c4, c5, c6, c7, c8, rfl, rfl, rfl⟩
    obtain ⟨q1, q2, q3, q4, q5, q6, q7, q8, q9, q10, q11⟩ := yc
    have hne := nI_m1 (j := t) (by omega)
    unfold Sc_moveHim
    have g5 : (sI y 13 3 0).1 13 5 = nI t := hy5
    have hXy := h.eq hxy
    have hx3 := xs_sI y (c := 13) 3 0 (by omega)
    have g14 : (sI y 13 3 0).1 14 (tr t 5) = nI (tk (tr t 5)) := hy14 _ a5
    have hsub : nI (tk (tr t 5)) - 1 = nI (tk (tr t 5) - 1) := by
      obtain ⟨q, hq⟩ : ∃ q, tk (tr t 5) = q + 1 := ⟨tk (tr t 5) - 1, by omega⟩
      rw [hq, nI_pred]; rfl
    rw [g5, if_neg hne, la_p5 (hXy.eq hx3) hT ht, Option.bind_some, show (2 : Int32) = nI 2 from rfl, within_in (by omega) (by decide), if_neg one_ne, if_pos (ib_nI a5 (by decide)), if_pos (ib_nI a5 (by decide)), nI_clamp (by omega), g14, hsub]
    obtain ⟨v, hv⟩ : ∃ v, v = sI (sI y 13 3 0) 14 (tr t 5) (nI (tk (tr t 5) - 1)) := ⟨_, rfl⟩
    rw [← hv]
    have hyv : XEqS y v := by rw [hv]; exact hx3.tr (xs_sI _ (c := 14) _ _ (by omega))
    have hXv := hXy.eq hyv
    have v5 : v.1 13 5 = nI t := by rw [hv]; exact hy5
    unfold Sc_moveHim_B46 Sc_moveHim_B68
    have hb : (if nI (tr t 4) = (2 : Int32) then (1 : Int32) else 0) = bi (decide (tr t 4 = 2)) := by
      rcases a4 with e | e <;> rw [e] <;> decide
    rw [v5, la_p4 hXv hT ht, Option.bind_some, hb, if_pos (bi_and1 _)]
    have hx4 := xs_sI v (c := 13) 3 (bi (decide (tr t 4 = 2))) (by omega)
    have v5' : (sI v 13 3 (bi (decide (tr t 4 = 2)))).1 13 5 = nI t := v5
    rw [v5', la_p1 (hXv.eq hx4) hT ht, Option.bind_some, Option.bind_some]
    refine ⟨_, rfl, hxy.tr (hyv.tr (hx4.tr (xs_sI _ (c := 13) 2 _ (by omega)))), ?_⟩
    rw [et] at q5
    subst hv
    refine ⟨q1, rfl, rfl, q4, q5, fun k hk => ?_, q7, q8, q9, q10, q11⟩
    show (sI (sI y 13 3 0) 14 (tr t 5) (nI (tk (tr t 5) - 1))).1 14 k = _
    by_cases hkk : k = tr t 5
    · dsimp only; rw [if_pos hkk, hkk, sI_at]
    · dsimp only; rw [if_neg hkk, sI_nk hkk]; exact q6 k hk
end Noon
