/-! NOON of the reference, and both tied -/
section NoonM
variable {S T : Nat} {tr : Tr}
theorem ix_n {a i : Nat} (h : a + i < 45) : ib (nI a + nI i) 45 = true ∧ (nI a + nI i).toNatClampNeg = a + i := by
  rw [nI_add, nI_clamp (by omega)]
  exact ⟨ib_nI h (by decide), rfl⟩
theorem and_m1 (a : Nat) : nI a &&& (-1 : Int32) = nI a := by
  apply Int32.toBitVec_inj.1
  show BitVec.ofNat 32 a &&& BitVec.allOnes 32 = BitVec.ofNat 32 a
  exact BitVec.and_allOnes
theorem mo_step {m : Wd} {z : Sc} (h : TM m T tr) (hT : TOK S T tr) (hz : ScM m 0 z) {i : Nat} (hi : i < 2) (h4 : sgo tr z.2.2.2.2.2.2.1 z.2.2.2.2.2.2.2.1 i = -1 ∨ ∃ s, s < S ∧ sgo tr z.2.2.2.2.2.2.1 z.2.2.2.2.2.2.2.1 i = nI s) (h5 : z.2.2.2.2.2.2.2.1 i = -1 ∨ ∃ t, t < T ∧ z.2.2.2.2.2.2.2.1 i = nI t) (k : Wd → Option (Int32 × Wd)) (n : Nat) :
    ∃ m', Mo_noon_L174 k (n + 1) m (nI i) = Mo_noon_L174 k n m' (nI (i + 1)) ∧ MEqS m m' ∧ ScM m' 0 (match z with
      | (dy, he, aw, ca, rd, tk, sk, sn, my, wy, lt) => (dy, he, aw, ca || (!aw && decide (sgo tr sk sn i = nI he)), rd, tk, (fun j => if j = i then sgo tr sk sn i else sk j), (fun j => if j = i then -1 else sn j), rmv my (sgo tr sk sn i), wy, lt)) := by
  obtain ⟨dy, he, aw, ca, rd, tk, sk, sn, my, wy, lt⟩ := z
  dsimp only at h4 h5 ⊢
  have h7 := hT.2.1
  have h12 := hT.2.2.1
  have hz0 := hz
  obtain ⟨c1, c2, c3, c4, c5, c6, c7, c8, c9, c10, c11⟩ := hz
  have i8 := ix_n (a := 8) (i := i) (by omega)
  have i10 := ix_n (a := 10) (i := i) (by omega)
  rw [show nI 8 = (8 : Int32) from rfl] at i8
  rw [show nI 10 = (10 : Int32) from rfl] at i10
  have e8 : m.1 38 (8 + i) = sk i := by rw [← c7 i hi, Nat.zero_add]
  have e10 : m.1 38 (10 + i) = sn i := by rw [← c8 i hi, Nat.zero_add]
  rw [Mo_noon_L174, if_neg (show ¬ (2 : Int32) ≤ nI i from nI_ge (b := 2) hi (by decide)), if_pos i10.1, i10.2, e10, if_pos i8.1, i8.2, e8]
  have core : ∀ s : Int32, s = sgo tr sk sn i → ∃ m', Mo_noon_B225 (Mo_noon_L174 k n) m (nI i) s ((8 : Int32) + nI i) = Mo_noon_L174 k n m' (nI (i + 1)) ∧ MEqS m m' ∧ ScM m' 0 (dy, he, aw, ca || (!aw && decide (sgo tr sk sn i = nI he)), rd, tk, (fun j => if j = i then sgo tr sk sn i else sk j), (fun j => if j = i then -1 else sn j), rmv my (sgo tr sk sn i), wy, lt) := by
    intro s hs
    rw [← hs] at h4 ⊢
    unfold Mo_noon_B225
    rw [if_pos i8.1, if_pos i10.1, i8.2, i10.2]
    obtain ⟨w, hw⟩ : ∃ w, w = sI (sI m 38 (8 + i) s) 38 (10 + i) (-1) := ⟨_, rfl⟩
    rw [← hw]
    have wo : ∀ q, q ≠ 8 + i → q ≠ 10 + i → w.1 38 q = m.1 38 q := fun q h1 h2 => by rw [hw, sI_nk h2, sI_nk h1]
    have w8 : w.1 38 (8 + i) = s := by rw [hw, sI_nk (by omega), sI_at]
    have w10 : w.1 38 (10 + i) = -1 := by rw [hw, sI_at]
    have w2 : w.1 38 2 = bi aw := by rw [wo 2 (by omega) (by omega)]; exact c3
    have w1 : w.1 38 1 = nI he := by rw [wo 1 (by omega) (by omega)]; exact c2
    have w3 : w.1 38 3 = bi ca := by rw [wo 3 (by omega) (by omega)]; exact c4
    have hmw : MEqS m w := by rw [hw]; exact (ms_sI m _ (by omega)).tr (ms_sI _ _ (by omega))
    rw [w2, w8, w1, w3]
    have last : ∀ c : Bool, ∃ m', Mo_noon_B278 (Mo_noon_L174 k n) w (nI i) (bi c) 3 = Mo_noon_L174 k n m' (nI (i + 1)) ∧ MEqS m m' ∧ ScM m' 0 (dy, he, aw, c, rd, tk, (fun j => if j = i then s else sk j), (fun j => if j = i then -1 else sn j), rmv my s, wy, lt) := by
      intro c
      unfold Mo_noon_B278
      have v8 : (sI w 38 3 (bi c)).1 38 (8 + i) = s := by rw [sI_nk (by omega)]; exact w8
      have v12 : (sI w 38 3 (bi c)).1 38 12 = nI my := by rw [sI_nk (by decide), wo 12 (by omega) (by omega)]; exact c9
      rw [if_pos (by decide), if_pos i8.1, show (3 : Int32).toNatClampNeg = 3 from by decide, i8.2, v8, v12, nI_1]
      have fin : ∀ v : Nat, v = rmv my s → ∃ m', Mo_noon_L174 k n (sI (sI w 38 3 (bi c)) 38 12 (nI v)) (nI (i + 1)) = Mo_noon_L174 k n m' (nI (i + 1)) ∧ MEqS m m' ∧ ScM m' 0 (dy, he, aw, c, rd, tk, (fun j => if j = i then s else sk j), (fun j => if j = i then -1 else sn j), rmv my s, wy, lt) := by
        intro v hv
        refine ⟨_, rfl, hmw.tr ((ms_sI w _ (by decide)).tr (ms_sI _ _ (by decide))), ?_⟩
        have uo : ∀ q, q ≠ 12 → q ≠ 3 → (sI (sI w 38 3 (bi c)) 38 12 (nI v)).1 38 q = w.1 38 q := fun q h1 h2 => by rw [sI_nk h1, sI_nk h2]
        have um : ∀ q, q ≠ 12 → q ≠ 3 → q ≠ 8 + i → q ≠ 10 + i → (sI (sI w 38 3 (bi c)) 38 12 (nI v)).1 38 q = m.1 38 q := fun q h1 h2 h3 h4 => by rw [uo q h1 h2, wo q h3 h4]
        refine ⟨by rw [um _ (by omega) (by omega) (by omega) (by omega)]; exact c1, by rw [um _ (by omega) (by omega) (by omega) (by omega)]; exact c2, by rw [um _ (by omega) (by omega) (by omega) (by omega)]; exact c3, by rw [show 0 + 3 = 3 from rfl, sI_nk (by decide), sI_at], by rw [um _ (by omega) (by omega) (by omega) (by omega)]; exact c5, fun q hq => by rw [um _ (by omega) (by omega) (by omega) (by omega)]; exact c6 q hq, fun q hq => ?_, fun q hq => ?_, by rw [show 0 + 12 = 12 from rfl, sI_at, hv], by rw [um _ (by omega) (by omega) (by omega) (by omega)]; exact c10, by rw [um _ (by omega) (by omega) (by omega) (by omega)]; exact c11⟩
        · by_cases hqi : q = i
          · dsimp only; rw [if_pos hqi, hqi, Nat.zero_add, uo _ (by omega) (by omega)]; exact w8
          · dsimp only; rw [if_neg hqi, um _ (by omega) (by omega) (by omega) (by omega)]; exact c7 q hq
        · by_cases hqi : q = i
          · dsimp only; rw [if_pos hqi, hqi, Nat.zero_add, uo _ (by omega) (by omega)]; exact w10
          · dsimp only; rw [if_neg hqi, um _ (by omega) (by omega) (by omega) (by omega)]; exact c8 q hq
      by_cases hs1 : s = -1
      · rw [if_pos hs1, and_m1]
        exact fin my (by unfold rmv; rw [if_pos hs1])
      · rw [if_neg hs1, if_pos i8.1, rmv_nI my h4 (by omega) hs1]
        exact fin _ rfl
    cases aw with
    | true =>
      rw [bi_t, if_neg one_ne]
      have := last ca
      simpa using this
    | false =>
      rw [bi_f, if_pos rfl, if_pos i8.1]
      by_cases hm : s = nI he
      · rw [if_pos hm, decide_eq_true hm]
        have := last true
        rw [bi_t] at this
        simpa using this
      · rw [if_neg hm, decide_eq_false hm]
        have := last ca
        simpa using this
  unfold sgo at core
  by_cases hsn : sn i = -1
  · rw [if_pos hsn]
    exact core (sk i) (by rw [if_pos hsn])
  · rw [if_neg hsn]
    obtain ⟨t, ht, et⟩ := h5.resolve_left hsn
    rw [et, if_pos (mo_1 h hT ht).1, (mo_1 h hT ht).2]
    exact core (nI (tr t 1)) (by rw [if_neg hsn, et, nI_clamp (by omega)])
theorem sgo_upd (sk sn : Nat → Int32) : sgo tr (fun j => if j = 0 then sgo tr sk sn 0 else sk j) (fun j => if j = 0 then -1 else sn j) 1 = sgo tr sk sn 1 := by
  unfold sgo
  rfl
/-- the reference, behind the rides -/
theorem mo_late {m : Wd} {sh : Nat} {z : Sc} (h : TM m T tr) (hT : TOK S T tr) (hsh : m.1 37 11 = nI sh) (h1 : 1 ≤ sh) (h9 : sh ≤ 9) (hz : ScM m 0 z) (hca : z.2.2.2.1 = false) (hrd : z.2.2.2.2.1 = -1) (hhe : z.2.1 < S) (h4 : ∀ i, i < 2 → z.2.2.2.2.2.2.1 i = -1 ∨ ∃ s, s < S ∧ z.2.2.2.2.2.2.1 i = nI s) (h5 : ∀ i, i < 2 → z.2.2.2.2.2.2.2.1 i = -1 ∨ ∃ t, t < T ∧ z.2.2.2.2.2.2.2.1 i = nI t) : ∃ m', Mo_noon_L174 Mo_noon_B325 FU m 0 = some (bi (zF tr sh z).2.2.2.1, m') ∧ MEqS m m' ∧ ScM m' 0 (zF tr sh z) := by
  obtain ⟨dy, he, aw, ca, rd, tk, sk, sn, my, wy, lt⟩ := z
  dsimp only at hca hrd hhe h4 h5
  subst hca hrd
  have h7 := hT.2.1
  have g0 := sgo_ok hT h4 h5 (i := 0) (by decide)
  have g1 := sgo_ok hT h4 h5 (i := 1) (by decide)
  obtain ⟨m1, a1, a2, a3⟩ := mo_step h hT hz (i := 0) (by decide) g0 (h5 0 (by decide)) Mo_noon_B325 1999
  dsimp only at a3
  obtain ⟨m2, b1, b2, b3⟩ := mo_step (h.eq a2) hT a3 (i := 1) (by decide) (by rw [sgo_upd]; exact g1) (h5 1 (by decide)) Mo_noon_B325 1998
  dsimp only at b3
  rw [sgo_upd] at b3
  have run : Mo_noon_L174 Mo_noon_B325 FU m 0 = Mo_noon_B325 m2 := by
    have e : Mo_noon_L174 Mo_noon_B325 FU m 0 = Mo_noon_L174 Mo_noon_B325 1998 m2 (nI (1 + 1)) := a1.trans b1
    rw [e, show 1998 = 1997 + 1 from rfl, Mo_noon_L174, if_pos (by decide)]
  rw [run]
  obtain ⟨c1, c2, c3, c4, c5, c6, c7, c8, c9, c10, c11⟩ := b3
  have hm2 := a2.tr b2
  have hca : (false || (!aw && decide (sgo tr sk sn 0 = nI he)) || (!aw && decide (sgo tr sk sn 1 = nI he))) = met (sgo tr sk sn) he aw := by
    unfold met
    cases aw <;> cases decide (sgo tr sk sn 0 = nI he) <;> cases decide (sgo tr sk sn 1 = nI he) <;> rfl
  rw [hca] at c4
  unfold Mo_noon_B325
  have d0 : m2.1 38 0 = dy := c1
  rw [d0]
  obtain ⟨w, hw⟩ : ∃ w, w = sI m2 38 0 (dy + 1) := ⟨_, rfl⟩
  rw [← hw]
  have wo : ∀ q, q ≠ 0 → w.1 38 q = m2.1 38 q := fun q hq => by rw [hw, sI_nk hq]
  have w0 : w.1 38 0 = dy + 1 := by rw [hw, sI_at]
  have w3 : w.1 38 3 = bi (met (sgo tr sk sn) he aw) := by rw [wo 3 (by decide)]; exact c4
  have w11 : w.1 37 11 = nI sh := by
    rw [hw, sI_ne (by decide)]
    have := hm2.2.2.2.2.1
    rw [this]; exact hsh
  have w2 : w.1 38 2 = bi aw := by rw [wo 2 (by decide)]; exact c3
  have w1 : w.1 38 1 = nI he := by rw [wo 1 (by decide)]; exact c2
  have hmw : MEqS m w := by rw [hw]; exact hm2.tr (ms_sI _ _ (by decide))
  rw [w3, w11, w0, if_pos (nI_ne0 h1 (by omega))]
  have cs : ∀ j, j < 2 → w.1 38 (0 + 8 + j) = sgo tr sk sn j := by
    intro j hj
    rw [wo _ (by omega), c7 j hj]
    match j, hj with
    | 0, _ => rfl
    | 1, _ => rfl
  have cn : ∀ j, j < 2 → w.1 38 (0 + 10 + j) = -1 := by
    intro j hj
    rw [wo _ (by omega), c8 j hj]
    match j, hj with
    | 0, _ => rfl
    | 1, _ => rfl
  have big : ∃ m', Mo_noon_B359 w = some (bi (met (sgo tr sk sn) he aw), m') ∧ MEqS m m' ∧ ScM m' 0 (dy + 1, he, aw, met (sgo tr sk sn) he aw, -1, tk, sgo tr sk sn, fun _ => -1, (if aw then 0 else 2 ^ he), (if aw then 2 ^ he else 0), lt) := by
    unfold Mo_noon_B359 Mo_noon_B387
    rw [if_pos (by decide), show (12 : Int32).toNatClampNeg = 12 from by decide, w2, w1, shl1_nI (by omega)]
    have e2 : ∀ v, (sI w 38 12 v).1 38 2 = bi aw := fun v => w2
    have e1 : ∀ v, (sI w 38 12 v).1 38 1 = nI he := fun v => w1
    rw [e2, e1, shl1_nI (by omega)]
    have fin : ∀ (u v : Nat) (m' : Wd), m' = sI (sI w 38 12 (nI u)) 38 13 (nI v) → m'.1 38 3 = bi (met (sgo tr sk sn) he aw) ∧ MEqS m m' ∧ ScM m' 0 (dy + 1, he, aw, met (sgo tr sk sn) he aw, -1, tk, sgo tr sk sn, fun _ => -1, u, v, lt) := by
      intro u v m' hm'
      have uo : ∀ q, q ≠ 12 → q ≠ 13 → m'.1 38 q = w.1 38 q := fun q a b => by rw [hm', sI_nk b, sI_nk a]
      refine ⟨by rw [uo 3 (by decide) (by decide)]; exact w3, hmw.tr (by rw [hm']; exact (ms_sI w _ (by decide)).tr (ms_sI _ _ (by decide))), by rw [uo _ (by omega) (by omega)]; exact w0, by rw [uo _ (by omega) (by omega)]; exact w1, by rw [uo _ (by omega) (by omega)]; exact w2, by rw [uo _ (by omega) (by omega)]; exact w3, by rw [uo _ (by omega) (by omega), wo _ (by omega)]; exact c5, fun k hk => by rw [uo _ (by omega) (by omega), wo _ (by omega)]; exact c6 k hk, fun k hk => by rw [uo _ (by omega) (by omega)]; exact cs k hk, fun k hk => by rw [uo _ (by omega) (by omega)]; exact cn k hk, by rw [hm', show 0 + 12 = 12 from rfl, sI_nk (by decide), sI_at], by rw [hm', show 0 + 13 = 13 from rfl, sI_at], by rw [uo _ (by omega) (by omega), wo _ (by omega)]; exact c11⟩
    cases aw with
    | true =>
      rw [bi_t, if_pos rfl, if_pos rfl]
      obtain ⟨f1, f2, f3⟩ := fin 0 (2 ^ he) _ rfl
      refine ⟨_, by rw [show (0 : Int32) = nI 0 from rfl, f1], f2, f3⟩
    | false =>
      rw [bi_f, if_neg (show ¬ (0 : Int32) = 1 by decide), if_neg (show ¬ (0 : Int32) = 1 by decide)]
      obtain ⟨f1, f2, f3⟩ := fin (2 ^ he) 0 _ rfl
      refine ⟨_, by rw [show (0 : Int32) = nI 0 from rfl, f1], f2, f3⟩
  unfold zF
  dsimp only
  cases hc : met (sgo tr sk sn) he aw with
  | true =>
    rw [hc] at big
    rw [bi_t, if_pos rfl, Bool.true_or]
    exact big
  | false =>
    rw [hc] at big w3
    rw [bi_f, if_neg (show ¬ (0 : Int32) = 1 by decide), Bool.false_or]
    by_cases hs : (dy + 1) - (dy + 1) / nI sh * nI sh = 0
    · rw [if_pos hs, show shw sh (dy + 1) = true from decide_eq_true hs]
      exact big
    · rw [if_neg hs, show shw sh (dy + 1) = false from decide_eq_false hs]
      refine ⟨w, rfl, hmw, w0, w1, w2, w3, by rw [wo _ (by omega)]; exact c5, fun k hk => by rw [wo _ (by omega)]; exact c6 k hk, cs, cn, by rw [wo _ (by omega)]; exact c9, by rw [wo _ (by omega)]; exact c10, by rw [wo _ (by omega)]; exact c11⟩
/-- the reference, his ride -/
theorem mo_ahead {m : Wd} {z : Sc} (h : TM m T tr) (hT : TOK S T tr) (hS : m.1 37 6 = nI S) (hz : ScM m 0 z) (hO : ScOK S T tr z) : ∃ m', Mo_noon_B31 m = Mo_noon_L174 Mo_noon_B325 FU m' 0 ∧ MEqS m m' ∧ ScM m' 0 (match zA T tr z with
      | (dy, he, aw, ca, _, tk, sk, sn, my, wy, lt) => (dy, he, aw, ca, -1, tk, sk, sn, my, wy, lt)) := by
  obtain ⟨m1, n1, n2⟩ := mo_next h hT hS hz hO
  have hz1 := hz.eq n2.2.2.2.2.2.2.1
  obtain ⟨dy, he, aw, ca, rd, tk, sk, sn, my, wy, lt⟩ := z
  dsimp only at n1
  obtain ⟨o1, o2, o3, o4, o5, o6, o7, o8, o9⟩ := hO
  have h7 := hT.2.1
  have h12 := hT.2.2.1
  have h31 : my < 2 ^ 31 := Nat.lt_of_lt_of_le o6 (Nat.pow_le_pow_right (by decide) (by omega))
  unfold Mo_noon_B31
  rw [n1, Option.bind_some]
  dsimp only
  generalize hnx : nxX T tr tk my wy dy = nx
  obtain ⟨w, hw⟩ : ∃ w, w = sI m1 38 14 (nI nx) := ⟨_, rfl⟩
  rw [← hw]
  have hmw : MEqS m w := by rw [hw]; exact n2.S.tr (ms_sI _ _ (by decide))
  have hzw : ScM w 0 (dy, he, aw, ca, rd, tk, sk, sn, my, wy, nx) := by
    obtain ⟨c1, c2, c3, c4, c5, c6, c7, c8, c9, c10, c11⟩ := hz1
    rw [hw]
    exact ⟨c1, c2, c3, c4, c5, fun k hk => by rw [sI_nk (by omega)]; exact c6 k hk, fun k hk => by rw [sI_nk (by omega)]; exact c7 k hk, fun k hk => by rw [sI_nk (by omega)]; exact c8 k hk, c9, c10, rfl⟩
  have hTw := h.eq hmw
  have hkw := hzw.km rfl
  have hSw : w.1 37 6 = nI S := by rw [hmw.2.1]; exact hS
  obtain ⟨c1, c2, c3, c4, c5, c6, c7, c8, c9, c10, c11⟩ := hzw
  have w7 : w.1 38 7 = rd := c5
  have w0 : w.1 38 0 = dy := c1
  unfold zA
  dsimp only
  rw [hnx, w7]
  by_cases hr : rd = -1
  · rw [if_pos hr, if_pos hr]
    obtain ⟨v, f1, f2, f3, f4⟩ := mo_none hTw hT hkw o2 hSw h31 c9 c10
    have vr : v.1 38 = w.1 38 := f2.2.2.2.2.2.2.1
    rw [f1, Option.bind_some]
    unfold Mo_noon_B142
    have e18 : (sI (sI v 38 2 0) 38 7 (-1)).1 37 18 = nI (stk T tr my dy (kl tk) ||| wy) := by
      show v.1 37 18 = _
      rw [f3, w0, sty_eq hT o6]
    have e19 : ∀ u, (sI (sI (sI v 38 2 0) 38 7 (-1)) 38 12 u).1 37 19 = nI 0 := fun u => f4
    rw [e18, e19]
    refine ⟨_, rfl, hmw.tr (f2.S.tr (((ms_sI v _ (by decide)).tr (ms_sI _ _ (by decide))).tr ((ms_sI _ _ (by decide)).tr (ms_sI _ _ (by decide))))), ?_⟩
    have uo : ∀ q, q ≠ 2 → q ≠ 7 → q ≠ 12 → q ≠ 13 → (sI (sI (sI (sI v 38 2 0) 38 7 (-1)) 38 12 (nI (stk T tr my dy (kl tk) ||| wy))) 38 13 (nI 0)).1 38 q = w.1 38 q := fun q a b c d => by rw [sI_nk d, sI_nk c, sI_nk b, sI_nk a, vr]
    exact ⟨by rw [uo _ (by omega) (by omega) (by omega) (by omega)]; exact c1, by rw [uo _ (by omega) (by omega) (by omega) (by omega)]; exact c2, rfl, by rw [uo _ (by omega) (by omega) (by omega) (by omega)]; exact c4, rfl, fun k hk => by rw [uo _ (by omega) (by omega) (by omega) (by omega)]; exact c6 k hk, fun k hk => by rw [uo _ (by omega) (by omega) (by omega) (by omega)]; exact c7 k hk, fun k hk => by rw [uo _ (by omega) (by omega) (by omega) (by omega)]; exact c8 k hk, rfl, rfl, by rw [uo _ (by omega) (by omega) (by omega) (by omega)]; exact c11⟩
  · rw [if_neg hr, if_neg hr]
    obtain ⟨t, ht, et, erid, eaw, eca⟩ := o3.resolve_left hr
    obtain ⟨a0, a1, -, -, -, a4, a5⟩ := hT.2.2.2 t ht
    have htk : 0 < tk (tr t 5) := by
      unfold rid at erid
      simp only [Bool.and_eq_true, decide_eq_true_eq] at erid
      exact erid.2
    have hk9 := o2 _ a5
    rw [et, nI_clamp (by omega), if_pos (mo_5 hTw hT ht).1, (mo_5 hTw hT ht).2]
    obtain ⟨v, f1, f2, f3, f4⟩ := mo_layBy hTw hT (kind := tr t 5) (my := my) (by omega) h31 c9
    have vr : v.1 38 = w.1 38 := f2.2.2.2.2.2.2.1
    have hTv := hTw.eq f2.S
    rw [w0] at f3 f4
    rw [f1, Option.bind_some, if_pos (mo_1 hTw hT ht).1, if_pos (mo_4 hTw hT ht).1, (mo_1 hTv hT ht).2]
    have g4 : ∀ u, (sI v 38 1 u).1 42 = v.1 42 := fun u => rfl
    have g5 : ∀ u u', (sI (sI v 38 1 u) 38 2 u').1 42 = v.1 42 := fun u u' => rfl
    rw [g4, (mo_4 hTv hT ht).2, g5, (mo_5 hTv hT ht).2]
    have h4m1 : nI (tr t 4) - 1 = bi (decide (tr t 4 = 2)) := by rcases a4 with e | e <;> rw [e] <;> decide
    rw [h4m1]
    obtain ⟨y, hy⟩ : ∃ y, y = sI (sI v 38 1 (nI (tr t 1))) 38 2 (bi (decide (tr t 4 = 2))) := ⟨_, rfl⟩
    rw [← hy]
    have hky : KM y tk := fun k hk => by rw [hy, sI_nk (by omega), sI_nk (by omega), vr]; exact hkw k hk
    have hsub : nI (tk (tr t 5)) - 1 = nI (tk (tr t 5) - 1) := by
      obtain ⟨q, hq⟩ : ∃ q, tk (tr t 5) = q + 1 := ⟨tk (tr t 5) - 1, by omega⟩
      rw [hq, nI_pred]; rfl
    have ix : ((4 : Int32) + nI (tr t 5)).toNatClampNeg = 4 + tr t 5 := (ix_n (a := 4) (i := tr t 5) (by omega)).2
    rw [if_pos (km_at hky a5).1, (km_at hky a5).2, hsub, ix]
    obtain ⟨u, hu⟩ : ∃ u, u = sI y 38 (4 + tr t 5) (nI (tk (tr t 5) - 1)) := ⟨_, rfl⟩
    rw [← hu]
    unfold Mo_noon_B142
    have e18 : (sI u 38 7 (-1)).1 37 18 = nI (lay T tr my dy (tr t 5) 1) := by rw [hu, hy]; exact f3
    have e19 : ∀ r, (sI (sI u 38 7 (-1)) 38 12 r).1 37 19 = nI (lay T tr my dy (tr t 5) 2) := fun r => by rw [hu, hy]; exact f4
    rw [e18, e19, if_pos (mo_5 hTw hT ht).1, if_pos (km_at hky a5).1]
    have hvu : MEqS v u := by rw [hu, hy]; exact ((ms_sI v _ (by decide)).tr (ms_sI _ _ (by decide))).tr (ms_sI _ _ (by omega))
    refine ⟨_, rfl, hmw.tr (f2.S.tr (hvu.tr (((ms_sI u _ (by decide)).tr (ms_sI _ _ (by decide))).tr (ms_sI _ _ (by decide))))), ?_⟩
    have uo : ∀ q, q ≠ 1 → q ≠ 2 → q ≠ 4 + tr t 5 → u.1 38 q = w.1 38 q := fun q a b c => by rw [hu, hy, sI_nk c, sI_nk b, sI_nk a, vr]
    have xo : ∀ q, q ≠ 7 → q ≠ 12 → q ≠ 13 → (sI (sI (sI u 38 7 (-1)) 38 12 (nI (lay T tr my dy (tr t 5) 1))) 38 13 (nI (lay T tr my dy (tr t 5) 2))).1 38 q = u.1 38 q := fun q a b c => by rw [sI_nk c, sI_nk b, sI_nk a]
    have u1 : u.1 38 1 = nI (tr t 1) := by rw [hu, hy, sI_nk (by omega), sI_nk (by decide), sI_at]
    have u2 : u.1 38 2 = bi (decide (tr t 4 = 2)) := by rw [hu, hy, sI_nk (by omega), sI_at]
    refine ⟨by rw [xo _ (by omega) (by omega) (by omega), uo _ (by omega) (by omega) (by omega)]; exact c1, by rw [xo _ (by omega) (by omega) (by omega)]; exact u1, by rw [xo _ (by omega) (by omega) (by omega)]; exact u2, by rw [xo _ (by omega) (by omega) (by omega), uo _ (by omega) (by omega) (by omega)]; exact c4, rfl, fun k hk => ?_, fun k hk => by rw [xo _ (by omega) (by omega) (by omega), uo _ (by omega) (by omega) (by omega)]; exact c7 k hk, fun k hk => by rw [xo _ (by omega) (by omega) (by omega), uo _ (by omega) (by omega) (by omega)]; exact c8 k hk, rfl, rfl, by rw [xo _ (by omega) (by omega) (by omega), uo _ (by omega) (by omega) (by omega)]; exact c11⟩
    rw [xo _ (by omega) (by omega) (by omega)]
    by_cases hkk : k = tr t 5
    · dsimp only; rw [if_pos hkk, hkk, hu, Nat.zero_add, sI_at]
    · dsimp only; rw [if_neg hkk, uo _ (by omega) (by omega) (by omega)]; exact c6 k hk
theorem zF_ca (sh : Nat) (z : Sc) (r : Int32) : zF tr sh (match z with | (dy, he, aw, ca, _, tk, sk, sn, my, wy, lt) => (dy, he, aw, ca, r, tk, sk, sn, my, wy, lt)) = zF tr sh z := by
  obtain ⟨dy, he, aw, ca, rd, tk, sk, sn, my, wy, lt⟩ := z
  rfl
theorem zA_ok {z : Sc} (hT : TOK S T tr) (hO : ScOK S T tr z) (hca : z.2.2.2.1 = false) {sh : Nat} : ScOK S T tr (zF tr sh (zA T tr z)) ∧ (zA T tr z).2.1 < S ∧ (zA T tr z).2.2.2.1 = false ∧ (zA T tr z).2.2.2.2.2.2.1 = z.2.2.2.2.2.2.1 ∧ (zA T tr z).2.2.2.2.2.2.2.1 = z.2.2.2.2.2.2.2.1 := by
  obtain ⟨dy, he, aw, ca, rd, tk, sk, sn, my, wy, lt⟩ := z
  dsimp only at hca
  subst hca
  obtain ⟨o1, o2, o3, o4, o5, o6, o7, o8, o9⟩ := hO
  have h12 := hT.2.2.1
  have gen : ∀ (he1 : Nat) (aw1 : Bool) (tk1 : Nat → Nat) (my1 wy1 : Nat) (rd1 : Int32), he1 < S → (∀ k, k < 3 → tk1 k ≤ 9) → my1 < 2 ^ S → wy1 < 2 ^ S → ScOK S T tr (zF tr sh (dy, he1, aw1, false, rd1, tk1, sk, sn, my1, wy1, nxX T tr tk my wy dy)) := by
    intro he1 aw1 tk1 my1 wy1 rd1 g1 g2 g3 g4
    have hp : 2 ^ he1 < 2 ^ S := Nat.pow_lt_pow_right (by decide) g1
    refine ⟨g1, g2, Or.inl rfl, fun i hi => sgo_ok hT o4 o5 hi, fun i hi => Or.inl rfl, ?_, ?_, nx_lt hT o6 o7, ?_⟩
    · split
      · split
        · exact Nat.two_pow_pos S
        · exact hp
      · exact Nat.lt_of_le_of_lt (rmv_le _ _) (Nat.lt_of_le_of_lt (rmv_le _ _) g3)
    · split
      · split
        · exact hp
        · exact Nat.two_pow_pos S
      · exact g4
    · intro hm
      unfold met at hm
      simp only [Bool.and_eq_true, Bool.or_eq_true_iff, decide_eq_true_eq, Bool.not_eq_true'] at hm
      exact hm
  unfold zA
  dsimp only
  by_cases hr : rd = -1
  · rw [if_pos hr]
    exact ⟨gen he false tk _ 0 rd o1 o2 (Nat.or_lt_two_pow (Nat.lt_of_le_of_lt (stk_le _ _ _) o6) o7) (Nat.two_pow_pos S), o1, rfl, rfl, rfl⟩
  · rw [if_neg hr]
    obtain ⟨t, ht, et, -⟩ := o3.resolve_left hr
    rw [et, nI_clamp (by omega)]
    have b1 := (hT.2.2.2 t ht).2.1
    refine ⟨gen (tr t 1) _ _ _ _ _ b1 (fun k hk => ?_) (by rw [lay_rch]; exact rch_lt hT _ _ _ _) (by rw [lay_rch]; exact rch_lt hT _ _ _ _), b1, rfl, rfl, rfl⟩
    have := o2 k hk
    split
    · omega
    · omega
theorem r_noon {x m : Wd} (h : Rel x m) : ∃ r x' m', Nt_noon x = some (r, x') ∧ Mo_noon m = some (r, m') ∧ Rel x' m' := by
  have h0 := h
  obtain ⟨S, T, s0, sh, tr, tk, sk, tn, tx, ln, lg, kb, z, hT, hL, hTx, hLg, hK, hZ, hZ', hO⟩ := h
  have h12 := hT.2.2.1
  have hr := sc_rideable hL.1 hT hZ hO
  have hr' := mo_his hL.2.1 hT hZ' hO
  have c4 : x.1 13 4 = bi z.2.2.2.1 := by obtain ⟨dy, he, aw, ca, rd, tk', sk', sn, my, wy, lt⟩ := z; exact hZ.2.2.2.1
  have c5 : x.1 13 5 = z.2.2.2.2.1 := by obtain ⟨dy, he, aw, ca, rd, tk', sk', sn, my, wy, lt⟩ := z; exact hZ.2.2.2.2.1
  have d4 : m.1 38 3 = bi z.2.2.2.1 := by obtain ⟨dy, he, aw, ca, rd, tk', sk', sn, my, wy, lt⟩ := z; exact hZ'.2.2.2.1
  have d5 : m.1 38 7 = z.2.2.2.2.1 := by obtain ⟨dy, he, aw, ca, rd, tk', sk', sn, my, wy, lt⟩ := z; exact hZ'.2.2.2.2.1
  unfold Nt_noon Mo_noon
  rw [c4, c5, d4, d5, hr, hr', Option.bind_some, Option.bind_some]
  have core : z.2.2.2.1 = false → ∃ r x' m', Nt_noon_B34 x = some (r, x') ∧ Mo_noon_B31 m = some (r, m') ∧ Rel x' m' := by
    intro hca
    obtain ⟨k1, k2, k3, k4, k5⟩ := zA_ok hT hO hca (sh := sh)
    obtain ⟨x1, a1, a2, a3⟩ := sc_ahead hL.1 hT hZ hO
    obtain ⟨m1, b1, b2, b3⟩ := mo_ahead hL.2.1 hT hL.2.2.2.1 hZ' hO
    have q4 : ∀ i, i < 2 → z.2.2.2.2.2.2.1 i = -1 ∨ ∃ s, s < S ∧ z.2.2.2.2.2.2.1 i = nI s := by obtain ⟨dy, he, aw, ca, rd, tk', sk', sn, my, wy, lt⟩ := z; exact hO.2.2.2.1
    have q5 : ∀ i, i < 2 → z.2.2.2.2.2.2.2.1 i = -1 ∨ ∃ t, t < T ∧ z.2.2.2.2.2.2.2.1 i = nI t := by obtain ⟨dy, he, aw, ca, rd, tk', sk', sn, my, wy, lt⟩ := z; exact hO.2.2.2.2.1
    obtain ⟨l1, l2, l3, l4, l5, l6, l7, l8, l9, l10, l11, l12, l13⟩ := id hL
    obtain ⟨x2, e1, e2, e3⟩ := sc_late (hL.1.eq a2) hT (sh := sh) (by rw [a2.2.2.2.1 3 (by decide)]; exact l7) l12 l13 a3 k2 (by rw [k4]; exact q4) (by rw [k5]; exact q5)
    have hb3 : ∃ m2, Mo_noon_L174 Mo_noon_B325 FU m1 0 = some (bi (zF tr sh (zA T tr z)).2.2.2.1, m2) ∧ MEqS m1 m2 ∧ ScM m2 0 (zF tr sh (zA T tr z)) := by
      have b3' := b3
      have key := fun (zz : Sc) (hh : zz = zA T tr z) => zF_ca (tr := tr) sh zz (-1)
      revert b3' k2 k3 k4 k5
      generalize zA T tr z = zz
      intro k2 k3 k4 k5 b3'
      obtain ⟨dy, he, aw, ca, rd, tk', sk', sn, my, wy, lt⟩ := zz
      dsimp only at k2 k3 k4 k5 b3' ⊢
      exact mo_late (z := (dy, he, aw, ca, -1, tk', sk', sn, my, wy, lt)) (hL.2.1.eq b2) hT (by rw [b2.2.2.2.2.1]; exact l8) l12 l13 b3' k3 rfl k2 (by dsimp only; rw [k4]; exact q4) (by dsimp only; rw [k5]; exact q5)
    obtain ⟨m2, f1, f2, f3⟩ := hb3
    unfold Nt_noon_B34
    rw [a1, e1, Option.bind_some, b1, f1]
    have hx := a2.tr e2
    have hm := b2.tr f2
    have hR : Rel x2 m2 := ⟨S, T, s0, sh, tr, tk, sk, tn, tx, ln, lg, kb, zF tr sh (zA T tr z), hT, hL.eq hx hm, hTx.eq hx hm, hLg.eq hx hm, hK.eq hx hm, e3, f3, k1⟩
    have g4 : x2.1 13 4 = bi (zF tr sh (zA T tr z)).2.2.2.1 := by
      revert e3
      generalize zF tr sh (zA T tr z) = zz
      obtain ⟨dy, he, aw, ca, rd, tk', sk', sn, my, wy, lt⟩ := zz
      exact fun e3 => e3.2.2.2.1
    rw [g4]
    cases (zF tr sh (zA T tr z)).2.2.2.1 with
    | false => rw [bi_f, if_pos rfl]; exact ⟨_, _, _, rfl, rfl, hR⟩
    | true => rw [bi_t, if_neg one_ne]; exact ⟨_, _, _, rfl, rfl, hR⟩
  cases hca : z.2.2.2.1 with
  | true => rw [bi_t, if_neg one_ne, if_pos rfl]; exact ⟨_, _, _, rfl, rfl, h0⟩
  | false =>
    rw [bi_f, if_pos rfl, if_neg (show ¬ (0 : Int32) = 1 by decide)]
    by_cases hz : nI (his T tr z) = 0
    · rw [if_pos hz, if_pos hz]
      by_cases hrd : z.2.2.2.2.1 = -1
      · rw [if_pos hrd]; exact core hca
      · rw [if_neg hrd]; exact core hca
    · rw [if_neg hz, if_neg hz]
      by_cases hrd : z.2.2.2.2.1 = -1
      · rw [if_pos hrd, if_pos hrd]; exact ⟨_, _, _, rfl, rfl, h0⟩
      · rw [if_neg hrd, if_neg hrd]; exact core hca
end NoonM
