/-! Kinds left, what he can ride; the calls that ask little -/
section KX
variable {x m : Wd} {S T : Nat} {tr : Tr}
def kl (tk : Nat → Nat) : Nat := oR (fun k => decide (0 < tk k)) id 3 0 0
theorem kl_bit (tk : Nat → Nat) {k : Nat} (hk : k < 3) : (kl tk).testBit k = decide (0 < tk k) := by
  have h := oR_bit (P := fun k => decide (0 < tk k)) (f := id) k 3 0 0
  rw [Bool.eq_iff_iff]
  unfold kl
  rw [h]
  constructor
  · rintro (h | ⟨t, h1, h2, h3, h4⟩)
    · simp at h
    · have : t = k := h4
      subst this; exact h3
  · intro h
    exact Or.inr ⟨k, by omega, by omega, h, rfl⟩
theorem kl_lt (tk : Nat → Nat) : kl tk < 2 ^ 3 := oR_lt 3 0 0 (fun t _ h _ => by show t < 3; omega) (by decide)
theorem sc_kinds_L {tk : Nat → Nat} (hk : ∀ k, k < 3 → x.1 14 k = nI (tk k)) (h9 : ∀ k, k < 3 → tk k ≤ 9) (k : Int32 → Option Int32) : ∀ (d j n acc : Nat), j + d = 3 → d < n → Sc_kindsLeft_L4 x k n (nI acc) (nI j) = k (nI (oR (fun k => decide (0 < tk k)) id d j acc)) := by
  intro d
  induction d with
  | zero =>
    intro j n acc hj hn
    obtain ⟨n, rfl⟩ : ∃ q, n = q + 1 := ⟨n - 1, by omega⟩
    rw [Sc_kindsLeft_L4, if_pos (show (3 : Int32) ≤ nI j from nI_le (a := 3) (by omega) (by omega)), oR]
  | succ d ih =>
    intro j n acc hj hn
    obtain ⟨n, rfl⟩ : ∃ q, n = q + 1 := ⟨n - 1, by omega⟩
    have hj3 : j < 3 := by omega
    have h9j := h9 j hj3
    rw [Sc_kindsLeft_L4, if_neg (show ¬ (3 : Int32) ≤ nI j from nI_ge (b := 3) hj3 (by decide)), if_pos (ib_nI hj3 (by decide)), nI_clamp (by omega), hk j hj3, nI_1, oR]
    by_cases hz : 0 < tk j
    · rw [if_neg (nI_nle hz (by omega)), shl1_nI (by omega), fa_or, ih (j + 1) n _ (by omega) (by omega)]; simp [hz]
    · have : tk j = 0 := by omega
      rw [this, if_pos (show nI 0 ≤ 0 by decide), ih (j + 1) n _ (by omega) (by omega)]; simp
theorem sc_kinds {tk : Nat → Nat} (hk : ∀ k, k < 3 → x.1 14 k = nI (tk k)) (h9 : ∀ k, k < 3 → tk k ≤ 9) : Sc_kindsLeft x = some (nI (kl tk)) :=
  sc_kinds_L hk h9 _ 3 0 FU 0 rfl (by decide)
/-- trains that he can ride, by bits -/
def his (T : Nat) (tr : Tr) : Sc → Nat
  | (dy, he, aw, ca, _, tk, _, _, _, _, _) => if aw || ca then 0 else oR (rid tr tk he dy) id T 0 0
theorem sc_rideable {z : Sc} (h : TX x T tr) (hT : TOK S T tr) (hz : ScX x 13 z) (hO : ScOK S T tr z) : Sc_rideable x = some (nI (his T tr z)) := by
  obtain ⟨dy, he, aw, ca, rd, tk, sk, sn, my, wy, lt⟩ := z
  obtain ⟨z1, z2, z3, z4, z5, z6, -⟩ := hz
  obtain ⟨o1, o2, -⟩ := hO
  have h7 := hT.2.1
  unfold Sc_rideable his
  rw [z3, z4]
  cases aw with
  | true => rw [if_neg (by decide)]; rfl
  | false =>
    rw [bi_f, if_pos rfl]
    cases ca with
    | true => rw [if_neg (by decide)]; rfl
    | false =>
      rw [bi_f, if_pos rfl, sc_kinds z6 o2, Option.bind_some, z1, z2, la_rideable h hT (by omega) (Nat.lt_trans (kl_lt tk) (by decide)), Option.bind_some]
      congr 2
      refine oR_congr _ _ _ (fun t _ ht => ⟨?_, fun _ => rfl⟩)
      obtain ⟨-, -, -, -, -, -, e5⟩ := hT.2.2.2 t (by omega)
      rw [kl_bit tk e5]
      rfl
theorem ScM.km {z : Sc} {tk : Nat → Nat} (hz : ScM m 0 z) (ht : z.2.2.2.2.2.1 = tk) : KM m tk := by
  obtain ⟨dy, he, aw, ca, rd, tk', sk, sn, my, wy, lt⟩ := z
  obtain ⟨z1, z2, z3, z4, z5, z6, -⟩ := hz
  intro k hk
  have := z6 k hk
  rw [Nat.zero_add] at this
  rw [this, ← ht]
theorem mo_his {z : Sc} (h : TM m T tr) (hT : TOK S T tr) (hz : ScM m 0 z) (hO : ScOK S T tr z) : Mo_hisTrains m = some (nI (his T tr z)) := by
  have hkm := hz.km rfl
  obtain ⟨dy, he, aw, ca, rd, tk, sk, sn, my, wy, lt⟩ := z
  obtain ⟨z1, z2, z3, z4, z5, z6, -⟩ := hz
  obtain ⟨o1, o2, -⟩ := hO
  have h7 := hT.2.1
  unfold Mo_hisTrains his
  rw [show m.1 38 2 = bi aw from z3, show m.1 38 3 = bi ca from z4]
  cases aw with
  | true => rw [bi_t, if_pos rfl]; rfl
  | false =>
    rw [if_neg (by decide)]
    cases ca with
    | true => rw [bi_t, if_pos rfl]; rfl
    | false =>
      rw [if_neg (by decide), show m.1 38 1 = nI he from z2, mo_ridable h hT hkm (fun k hk => by have := o2 k hk; show tk k < _; omega) (by omega), Option.bind_some, show m.1 38 0 = dy from z1]
      rfl
theorem his_lt {z : Sc} (hT : TOK S T tr) : his T tr z < 2 ^ T := by
  obtain ⟨dy, he, aw, ca, rd, tk, sk, sn, my, wy, lt⟩ := z
  show (if (aw || ca) = true then 0 else oR (rid tr tk he dy) id T 0 0) < 2 ^ T
  by_cases h : (aw || ca) = true
  · rw [if_pos h]; exact Nat.two_pow_pos T
  · rw [if_neg h]; exact oR_lt _ _ _ (fun t _ h _ => by show t < T; omega) (Nat.two_pow_pos T)
theorem his_bit {z : Sc} {t : Nat} (ht : t < T) : (his T tr z).testBit t = true ↔ z.2.2.1 = false ∧ z.2.2.2.1 = false ∧ rid tr z.2.2.2.2.2.1 z.2.1 z.1 t = true := by
  obtain ⟨dy, he, aw, ca, rd, tk, sk, sn, my, wy, lt⟩ := z
  unfold his
  cases aw <;> cases ca <;> simp [oR_bit, ht]
end KX
theorem one_ne : ¬ (1 : Int32) = 0 := by decide
section Easy
variable {x m : Wd}
theorem r_train (h : Rel x m) (a b : Int32) : ∃ r, Nt_train x a b = some r ∧ Mo_train m a b = some r := by
  obtain ⟨S, T, s0, sh, tr, tk, sk, tn, tx, ln, lg, kb, z, hT, ⟨hX, hM, -⟩, -⟩ := h
  have h12 := hT.2.2.1
  unfold Nt_train Mo_train
  rcases tr_cases hX hM (by omega) a with ⟨e1, e2⟩ | ⟨e1, e2, t, ht, rfl⟩
  · rw [e1, e2]; exact ⟨_, rfl, rfl⟩
  · rw [e1, e2, if_neg one_ne, if_neg one_ne, show Mo_in m b.toInt64 (0 : Int64) (5 : Int64) = Nt_within x b 0 5 from mo_within x m b 0 5]
    rcases wi_cases x b (n := 5) (by decide) with e | ⟨e, k, hk, rfl⟩
    · rw [show Nt_within x b 0 5 = 0 from e]; exact ⟨_, rfl, rfl⟩
    · rw [show Nt_within x (nI k) 0 5 = 1 from e, if_neg one_ne, if_neg one_ne, la_part hX hT ht (by omega), Option.bind_some, if_pos (mo_at hM hT ht (k := k) (by omega)).1, (mo_at hM hT ht (k := k) (by omega)).2]
      exact ⟨_, rfl, rfl⟩
theorem r_runs (h : Rel x m) (a b : Int32) : ∃ r, Nt_runs x a b = some r ∧ Mo_runs m a b = some r := by
  obtain ⟨S, T, s0, sh, tr, tk, sk, tn, tx, ln, lg, kb, z, hT, ⟨hX, hM, hS, hS', -⟩, -⟩ := h
  have h12 := hT.2.2.1
  have h7 := hT.2.1
  unfold Nt_runs Mo_runs
  rcases st_cases hS hS' (by omega) a with ⟨e1, e2⟩ | ⟨e1, e2, s, hs, rfl⟩
  · rw [e1, e2]; exact ⟨_, rfl, rfl⟩
  · rw [e1, e2, if_neg one_ne, if_neg one_ne]
    by_cases h0 : 0 ≤ b
    · rw [if_pos h0, if_pos h0, show (7 : Int32) = nI 7 from rfl, la_rideable hX hT (by omega) (by decide), Option.bind_some, show (0 : Int32) = nI 0 from rfl, mo_runs_L hM hT (by omega) b _ T 0 FU 0 (by omega) (by unfold FU; omega)]
      refine ⟨_, rfl, ?_⟩
      unfold Mo_runs_B68
      congr 2
      refine oR_congr _ _ _ (fun t _ ht => ⟨?_, fun _ => rfl⟩)
      obtain ⟨-, -, -, -, -, -, e5⟩ := hT.2.2.2 t (by omega)
      have : Nat.testBit 7 (tr t 5) = true := by
        match tr t 5, e5 with
        | 0, _ => decide
        | 1, _ => decide
        | 2, _ => decide
      simp [this]
    · rw [if_neg h0, if_neg h0]; exact ⟨_, rfl, rfl⟩
theorem r_ride (h : Rel x m) (a : Int32) : ∃ r x' m', Nt_ride x a = some (r, x') ∧ Mo_ride m a = some (r, m') ∧ Rel x' m' := by
  have h0 := h
  obtain ⟨S, T, s0, sh, tr, tk, sk, tn, tx, ln, lg, kb, z, hT, hL, hTx, hLg, hK, hZ, hZ', hO⟩ := h
  obtain ⟨hX, hM, hLr⟩ := id hL
  have h12 := hT.2.2.1
  unfold Nt_ride Mo_ride
  rcases tr_cases hX hM (by omega) a with ⟨e1, e2⟩ | ⟨e1, e2, t, ht, rfl⟩
  · rw [e1, e2]; exact ⟨_, _, _, rfl, rfl, h0⟩
  · have hlt : his T tr z < 2 ^ 31 := Nat.lt_of_lt_of_le (his_lt (z := z) hT) (Nat.pow_le_pow_right (by decide) (by omega))
    rw [e1, e2, if_neg one_ne, if_neg one_ne, sc_rideable hX hT hZ hO, Option.bind_some, mo_his hM hT hZ' hO, Option.bind_some, bit_nI hlt (by omega), mo_has hlt (by omega)]
    cases hb : (his T tr z).testBit t with
    | false => rw [bi_f, if_pos rfl, if_pos rfl]; exact ⟨_, _, _, rfl, rfl, h0⟩
    | true =>
      have hx := xs_sI x (c := 13) 5 (nI t) (by omega)
      have hm := ms_sI m (k := 7) (nI t) (by decide)
      rw [bi_t, if_neg one_ne, if_neg one_ne, la_p1 (hX.eq hx) hT ht, Option.bind_some, if_pos (mo_1 hM hT ht).1, (mo_1 (hM.eq hm) hT ht).2]
      refine ⟨_, _, _, rfl, rfl, ?_⟩
      obtain ⟨b1, b2, b3⟩ := (his_bit ht).mp hb
      obtain ⟨dy, he, aw, ca, rd, tk', sk', sn, my, wy, lt⟩ := z
      dsimp only at b1 b2 b3
      refine ⟨S, T, s0, sh, tr, tk, sk, tn, tx, ln, lg, kb, (dy, he, aw, ca, nI t, tk', sk', sn, my, wy, lt), hT, hL.eq hx hm, hTx.eq hx hm, hLg.eq hx hm, hK.eq hx hm, ?_, ?_, ?_⟩
      · obtain ⟨c1, c2, c3, c4, c5, c6, c7, c8, c9, c10, c11⟩ := hZ
        exact ⟨by rw [sI_nk (by decide)]; exact c1, by rw [sI_nk (by decide)]; exact c2, by rw [sI_nk (by decide)]; exact c3, by rw [sI_nk (by decide)]; exact c4, sI_at, fun k hk => by rw [sI_ne (by decide)]; exact c6 k hk, fun k hk => by rw [sI_ne (by decide)]; exact c7 k hk, fun k hk => by rw [sI_ne (by decide)]; exact c8 k hk, by rw [sI_nk (by decide)]; exact c9, by rw [sI_nk (by decide)]; exact c10, by rw [sI_nk (by decide)]; exact c11⟩
      · obtain ⟨c1, c2, c3, c4, c5, c6, c7, c8, c9, c10, c11⟩ := hZ'
        exact ⟨by rw [sI_nk (by decide)]; exact c1, by rw [sI_nk (by decide)]; exact c2, by rw [sI_nk (by decide)]; exact c3, by rw [sI_nk (by decide)]; exact c4, sI_at, fun k hk => by rw [sI_nk (by omega)]; exact c6 k hk, fun k hk => by rw [sI_nk (by omega)]; exact c7 k hk, fun k hk => by rw [sI_nk (by omega)]; exact c8 k hk, by rw [sI_nk (by decide)]; exact c9, by rw [sI_nk (by decide)]; exact c10, by rw [sI_nk (by decide)]; exact c11⟩
      · obtain ⟨c1, c2, c3, c4, c5, c6, c7, c8, c9⟩ := hO
        exact ⟨c1, c2, Or.inr ⟨t, ht, rfl, b3, b1, b2⟩, c4, c5, c6, c7, c8, c9⟩
theorem nI_m1 {j : Nat} (h : j < 2 ^ 31) : ¬ nI j = (-1 : Int32) := by
  intro e
  have := congrArg Int32.toInt e
  rw [nI_toInt h] at this
  have h2 : ((-1 : Int32)).toInt = -1 := by decide
  omega
theorem sc_tk {tk : Nat → Nat} (hk : ∀ k, k < 3 → x.1 14 k = nI (tk k)) {k : Nat} (h : k < 3) : Sc_ticketsOf x (nI k) = some (nI (tk k)) := by
  unfold Sc_ticketsOf
  have : Nt_within x (nI k) 0 2 = 1 := by
    unfold Nt_within
    rw [if_neg (nI_pos (by omega)), if_neg (show ¬ (2 : Int32) < nI k from nI_nlt (a := 2) (by omega) (by decide))]
  rw [this, if_neg one_ne, if_pos (ib_nI h (by decide)), nI_clamp (by omega), hk k h]
theorem r_as (h : Rel x m) (a b : Int32) : ∃ r, Nt_as x a b = some r ∧ Mo_as m a b = some r := by
  obtain ⟨S, T, s0, sh, tr, tk, sk, tn, tx, ln, lg, kb, z, hT, ⟨hX, hM, -⟩, -, -, -, hZ, hZ', hO⟩ := h
  have h12 := hT.2.2.1
  have hkm := hZ'.km rfl
  obtain ⟨dy, he, aw, ca, rd, tk', sk', sn, my, wy, lt⟩ := z
  obtain ⟨c1, c2, c3, c4, c5, c6, c7, c8, c9, c10, c11⟩ := hZ
  obtain ⟨o1, o2, -⟩ := hO
  unfold Nt_as Mo_as
  rcases tr_cases hX hM (by omega) a with ⟨e1, e2⟩ | ⟨e1, e2, t, ht, rfl⟩
  · rw [e1, e2]; exact ⟨_, rfl, rfl⟩
  · obtain ⟨-, -, -, -, -, e4, e5⟩ := hT.2.2.2 t ht
    have k9 := o2 _ e5
    rw [e1, e2, if_neg one_ne, if_neg one_ne, show Mo_in m b.toInt64 (0 : Int64) (3 : Int64) = Nt_within x b 0 3 from mo_within x m b 0 3]
    rcases wi_cases x b (n := 3) (by decide) with e | ⟨e, k, hk, rfl⟩
    · rw [show Nt_within x b 0 3 = 0 from e]; exact ⟨_, rfl, rfl⟩
    · rw [show Nt_within x (nI k) 0 3 = 1 from e, if_neg one_ne, if_neg one_ne, la_p5 hX hT ht, if_pos (mo_5 hM hT ht).1, (mo_5 hM hT ht).2, if_pos (km_at hkm e5).1, (km_at hkm e5).2, if_pos (mo_4 hM hT ht).1, (mo_4 hM hT ht).2]
      unfold Nt_isSuch Mo_as_B81
      rw [la_p5 hX hT ht, la_p4 hX hT ht, Option.bind_some, sc_tk c6 e5]
      dsimp only [Option.bind_some]
      match k, hk with
      | 0, _ => exact ⟨_, rfl, rfl⟩
      | 3, _ =>
        by_cases hz : tk' (tr t 5) = 0
        · have heq : nI (tk' (tr t 5)) = 0 := by rw [hz]; rfl
          simp only [show (nI 3 = 0) = False from by decide, show (nI 3 = 3) = True from by decide, show ((3 : Int32) ≤ nI 3) = True from by decide, if_true, if_false, if_pos heq]
          exact ⟨_, rfl, rfl⟩
        · have hne : ¬ nI (tk' (tr t 5)) = 0 := nI_ne0 (by omega) (by omega)
          simp only [show (nI 3 = 0) = False from by decide, show (nI 3 = 3) = True from by decide, show ((3 : Int32) ≤ nI 3) = True from by decide, if_true, if_false, if_neg hne]
          exact ⟨_, rfl, rfl⟩
      | 1, _ => rcases e4 with e | e <;> rw [e] <;> exact ⟨_, rfl, rfl⟩
      | 2, _ => rcases e4 with e | e <;> rw [e] <;> exact ⟨_, rfl, rfl⟩
theorem r_he (h : Rel x m) (a : Int32) : ∃ r, Nt_he x a = some r ∧ Mo_he m a = some r := by
  obtain ⟨S, T, s0, sh, tr, tk, sk, tn, tx, ln, lg, kb, z, hT, ⟨hX, hM, -⟩, -, -, -, hZ, hZ', hO⟩ := h
  have hr := sc_rideable hX hT hZ hO
  have hr' := mo_his hM hT hZ' hO
  generalize his T tr z = hh at hr hr'
  obtain ⟨dy, he, aw, ca, rd, tk', sk', sn, my, wy, lt⟩ := z
  obtain ⟨c1, c2, c3, c4, c5, c6, c7, c8, c9, c10, c11⟩ := hZ
  obtain ⟨d1, d2, d3, d4, d5, d6, d7, d8, d9, d10, d11⟩ := hZ'
  unfold Nt_he Mo_he
  by_cases h0 : a = 0
  · rw [if_pos h0, if_pos h0, c2, show m.1 38 1 = nI he from d2]; exact ⟨_, rfl, rfl⟩
  rw [if_neg h0, if_neg h0]
  by_cases h1 : a = 1
  · rw [if_pos h1, if_pos h1, c3, show m.1 38 2 = bi aw from d3]; cases aw <;> exact ⟨_, rfl, rfl⟩
  rw [if_neg h1, if_neg h1]
  by_cases h2 : a = 2
  · rw [if_pos h2, if_pos h2, c4, show m.1 38 3 = bi ca from d4]; cases ca <;> exact ⟨_, rfl, rfl⟩
  rw [if_neg h2, if_neg h2]
  have t0 := sc_tk c6 (k := 0) (by decide)
  have t1 := sc_tk c6 (k := 1) (by decide)
  have t2 := sc_tk c6 (k := 2) (by decide)
  have u0 : m.1 38 4 = nI (tk' 0) := d6 0 (by decide)
  have u1 : m.1 38 5 = nI (tk' 1) := d6 1 (by decide)
  have u2 : m.1 38 6 = nI (tk' 2) := d6 2 (by decide)
  by_cases h3 : a = 3
  · rw [if_pos h3, if_pos h3, h3, show (3 : Int32) - 3 = nI 0 from by decide, t0, show (4 : Int32) + 3 - 3 = nI 4 from by decide, if_pos (by decide), show (nI 4).toNatClampNeg = 4 from by decide, u0]; exact ⟨_, rfl, rfl⟩
  rw [if_neg h3, if_neg h3]
  by_cases h4 : a = 4
  · rw [if_pos h4, if_pos h4, h4, show (4 : Int32) - 3 = nI 1 from by decide, t1, show (4 : Int32) + 4 - 3 = nI 5 from by decide, if_pos (by decide), show (nI 5).toNatClampNeg = 5 from by decide, u1]; exact ⟨_, rfl, rfl⟩
  rw [if_neg h4, if_neg h4]
  by_cases h5 : a = 5
  · rw [if_pos h5, if_pos h5, h5, show (5 : Int32) - 3 = nI 2 from by decide, t2, show (4 : Int32) + 5 - 3 = nI 6 from by decide, if_pos (by decide), show (nI 6).toNatClampNeg = 6 from by decide, u2]; exact ⟨_, rfl, rfl⟩
  rw [if_neg h5, if_neg h5, hr, hr']
  by_cases h6 : a = 6
  · rw [if_pos h6]; exact ⟨_, rfl, rfl⟩
  · rw [if_neg h6]; exact ⟨_, rfl, rfl⟩
/-- which seeker an argument is -/
theorem sk_cases (x m : Wd) (a : Int32) : (Nt_isSeeker x a = 0 ∧ Mo_isSeeker m a = 0) ∨ (Nt_isSeeker x a = 1 ∧ Mo_isSeeker m a = 1 ∧ ∃ i, i < 2 ∧ a = nI i) := by
  unfold Nt_isSeeker Mo_isSeeker
  rw [show Mo_in m a.toInt64 (0 : Int64) (1 : Int64) = Nt_within x a 0 1 from mo_within x m a 0 1]
  rcases wi_cases x a (n := 1) (by decide) with e | ⟨e, k, hk, rfl⟩
  · exact Or.inl ⟨e, e⟩
  · exact Or.inr ⟨e, e, k, by omega, rfl⟩
theorem m_sk {sk : Nat → Int32} (h : ∀ i, i < 2 → m.1 38 (0 + 8 + i) = sk i) {i : Nat} (hi : i < 2) : ib ((8 : Int32) + nI i) 45 = true ∧ m.1 38 (Int32.toNatClampNeg ((8 : Int32) + nI i)) = sk i := by
  rw [show (8 : Int32) = nI 8 from rfl, nI_add, nI_clamp (by omega)]
  exact ⟨ib_nI (by omega) (by decide), by rw [← h i hi, Nat.zero_add]⟩
theorem m_sn {i : Nat} (hi : i < 2) : ib ((10 : Int32) + nI i) 45 = true ∧ Int32.toNatClampNeg ((10 : Int32) + nI i) = 10 + i := by
  rw [show (10 : Int32) = nI 10 from rfl, nI_add, nI_clamp (by omega)]
  exact ⟨ib_nI (by omega) (by decide), rfl⟩
theorem r_seeker (h : Rel x m) (a : Int32) : ∃ r, Nt_seeker x a = some r ∧ Mo_seeker m a = some r := by
  obtain ⟨S, T, s0, sh, tr, tk, sk, tn, tx, ln, lg, kb, z, hT, ⟨hX, hM, -⟩, -, -, -, hZ, hZ', hO⟩ := h
  obtain ⟨dy, he, aw, ca, rd, tk', sk', sn, my, wy, lt⟩ := z
  obtain ⟨c1, c2, c3, c4, c5, c6, c7, c8, c9, c10, c11⟩ := hZ
  obtain ⟨d1, d2, d3, d4, d5, d6, d7, d8, d9, d10, d11⟩ := hZ'
  unfold Nt_seeker Mo_seeker
  rcases sk_cases x m a with ⟨e1, e2⟩ | ⟨e1, e2, i, hi, rfl⟩
  · rw [e1, e2]; exact ⟨_, rfl, rfl⟩
  · rw [e1, e2, if_neg one_ne, if_neg one_ne, if_pos (ib_nI hi (by decide)), nI_clamp (by omega), show x.1 15 i = sk' i from c7 i hi, if_pos (m_sk d7 hi).1, (m_sk d7 hi).2]
    exact ⟨_, rfl, rfl⟩
theorem r_may (h : Rel x m) : Nt_may x = Mo_may m ∧ Nt_way x = Mo_way m ∧ Nt_letter x = Mo_letter m := by
  obtain ⟨S, T, s0, sh, tr, tk, sk, tn, tx, ln, lg, kb, z, hT, -, -, -, -, hZ, hZ', hO⟩ := h
  obtain ⟨dy, he, aw, ca, rd, tk', sk', sn, my, wy, lt⟩ := z
  obtain ⟨c1, c2, c3, c4, c5, c6, c7, c8, c9, c10, c11⟩ := hZ
  obtain ⟨d1, d2, d3, d4, d5, d6, d7, d8, d9, d10, d11⟩ := hZ'
  exact ⟨c9.trans d9.symm, c10.trans d10.symm, c11.trans d11.symm⟩
theorem sc_seek {sk : Nat → Int32} (h : ∀ i, i < 2 → x.1 15 i = sk i) : Sc_seekingBits x = some ((if sk 0 = -1 then 0 else 1) + (if sk 1 = -1 then 0 else 2)) := by
  have e0 := h 0 (by decide)
  have e1 := h 1 (by decide)
  unfold Sc_seekingBits
  show Sc_seekingBits_L4 x (Sc_seekingBits_B31 x) (1997 + 1 + 1 + 1) 0 0 = _
  rw [Sc_seekingBits_L4, if_neg (by decide), if_pos (by decide), Sc_seekingBits_L4, if_neg (by decide), if_pos (by decide), Sc_seekingBits_L4, if_pos (by decide)]
  unfold Sc_seekingBits_B31
  rw [show (0 : Int32).toNatClampNeg = 0 from by decide, show ((0 : Int32) + 1).toNatClampNeg = 1 from by decide, e0, e1]
  by_cases h0 : sk 0 = -1 <;> by_cases h1 : sk 1 = -1 <;> simp only [h0, h1, if_true, if_false] <;> rfl
theorem r_count (h : Rel x m) (a : Int32) : Nt_count x a = some (Mo_count m a) := by
  obtain ⟨S, T, s0, sh, tr, tk, sk, tn, tx, ln, lg, kb, z, hT, ⟨hX, hM, l1, l2, l3, l4, l5, l6, -⟩, hTx, hLg, -, hZ, hZ', hO⟩ := h
  obtain ⟨dy, he, aw, ca, rd, tk', sk', sn, my, wy, lt⟩ := z
  obtain ⟨c1, c2, c3, c4, c5, c6, c7, c8, c9, c10, c11⟩ := hZ
  obtain ⟨d1, d2, d3, d4, d5, d6, d7, d8, d9, d10, d11⟩ := hZ'
  unfold Nt_count Mo_count Mo_count_B101
  rw [l1, l2, hX.1, hM.1, l3, l4, l5, l6, c1, show m.1 38 0 = dy from d1, hTx.2.1, hTx.2.2.1, hLg.2.1, hLg.2.2.1, sc_seek c7, show m.1 38 8 = sk' 0 from d7 0 (by decide), show m.1 38 9 = sk' 1 from d7 1 (by decide)]
  by_cases h0 : a = 0
  · rw [if_pos h0, if_pos h0]
  rw [if_neg h0, if_neg h0]
  by_cases h1 : a = 1
  · rw [if_pos h1, if_pos h1]
  rw [if_neg h1, if_neg h1]
  by_cases h2 : a = 2
  · rw [if_pos h2, if_pos h2]
  rw [if_neg h2, if_neg h2]
  by_cases h3 : a = 3
  · rw [if_pos h3, if_pos h3]
  rw [if_neg h3, if_neg h3]
  by_cases h4 : a = 4
  · rw [if_pos h4, if_pos h4]
  rw [if_neg h4, if_neg h4]
  by_cases h5 : a = 5
  · rw [if_pos h5, if_pos h5]
  rw [if_neg h5, if_neg h5]
  by_cases h6 : a = 6
  · rw [if_pos h6, if_pos h6]
  rw [if_neg h6, if_neg h6]
  by_cases h7 : a = 7
  · rw [if_pos h7, if_pos h7, Option.bind_some]
    by_cases g0 : sk' 0 = -1 <;> by_cases g1 : sk' 1 = -1 <;> simp only [g0, g1, if_true, if_false]
  · rw [if_neg h7, if_neg h7]
end Easy
