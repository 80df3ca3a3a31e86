/-! NEXT on both sides -/
theorem or5 (p q a b c : Prop) : ((((p ∨ q) ∨ a) ∨ b) ∨ c) ↔ (((a ∨ b ∨ c) ∨ p) ∨ q) := by
  by_cases p <;> by_cases q <;> by_cases a <;> by_cases b <;> by_cases c <;> simp_all
section Next
variable {x m : Wd} {S T : Nat} {tr : Tr}
theorem mo_none_L (hT : TOK S T tr) {tk : Nat → Nat} (h9 : ∀ k, k < 3 → tk k ≤ 9) {my : Nat} (hmy : my < 2 ^ 31) (dy : Int32) (k : Wd → Option Wd) : ∀ (d j n a : Nat) (m : Wd), TM m T tr → KM m tk → m.1 37 6 = nI S → m.1 38 12 = nI my → m.1 38 0 = dy → m.1 37 18 = nI a → m.1 37 19 = 0 → j + d = S → d < n → ∃ m', Mo_layByNone_L18 k n m (nI j) = k m' ∧ MEq m m' ∧ m'.1 37 18 = nI (oR (fun s => my.testBit s && decide (oR (rid tr tk s dy) id T 0 0 = 0)) id d j a) ∧ m'.1 37 19 = 0 := by
  have h12 : T ≤ 12 := hT.2.2.1
  have h7 := hT.2.1
  intro d
  induction d with
  | zero =>
    intro j n a m h hk hS hm hd ha hb hj hn
    obtain ⟨n, rfl⟩ : ∃ q, n = q + 1 := ⟨n - 1, by omega⟩
    rw [Mo_layByNone_L18, hS, if_pos (nI_le (by omega) (by omega))]
    exact ⟨m, rfl, MEq.rf m, ha, hb⟩
  | succ d ih =>
    intro j n a m h hk hS hm hd ha hb hj hn
    obtain ⟨n, rfl⟩ : ∃ q, n = q + 1 := ⟨n - 1, by omega⟩
    have step : ∀ (u : Nat), ∃ m', Mo_layByNone_L18 k n (sI m 37 18 (nI u)) (nI (j + 1)) = k m' ∧ MEq m m' ∧ m'.1 37 18 = nI (oR (fun s => my.testBit s && decide (oR (rid tr tk s dy) id T 0 0 = 0)) id d (j + 1) u) ∧ m'.1 37 19 = 0 := by
      intro u
      have hq : MEq m (sI m 37 18 (nI u)) := me_sI m (c := 37) (k := 18) (nI u) (by omega)
      obtain ⟨m', f1, f2, f3, f4⟩ := ih (j + 1) n u _ (h.eq hq.S) hk hS hm hd sI_at hb (by omega) (by omega)
      exact ⟨m', f1, hq.tr f2, f3, f4⟩
    rw [Mo_layByNone_L18, hS, if_neg (nI_ge (by omega) (by omega)), hm, mo_has hmy (by omega), ha, nI_1, or0, oR]
    cases hb' : my.testBit j with
    | false => rw [bi_f, if_pos rfl]; exact step a
    | true =>
      rw [bi_t, if_neg one_ne, mo_ridable h hT hk (fun q hq => by have := h9 q hq; omega) (by omega), Option.bind_some, hd, Bool.true_and]
      have hlt : oR (rid tr tk j dy) id T 0 0 < 2 ^ T := oR_lt _ _ _ (fun t _ h _ => by show t < T; omega) (Nat.two_pow_pos T)
      have hlt2 : 2 ^ T ≤ 2 ^ 12 := Nat.pow_le_pow_right (by decide) h12
      by_cases hz : oR (rid tr tk j dy) id T 0 0 = 0
      · rw [hz, if_pos (show nI 0 = 0 from rfl), decide_eq_true rfl, shl1_nI (by omega), fa_or]; exact step _
      · rw [if_neg (nI_ne0 (by omega) (by omega)), decide_eq_false hz]; exact step _
theorem mo_none (h : TM m T tr) (hT : TOK S T tr) {tk : Nat → Nat} (hk : KM m tk) (h9 : ∀ k, k < 3 → tk k ≤ 9) (hS : m.1 37 6 = nI S) {my wy : Nat} (hmy : my < 2 ^ 31) (hm : m.1 38 12 = nI my) (hw : m.1 38 13 = nI wy) : ∃ m', Mo_layByNone m = some m' ∧ MEq m m' ∧ m'.1 37 18 = nI (sty S T tr tk my wy (m.1 38 0)) ∧ m'.1 37 19 = 0 := by
  have hq : MEq m (sI (sI m 37 18 (m.1 38 13)) 37 19 0) := (me_sI m (c := 37) (k := 18) _ (by omega)).tr (me_sI _ (c := 37) (k := 19) 0 (by omega))
  obtain ⟨m', f1, f2, f3, f4⟩ := mo_none_L hT h9 hmy (m.1 38 0) Mo_layByNone_B70 S 0 FU wy (sI (sI m 37 18 (m.1 38 13)) 37 19 0) (h.eq hq.S) hk hS hm rfl hw rfl (by omega) (by have := hT.2.1; unfold FU; omega)
  exact ⟨m', f1, hq.tr f2, f3, f4⟩
/-- NEXT as the reference makes it -/
def nxM (S T : Nat) (tr : Tr) (tk : Nat → Nat) (my wy : Nat) (dy : Int32) : Nat := ((sty S T tr tk my wy dy ||| (if 0 < tk 0 then lay T tr my dy 0 1 else 0)) ||| (if 0 < tk 1 then lay T tr my dy 1 1 else 0)) ||| (if 0 < tk 2 then lay T tr my dy 2 1 else 0)
theorem mo_nextOf (h : TM m T tr) (hT : TOK S T tr) {tk : Nat → Nat} (hk : KM m tk) (h9 : ∀ k, k < 3 → tk k ≤ 9) (hS : m.1 37 6 = nI S) {my wy : Nat} (hmy : my < 2 ^ 31) (hm : m.1 38 12 = nI my) (hw : m.1 38 13 = nI wy) : ∃ m', Mo_nextOf m = some (nI (nxM S T tr tk my wy (m.1 38 0)), m') ∧ MEq m m' := by
  obtain ⟨m0, f1, f2, f3, f4⟩ := mo_none h hT hk h9 hS hmy hm hw
  have row : ∀ {a b : Wd}, MEq a b → b.1 38 = a.1 38 := fun h => h.2.2.2.2.2.2.1
  have step : ∀ (kd v n : Nat) (m1 : Wd), kd < 3 → MEq m m1 → ∃ m2, MEq m m2 ∧ Mo_nextOf_L11 Mo_nextOf_B45 (n + 1) m1 (nI v) (nI kd) = Mo_nextOf_L11 Mo_nextOf_B45 n m2 (nI (v ||| (if 0 < tk kd then lay T tr my (m.1 38 0) kd 1 else 0))) (nI (kd + 1)) := by
    intro kd v n m1 hkd hq
    have r1 := row hq
    have hk1 : KM m1 tk := fun q hq => by rw [r1]; exact hk q hq
    have h9k := h9 kd hkd
    rw [Mo_nextOf_L11, if_neg (show ¬ (3 : Int32) ≤ nI kd from nI_ge (b := 3) hkd (by decide)), if_pos (km_at hk1 hkd).1, (km_at hk1 hkd).2, nI_1]
    by_cases hz : 0 < tk kd
    · rw [if_neg (nI_nle hz (by omega)), if_pos hz]
      obtain ⟨m2, g1, g2, g3, g4⟩ := mo_layBy (h.eq hq.S) hT (kind := kd) (my := my) (by omega) hmy (by rw [r1]; exact hm)
      rw [g1, Option.bind_some, g3, fa_or, r1]
      exact ⟨m2, hq.tr g2, rfl⟩
    · have e0 : tk kd = 0 := by omega
      rw [e0, if_pos (show nI 0 ≤ 0 by decide), if_neg (by omega), Nat.or_zero]
      exact ⟨m1, hq, rfl⟩
  unfold Mo_nextOf
  rw [f1, Option.bind_some, f3]
  obtain ⟨m1, a1, a2⟩ := step 0 (sty S T tr tk my wy (m.1 38 0)) 1999 m0 (by decide) f2
  obtain ⟨m2, b1, b2⟩ := step 1 (sty S T tr tk my wy (m.1 38 0) ||| (if 0 < tk 0 then lay T tr my (m.1 38 0) 0 1 else 0)) 1998 m1 (by decide) a1
  obtain ⟨m3, c1, c2⟩ := step 2 _ 1997 m2 (by decide) b1
  refine ⟨m3, ?_, c1⟩
  have : Mo_nextOf_L11 Mo_nextOf_B45 FU m0 (nI (sty S T tr tk my wy (m.1 38 0))) 0 = _ := a2.trans (b2.trans c2)
  rw [this, show 1997 = 1996 + 1 from rfl, Mo_nextOf_L11, if_pos (by decide)]
  rfl
/-- NEXT as the class makes it -/
def nxX (T : Nat) (tr : Tr) (tk : Nat → Nat) (my wy : Nat) (dy : Int32) : Nat := (rch T tr my dy (kl tk) 1 ||| stk T tr my dy (kl tk)) ||| wy
theorem rid0 {tk : Nat → Nat} {s : Nat} {dy : Int32} : oR (rid tr tk s dy) id T 0 0 = 0 ↔ ¬ ∃ t, t < T ∧ rid tr tk s dy t = true := by
  constructor
  · rintro h ⟨t, h1, h2⟩
    have := (oR_bit (P := rid tr tk s dy) (f := id) t T 0 0).mpr (Or.inr ⟨t, by omega, by omega, h2, rfl⟩)
    rw [h] at this
    simp at this
  · intro h
    apply bits_ext
    intro i
    rw [oR_bit]
    constructor
    · rintro (h1 | ⟨t, h1, h2, h3, h4⟩)
      · exact h1
      · exact absurd ⟨t, by omega, h3⟩ h
    · exact Or.inl
theorem lay_bit {my kind ni : Nat} {dy : Int32} (i : Nat) : (lay T tr my dy kind ni).testBit i = true ↔ ∃ t, t < T ∧ tr t 5 = kind ∧ my.testBit (tr t 0) = true ∧ rn tr t dy = true ∧ tr t 4 = ni ∧ tr t 1 = i := by
  unfold lay
  rw [oR_bit]
  constructor
  · rintro (h | ⟨t, h1, h2, h3, h4⟩)
    · simp at h
    · simp only [Bool.and_eq_true, decide_eq_true_eq] at h3
      exact ⟨t, by omega, h3.1.1, h3.1.2.1, h3.1.2.2, h3.2, h4⟩
  · rintro ⟨t, h1, h2, h3, h4, h5, h6⟩
    exact Or.inr ⟨t, by omega, by omega, by simp [h2, h3, h4, h5], h6⟩
theorem rch_bit {fr kd ni : Nat} {dy : Int32} (i : Nat) : (rch T tr fr dy kd ni).testBit i = true ↔ ∃ t, t < T ∧ kd.testBit (tr t 5) = true ∧ fr.testBit (tr t 0) = true ∧ rn tr t dy = true ∧ tr t 4 = ni ∧ tr t 1 = i := by
  unfold rch
  rw [oR_bit]
  constructor
  · rintro (h | ⟨t, h1, h2, h3, h4⟩)
    · simp at h
    · simp only [Bool.and_eq_true, decide_eq_true_eq] at h3
      exact ⟨t, by omega, h3.2.1, h3.2.2.1, h3.2.2.2, h3.1, h4⟩
  · rintro ⟨t, h1, h2, h3, h4, h5, h6⟩
    exact Or.inr ⟨t, by omega, by omega, by simp [h2, h3, h4, h5], h6⟩
theorem lay_rch (kind ni my : Nat) (dy : Int32) : lay T tr my dy kind ni = rch T tr my dy (2 ^ kind) ni := by
  apply bits_ext
  intro i
  rw [lay_bit, rch_bit]
  constructor
  · rintro ⟨t, h1, h2, h3⟩
    exact ⟨t, h1, by rw [Nat.testBit_two_pow, decide_eq_true_eq]; exact h2.symm, h3⟩
  · rintro ⟨t, h1, h2, h3⟩
    rw [Nat.testBit_two_pow, decide_eq_true_eq] at h2
    exact ⟨t, h1, h2.symm, h3⟩
theorem bit_lt {a n i : Nat} (h : a < 2 ^ n) (hb : a.testBit i = true) : i < n := by
  rcases Nat.lt_or_ge i n with q | q
  · exact q
  · rw [Nat.testBit_lt_two_pow (Nat.lt_of_lt_of_le h (Nat.pow_le_pow_right (by decide) q))] at hb
    cases hb
theorem sty_bit (hT : TOK S T tr) {tk : Nat → Nat} {my wy : Nat} {dy : Int32} (hmy : my < 2 ^ S) (i : Nat) : (sty S T tr tk my wy dy).testBit i = true ↔ (stk T tr my dy (kl tk) ||| wy).testBit i = true := by
  have h7 := hT.2.1
  have h31 : my < 2 ^ 31 := Nat.lt_of_lt_of_le hmy (Nat.pow_le_pow_right (by decide) (by omega))
  unfold sty stk
  rw [oR_bit, Nat.testBit_or, Bool.or_eq_true_iff, stR_bit i T 0 my h31]
  constructor
  · rintro (h | ⟨s, h1, h2, h3, h4⟩)
    · exact Or.inr h
    · have : s = i := h4
      subst this
      simp only [Bool.and_eq_true, decide_eq_true_eq] at h3
      refine Or.inl ⟨h3.1, fun ⟨t, a1, a2, a3, a4⟩ => rid0.mp h3.2 ⟨t, by omega, ?_⟩⟩
      simp only [Bool.and_eq_true] at a3
      obtain ⟨-, -, -, -, -, -, e5⟩ := hT.2.2.2 t (by omega)
      rw [kl_bit tk e5] at a3
      unfold rid lvs
      simp [a3.1, a4]
      simpa using a3.2
  · rintro (⟨h1, h2⟩ | h)
    · refine Or.inr ⟨i, by omega, by have := bit_lt hmy h1; omega, ?_, rfl⟩
      simp only [Bool.and_eq_true, decide_eq_true_eq]
      refine ⟨h1, rid0.mpr fun ⟨t, a1, a2⟩ => h2 ⟨t, by omega, by omega, ?_, ?_⟩⟩
      · unfold rid lvs at a2
        simp only [Bool.and_eq_true, decide_eq_true_eq] at a2
        obtain ⟨-, -, -, -, -, -, e5⟩ := hT.2.2.2 t (by omega)
        rw [kl_bit tk e5]
        simp [a2.1.2, a2.2]
      · unfold rid lvs at a2
        simp only [Bool.and_eq_true, decide_eq_true_eq] at a2
        exact a2.1.1
    · exact Or.inl h
theorem sty_eq (hT : TOK S T tr) {tk : Nat → Nat} {my wy : Nat} {dy : Int32} (hmy : my < 2 ^ S) : sty S T tr tk my wy dy = stk T tr my dy (kl tk) ||| wy := bits_ext (sty_bit hT hmy)
theorem nx_eq (hT : TOK S T tr) {tk : Nat → Nat} {my wy : Nat} {dy : Int32} (hmy : my < 2 ^ S) : nxM S T tr tk my wy dy = nxX T tr tk my wy dy := by
  unfold nxM nxX
  rw [sty_eq hT hmy]
  apply bits_ext
  intro i
  have key : (rch T tr my dy (kl tk) 1).testBit i = true ↔ (if 0 < tk 0 then lay T tr my dy 0 1 else 0).testBit i = true ∨ (if 0 < tk 1 then lay T tr my dy 1 1 else 0).testBit i = true ∨ (if 0 < tk 2 then lay T tr my dy 2 1 else 0).testBit i = true := by
    have one : ∀ k, (if 0 < tk k then lay T tr my dy k 1 else 0).testBit i = true ↔ 0 < tk k ∧ (lay T tr my dy k 1).testBit i = true := by
      intro k
      by_cases hk : 0 < tk k
      · rw [if_pos hk]; exact ⟨fun h => ⟨hk, h⟩, fun h => h.2⟩
      · rw [if_neg hk]; simp [hk]
    rw [one, one, one, lay_bit, lay_bit, lay_bit, rch_bit]
    constructor
    · rintro ⟨t, h1, h2, h3⟩
      obtain ⟨-, -, -, -, -, -, e5⟩ := hT.2.2.2 t h1
      rw [kl_bit tk e5, decide_eq_true_eq] at h2
      match hk : tr t 5, e5 with
      | 0, _ => rw [hk] at h2; exact Or.inl ⟨h2, t, h1, hk, h3⟩
      | 1, _ => rw [hk] at h2; exact Or.inr (Or.inl ⟨h2, t, h1, hk, h3⟩)
      | 2, _ => rw [hk] at h2; exact Or.inr (Or.inr ⟨h2, t, h1, hk, h3⟩)
    · rintro (⟨h0, t, h1, h2, h3⟩ | ⟨h0, t, h1, h2, h3⟩ | ⟨h0, t, h1, h2, h3⟩) <;>
        exact ⟨t, h1, by rw [h2, kl_bit tk (by decide)]; exact decide_eq_true h0, h3⟩
  simp only [Nat.testBit_or, Bool.or_eq_true_iff]
  rw [key]
  exact or5 _ _ _ _ _
theorem nx_lt (hT : TOK S T tr) {tk : Nat → Nat} {my wy : Nat} {dy : Int32} (hmy : my < 2 ^ S) (hwy : wy < 2 ^ S) : nxX T tr tk my wy dy < 2 ^ S :=
  Nat.or_lt_two_pow (Nat.or_lt_two_pow (rch_lt hT _ _ _ _) (Nat.lt_of_le_of_lt (stk_le _ _ _) hmy)) hwy
theorem sc_next {z : Sc} (h : TX x T tr) (hT : TOK S T tr) (hz : ScX x 13 z) (hO : ScOK S T tr z) : Sc_nextBits x = some (nI (nxX T tr z.2.2.2.2.2.1 z.2.2.2.2.2.2.2.2.1 z.2.2.2.2.2.2.2.2.2.1 z.1)) := by
  obtain ⟨dy, he, aw, ca, rd, tk, sk, sn, my, wy, lt⟩ := z
  obtain ⟨c1, c2, c3, c4, c5, c6, c7, c8, c9, c10, c11⟩ := hz
  obtain ⟨o1, o2, o3, o4, o5, o6, o7, o8, o9⟩ := hO
  have h7 := hT.2.1
  have h31 : my < 2 ^ 31 := Nat.lt_of_lt_of_le o6 (Nat.pow_le_pow_right (by decide) (by omega))
  have hkl : kl tk < 2 ^ 31 := Nat.lt_trans (kl_lt tk) (by decide)
  unfold Sc_nextBits
  rw [sc_kinds c6 o2, Option.bind_some, c9, c1, show (1 : Int32) = nI 1 from rfl, la_reached h hT h31 hkl (by decide), Option.bind_some, la_stuck h hT my hkl, Option.bind_some, fa_or, c10, fa_or]
  rfl
theorem mo_next {z : Sc} (h : TM m T tr) (hT : TOK S T tr) (hS : m.1 37 6 = nI S) (hz : ScM m 0 z) (hO : ScOK S T tr z) : ∃ m', Mo_nextOf m = some (nI (nxX T tr z.2.2.2.2.2.1 z.2.2.2.2.2.2.2.2.1 z.2.2.2.2.2.2.2.2.2.1 z.1), m') ∧ MEq m m' := by
  have hkm := hz.km rfl
  obtain ⟨dy, he, aw, ca, rd, tk, sk, sn, my, wy, lt⟩ := z
  obtain ⟨c1, c2, c3, c4, c5, c6, c7, c8, c9, c10, c11⟩ := hz
  obtain ⟨o1, o2, o3, o4, o5, o6, o7, o8, o9⟩ := hO
  have h7 := hT.2.1
  have h31 : my < 2 ^ 31 := Nat.lt_of_lt_of_le o6 (Nat.pow_le_pow_right (by decide) (by omega))
  obtain ⟨m', f1, f2⟩ := mo_nextOf h hT hkm o2 hS h31 c9 c10
  refine ⟨m', ?_, f2⟩
  rw [f1, show m.1 38 0 = dy from c1, nx_eq hT o6]
theorem r_next (h : Rel x m) : ∃ r m', Nt_next x = some r ∧ Mo_next m = some (r, m') ∧ Rel x m' := by
  have h0 := h
  obtain ⟨S, T, s0, sh, tr, tk, sk, tn, tx, ln, lg, kb, z, hT, hL, hTx, hLg, hK, hZ, hZ', hO⟩ := h
  unfold Nt_next Mo_next
  obtain ⟨m', f1, f2⟩ := mo_next hL.2.1 hT hL.2.2.2.1 hZ' hO
  rw [sc_next hL.1 hT hZ hO, f1]
  exact ⟨_, _, rfl, rfl, h0.eq (XEq.rf x) f2⟩
end Next
