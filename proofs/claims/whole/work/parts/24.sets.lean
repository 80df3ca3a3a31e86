/-! Where trains go, who is stuck: the class's sets and the reference's -/
theorem fx_xor (a b : Nat) : nI a ^^^ nI b = nI (a ^^^ b) := by
  apply Int32.toBitVec_inj.1
  show BitVec.ofNat 32 a ^^^ BitVec.ofNat 32 b = BitVec.ofNat 32 (a ^^^ b)
  apply BitVec.eq_of_getLsbD_eq
  intro i hi
  simp [hi]
def cl (a i : Nat) : Nat := a &&& (2 ^ i ^^^ 4294967295)
theorem cl_nI {a i : Nat} (hi : i < 31) : nI a &&& (((1 : Int32) <<< (nI i &&& (31 : Int32))) ^^^ (-1 : Int32)) = nI (cl a i) := by
  rw [shl1_nI hi, show (-1 : Int32) = nI 4294967295 by decide, fx_xor, fa_and]
  rfl
theorem cl_bit {a i j : Nat} (ha : a < 2 ^ 31) : (cl a i).testBit j = true ↔ a.testBit j = true ∧ i ≠ j := by
  unfold cl
  rw [Nat.testBit_and, Nat.testBit_xor, Nat.testBit_two_pow, show 4294967295 = 2 ^ 32 - 1 from rfl, Nat.testBit_two_pow_sub_one]
  by_cases hj : j < 32
  · rw [decide_eq_true hj]
    cases a.testBit j <;> by_cases h : i = j <;> simp [h]
  · have : a.testBit j = false := Nat.testBit_lt_two_pow (Nat.lt_of_lt_of_le ha (Nat.pow_le_pow_right (by decide) (by omega)))
    simp [this]
theorem cl_le (a i : Nat) : cl a i ≤ a := Nat.and_le_left
/-- those of acc that no t takes away -/
def stR (P : Nat → Bool) (f : Nat → Nat) : Nat → Nat → Nat → Nat
  | 0, _, acc => acc
  | d + 1, j, acc => stR P f d (j + 1) (if P j then cl acc (f j) else acc)
theorem stR_le {P : Nat → Bool} {f : Nat → Nat} : ∀ (d j acc : Nat), stR P f d j acc ≤ acc := by
  intro d
  induction d with
  | zero => intro j acc; exact Nat.le_refl _
  | succ d ih =>
    intro j acc
    rw [stR]
    refine Nat.le_trans (ih _ _) ?_
    split
    · exact cl_le _ _
    · exact Nat.le_refl _
theorem stR_bit {P : Nat → Bool} {f : Nat → Nat} (i : Nat) : ∀ (d j acc : Nat), acc < 2 ^ 31 → ((stR P f d j acc).testBit i = true ↔ acc.testBit i = true ∧ ¬ ∃ t, j ≤ t ∧ t < j + d ∧ P t = true ∧ f t = i) := by
  intro d
  induction d with
  | zero =>
    intro j acc _
    constructor
    · exact fun h => ⟨h, fun ⟨t, h1, h2, _⟩ => by omega⟩
    · exact fun h => h.1
  | succ d ih =>
    intro j acc hacc
    rw [stR]
    by_cases hP : P j = true
    · rw [if_pos hP, ih _ _ (Nat.lt_of_le_of_lt (cl_le _ _) hacc), cl_bit hacc]
      constructor
      · rintro ⟨⟨h1, h2⟩, h3⟩
        refine ⟨h1, fun ⟨t, a1, a2, a3, a4⟩ => ?_⟩
        by_cases ht : t = j
        · subst ht; exact h2 a4
        · exact h3 ⟨t, by omega, by omega, a3, a4⟩
      · rintro ⟨h1, h2⟩
        exact ⟨⟨h1, fun e => h2 ⟨j, Nat.le_refl _, by omega, hP, e⟩⟩, fun ⟨t, a1, a2, a3, a4⟩ => h2 ⟨t, by omega, by omega, a3, a4⟩⟩
    · rw [if_neg hP, ih _ _ hacc]
      constructor
      · rintro ⟨h1, h2⟩
        refine ⟨h1, fun ⟨t, a1, a2, a3, a4⟩ => ?_⟩
        by_cases ht : t = j
        · subst ht; exact hP a3
        · exact h2 ⟨t, by omega, by omega, a3, a4⟩
      · rintro ⟨h1, h2⟩
        exact ⟨h1, fun ⟨t, a1, a2, a3, a4⟩ => h2 ⟨t, by omega, by omega, a3, a4⟩⟩
section SetX
variable {x m : Wd} {S T : Nat} {tr : Tr}
/-- where trains of some kinds and nights go from a set -/
def rch (T : Nat) (tr : Tr) (from_ : Nat) (dy : Int32) (kd ni : Nat) : Nat := oR (fun t => decide (tr t 4 = ni) && (kd.testBit (tr t 5) && (from_.testBit (tr t 0) && rn tr t dy))) (fun t => tr t 1) T 0 0
def stk (T : Nat) (tr : Tr) (from_ : Nat) (dy : Int32) (kd : Nat) : Nat := stR (fun t => rn tr t dy && kd.testBit (tr t 5)) (fun t => tr t 0) T 0 from_
theorem la_reached_L (h : TX x T tr) (hT : TOK S T tr) {fr kd ni : Nat} (hf : fr < 2 ^ 31) (hkd : kd < 2 ^ 31) (hni : ni < 2 ^ 31) (dy : Int32) (k : Int32 → Option Int32) : ∀ (d j n acc : Nat), j + d = T → d < n → La_reached_L6 x k n (nI fr) dy (nI kd) (nI ni) (nI acc) (nI j) = k (nI (oR (fun t => decide (tr t 4 = ni) && (kd.testBit (tr t 5) && (fr.testBit (tr t 0) && rn tr t dy))) (fun t => tr t 1) d j acc)) := by
  have h12 : T ≤ 12 := hT.2.2.1
  have h7 := hT.2.1
  intro d
  induction d with
  | zero =>
    intro j n acc hj hn
    obtain ⟨n, rfl⟩ : ∃ q, n = q + 1 := ⟨n - 1, by omega⟩
    rw [La_reached_L6, h.1, if_pos (nI_le (by omega) (by omega)), oR]
  | succ d ih =>
    intro j n acc hj hn
    obtain ⟨n, rfl⟩ : ∃ q, n = q + 1 := ⟨n - 1, by omega⟩
    have hjT : j < T := by omega
    obtain ⟨e0, e1, -, -, -, e4, e5⟩ := hT.2.2.2 j hjT
    rw [La_reached_L6, h.1, if_neg (nI_ge hjT (by omega)), la_p4 h hT hjT, Option.bind_some, nI_1, oR]
    by_cases hc : tr j 4 = ni
    · rw [if_pos (by rw [hc]), la_p5 h hT hjT, Option.bind_some, nt_hasBit hkd (by omega), decide_eq_true hc, Bool.true_and]
      cases hk : kd.testBit (tr j 5) with
      | false => rw [bi_f, if_pos rfl, ih (j + 1) n acc (by omega) (by omega)]; rfl
      | true =>
        rw [bi_t, if_neg one_ne, la_p0 h hT hjT, Option.bind_some, nt_hasBit hf (by omega), Bool.true_and]
        cases hb : fr.testBit (tr j 0) with
        | false => rw [bi_f, if_pos rfl, ih (j + 1) n acc (by omega) (by omega)]; rfl
        | true =>
          rw [bi_t, if_neg one_ne, la_runs h hT hjT, Option.bind_some, Bool.true_and]
          cases hr : rn tr j dy with
          | false => rw [bi_f, if_pos rfl, ih (j + 1) n acc (by omega) (by omega)]; rfl
          | true => rw [bi_t, if_neg one_ne, la_p1 h hT hjT, Option.bind_some, shl1_nI (by omega), fa_or, ih (j + 1) n _ (by omega) (by omega)]; rfl
    · rw [if_neg (fun e => hc ((nI_eq (by omega) hni).mp e)), ih (j + 1) n acc (by omega) (by omega), decide_eq_false hc]; rfl
theorem la_reached (h : TX x T tr) (hT : TOK S T tr) {fr kd ni : Nat} (hf : fr < 2 ^ 31) (hkd : kd < 2 ^ 31) (hni : ni < 2 ^ 31) (dy : Int32) : La_reached x (nI fr) dy (nI kd) (nI ni) = some (nI (rch T tr fr dy kd ni)) :=
  la_reached_L h hT hf hkd hni dy _ T 0 FU 0 (by omega) (by have := hT.2.2.1; unfold FU; omega)
theorem la_stuck_L (h : TX x T tr) (hT : TOK S T tr) {kd : Nat} (hkd : kd < 2 ^ 31) (dy : Int32) (k : Int32 → Option Int32) : ∀ (d j n acc : Nat), j + d = T → d < n → La_stuck_L6 x k n dy (nI kd) (nI acc) (nI j) = k (nI (stR (fun t => rn tr t dy && kd.testBit (tr t 5)) (fun t => tr t 0) d j acc)) := by
  have h12 : T ≤ 12 := hT.2.2.1
  have h7 := hT.2.1
  intro d
  induction d with
  | zero =>
    intro j n acc hj hn
    obtain ⟨n, rfl⟩ : ∃ q, n = q + 1 := ⟨n - 1, by omega⟩
    rw [La_stuck_L6, h.1, if_pos (nI_le (by omega) (by omega)), stR]
  | succ d ih =>
    intro j n acc hj hn
    obtain ⟨n, rfl⟩ : ∃ q, n = q + 1 := ⟨n - 1, by omega⟩
    have hjT : j < T := by omega
    obtain ⟨e0, e1, -, -, -, e4, e5⟩ := hT.2.2.2 j hjT
    rw [La_stuck_L6, h.1, if_neg (nI_ge hjT (by omega)), la_runs h hT hjT, Option.bind_some, nI_1, stR]
    cases hr : rn tr j dy with
    | false => rw [bi_f, if_pos rfl, ih (j + 1) n acc (by omega) (by omega)]; rfl
    | true =>
      rw [bi_t, if_neg one_ne, la_p5 h hT hjT, Option.bind_some, nt_hasBit hkd (by omega), Bool.true_and]
      cases hk : kd.testBit (tr j 5) with
      | false => rw [bi_f, if_pos rfl, ih (j + 1) n acc (by omega) (by omega)]; rfl
      | true => rw [bi_t, if_neg one_ne, la_p0 h hT hjT, Option.bind_some, cl_nI (by omega), ih (j + 1) n _ (by omega) (by omega)]; rfl
theorem la_stuck (h : TX x T tr) (hT : TOK S T tr) (fr : Nat) {kd : Nat} (hkd : kd < 2 ^ 31) (dy : Int32) : La_stuck x (nI fr) dy (nI kd) = some (nI (stk T tr fr dy kd)) :=
  la_stuck_L h hT hkd dy _ T 0 FU fr (by omega) (by have := hT.2.2.1; unfold FU; omega)
theorem rch_lt (hT : TOK S T tr) (fr : Nat) (dy : Int32) (kd ni : Nat) : rch T tr fr dy kd ni < 2 ^ S := oR_lt _ _ _ (fun t _ h _ => (hT.2.2.2 t (by omega)).2.1) (Nat.two_pow_pos S)
theorem stk_le (fr : Nat) (dy : Int32) (kd : Nat) : stk T tr fr dy kd ≤ fr := stR_le _ _ _
/-- the reference's sets -/
def lay (T : Nat) (tr : Tr) (my : Nat) (dy : Int32) (kind ni : Nat) : Nat := oR (fun t => decide (tr t 5 = kind) && (my.testBit (tr t 0) && rn tr t dy) && decide (tr t 4 = ni)) (fun t => tr t 1) T 0 0
def sty (S T : Nat) (tr : Tr) (tk : Nat → Nat) (my wy : Nat) (dy : Int32) : Nat := oR (fun s => my.testBit s && decide (oR (rid tr tk s dy) id T 0 0 = 0)) id S 0 wy
theorem mo_layBy_L (hT : TOK S T tr) {kind my : Nat} (hkind : kind < 2 ^ 31) (hmy : my < 2 ^ 31) (dy : Int32) (k : Wd → Option Wd) : ∀ (d j n a b : Nat) (m : Wd), TM m T tr → m.1 38 12 = nI my → m.1 38 0 = dy → m.1 37 18 = nI a → m.1 37 19 = nI b → j + d = T → d < n → ∃ m', Mo_layBy_L12 k n m (nI kind) (nI j) = k m' ∧ MEq m m' ∧ m'.1 37 18 = nI (oR (fun t => decide (tr t 5 = kind) && (my.testBit (tr t 0) && rn tr t dy) && decide (tr t 4 = 1)) (fun t => tr t 1) d j a) ∧ m'.1 37 19 = nI (oR (fun t => decide (tr t 5 = kind) && (my.testBit (tr t 0) && rn tr t dy) && decide (tr t 4 = 2)) (fun t => tr t 1) d j b) := by
  have h12 : T ≤ 12 := hT.2.2.1
  have h7 := hT.2.1
  intro d
  induction d with
  | zero =>
    intro j n a b m h hm hd ha hb hj hn
    obtain ⟨n, rfl⟩ : ∃ q, n = q + 1 := ⟨n - 1, by omega⟩
    rw [Mo_layBy_L12, h.1, if_pos (nI_le (by omega) (by omega))]
    exact ⟨m, rfl, MEq.rf m, ha, hb⟩
  | succ d ih =>
    intro j n a b m h hm hd ha hb hj hn
    obtain ⟨n, rfl⟩ : ∃ q, n = q + 1 := ⟨n - 1, by omega⟩
    have hjT : j < T := by omega
    obtain ⟨e0, e1, -, -, -, e4, e5⟩ := hT.2.2.2 j hjT
    have step : ∀ (u v : Nat), ∃ m', Mo_layBy_L12 k n (sI (sI m 37 18 (nI u)) 37 19 (nI v)) (nI kind) (nI (j + 1)) = k m' ∧ MEq m m' ∧ m'.1 37 18 = nI (oR (fun t => decide (tr t 5 = kind) && (my.testBit (tr t 0) && rn tr t dy) && decide (tr t 4 = 1)) (fun t => tr t 1) d (j + 1) u) ∧ m'.1 37 19 = nI (oR (fun t => decide (tr t 5 = kind) && (my.testBit (tr t 0) && rn tr t dy) && decide (tr t 4 = 2)) (fun t => tr t 1) d (j + 1) v) := by
      intro u v
      have hq : MEq m (sI (sI m 37 18 (nI u)) 37 19 (nI v)) := (me_sI m (c := 37) (k := 18) (nI u) (by omega)).tr (me_sI _ (c := 37) (k := 19) (nI v) (by omega))
      obtain ⟨m', f1, f2, f3, f4⟩ := ih (j + 1) n u v _ (h.eq hq.S) hm hd rfl sI_at (by omega) (by omega)
      exact ⟨m', f1, hq.tr f2, f3, f4⟩
    have same : ∀ u : Int32, sI (sI m 37 18 u) 37 19 (nI b ||| 0) = sI (sI m 37 18 u) 37 19 (nI b) := fun u => by rw [or0]
    rw [Mo_layBy_L12, h.1, if_neg (nI_ge hjT (by omega)), if_pos (mo_0 h hT hjT).1, if_pos (mo_1 h hT hjT).1, if_pos (mo_5 h hT hjT).1, (mo_0 h hT hjT).2, (mo_1 h hT hjT).2, (mo_5 h hT hjT).2, shl1_nI (by omega), hm, hd, mo_has hmy (by omega), mo_leaves h hT hjT (by omega), oR, oR]
    have hB : ∀ is : Bool, ∃ m', Mo_layBy_B96 (Mo_layBy_L12 k n) m (nI kind) (nI j) (nI (2 ^ tr j 1)) (bi is) = k m' ∧ MEq m m' ∧ m'.1 37 18 = nI (oR (fun t => decide (tr t 5 = kind) && (my.testBit (tr t 0) && rn tr t dy) && decide (tr t 4 = 1)) (fun t => tr t 1) d (j + 1) (if (is && decide (tr j 4 = 1)) = true then a ||| 2 ^ tr j 1 else a)) ∧ m'.1 37 19 = nI (oR (fun t => decide (tr t 5 = kind) && (my.testBit (tr t 0) && rn tr t dy) && decide (tr t 4 = 2)) (fun t => tr t 1) d (j + 1) (if (is && decide (tr j 4 = 2)) = true then b ||| 2 ^ tr j 1 else b)) := by
      intro is
      unfold Mo_layBy_B96 Mo_layBy_B129
      have f4 : ∀ u : Int32, (sI m 37 18 u).1 42 = m.1 42 := fun u => rfl
      have f9 : ∀ u : Int32, (sI m 37 18 u).1 37 19 = nI b := fun u => hb
      cases is with
      | false =>
        simp only [bi_f, if_true, ha, f9, or0, nI_1]
        exact step a b
      | true =>
        simp only [bi_t, if_neg one_ne, ha, f9, f4, or0, nI_1, (mo_4 h hT hjT).2, if_pos (mo_4 h hT hjT).1]
        rcases e4 with e | e
        · rw [e]
          simp only [show (nI 1 = 1) = True from by decide, show (nI 1 = 2) = False from by decide, if_true, if_false, fa_or]
          exact step _ _
        · rw [e]
          simp only [show (nI 2 = 1) = False from by decide, show (nI 2 = 2) = True from by decide, if_true, if_false, fa_or, or0]
          exact step _ _
    by_cases hk : tr j 5 = kind
    · rw [if_pos (by rw [hk]), decide_eq_true hk, Bool.true_and]
      cases hb' : my.testBit (tr j 0) with
      | false => rw [bi_f, if_pos rfl]; exact hB false
      | true =>
        rw [bi_t, if_neg one_ne, Option.bind_some, Bool.true_and]
        have hl : lvs tr j (tr j 0) dy = rn tr j dy := by unfold lvs; rw [decide_eq_true rfl, Bool.true_and]
        rw [hl]
        have := hB (rn tr j dy)
        cases hr : rn tr j dy with
        | false => rw [hr] at this; rw [bi_f, if_pos rfl]; exact this
        | true => rw [hr] at this; rw [bi_t, if_neg one_ne]; exact this
    · rw [if_neg (fun e => hk ((nI_eq (by omega) hkind).mp e)), decide_eq_false hk, Bool.false_and]
      exact hB false
theorem mo_layBy (h : TM m T tr) (hT : TOK S T tr) {kind my : Nat} (hkind : kind < 2 ^ 31) (hmy : my < 2 ^ 31) (hm : m.1 38 12 = nI my) : ∃ m', Mo_layBy m (nI kind) = some m' ∧ MEq m m' ∧ m'.1 37 18 = nI (lay T tr my (m.1 38 0) kind 1) ∧ m'.1 37 19 = nI (lay T tr my (m.1 38 0) kind 2) := by
  have hq : MEq m (sI (sI m 37 18 0) 37 19 0) := (me_sI m (c := 37) (k := 18) 0 (by omega)).tr (me_sI _ (c := 37) (k := 19) 0 (by omega))
  obtain ⟨m', f1, f2, f3, f4⟩ := mo_layBy_L hT hkind hmy (m.1 38 0) Mo_layBy_B174 T 0 FU 0 0 (sI (sI m 37 18 0) 37 19 0) (h.eq hq.S) hm rfl rfl rfl (by omega) (by have := hT.2.2.1; unfold FU; omega)
  exact ⟨m', f1, hq.tr f2, f3, f4⟩
end SetX
