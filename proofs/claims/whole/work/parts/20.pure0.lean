/-! Numbers, bits, sets as numbers (rows fa_and, fa_or began as the kit's NUMBERS.to-paste) -/
theorem fa_and (a b : Nat) : nI a &&& nI b = nI (a &&& b) := by
  apply Int32.toBitVec_inj.1
  show BitVec.ofNat 32 a &&& BitVec.ofNat 32 b = BitVec.ofNat 32 (a &&& b)
  apply BitVec.eq_of_getLsbD_eq
  intro i hi
  simp [hi]
theorem fa_or (a b : Nat) : nI a ||| nI b = nI (a ||| b) := by
  apply Int32.toBitVec_inj.1
  show BitVec.ofNat 32 a ||| BitVec.ofNat 32 b = BitVec.ofNat 32 (a ||| b)
  apply BitVec.eq_of_getLsbD_eq
  intro i hi
  simp [hi]
theorem s_l : ∀ n, n < 32 → ((nI n &&& 31).toBitVec.smod 32).toNat = n := by decide +kernel
/-- a truth as a number -/
def bi (b : Bool) : Int32 := if b then 1 else 0
theorem bi_t : bi true = 1 := rfl
theorem bi_f : bi false = 0 := rfl
theorem bi_0 (b : Bool) : bi b = 0 ↔ b = false := by cases b <;> decide
theorem bi_1 (b : Bool) : bi b = 1 ↔ b = true := by cases b <;> decide
theorem bi_and1 (b : Bool) : bi b &&& (1 : Int32) = bi b := by cases b <;> decide
theorem ib_nI {j n : Nat} (h : j < n) (hn : n < 2 ^ 31) : ib (nI j) n = true := decide_eq_true (nI_in h hn)
theorem shr_nI {m j : Nat} (hm : m < 2 ^ 31) (hj : j < 32) : nI m >>> (nI j &&& (31 : Int32)) = nI (m / 2 ^ j) := pk_shrN hm _ j (s_l j hj)
theorem shl1_nI {j : Nat} (hj : j < 31) : (1 : Int32) <<< (nI j &&& (31 : Int32)) = nI (2 ^ j) := by
  have h := pk_shlN (n := 1) (nI j &&& 31) j (s_l j (by omega)) (by
    rw [Nat.one_mul]
    exact Nat.pow_lt_pow_right (by decide) (by omega))
  rw [Nat.one_mul] at h
  exact h
theorem and1_nI (m : Nat) (hm : m < 2 ^ 32) : nI m &&& (1 : Int32) = nI (m % 2) := pk_andN hm 1 (by decide)
theorem bit_nI {m j : Nat} (hm : m < 2 ^ 31) (hj : j < 32) : (nI m >>> (nI j &&& (31 : Int32))) &&& (1 : Int32) = bi (m.testBit j) := by
  rw [shr_nI hm hj, and1_nI _ (Nat.lt_of_le_of_lt (Nat.div_le_self _ _) (by omega)), Nat.testBit_eq_decide_div_mod_eq]
  have h2 : m / 2 ^ j % 2 < 2 := Nat.mod_lt _ (by decide)
  match hq : m / 2 ^ j % 2, h2 with
  | 0, _ => rfl
  | 1, _ => rfl
theorem nt_hasBit {x : Wd} {m j : Nat} (hm : m < 2 ^ 31) (hj : j < 32) : Nt_hasBit x (nI m) (nI j) = bi (m.testBit j) := by
  unfold Nt_hasBit
  rw [bit_nI hm hj]
  cases m.testBit j <;> rfl
theorem mo_has {x : Wd} {m j : Nat} (hm : m < 2 ^ 31) (hj : j < 32) : Mo_has x (nI m) (nI j) = bi (m.testBit j) := by
  unfold Mo_has
  rw [bit_nI hm hj]
  cases m.testBit j <;> rfl
/-- the union of places f t of those t of j .. j + d - 1 that P holds of, onto acc -/
def oR (P : Nat → Bool) (f : Nat → Nat) : Nat → Nat → Nat → Nat
  | 0, _, acc => acc
  | d + 1, j, acc => oR P f d (j + 1) (if P j then acc ||| 2 ^ f j else acc)
theorem oR_bit {P : Nat → Bool} {f : Nat → Nat} (i : Nat) : ∀ (d j acc : Nat), (oR P f d j acc).testBit i = true ↔ acc.testBit i = true ∨ ∃ t, j ≤ t ∧ t < j + d ∧ P t = true ∧ f t = i := by
  intro d
  induction d with
  | zero =>
    intro j acc
    constructor
    · exact Or.inl
    · rintro (h | ⟨t, h1, h2, -⟩)
      · exact h
      · omega
  | succ d ih =>
    intro j acc
    rw [oR, ih]
    by_cases hP : P j = true
    · rw [if_pos hP, Nat.testBit_or, Nat.testBit_two_pow]
      constructor
      · rintro (h | ⟨t, h1, h2, h3, h4⟩)
        · rcases Bool.or_eq_true_iff.mp h with h | h
          · exact Or.inl h
          · exact Or.inr ⟨j, Nat.le_refl _, by omega, hP, of_decide_eq_true h⟩
        · exact Or.inr ⟨t, by omega, by omega, h3, h4⟩
      · rintro (h | ⟨t, h1, h2, h3, h4⟩)
        · exact Or.inl (by rw [h]; rfl)
        · by_cases ht : t = j
          · subst ht
            exact Or.inl (by rw [decide_eq_true h4, Bool.or_true])
          · exact Or.inr ⟨t, by omega, by omega, h3, h4⟩
    · rw [if_neg hP]
      constructor
      · rintro (h | ⟨t, h1, h2, h3, h4⟩)
        · exact Or.inl h
        · exact Or.inr ⟨t, by omega, by omega, h3, h4⟩
      · rintro (h | ⟨t, h1, h2, h3, h4⟩)
        · exact Or.inl h
        · by_cases ht : t = j
          · subst ht; exact absurd h3 hP
          · exact Or.inr ⟨t, by omega, by omega, h3, h4⟩
theorem oR_lt {P : Nat → Bool} {f : Nat → Nat} {b : Nat} : ∀ (d j acc : Nat), (∀ t, j ≤ t → t < j + d → P t = true → f t < b) → acc < 2 ^ b → oR P f d j acc < 2 ^ b := by
  intro d
  induction d with
  | zero => intro j acc _ h; exact h
  | succ d ih =>
    intro j acc hf h
    rw [oR]
    refine ih _ _ (fun t h1 h2 h3 => hf t (by omega) (by omega) h3) ?_
    by_cases hP : P j = true
    · rw [if_pos hP]
      exact Nat.or_lt_two_pow h (Nat.pow_lt_pow_right (by decide) (hf j (Nat.le_refl _) (by omega) hP))
    · rw [if_neg hP]; exact h
theorem oR_congr {P P' : Nat → Bool} {f f' : Nat → Nat} : ∀ (d j acc : Nat), (∀ t, j ≤ t → t < j + d → P t = P' t ∧ (P t = true → f t = f' t)) → oR P f d j acc = oR P' f' d j acc := by
  intro d
  induction d with
  | zero => intro j acc _; rfl
  | succ d ih =>
    intro j acc h
    rw [oR, oR, ih _ _ (fun t h1 h2 => h t (by omega) (by omega))]
    obtain ⟨h1, h2⟩ := h j (Nat.le_refl _) (by omega)
    by_cases hP : P j = true
    · rw [if_pos hP, if_pos (h1 ▸ hP), h2 hP]
    · rw [if_neg hP, if_neg (h1 ▸ hP)]
theorem bits_ext {a b : Nat} (h : ∀ i, a.testBit i = true ↔ b.testBit i = true) : a = b := by
  apply Nat.eq_of_testBit_eq
  intro i
  have := h i
  cases ha : a.testBit i <;> cases hb : b.testBit i <;> simp_all
/-- trains: T of them, their six numbers; on a day -/
abbrev Tr : Type := Nat → Nat → Nat
def TX (x : Wd) (T : Nat) (tr : Tr) : Prop := x.1 3 1 = nI T ∧ ∀ t k, t < T → k < 6 → x.1 4 (6 * t + k) = nI (tr t k)
def TM (m : Wd) (T : Nat) (tr : Tr) : Prop := m.1 37 8 = nI T ∧ ∀ t k, t < T → k < 6 → m.1 42 (6 * t + k) = nI (tr t k)
def TOK (S T : Nat) (tr : Tr) : Prop := 2 ≤ S ∧ S ≤ 7 ∧ T ≤ 12 ∧ ∀ t, t < T → tr t 0 < S ∧ tr t 1 < S ∧ 1 ≤ tr t 2 ∧ tr t 2 ≤ 4 ∧ tr t 3 < tr t 2 ∧ (tr t 4 = 1 ∨ tr t 4 = 2) ∧ tr t 5 < 3
def rn (tr : Tr) (t : Nat) (day : Int32) : Bool := decide (day - day / nI (tr t 2) * nI (tr t 2) = nI (tr t 3))
def lvs (tr : Tr) (t s : Nat) (day : Int32) : Bool := decide (tr t 0 = s) && rn tr t day
theorem x6 (t : Nat) (k : Nat) : nI t * (6 : Int32) + nI k = nI (6 * t + k) := by
  rw [show (6 : Int32) = nI 6 from rfl, pk_mul, nI_add, Nat.mul_comm]
theorem m6 (t : Nat) (k : Nat) : (6 : Int32) * nI t + nI k = nI (6 * t + k) := by
  rw [show (6 : Int32) = nI 6 from rfl, pk_mul, nI_add]
section LandX
variable {x : Wd} {S T : Nat} {tr : Tr}
theorem la_part (h : TX x T tr) (hT : TOK S T tr) {t k : Nat} (ht : t < T) (hk : k < 6) : La_part x (nI t) (nI k) = some (nI (tr t k)) := by
  have h12 : T ≤ 12 := hT.2.2.1
  unfold La_part
  rw [if_neg (nI_pos (by omega)), h.1, if_neg (nI_ge ht (by omega)), if_neg (show ¬ (12 : Int32) ≤ nI t from nI_ge (b := 12) (by omega) (by decide))]
  unfold La_part_B23
  rw [if_neg (by decide), if_neg (nI_pos (by omega)), if_neg (show ¬ (6 : Int32) ≤ nI k from nI_ge (b := 6) hk (by decide)), x6, if_pos (ib_nI (by omega) (by decide)), nI_clamp (by omega), h.2 t k ht hk]
theorem la_p0 (h : TX x T tr) (hT : TOK S T tr) {t : Nat} (ht : t < T) : La_part x (nI t) (0 : Int32) = some (nI (tr t 0)) := la_part h hT ht (k := 0) (by decide)
theorem la_p1 (h : TX x T tr) (hT : TOK S T tr) {t : Nat} (ht : t < T) : La_part x (nI t) (1 : Int32) = some (nI (tr t 1)) := la_part h hT ht (k := 1) (by decide)
theorem la_p2 (h : TX x T tr) (hT : TOK S T tr) {t : Nat} (ht : t < T) : La_part x (nI t) (2 : Int32) = some (nI (tr t 2)) := la_part h hT ht (k := 2) (by decide)
theorem la_p3 (h : TX x T tr) (hT : TOK S T tr) {t : Nat} (ht : t < T) : La_part x (nI t) (3 : Int32) = some (nI (tr t 3)) := la_part h hT ht (k := 3) (by decide)
theorem la_p4 (h : TX x T tr) (hT : TOK S T tr) {t : Nat} (ht : t < T) : La_part x (nI t) (4 : Int32) = some (nI (tr t 4)) := la_part h hT ht (k := 4) (by decide)
theorem la_p5 (h : TX x T tr) (hT : TOK S T tr) {t : Nat} (ht : t < T) : La_part x (nI t) (5 : Int32) = some (nI (tr t 5)) := la_part h hT ht (k := 5) (by decide)
theorem la_runs (h : TX x T tr) (hT : TOK S T tr) {t : Nat} (ht : t < T) (day : Int32) : La_runsOn x (nI t) day = some (bi (rn tr t day)) := by
  obtain ⟨-, -, e1, e2, -⟩ := hT.2.2.2 t ht
  unfold La_runsOn
  rw [la_p2 h hT ht, Option.bind_some, if_neg (nI_nle e1 (by omega)), if_pos (nI_ne0 e1 (by omega)), la_p3 h hT ht, Option.bind_some]
  unfold rn bi
  by_cases hc : day - day / nI (tr t 2) * nI (tr t 2) = nI (tr t 3)
  · rw [if_pos hc, if_pos (decide_eq_true hc)]
  · rw [if_neg hc, if_neg (by simpa using hc)]
theorem la_leaves (h : TX x T tr) (hT : TOK S T tr) {t : Nat} (ht : t < T) {s : Nat} (hs : s < 2 ^ 31) (day : Int32) : La_leaves x (nI t) (nI s) day = some (bi (lvs tr t s day)) := by
  obtain ⟨e0, -⟩ := hT.2.2.2 t ht
  have h7 := hT.2.1
  unfold La_leaves lvs
  rw [la_p0 h hT ht, Option.bind_some]
  by_cases hc : tr t 0 = s
  · rw [hc, if_pos rfl, la_runs h hT ht, Option.bind_some, decide_eq_true rfl, Bool.true_and]
    cases rn tr t day <;> rfl
  · rw [if_neg (fun e => hc ((nI_eq (by omega) hs).mp e)), decide_eq_false hc]
    rfl
theorem la_rideable_L (h : TX x T tr) (hT : TOK S T tr) {s kd : Nat} (hs : s < 2 ^ 31) (hkd : kd < 2 ^ 31) (day : Int32) (k : Int32 → Option Int32) : ∀ (d j n acc : Nat), j + d = T → d < n → La_rideable_L6 x k n (nI s) day (nI kd) (nI acc) (nI j) = k (nI (oR (fun t => lvs tr t s day && kd.testBit (tr t 5)) id d j acc)) := by
  have h12 : T ≤ 12 := hT.2.2.1
  intro d
  induction d with
  | zero =>
    intro j n acc hj hn
    obtain ⟨n, rfl⟩ : ∃ q, n = q + 1 := ⟨n - 1, by omega⟩
    rw [La_rideable_L6, h.1, if_pos (nI_le (by omega) (by omega)), oR]
  | succ d ih =>
    intro j n acc hj hn
    obtain ⟨n, rfl⟩ : ∃ q, n = q + 1 := ⟨n - 1, by omega⟩
    have hjT : j < T := by omega
    obtain ⟨-, -, -, -, -, -, e5⟩ := hT.2.2.2 j hjT
    rw [La_rideable_L6, h.1, if_neg (nI_ge hjT (by omega)), la_leaves h hT hjT hs, Option.bind_some, nI_1, oR]
    cases hl : lvs tr j s day with
    | false =>
      rw [bi_f, if_pos rfl, ih (j + 1) n acc (by omega) (by omega)]
      simp
    | true =>
      rw [if_neg (by decide), la_p5 h hT hjT, Option.bind_some, nt_hasBit hkd (by omega), Bool.true_and]
      cases hb : kd.testBit (tr j 5) with
      | false => rw [bi_f, if_pos rfl, ih (j + 1) n acc (by omega) (by omega)]; rfl
      | true => rw [if_neg (by decide), shl1_nI (by omega), fa_or, ih (j + 1) n _ (by omega) (by omega)]; rfl
theorem la_rideable (h : TX x T tr) (hT : TOK S T tr) {s kd : Nat} (hs : s < 2 ^ 31) (hkd : kd < 2 ^ 31) (day : Int32) : La_rideable x (nI s) day (nI kd) = some (nI (oR (fun t => lvs tr t s day && kd.testBit (tr t 5)) id T 0 0)) :=
  la_rideable_L h hT hs hkd day _ T 0 FU 0 (by omega) (by have := hT.2.2.1; unfold FU; omega)
end LandX
section LandM
variable {m : Wd} {S T : Nat} {tr : Tr}
theorem mo_at (h : TM m T tr) (hT : TOK S T tr) {t k : Nat} (ht : t < T) (hk : k < 6) : ib ((6 : Int32) * nI t + nI k) 72 = true ∧ m.1 42 (Int32.toNatClampNeg ((6 : Int32) * nI t + nI k)) = nI (tr t k) := by
  have h12 : T ≤ 12 := hT.2.2.1
  rw [m6, nI_clamp (by omega)]
  exact ⟨ib_nI (by omega) (by decide), h.2 t k ht hk⟩
theorem mo_0 (h : TM m T tr) (hT : TOK S T tr) {t : Nat} (ht : t < T) : ib ((6 : Int32) * nI t + (0 : Int32)) 72 = true ∧ m.1 42 (Int32.toNatClampNeg ((6 : Int32) * nI t + (0 : Int32))) = nI (tr t 0) := mo_at h hT ht (k := 0) (by decide)
theorem mo_1 (h : TM m T tr) (hT : TOK S T tr) {t : Nat} (ht : t < T) : ib ((6 : Int32) * nI t + (1 : Int32)) 72 = true ∧ m.1 42 (Int32.toNatClampNeg ((6 : Int32) * nI t + (1 : Int32))) = nI (tr t 1) := mo_at h hT ht (k := 1) (by decide)
theorem mo_2 (h : TM m T tr) (hT : TOK S T tr) {t : Nat} (ht : t < T) : ib ((6 : Int32) * nI t + (2 : Int32)) 72 = true ∧ m.1 42 (Int32.toNatClampNeg ((6 : Int32) * nI t + (2 : Int32))) = nI (tr t 2) := mo_at h hT ht (k := 2) (by decide)
theorem mo_3 (h : TM m T tr) (hT : TOK S T tr) {t : Nat} (ht : t < T) : ib ((6 : Int32) * nI t + (3 : Int32)) 72 = true ∧ m.1 42 (Int32.toNatClampNeg ((6 : Int32) * nI t + (3 : Int32))) = nI (tr t 3) := mo_at h hT ht (k := 3) (by decide)
theorem mo_4 (h : TM m T tr) (hT : TOK S T tr) {t : Nat} (ht : t < T) : ib ((6 : Int32) * nI t + (4 : Int32)) 72 = true ∧ m.1 42 (Int32.toNatClampNeg ((6 : Int32) * nI t + (4 : Int32))) = nI (tr t 4) := mo_at h hT ht (k := 4) (by decide)
theorem mo_5 (h : TM m T tr) (hT : TOK S T tr) {t : Nat} (ht : t < T) : ib ((6 : Int32) * nI t + (5 : Int32)) 72 = true ∧ m.1 42 (Int32.toNatClampNeg ((6 : Int32) * nI t + (5 : Int32))) = nI (tr t 5) := mo_at h hT ht (k := 5) (by decide)
theorem mo_leaves (h : TM m T tr) (hT : TOK S T tr) {t : Nat} (ht : t < T) {s : Nat} (hs : s < 2 ^ 31) (day : Int32) : Mo_leaves m (nI t) (nI s) day = some (bi (lvs tr t s day)) := by
  obtain ⟨e0, -, e1, e2, -⟩ := hT.2.2.2 t ht
  have h7 := hT.2.1
  unfold Mo_leaves lvs rn
  rw [if_pos (mo_0 h hT ht).1, (mo_0 h hT ht).2]
  by_cases hc : tr t 0 = s
  · rw [hc, if_pos rfl, if_pos (mo_2 h hT ht).1, (mo_2 h hT ht).2, if_pos (nI_ne0 e1 (by omega)), if_pos (mo_3 h hT ht).1, (mo_3 h hT ht).2, decide_eq_true rfl, Bool.true_and]
    by_cases hd : day - day / nI (tr t 2) * nI (tr t 2) = nI (tr t 3)
    · rw [if_pos hd, decide_eq_true hd]; rfl
    · rw [if_neg hd, decide_eq_false hd]; rfl
  · rw [if_neg (fun e => hc ((nI_eq (by omega) hs).mp e)), decide_eq_false hc]
    rfl
theorem or0 (x : Int32) : x ||| (0 : Int32) = x := by
  apply Int32.toBitVec_inj.1
  exact BitVec.or_zero
theorem mo_runs_L (h : TM m T tr) (hT : TOK S T tr) {s : Nat} (hs : s < 2 ^ 31) (day : Int32) (k : Int32 → Option Int32) : ∀ (d j n acc : Nat), j + d = T → d < n → Mo_runs_L31 m k n (nI s) day (nI acc) (nI j) = k (nI (oR (fun t => lvs tr t s day) id d j acc)) := by
  have h12 : T ≤ 12 := hT.2.2.1
  intro d
  induction d with
  | zero =>
    intro j n acc hj hn
    obtain ⟨n, rfl⟩ : ∃ q, n = q + 1 := ⟨n - 1, by omega⟩
    rw [Mo_runs_L31, h.1, if_pos (nI_le (by omega) (by omega)), oR]
  | succ d ih =>
    intro j n acc hj hn
    obtain ⟨n, rfl⟩ : ∃ q, n = q + 1 := ⟨n - 1, by omega⟩
    have hjT : j < T := by omega
    rw [Mo_runs_L31, h.1, if_neg (nI_ge hjT (by omega)), mo_leaves h hT hjT hs, Option.bind_some, nI_1, oR]
    cases hl : lvs tr j s day with
    | false => rw [bi_f, if_pos rfl, or0, ih (j + 1) n acc (by omega) (by omega)]; rfl
    | true => rw [if_neg (by decide), shl1_nI (by omega), fa_or, ih (j + 1) n _ (by omega) (by omega)]; rfl
/-- tickets as the row has them -/
def KM (m : Wd) (tk : Nat → Nat) : Prop := ∀ k, k < 3 → m.1 38 (4 + k) = nI (tk k)
theorem km_at {tk : Nat → Nat} (h : KM m tk) {k : Nat} (hk : k < 3) : ib ((4 : Int32) + nI k) 45 = true ∧ m.1 38 (Int32.toNatClampNeg ((4 : Int32) + nI k)) = nI (tk k) := by
  rw [show (4 : Int32) = nI 4 from rfl, nI_add, nI_clamp (by omega)]
  exact ⟨ib_nI (by omega) (by decide), h k hk⟩
/-- what he can ride from s -/
def rid (tr : Tr) (tk : Nat → Nat) (s : Nat) (day : Int32) (t : Nat) : Bool := lvs tr t s day && decide (0 < tk (tr t 5))
theorem mo_ridable_L (h : TM m T tr) (hT : TOK S T tr) {tk : Nat → Nat} (hk : KM m tk) (h9 : ∀ k, k < 3 → tk k < 2 ^ 31) {s : Nat} (hs : s < 2 ^ 31) (k : Int32 → Option Int32) : ∀ (d j n acc : Nat), j + d = T → d < n → Mo_ridable_L4 m k n (nI s) (nI acc) (nI j) = k (nI (oR (rid tr tk s (m.1 38 0)) id d j acc)) := by
  have h12 : T ≤ 12 := hT.2.2.1
  intro d
  induction d with
  | zero =>
    intro j n acc hj hn
    obtain ⟨n, rfl⟩ : ∃ q, n = q + 1 := ⟨n - 1, by omega⟩
    rw [Mo_ridable_L4, h.1, if_pos (nI_le (by omega) (by omega)), oR]
  | succ d ih =>
    intro j n acc hj hn
    obtain ⟨n, rfl⟩ : ∃ q, n = q + 1 := ⟨n - 1, by omega⟩
    have hjT : j < T := by omega
    obtain ⟨-, -, -, -, -, -, e5⟩ := hT.2.2.2 j hjT
    rw [Mo_ridable_L4, h.1, if_neg (nI_ge hjT (by omega)), mo_leaves h hT hjT hs, Option.bind_some, nI_1, oR]
    cases hl : lvs tr j s (m.1 38 0) with
    | false => rw [bi_f, if_pos rfl, or0, ih (j + 1) n acc (by omega) (by omega)]; simp [rid, hl]
    | true =>
      rw [if_neg (by decide), if_pos (mo_5 h hT hjT).1, (mo_5 h hT hjT).2, if_pos (km_at hk e5).1, (km_at hk e5).2]
      by_cases hz : 0 < tk (tr j 5)
      · rw [if_neg (nI_nle hz (h9 _ e5)), shl1_nI (by omega), fa_or, ih (j + 1) n _ (by omega) (by omega)]; simp [rid, hl, hz]
      · have : tk (tr j 5) = 0 := by omega
        rw [this, if_pos (show nI 0 ≤ 0 by decide), or0, ih (j + 1) n _ (by omega) (by omega)]; simp [rid, hl, this]
theorem mo_ridable (h : TM m T tr) (hT : TOK S T tr) {tk : Nat → Nat} (hk : KM m tk) (h9 : ∀ k, k < 3 → tk k < 2 ^ 31) {s : Nat} (hs : s < 2 ^ 31) : Mo_ridable m (nI s) = some (nI (oR (rid tr tk s (m.1 38 0)) id T 0 0)) :=
  mo_ridable_L h hT hk h9 hs _ T 0 FU 0 (by omega) (by have := hT.2.2.1; unfold FU; omega)
end LandM
