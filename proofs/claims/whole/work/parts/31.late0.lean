/-! LATE: sums, next days, the common divisor -/
theorem lN_0 : (0 : Int64) = lN 0 := rfl
theorem lN_e (n : Nat) : lN (n % 2 ^ 64) = lN n := by
  apply Int64.toBitVec_inj.1
  show BitVec.ofNat 64 (n % 2 ^ 64) = BitVec.ofNat 64 n
  apply BitVec.eq_of_toNat_eq
  simp
/-- the sum of f j, .. d of them -/
def sm (f : Nat → Nat) : Nat → Nat → Nat
  | 0, _ => 0
  | d + 1, j => f j + sm f d (j + 1)
theorem sm_last (f : Nat → Nat) : ∀ (d j : Nat), sm f (d + 1) j = sm f d j + f (j + d) := by
  intro d
  induction d with
  | zero => intro j; rw [sm, sm]; simp [sm]
  | succ d ih => intro j; rw [sm, ih (j + 1), sm, show j + 1 + d = j + (d + 1) by omega]; omega
theorem sm_le {f g : Nat → Nat} : ∀ (d j : Nat), (∀ i, j ≤ i → i < j + d → f i ≤ g i) → sm f d j ≤ sm g d j := by
  intro d
  induction d with
  | zero => intro j _; exact Nat.le_refl _
  | succ d ih =>
    intro j h
    rw [sm, sm]
    exact Nat.add_le_add (h j (Nat.le_refl _) (by omega)) (ih (j + 1) fun i a b => h i (by omega) (by omega))
theorem sm_mul (f : Nat → Nat) (c : Nat) : ∀ (d j : Nat), sm (fun i => f i * c) d j = sm f d j * c := by
  intro d
  induction d with
  | zero => intro j; simp [sm]
  | succ d ih => intro j; rw [sm, sm, ih, Nat.add_mul]
theorem sm_add (f g : Nat → Nat) : ∀ (d j : Nat), sm (fun i => f i + g i) d j = sm f d j + sm g d j := by
  intro d
  induction d with
  | zero => intro j; rfl
  | succ d ih => intro j; rw [sm, sm, sm, ih]; omega
theorem sm_swap (f : Nat → Nat → Nat) (e k : Nat) : ∀ (d j : Nat), sm (fun i => sm (fun q => f i q) e k) d j = sm (fun q => sm (fun i => f i q) d j) e k := by
  intro d
  induction d with
  | zero =>
    intro j
    have : ∀ e k, sm (fun _ => 0) e k = 0 := by
      intro e
      induction e with
      | zero => intro k; rfl
      | succ e ih => intro k; rw [sm, ih]
    show 0 = sm (fun _ => 0) e k
    rw [this]
  | succ d ih =>
    intro j
    rw [sm, ih, ← sm_add]
    rfl
theorem sm_one (c v : Nat) : ∀ (d j : Nat), sm (fun q => if c = q then v else 0) d j ≤ v := by
  intro d
  induction d with
  | zero => intro j; exact Nat.zero_le _
  | succ d ih =>
    intro j
    rw [sm]
    by_cases h : c = j
    · rw [if_pos h]
      have : sm (fun q => if c = q then v else 0) d (j + 1) = 0 := by
        have z : ∀ d k, c < k → sm (fun q => if c = q then v else 0) d k = 0 := by
          intro d
          induction d with
          | zero => intro k _; rfl
          | succ d ih => intro k hk; rw [sm, if_neg (by omega), ih (k + 1) (by omega)]
        exact z d (j + 1) (by omega)
      omega
    · rw [if_neg h, Nat.zero_add]; exact ih (j + 1)
theorem sm_mono (f : Nat → Nat) : ∀ (d e j : Nat), d ≤ e → sm f d j ≤ sm f e j := by
  intro d
  induction d with
  | zero => intro e j _; exact Nat.zero_le _
  | succ d ih =>
    intro e j h
    obtain ⟨e, rfl⟩ : ∃ q, e = q + 1 := ⟨e - 1, by omega⟩
    rw [sm, sm]
    exact Nat.add_le_add_left (ih e (j + 1) (by omega)) _
/-- the next day of d on which a train of E, R runs -/
def nr (E R d : Nat) : Nat := if d % E = R then d else if (d + 1) % E = R then d + 1 else if (d + 2) % E = R then d + 2 else d + 3
theorem nr_run {E R : Nat} (d : Nat) (h1 : 1 ≤ E) (h4 : E ≤ 4) (hR : R < E) : nr E R d % E = R := by
  unfold nr
  have : E = 1 ∨ E = 2 ∨ E = 3 ∨ E = 4 := by omega
  rcases this with rfl | rfl | rfl | rfl <;> (repeat' split) <;> omega
theorem nr_ge (E R d : Nat) : d ≤ nr E R d := by
  unfold nr
  (repeat' split) <;> omega
theorem nr_at {E R d : Nat} (h : d % E = R) : nr E R d = d := by unfold nr; rw [if_pos h]
theorem nr_no {E R d : Nat} (h1 : 1 ≤ E) (h4 : E ≤ 4) (hR : R < E) (h : ¬ d % E = R) : nr E R d = nr E R (d + 1) := by
  unfold nr
  have : E = 1 ∨ E = 2 ∨ E = 3 ∨ E = 4 := by omega
  rcases this with rfl | rfl | rfl | rfl <;> (repeat' split) <;> omega
/-- what ways of day d bring to day j -/
def cb (E R ni p : Nat) (W : Nat → Nat) (d j : Nat) : Nat := (if nr E R d + ni = j then W d * (10 - p) else 0) + (if nr E R d + ni + 1 = j then W d * p else 0)
/-- ways behind a ride -/
def wr (E R ni p : Nat) (W : Nat → Nat) (j : Nat) : Nat := sm (fun d => cb E R ni p W d j) 41 0
theorem wr_sum (E R ni p : Nat) (hp : p ≤ 10) (W : Nat → Nat) : sm (wr E R ni p W) 41 0 ≤ sm W 41 0 * 10 := by
  have e : sm (wr E R ni p W) 41 0 = sm (fun d => sm (fun j => cb E R ni p W d j) 41 0) 41 0 := (sm_swap (fun d j => cb E R ni p W d j) 41 0 41 0).symm
  rw [e, ← sm_mul]
  refine sm_le _ _ fun d _ _ => ?_
  have : sm (fun j => cb E R ni p W d j) 41 0 = sm (fun j => if nr E R d + ni = j then W d * (10 - p) else 0) 41 0 + sm (fun j => if nr E R d + ni + 1 = j then W d * p else 0) 41 0 := sm_add _ _ _ _
  rw [this]
  have a := sm_one (nr E R d + ni) (W d * (10 - p)) 41 0
  have b := sm_one (nr E R d + ni + 1) (W d * p) 41 0
  have c : W d * (10 - p) + W d * p = W d * 10 := by rw [← Nat.mul_add, Nat.sub_add_cancel hp]
  omega
/-- Euclid's steps end soon -/
theorem mod_half {b r : Nat} (hr : 0 < r) (h : r < b) : 2 * (b % r) < b := by
  have h1 := Nat.mod_lt b hr
  have h2 : b % r ≤ b - r := by
    rw [Nat.mod_eq_sub_mod (Nat.le_of_lt h)]
    exact Nat.mod_le _ _
  omega
theorem gcd_step (a b : Nat) : Nat.gcd a b = Nat.gcd b (a % b) := by
  rw [Nat.gcd_comm a b, Nat.gcd_rec b a, Nat.gcd_comm]
theorem eq0_cmp {b : Nat} (h : b < 2 ^ 63) : lg_cmp (lN b) (0 : Int64) = 0 ↔ b = 0 := by
  unfold lg_cmp
  by_cases hb : b = 0
  · rw [hb]; decide
  · have h1 : lN b > 0 := (pk_lLT (a := 0) (by decide) h).mpr (by omega)
    rw [if_pos h1]
    exact ⟨fun e => absurd e (by decide), fun e => absurd e hb⟩
theorem ne0_l {b : Nat} (h : b < 2 ^ 63) (hb : ¬ b = 0) : ¬ lN b = (0 : Int64) := fun e => hb ((pk_lEQ (a := b) (b := 0) h (by decide)).mp e)
theorem mo_gcd (w : Wd) (k : Int64 → Option Int64) : ∀ (q a b n : Nat), a < 2 ^ 63 → b < 2 ^ 63 → b < 2 ^ q → 2 * q + 1 ≤ n → Mo_divisor_L6 w k n (lN a) (lN b) = k (lN (Nat.gcd a b)) := by
  intro q
  induction q with
  | zero =>
    intro a b n ha hb hq hn
    obtain ⟨n, rfl⟩ : ∃ q, n = q + 1 := ⟨n - 1, by omega⟩
    have : b = 0 := by simp at hq; exact hq
    subst this
    rw [Mo_divisor_L6, if_pos ((eq0_cmp (by decide)).mpr rfl), Nat.gcd_zero_right]
  | succ q ih =>
    intro a b n ha hb hq hn
    obtain ⟨n, rfl⟩ : ∃ q, n = q + 1 + 1 := ⟨n - 2, by omega⟩
    rw [Mo_divisor_L6]
    by_cases h0 : b = 0
    · subst h0
      rw [if_pos ((eq0_cmp (by decide)).mpr rfl), Nat.gcd_zero_right]
    · rw [if_neg (fun e => h0 ((eq0_cmp hb).mp e)), if_pos (ne0_l hb h0), pk_lRem ha (by omega) hb, gcd_step a b]
      have hr : a % b < b := Nat.mod_lt _ (by omega)
      rw [Mo_divisor_L6]
      by_cases h1 : a % b = 0
      · rw [h1, if_pos ((eq0_cmp (by decide)).mpr rfl), Nat.gcd_zero_right]
      · rw [if_neg (fun e => h1 ((eq0_cmp (by omega)).mp e)), if_pos (ne0_l (by omega) h1), pk_lRem hb (by omega) (by omega), gcd_step b]
        have hh := mod_half (r := a % b) (b := b) (by omega) hr
        have h2q : 2 ^ (q + 1) = 2 * 2 ^ q := by rw [Nat.pow_succ]; omega
        have h3 := Nat.mod_lt b (y := a % b) (by omega)
        exact ih (a % b) (b % (a % b)) n (by omega) (by omega) (by omega) (by omega)
theorem nt_gcd (w : Wd) (k : Int64 → Option Int64) : ∀ (q a b n j : Nat), a < 2 ^ 63 → b < 2 ^ 63 → b < 2 ^ q → 2 * q + 1 ≤ n → j + 2 * q + 1 ≤ 1000 → Nt_commonDivisor_L9 w k n (lN a) (lN b) (nI j) = k (lN (Nat.gcd a b)) := by
  intro q
  induction q with
  | zero =>
    intro a b n j ha hb hq hn hj
    obtain ⟨n, rfl⟩ : ∃ q, n = q + 1 := ⟨n - 1, by omega⟩
    have : b = 0 := by simp at hq; exact hq
    subst this
    rw [Nt_commonDivisor_L9, if_neg (show ¬ (1000 : Int32) ≤ nI j from nI_ge (b := 1000) (by omega) (by decide)), if_pos ((eq0_cmp (by decide)).mpr rfl), Nat.gcd_zero_right]
  | succ q ih =>
    intro a b n j ha hb hq hn hj
    obtain ⟨n, rfl⟩ : ∃ q, n = q + 1 + 1 := ⟨n - 2, by omega⟩
    rw [Nt_commonDivisor_L9, if_neg (show ¬ (1000 : Int32) ≤ nI j from nI_ge (b := 1000) (by omega) (by decide))]
    by_cases h0 : b = 0
    · subst h0
      rw [if_pos ((eq0_cmp (by decide)).mpr rfl), Nat.gcd_zero_right]
    · rw [if_neg (fun e => h0 ((eq0_cmp hb).mp e)), if_pos (ne0_l hb h0), pk_lRem ha (by omega) hb, gcd_step a b, nI_1]
      have hr : a % b < b := Nat.mod_lt _ (by omega)
      rw [Nt_commonDivisor_L9, if_neg (show ¬ (1000 : Int32) ≤ nI (j + 1) from nI_ge (b := 1000) (by omega) (by decide))]
      by_cases h1 : a % b = 0
      · rw [h1, if_pos ((eq0_cmp (by decide)).mpr rfl), Nat.gcd_zero_right]
      · rw [if_neg (fun e => h1 ((eq0_cmp (by omega)).mp e)), if_pos (ne0_l (by omega) h1), pk_lRem hb (by omega) (by omega), gcd_step b, nI_1]
        have hh := mod_half (r := a % b) (b := b) (by omega) hr
        have h2q : 2 ^ (q + 1) = 2 * 2 ^ q := by rw [Nat.pow_succ]; omega
        have h3 := Nat.mod_lt b (y := a % b) (by omega)
        exact ih (a % b) (b % (a % b)) n (j + 1 + 1) (by omega) (by omega) (by omega) (by omega) (by omega)
