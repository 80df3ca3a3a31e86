/-! SHUT -/
section Shut
variable {S T : Nat} {tr : Tr}
/-- stations by a night's trains from s, but for the train c -/
def ngt (T : Nat) (tr : Tr) (s : Nat) (dy c : Int32) : Nat := oR (fun t => !decide (nI t = c) && (decide (tr t 4 = 1) && lvs tr t s dy)) (fun t => tr t 1) T 0 0
theorem mo_nights_L {m : Wd} (h : TM m T tr) (hT : TOK S T tr) {s : Nat} (hs : s < 2 ^ 31) (dy c : Int32) (k : Int32 → Option Int32) : ∀ (d j n acc : Nat), j + d = T → d < n → Mo_nightsFrom_L6 m k n (nI s) dy c (nI acc) (nI j) = k (nI (oR (fun t => !decide (nI t = c) && (decide (tr t 4 = 1) && lvs tr t s dy)) (fun t => tr t 1) d j acc)) := by
  have h12 := hT.2.2.1
  have h7 := hT.2.1
  intro d
  induction d with
  | zero =>
    intro j n acc hj hn
    obtain ⟨n, rfl⟩ : ∃ q, n = q + 1 := ⟨n - 1, by omega⟩
    rw [Mo_nightsFrom_L6, h.1, if_pos (nI_le (by omega) (by omega)), oR]
  | succ d ih =>
    intro j n acc hj hn
    obtain ⟨n, rfl⟩ : ∃ q, n = q + 1 := ⟨n - 1, by omega⟩
    have hjT : j < T := by omega
    obtain ⟨e0, e1, -, -, -, e4, e5⟩ := hT.2.2.2 j hjT
    rw [Mo_nightsFrom_L6, h.1, if_neg (nI_ge hjT (by omega)), or0, nI_1, oR]
    by_cases hc : nI j = c
    · rw [if_pos hc, decide_eq_true hc, ih (j + 1) n acc (by omega) (by omega)]; rfl
    · rw [if_neg hc, decide_eq_false hc, if_pos (mo_4 h hT hjT).1, (mo_4 h hT hjT).2, mo_leaves h hT hjT hs, Option.bind_some]
      rcases e4 with e | e
      · rw [e, if_pos (show nI 1 = 1 from rfl), decide_eq_true rfl]
        cases hl : lvs tr j s dy with
        | false => rw [bi_f, if_pos rfl, ih (j + 1) n acc (by omega) (by omega)]; rfl
        | true => rw [bi_t, if_neg one_ne, if_pos (mo_1 h hT hjT).1, (mo_1 h hT hjT).2, shl1_nI (by omega), fa_or, ih (j + 1) n _ (by omega) (by omega)]; rfl
      · rw [e, if_neg (show ¬ nI 2 = 1 by decide), ih (j + 1) n acc (by omega) (by omega)]; rfl
theorem mo_nights {m : Wd} (h : TM m T tr) (hT : TOK S T tr) {s : Nat} (hs : s < 2 ^ 31) (dy c : Int32) : Mo_nightsFrom m (nI s) dy c = some (nI (ngt T tr s dy c)) :=
  mo_nights_L h hT hs dy c _ T 0 FU 0 (by omega) (by have := hT.2.2.1; unfold FU; omega)
theorem ngt_lt (hT : TOK S T tr) (s : Nat) (dy c : Int32) : ngt T tr s dy c < 2 ^ S := oR_lt _ _ _ (fun t _ h _ => (hT.2.2.2 t (by omega)).2.1) (Nat.two_pow_pos S)
theorem ngt_bit {s : Nat} {dy c : Int32} (i : Nat) : (ngt T tr s dy c).testBit i = true ↔ ∃ t, t < T ∧ ¬ nI t = c ∧ tr t 4 = 1 ∧ tr t 0 = s ∧ rn tr t dy = true ∧ tr t 1 = i := by
  unfold ngt lvs
  rw [oR_bit]
  constructor
  · rintro (h | ⟨t, h1, h2, h3, h4⟩)
    · simp at h
    · simp only [Bool.and_eq_true, decide_eq_true_eq, Bool.not_eq_true', decide_eq_false_iff_not] at h3
      exact ⟨t, by omega, h3.1, h3.2.1, h3.2.2.1, h3.2.2.2, h4⟩
  · rintro ⟨t, h1, h2, h3, h4, h5, h6⟩
    exact Or.inr ⟨t, by omega, by omega, by simp [h2, h3, h4, h5], h6⟩
/-- where a seeker may be next; 7 is nowhere -/
def rea (T : Nat) (tr : Tr) (p : Nat) (dy c : Int32) : Nat := if p = 7 then 128 else 2 ^ p ||| ngt T tr p dy c
/-- a seeker's place: 7 is nowhere -/
def plc (s : Int32) : Nat := if s = -1 then 7 else s.toNatClampNeg
theorem plc_lt {s : Int32} {S : Nat} (h : s = -1 ∨ ∃ q, q < S ∧ s = nI q) (hS : S ≤ 7) : plc s < 8 ∧ (s = -1 → plc s = 7) ∧ (¬ s = -1 → plc s < S ∧ s = nI (plc s)) := by
  unfold plc
  by_cases hs : s = -1
  · rw [if_pos hs]; exact ⟨by decide, fun _ => rfl, fun h => absurd hs h⟩
  · rw [if_neg hs]
    obtain ⟨q, hq, rfl⟩ := h.resolve_left hs
    rw [nI_clamp (by omega)]
    exact ⟨by omega, fun e => absurd e hs, fun _ => ⟨hq, rfl⟩⟩
theorem mo_reach {m : Wd} (h : TM m T tr) (hT : TOK S T tr) {s : Int32} (hs : s = -1 ∨ ∃ q, q < S ∧ s = nI q) (dy c : Int32) : Mo_reach m s dy c = some (nI (rea T tr (plc s) dy c)) := by
  have h7 := hT.2.1
  obtain ⟨a1, a2, a3⟩ := plc_lt hs h7
  unfold Mo_reach rea
  by_cases h1 : s = -1
  · rw [if_pos h1, a2 h1, if_pos rfl]; rfl
  · obtain ⟨b1, b2⟩ := a3 h1
    clear a2 a3 hs
    revert b1 b2 a1
    generalize plc s = q
    intro a1 b1 b2
    subst b2
    rw [if_neg h1, if_neg (fun e => by have := (nI_eq (a := q) (b := 7) (by omega) (by decide)).mp e; omega), mo_nights h hT (by omega), Option.bind_some, shl1_nI (by omega), fa_or, if_neg (show ¬ q = 7 by omega)]
theorem mo_reach7 {m : Wd} (dy c : Int32) : Mo_reach m (7 : Int32) dy c = some (nI 128) := rfl
theorem rch_ngt (hT : TOK S T tr) (s : Nat) (dy : Int32) : rch T tr (2 ^ s) dy 7 1 = ngt T tr s dy (-1) := by
  have h12 := hT.2.2.1
  apply bits_ext
  intro i
  rw [rch_bit, ngt_bit]
  constructor
  · rintro ⟨t, h1, h2, h3, h4, h5, h6⟩
    rw [Nat.testBit_two_pow, decide_eq_true_eq] at h3
    exact ⟨t, h1, nI_m1 (by omega), h5, h3.symm, h4, h6⟩
  · rintro ⟨t, h1, h2, h3, h4, h5, h6⟩
    obtain ⟨-, -, -, -, -, -, e5⟩ := hT.2.2.2 t h1
    refine ⟨t, h1, ?_, by rw [Nat.testBit_two_pow, h4]; exact decide_eq_true rfl, h5, h3, h6⟩
    match tr t 5, e5 with
    | 0, _ => decide
    | 1, _ => decide
    | 2, _ => decide
theorem fs_choices {x : Wd} (h : TX x T tr) (hT : TOK S T tr) {s : Int32} (hs : s = -1 ∨ ∃ q, q < S ∧ s = nI q) : Fs_choices x s = some (nI (rea T tr (plc s) (x.1 13 1) (-1))) := by
  have h7 := hT.2.1
  obtain ⟨a1, a2, a3⟩ := plc_lt hs h7
  unfold Fs_choices rea
  by_cases h1 : s = -1
  · rw [if_pos h1, a2 h1, if_pos rfl]; rfl
  · obtain ⟨b1, b2⟩ := a3 h1
    clear a2 a3 hs
    revert b1 b2 a1
    generalize plc s = q
    intro a1 b1 b2
    subst b2
    have hp : 2 ^ q < 2 ^ 31 := Nat.pow_lt_pow_right (by decide) (by omega)
    rw [if_neg h1, shl1_nI (by omega), show La_reached x (nI (2 ^ q)) (x.1 13 1) 7 1 = _ from la_reached (kd := 7) (ni := 1) h hT hp (by decide) (by decide) _, Option.bind_some, fa_or, rch_ngt hT, if_neg (show ¬ q = 7 by omega)]
theorem rea_lt (hT : TOK S T tr) {p : Nat} (hp : p < 8) (dy c : Int32) : rea T tr p dy c < 256 := by
  have h7 := hT.2.1
  unfold rea
  split
  · decide
  · have a : 2 ^ p < 2 ^ 8 := Nat.pow_lt_pow_right (by decide) hp
    have b : ngt T tr p dy c < 2 ^ 8 := Nat.lt_of_lt_of_le (ngt_lt hT _ _ _) (Nat.pow_le_pow_right (by decide) (by omega))
    exact Nat.or_lt_two_pow a b
theorem rea_self {p : Nat} (dy c : Int32) : (rea T tr p dy c).testBit p = true := by
  unfold rea
  split
  · rename_i h; rw [h]; decide
  · rw [Nat.testBit_or, Nat.testBit_two_pow, decide_eq_true rfl, Bool.true_or]
/-- how many of nx a pair of places has -/
def pcv (nx v : Nat) : Nat := pc (nx &&& (2 ^ (v / 8) ||| 2 ^ (v % 8)))
def sF (nx c0 c1 : Nat) : Nat → Nat → Int32 → Nat → Int32 × Nat
  | 0, _, mo, be => (mo, be)
  | d + 1, v, mo, be => sF nx c0 c1 d (v + 1) (if c0.testBit (v / 8) && c1.testBit (v % 8) then (if nI (pcv nx v) ≤ mo then mo else nI (pcv nx v)) else mo) (if c0.testBit (v / 8) && c1.testBit (v % 8) then (if nI (pcv nx v) ≤ mo then be else v) else be)
theorem sF_add (nx c0 c1 : Nat) : ∀ (d e v : Nat) (mo : Int32) (be : Nat), sF nx c0 c1 (d + e) v mo be = sF nx c0 c1 e (v + d) (sF nx c0 c1 d v mo be).1 (sF nx c0 c1 d v mo be).2 := by
  intro d
  induction d with
  | zero => intro e v mo be; rw [Nat.zero_add]; rfl
  | succ d ih =>
    intro e v mo be
    rw [show d + 1 + e = (d + e) + 1 by omega, sF, ih e (v + 1), sF, show v + 1 + d = v + (d + 1) by omega]
/-- once something is found, or is to come, there is an answer -/
theorem sF_some (nx c0 c1 : Nat) : ∀ (d v : Nat) (mo : Int32) (be : Nat), (mo = -1 ∨ ∃ p, p ≤ 7 ∧ mo = nI p) → be < 64 → v + d ≤ 64 → ((∃ u, v ≤ u ∧ u < v + d ∧ c0.testBit (u / 8) = true ∧ c1.testBit (u % 8) = true) ∨ ¬ mo = -1) → (∃ p, p ≤ 7 ∧ (sF nx c0 c1 d v mo be).1 = nI p) ∧ (sF nx c0 c1 d v mo be).2 < 64 := by
  intro d
  induction d with
  | zero =>
    intro v mo be h1 h2 _ h3
    rcases h3 with ⟨u, a, b, _⟩ | h3
    · omega
    · exact ⟨h1.resolve_left h3, h2⟩
  | succ d ih =>
    intro v mo be h1 h2 h64 h3
    rw [sF]
    have hp7 := pc_le (nx &&& (2 ^ (v / 8) ||| 2 ^ (v % 8)))
    have hpv : pcv nx v ≤ 7 := hp7
    by_cases hb : (c0.testBit (v / 8) && c1.testBit (v % 8)) = true
    · rw [if_pos hb, if_pos hb]
      by_cases hle : nI (pcv nx v) ≤ mo
      · rw [if_pos hle, if_pos hle]
        refine ih (v + 1) mo be h1 h2 (by omega) (Or.inr fun e => ?_)
        rw [e] at hle
        rw [Int32.le_iff_toInt_le, nI_toInt (by omega)] at hle
        have : (-1 : Int32).toInt = -1 := by decide
        omega
      · rw [if_neg hle, if_neg hle]
        exact ih (v + 1) _ v (Or.inr ⟨_, hpv, rfl⟩) (by omega) (by omega) (Or.inr (nI_m1 (by omega)))
    · rw [if_neg hb, if_neg hb]
      refine ih (v + 1) mo be h1 h2 (by omega) ?_
      rcases h3 with ⟨u, a, b, c, d'⟩ | h3
      · left
        refine ⟨u, ?_, by omega, c, d'⟩
        rcases Nat.lt_or_ge v u with q | q
        · exact q
        · have : u = v := by omega
          subst this
          rw [c, d'] at hb
          exact absurd rfl hb
      · exact Or.inr h3
theorem nx_and {nx a b : Nat} (h : nx < 128) : nx &&& (2 ^ a ||| 2 ^ b) < 128 := Nat.lt_of_le_of_lt Nat.and_le_left h
/-- the class's places behind a stretch of the search -/
def Fso (w : Wd) (q : Int32 × Nat) : Prop := w.1 25 2 = q.1 ∧ (¬ q.1 = -1 → w.1 25 3 = nI (q.2 / 8) ∧ w.1 25 4 = nI (q.2 % 8))
theorem fs_in (nx c0 c1 : Nat) (hn : nx < 128) (h0 : c0 < 2 ^ 31) (h1 : c1 < 2 ^ 31) (k : Wd → Int32 → Int32 → Int32 → Int32 → Option Wd) {a : Nat} (ha : a < 8) : ∀ (d j n : Nat) (w : Wd) (mo : Int32) (be : Nat), Fso w (mo, be) → j + d = 8 → d < n → ∃ w', Fs_stand_L54 k n w (nI nx) (nI c0) (nI c1) (nI a) (nI j) = k w' (nI nx) (nI c0) (nI c1) (nI a) ∧ XEq w w' ∧ Fso w' (sF nx c0 c1 d (8 * a + j) mo be) := by
  intro d
  induction d with
  | zero =>
    intro j n w mo be hw hj hn'
    obtain ⟨n, rfl⟩ : ∃ q, n = q + 1 := ⟨n - 1, by omega⟩
    rw [Fs_stand_L54, if_pos (show (8 : Int32) ≤ nI j from nI_le (a := 8) (by omega) (by omega))]
    exact ⟨w, rfl, XEq.rf w, hw⟩
  | succ d ih =>
    intro j n w mo be hw hj hn'
    obtain ⟨n, rfl⟩ : ∃ q, n = q + 1 := ⟨n - 1, by omega⟩
    have hj8 : j < 8 := by omega
    have e1 : (8 * a + j) / 8 = a := by omega
    have e2 : (8 * a + j) % 8 = j := by omega
    have hpv : Jd_bitCount w (nI nx &&& (((1 : Int32) <<< (nI a &&& (31 : Int32))) ||| ((1 : Int32) <<< (nI j &&& (31 : Int32))))) = nI (pcv nx (8 * a + j)) := by
      rw [shl1_nI (by omega), shl1_nI (by omega), fa_or, fa_and, jd_bits w (nx_and hn)]
      unfold pcv
      rw [e1, e2]
    rw [Fs_stand_L54, if_neg (show ¬ (8 : Int32) ≤ nI j from nI_ge (b := 8) hj8 (by decide)), hpv, nt_hasBit h0 (by omega), nt_hasBit h1 (by omega), hw.1, nI_1, sF, e1, e2]
    cases hb0 : c0.testBit a with
    | false =>
      rw [bi_f, if_pos rfl]
      exact ih (j + 1) n w mo be hw (by omega) (by omega)
    | true =>
      rw [bi_t, if_neg one_ne]
      cases hb1 : c1.testBit j with
      | false =>
        rw [bi_f, if_pos rfl]
        exact ih (j + 1) n w mo be hw (by omega) (by omega)
      | true =>
        rw [bi_t, if_neg one_ne, Bool.and_self, if_pos rfl, if_pos rfl]
        by_cases hle : nI (pcv nx (8 * a + j)) ≤ mo
        · rw [if_pos (show nI (pcv nx (8 * a + j)) ≤ (mo, be).1 from hle), if_pos hle, if_pos hle]
          exact ih (j + 1) n w mo be hw (by omega) (by omega)
        · rw [if_neg (show ¬ nI (pcv nx (8 * a + j)) ≤ (mo, be).1 from hle), if_neg hle, if_neg hle]
          have hq : XEq w (sI (sI (sI w 25 2 (nI (pcv nx (8 * a + j)))) 25 3 (nI a)) 25 4 (nI j)) := ((xe_sI w 2 _ (by omega)).tr (xe_sI _ 3 _ (by omega))).tr (xe_sI _ 4 _ (by omega))
          obtain ⟨w', f1, f2, f3⟩ := ih (j + 1) n (sI (sI (sI w 25 2 (nI (pcv nx (8 * a + j)))) 25 3 (nI a)) 25 4 (nI j)) (nI (pcv nx (8 * a + j))) (8 * a + j) ⟨rfl, fun _ => ⟨by rw [e1]; rfl, by rw [e2]; rfl⟩⟩ (by omega) (by omega)
          exact ⟨w', f1, hq.tr f2, f3⟩
theorem fs_out (nx c0 c1 : Nat) (hn : nx < 128) (h0 : c0 < 2 ^ 31) (h1 : c1 < 2 ^ 31) (k : Wd → Option Wd) : ∀ (d a n : Nat) (w : Wd) (mo : Int32) (be : Nat), Fso w (mo, be) → a + d = 8 → d < n → ∃ w', Fs_stand_L44 k n w (nI nx) (nI c0) (nI c1) (nI a) = k w' ∧ XEq w w' ∧ Fso w' (sF nx c0 c1 (8 * d) (8 * a) mo be) := by
  intro d
  induction d with
  | zero =>
    intro a n w mo be hw ha hn'
    obtain ⟨n, rfl⟩ : ∃ q, n = q + 1 := ⟨n - 1, by omega⟩
    rw [Fs_stand_L44, if_pos (show (8 : Int32) ≤ nI a from nI_le (a := 8) (by omega) (by omega))]
    exact ⟨w, rfl, XEq.rf w, hw⟩
  | succ d ih =>
    intro a n w mo be hw ha hn'
    obtain ⟨n, rfl⟩ : ∃ q, n = q + 1 := ⟨n - 1, by omega⟩
    rw [Fs_stand_L44, if_neg (show ¬ (8 : Int32) ≤ nI a from nI_ge (b := 8) (by omega) (by decide))]
    obtain ⟨w1, f1, f2, f3⟩ := fs_in nx c0 c1 hn h0 h1 (Fs_stand_B128 (Fs_stand_L44 k n)) (a := a) (by omega) 8 0 FU w mo be hw rfl (by decide)
    rw [show Fs_stand_L54 (Fs_stand_B128 (Fs_stand_L44 k n)) FU w (nI nx) (nI c0) (nI c1) (nI a) 0 = _ from f1]
    unfold Fs_stand_B128
    rw [nI_1]
    obtain ⟨w2, g1, g2, g3⟩ := ih (a + 1) n w1 _ _ f3 (by omega) (by omega)
    refine ⟨w2, g1, f2.tr g2, ?_⟩
    rw [show 8 * (d + 1) = 8 + 8 * d by omega, sF_add, show 8 * a + 8 = 8 * (a + 1) by omega]
    exact g3
theorem mo_shut_L (nx c0 c1 : Nat) (hn : nx < 128) (h0 : c0 < 2 ^ 31) (h1 : c1 < 2 ^ 31) (w : Wd) (i : Int32) (k : Wd → Int32 → Int32 → Int32 → Option (Int32 × Wd)) : ∀ (d v n : Nat) (mo : Int32) (be : Nat), v + d = 64 → d < n → Mo_shut_L81 k n w i (nI nx) (nI c0) (nI c1) mo (nI be) (nI v) = k w i (sF nx c0 c1 d v mo be).1 (nI (sF nx c0 c1 d v mo be).2) := by
  intro d
  induction d with
  | zero =>
    intro v n mo be hv hn'
    obtain ⟨n, rfl⟩ : ∃ q, n = q + 1 := ⟨n - 1, by omega⟩
    rw [Mo_shut_L81, if_pos (show (64 : Int32) ≤ nI v from nI_le (a := 64) (by omega) (by omega))]
    rfl
  | succ d ih =>
    intro v n mo be hv hn'
    obtain ⟨n, rfl⟩ : ∃ q, n = q + 1 := ⟨n - 1, by omega⟩
    have q1 : nI v / (8 : Int32) = nI (v / 8) := pk_div (d := 8) (by omega) (by decide) (by decide)
    have q2 : nI v - nI (v / 8) * (8 : Int32) = nI (v % 8) := by rw [← q1]; exact pk_rem (d := 8) (by omega) (by decide) (by decide)
    rw [Mo_shut_L81, if_neg (show ¬ (64 : Int32) ≤ nI v from nI_ge (b := 64) (by omega) (by decide)), q1, q2, mo_has h0 (by omega), mo_has h1 (by omega), shl1_nI (by omega), shl1_nI (by omega), fa_or, fa_and, mo_bits w (nx_and hn), Option.bind_some, nI_1, sF]
    cases hb0 : c0.testBit (v / 8) with
    | false => rw [bi_f, if_pos rfl, ih (v + 1) n mo be (by omega) (by omega)]; rfl
    | true =>
      rw [bi_t, if_neg one_ne]
      cases hb1 : c1.testBit (v % 8) with
      | false => rw [bi_f, if_pos rfl, ih (v + 1) n mo be (by omega) (by omega)]; rfl
      | true =>
        rw [bi_t, if_neg one_ne, Bool.and_self, if_pos rfl, if_pos rfl]
        unfold Mo_shut_B149
        rw [nI_1]
        by_cases hle : nI (pcv nx v) ≤ mo
        · have hle' : nI (pc (nx &&& (2 ^ (v / 8) ||| 2 ^ (v % 8)))) ≤ mo := hle
          rw [if_pos hle', if_pos hle', if_pos hle, if_pos hle]
          exact ih (v + 1) n mo be (by omega) (by omega)
        · have hle' : ¬ nI (pc (nx &&& (2 ^ (v / 8) ||| 2 ^ (v % 8)))) ≤ mo := hle
          rw [if_neg hle', if_neg hle', if_neg hle, if_neg hle]
          exact ih (v + 1) n _ v (by omega) (by omega)
theorem r_shut {x m : Wd} (h : Rel x m) (a : Int32) : ∃ r x' m', Nt_shut x a = some (r, x') ∧ Mo_shut m a = some (r, m') ∧ Rel x' m' := by
  have h0 := h
  obtain ⟨S, T, s0, sh, tr, tk, sk, tn, tx, ln, lg, kb, z, hT, hL, hTx, hLg, hK, hZ, hZ', hO⟩ := h
  have h7 := hT.2.1
  have core : ∃ r x' m', Nt_shut_B15 x a = some (r, x') ∧ Mo_shut_B15 m a = some (r, m') ∧ Rel x' m' := by
    have hn := sc_next hL.1 hT hZ hO
    obtain ⟨m1, n1, n2⟩ := mo_next hL.2.1 hT hL.2.2.2.1 hZ' hO
    have hz1 := hZ'.eq n2.2.2.2.2.2.2.1
    obtain ⟨dy, he, aw, ca, rd, tk', sk', sn, my, wy, lt⟩ := z
    obtain ⟨c1, c2, c3, c4, c5, c6, c7, c8, c9, c10, c11⟩ := hZ
    obtain ⟨d1, d2, d3, d4, d5, d6, d7, d8, d9, d10, d11⟩ := hZ'
    obtain ⟨e1, e2, e3, e4, e5, e6, e7, e8, e9, e10, e11⟩ := hz1
    obtain ⟨o1, o2, o3, o4, o5, o6, o7, o8, o9⟩ := hO
    dsimp only at hn n1
    have hnx : nxX T tr tk' my wy dy < 128 := Nat.lt_of_lt_of_le (nx_lt hT o6 o7) (Nat.pow_le_pow_right (n := 2) (by decide) h7)
    generalize nxX T tr tk' my wy dy = nx at hn n1 hnx
    unfold Nt_shut_B15 Mo_shut_B15
    rw [c4, show m.1 38 3 = bi ca from d4]
    cases ca with
    | true => rw [bi_t, if_neg one_ne, if_pos rfl]; exact ⟨_, _, _, rfl, rfl, h0⟩
    | false =>
      rw [bi_f, if_pos rfl, if_neg (show ¬ (0 : Int32) = 1 by decide), n1, Option.bind_some]
      dsimp only
      have p0 := (plc_lt (o4 0 (by decide)) h7).1
      have p1 := (plc_lt (o4 1 (by decide)) h7).1
      unfold Fs_stand
      rw [hn, Option.bind_some, show x.1 15 0 = sk' 0 from c7 0 (by decide), show x.1 15 1 = sk' 1 from c7 1 (by decide), fs_choices hL.1 hT (o4 0 (by decide)), Option.bind_some, fs_choices hL.1 hT (o4 1 (by decide)), Option.bind_some, show m1.1 38 8 = sk' 0 from e7 0 (by decide), show m1.1 38 9 = sk' 1 from e7 1 (by decide), show m1.1 38 0 = dy from e1, mo_reach (hL.2.1.eq n2.S) hT (o4 0 (by decide)), Option.bind_some, mo_reach (hL.2.1.eq n2.S) hT (o4 1 (by decide)), Option.bind_some, show x.1 13 1 = dy from c1]
      have r0 := rea_lt hT p0 dy (-1)
      have r1 := rea_lt hT p1 dy (-1)
      have s0' := rea_self (T := T) (tr := tr) (p := plc (sk' 0)) dy (-1)
      have s1' := rea_self (T := T) (tr := tr) (p := plc (sk' 1)) dy (-1)
      generalize rea T tr (plc (sk' 0)) dy (-1) = q0 at r0 s0' ⊢
      generalize rea T tr (plc (sk' 1)) dy (-1) = q1 at r1 s1' ⊢
      have hq : XEq x (sI x 25 2 (-1)) := xe_sI x 2 _ (by omega)
      obtain ⟨x', f1, f2, f3⟩ := fs_out nx q0 q1 hnx (by omega) (by omega) Fs_stand_B134 8 0 FU (sI x 25 2 (-1)) (-1) 0 ⟨rfl, fun h => absurd rfl h⟩ rfl (by decide)
      have g1 := mo_shut_L nx q0 q1 hnx (by omega) (by omega) m1 a Mo_shut_B173 64 0 FU (-1) 0 rfl (by decide)
      have ex := sF_some nx q0 q1 64 0 (-1) 0 (Or.inl rfl) (by decide) (by decide) (Or.inl ⟨8 * plc (sk' 0) + plc (sk' 1), by omega, by omega, by rw [show (8 * plc (sk' 0) + plc (sk' 1)) / 8 = plc (sk' 0) by omega]; exact s0', by rw [show (8 * plc (sk' 0) + plc (sk' 1)) % 8 = plc (sk' 1) by omega]; exact s1'⟩)
      rw [show Fs_stand_L44 Fs_stand_B134 FU (sI x 25 2 (-1)) (nI nx) (nI q0) (nI q1) 0 = some x' from f1, Option.bind_some, show Mo_shut_L81 Mo_shut_B173 FU m1 a (nI nx) (nI q0) (nI q1) (-1) 0 0 = _ from g1]
      rw [show 8 * 8 = 64 from rfl, show 8 * 0 = 0 from rfl] at f3
      generalize sF nx q0 q1 64 0 (-1) 0 = sf at f3 ex ⊢
      obtain ⟨mo, be⟩ := sf
      obtain ⟨⟨p, hp, ep⟩, hb⟩ := ex
      obtain ⟨g2, g3⟩ := f3
      dsimp only at ep hb g2 g3 ⊢
      obtain ⟨g3, g4⟩ := g3 (by rw [ep]; exact nI_m1 (by omega))
      have hR := h0.eq (hq.tr f2) n2
      unfold Nt_shut_B69 Mo_shut_B173 Mo_shut_B190
      have t1 : nI be / (8 : Int32) = nI (be / 8) := pk_div (d := 8) (by omega) (by decide) (by decide)
      have t2 : nI be - nI (be / 8) * (8 : Int32) = nI (be % 8) := by rw [← t1]; exact pk_rem (d := 8) (by omega) (by decide) (by decide)
      rw [g2, g3, g4, t1, t2]
      by_cases ha : a = -1
      · rw [if_pos ha, if_pos ha]; exact ⟨_, _, _, rfl, rfl, hR⟩
      · rw [if_neg ha, if_neg ha]
        by_cases hs : (if a = 0 then nI (be / 8) else nI (be % 8)) = 7
        · rw [if_pos hs, if_pos hs]; exact ⟨_, _, _, rfl, rfl, hR⟩
        · rw [if_neg hs, if_neg hs]; exact ⟨_, _, _, rfl, rfl, hR⟩
  unfold Nt_shut Mo_shut
  by_cases ha : a = -1
  · rw [if_pos ha, if_pos ha]; exact core
  · rw [if_neg ha, if_neg ha]
    rcases sk_cases x m a with ⟨e1, e2⟩ | ⟨e1, e2, i, hi, -⟩
    · rw [e1, e2]; exact ⟨_, _, _, rfl, rfl, h0⟩
    · rw [e1, e2, if_neg one_ne, if_neg one_ne]; exact core
end Shut
