/-! LATE: a ride on both sides -/
section Late
variable {S T : Nat} {tr : Tr}
theorem xe_1 {w w' : Wd} (h : w'.1 = w.1) : XEq w w' := by
  unfold XEq
  rw [h]
  exact XEq.rf w
theorem me_1 {w w' : Wd} (h : w'.1 = w.1) : MEq w w' := by
  unfold MEq
  rw [h]
  exact MEq.rf w
theorem rn_nat (hT : TOK S T tr) {t : Nat} (ht : t < T) {d : Nat} (hd : d < 2 ^ 31) : rn tr t (nI d) = decide (d % tr t 2 = tr t 3) := by
  obtain ⟨-, -, e1, e2, e3, -⟩ := hT.2.2.2 t ht
  unfold rn
  rw [pk_rem hd e1 (by omega)]
  have : d % tr t 2 < tr t 2 := Nat.mod_lt _ e1
  by_cases h : d % tr t 2 = tr t 3
  · rw [h, decide_eq_true rfl, decide_eq_true rfl]
  · rw [decide_eq_false h, decide_eq_false (fun e => h ((nI_eq (by omega) (by omega)).mp e))]
theorem sJ_ne {w : Wd} {c k a : Nat} {v : Int64} (h : a ≠ c) : (sJ w c k v).2 a = w.2 a := by
  show (if a = c then vp_updL (w.2 a) k v else w.2 a) = w.2 a
  rw [if_neg h]
theorem sJ_nk {w : Wd} {c k a b : Nat} {v : Int64} (h : b ≠ k) : (sJ w c k v).2 a b = w.2 a b := by
  rw [sJ_2, if_neg (fun q => h q.2)]
theorem sJ_at {w : Wd} {c k : Nat} {v : Int64} : (sJ w c k v).2 c k = v := by
  rw [sJ_2, if_pos ⟨rfl, rfl⟩]
theorem fill36_L (k : Wd → Option Wd) : ∀ (d j n : Nat) (w : Wd), j + d = 41 → d < n → ∃ w', Jd_fillL_36_L6 k n w 0 (nI j) 41 = k w' ∧ w'.1 = w.1 ∧ (∀ c, c ≠ 36 → w'.2 c = w.2 c) ∧ (∀ q, j ≤ q → q < 41 → w'.2 36 q = 0) ∧ ∀ q, q < j → w'.2 36 q = w.2 36 q := by
  intro d
  induction d with
  | zero =>
    intro j n w hj hn
    obtain ⟨n, rfl⟩ : ∃ q, n = q + 1 := ⟨n - 1, by omega⟩
    rw [Jd_fillL_36_L6, if_pos (show (41 : Int32) ≤ nI j from nI_le (a := 41) (by omega) (by omega))]
    exact ⟨w, rfl, rfl, fun _ _ => rfl, fun q a b => by omega, fun _ _ => rfl⟩
  | succ d ih =>
    intro j n w hj hn
    obtain ⟨n, rfl⟩ : ∃ q, n = q + 1 := ⟨n - 1, by omega⟩
    rw [Jd_fillL_36_L6, if_neg (show ¬ (41 : Int32) ≤ nI j from nI_ge (b := 41) (by omega) (by decide)), if_pos (ib_nI (by omega) (by decide)), nI_clamp (by omega), nI_1]
    obtain ⟨w', f1, f2, f3, f4, f5⟩ := ih (j + 1) n (sJ w 36 j 0) (by omega) (by omega)
    refine ⟨w', f1, f2, fun c hc => by rw [f3 c hc, sJ_ne hc], fun q a b => ?_, fun q hq => by rw [f5 q (by omega), sJ_nk (by omega)]⟩
    by_cases h : q = j
    · rw [h, f5 j (by omega), sJ_at]
    · exact f4 q (by omega) b
theorem fill35_L (k : Wd → Option Wd) : ∀ (d j n : Nat) (w : Wd), j + d = 41 → d < n → ∃ w', Jd_fillL_35_L6 k n w 0 (nI j) 41 = k w' ∧ w'.1 = w.1 ∧ (∀ q, j ≤ q → q < 41 → w'.2 35 q = 0) ∧ ∀ q, q < j → w'.2 35 q = w.2 35 q := by
  intro d
  induction d with
  | zero =>
    intro j n w hj hn
    obtain ⟨n, rfl⟩ : ∃ q, n = q + 1 := ⟨n - 1, by omega⟩
    rw [Jd_fillL_35_L6, if_pos (show (41 : Int32) ≤ nI j from nI_le (a := 41) (by omega) (by omega))]
    exact ⟨w, rfl, rfl, fun q a b => by omega, fun _ _ => rfl⟩
  | succ d ih =>
    intro j n w hj hn
    obtain ⟨n, rfl⟩ : ∃ q, n = q + 1 := ⟨n - 1, by omega⟩
    rw [Jd_fillL_35_L6, if_neg (show ¬ (41 : Int32) ≤ nI j from nI_ge (b := 41) (by omega) (by decide)), if_pos (ib_nI (by omega) (by decide)), nI_clamp (by omega), nI_1]
    obtain ⟨w', f1, f2, f4, f5⟩ := ih (j + 1) n (sJ w 35 j 0) (by omega) (by omega)
    refine ⟨w', f1, f2, fun q a b => ?_, fun q hq => by rw [f5 q (by omega), sJ_nk (by omega)]⟩
    by_cases h : q = j
    · rw [h, f5 j (by omega), sJ_at]
    · exact f4 q (by omega) b
theorem ri_arrive (w : Wd) (a : Nat) (ha : a < 2 ^ 31) (v : Int64) : ∃ w', Ri_arrive w (nI a) v = some w' ∧ w'.1 = w.1 ∧ w'.2 35 = w.2 35 ∧ ∀ j, j < 41 → w'.2 36 j = if a = j then w.2 36 j + v else w.2 36 j := by
  unfold Ri_arrive
  by_cases h : a < 41
  · rw [show (40 : Int32) = nI 40 from rfl, within_in (by omega) (by decide), if_neg one_ne, if_pos (ib_nI h (by decide)), if_pos (ib_nI h (by decide)), nI_clamp ha]
    refine ⟨_, rfl, rfl, sJ_ne (by decide), fun j hj => ?_⟩
    by_cases e : a = j
    · rw [if_pos e, e, sJ_at]
    · rw [if_neg e, sJ_nk (fun q => e q.symm)]
  · have : Nt_within w (nI a) 0 40 = 0 := by
      unfold Nt_within
      rw [if_neg (nI_pos ha), if_pos (show (40 : Int32) < nI a from nI_lt (a := 40) (by omega) ha)]
    rw [this, if_pos rfl]
    exact ⟨w, rfl, rfl, rfl, fun j hj => by rw [if_neg (by omega)]⟩
/-- the day to which one comes who waits from q on, or none *-/
def dD (E R ni q : Nat) : Nat := if nr E R q ≤ 40 then nr E R q + ni else 41
theorem ri_ride_L (hT : TOK S T tr) {t : Nat} (ht : t < T) {p : Nat} (hp : p ≤ 10) (W : Nat → Nat) (k : Wd → Option Wd) : ∀ (q n : Nat) (w : Wd), TX w T tr → q ≤ 41 → q < n → (∀ d, d < 41 → w.2 35 d = lN (W d)) → (∀ j, j < 41 → w.2 36 j = lN (sm (fun d => cb (tr t 2) (tr t 3) (tr t 4) p W d j) (41 - q) q)) → ∃ w', Ri_rideOn_L15 k n w (nI t) (nI p) (nI (dD (tr t 2) (tr t 3) (tr t 4) q)) (nI q + (-1)) = k w' ∧ w'.1 = w.1 ∧ ∀ j, j < 41 → w'.2 36 j = lN (wr (tr t 2) (tr t 3) (tr t 4) p W j) := by
  obtain ⟨-, -, e1, e2, e3, e4, -⟩ := hT.2.2.2 t ht
  have h12 := hT.2.2.1
  intro q
  induction q with
  | zero =>
    intro n w hX hq hn h35 h36
    obtain ⟨n, rfl⟩ : ∃ q, n = q + 1 := ⟨n - 1, by omega⟩
    rw [Ri_rideOn_L15, if_pos (by decide)]
    exact ⟨w, rfl, rfl, fun j hj => h36 j hj⟩
  | succ q ih =>
    intro n w hX hq hn h35 h36
    obtain ⟨n, rfl⟩ : ∃ q, n = q + 1 := ⟨n - 1, by omega⟩
    have hD : (if (decide (q % tr t 2 = tr t 3)) = false then dD (tr t 2) (tr t 3) (tr t 4) (q + 1) else q + tr t 4) = dD (tr t 2) (tr t 3) (tr t 4) q := by
      unfold dD
      by_cases h : q % tr t 2 = tr t 3
      · rw [decide_eq_true h, if_neg (by decide), nr_at h, if_pos (by omega)]
      · rw [decide_eq_false h, if_pos rfl, ← nr_no e1 e2 e3 h]
    have hDl : dD (tr t 2) (tr t 3) (tr t 4) q ≤ 42 := by
      unfold dD; split <;> omega
    have core : ∃ w', Ri_rideOn_B46 (Ri_rideOn_L15 k n) w (nI t) (nI p) (nI (dD (tr t 2) (tr t 3) (tr t 4) q)) (nI q) = k w' ∧ w'.1 = w.1 ∧ ∀ j, j < 41 → w'.2 36 j = lN (wr (tr t 2) (tr t 3) (tr t 4) p W j) := by
      unfold Ri_rideOn_B46
      rw [if_pos (ib_nI (by omega) (by decide)), nI_clamp (by omega), h35 q (by omega), show (10 : Int32) - nI p = nI (10 - p) from pk_sub (a := 10) hp, nI_l (by omega), lN_mul]
      obtain ⟨w1, a1, a2, a3, a4⟩ := ri_arrive w (dD (tr t 2) (tr t 3) (tr t 4) q) (by omega) (lN (W q * (10 - p)))
      rw [a1, Option.bind_some, if_pos (ib_nI (by omega) (by decide)), a3, h35 q (by omega), nI_l (by omega), lN_mul, nI_1]
      obtain ⟨w2, b1, b2, b3, b4⟩ := ri_arrive w1 (dD (tr t 2) (tr t 3) (tr t 4) q + 1) (by omega) (lN (W q * p))
      rw [b1, Option.bind_some]
      have hX2 : TX w2 T tr := by unfold TX at hX ⊢; rw [b2, a2]; exact hX
      obtain ⟨w', f1, f2, f3⟩ := ih n w2 hX2 (by omega) (by omega) (fun d hd => by rw [b3, a3]; exact h35 d hd) (fun j hj => by
        rw [b4 j hj, a4 j hj, h36 j hj, show 41 - q = (41 - (q + 1)) + 1 by omega, sm]
        generalize sm (fun d => cb (tr t 2) (tr t 3) (tr t 4) p W d j) (41 - (q + 1)) (q + 1) = s
        have i1 : dD (tr t 2) (tr t 3) (tr t 4) q = j ↔ nr (tr t 2) (tr t 3) q + tr t 4 = j := by
          unfold dD; split <;> omega
        have i2 : dD (tr t 2) (tr t 3) (tr t 4) q + 1 = j ↔ nr (tr t 2) (tr t 3) q + tr t 4 + 1 = j := by
          unfold dD; split <;> omega
        unfold cb
        by_cases g1 : nr (tr t 2) (tr t 3) q + tr t 4 = j
        · rw [if_pos (i1.mpr g1), if_pos g1, if_neg (fun e => by have := i2.mp e; omega), if_neg (by omega), lN_add]
          congr 1; omega
        · rw [if_neg (fun e => g1 (i1.mp e)), if_neg g1]
          by_cases g2 : nr (tr t 2) (tr t 3) q + tr t 4 + 1 = j
          · rw [if_pos (i2.mpr g2), if_pos g2, lN_add]; congr 1; omega
          · rw [if_neg (fun e => g2 (i2.mp e)), if_neg g2]; congr 1; omega)
      exact ⟨w', f1, by rw [f2, b2, a2], f3⟩
    rw [pk_m1, Ri_rideOn_L15, if_neg (nI_pos (by omega)), la_runs hX hT ht, Option.bind_some, rn_nat hT ht (by omega)]
    cases hr : decide (q % tr t 2 = tr t 3) with
    | false =>
      rw [hr, if_pos rfl] at hD
      rw [bi_f, if_pos rfl, hD]
      exact core
    | true =>
      rw [hr, if_neg (by decide)] at hD
      rw [bi_t, if_neg one_ne, la_p4 hX hT ht, Option.bind_some, nI_add, hD]
      exact core
theorem ri_rideOn {w : Wd} (hX : TX w T tr) (hT : TOK S T tr) {t : Nat} (ht : t < T) {p : Nat} (hp : p ≤ 10) {W : Nat → Nat} (hW : ∀ d, d < 41 → w.2 35 d = lN (W d)) : ∃ w', Ri_rideOn w (nI t) (nI p) = some w' ∧ w'.1 = w.1 ∧ ∀ j, j < 41 → w'.2 35 j = lN (wr (tr t 2) (tr t 3) (tr t 4) p W j) := by
  unfold Ri_rideOn Jd_fillL_36
  obtain ⟨w1, a1, a2, a3, a4, -⟩ := fill36_L Jd_fillL_36_B22 41 0 FU w rfl (by decide)
  rw [show Jd_fillL_36_L6 Jd_fillL_36_B22 FU w 0 0 41 = some w1 from a1, Option.bind_some]
  have hX1 : TX w1 T tr := by unfold TX at hX ⊢; rw [a2]; exact hX
  have hD : dD (tr t 2) (tr t 3) (tr t 4) 41 = 41 := by
    unfold dD
    have := nr_ge (tr t 2) (tr t 3) 41
    rw [if_neg (by omega)]
  obtain ⟨w2, b1, b2, b3⟩ := ri_ride_L hT ht hp W Ri_rideOn_B87 41 FU w1 hX1 (Nat.le_refl _) (by decide) (fun d hd => by rw [a3 35 (by decide)]; exact hW d hd) (fun j hj => by rw [a4 j (by omega) hj]; rfl)
  rw [hD] at b1
  rw [show Ri_rideOn_L15 Ri_rideOn_B87 FU w1 (nI t) (nI p) 41 40 = some (cJ w2 36 0 35 0 41) from b1]
  refine ⟨_, rfl, by rw [← a2, ← b2]; rfl, fun j hj => ?_⟩
  rw [cJ_2, if_pos ⟨rfl, by omega, by omega⟩, Nat.zero_add, Nat.sub_zero]
  exact b3 j hj
theorem mo_then (w : Wd) (a : Nat) (ha : a < 2 ^ 31) (v : Int64) : ∃ w', Mo_addThen w (nI a) v = some w' ∧ w'.1 = w.1 ∧ w'.2 48 = w.2 48 ∧ ∀ j, j < 41 → w'.2 49 j = if a = j then w.2 49 j + v else w.2 49 j := by
  unfold Mo_addThen
  by_cases h : a < 41
  · rw [if_neg (show ¬ (41 : Int32) ≤ nI a from nI_ge (b := 41) h (by decide)), if_pos (ib_nI h (by decide)), if_pos (ib_nI h (by decide)), nI_clamp ha]
    refine ⟨_, rfl, rfl, sJ_ne (by decide), fun j hj => ?_⟩
    by_cases e : a = j
    · rw [if_pos e, e, sJ_at]
    · rw [if_neg e, sJ_nk (fun q => e q.symm)]
  · rw [if_pos (show (41 : Int32) ≤ nI a from nI_le (a := 41) (by omega) ha)]
    exact ⟨w, rfl, rfl, rfl, fun j hj => by rw [if_neg (by omega)]⟩
theorem mo_day {w : Wd} (hM : TM w T tr) (hT : TOK S T tr) {t : Nat} (ht : t < T) (v2 v3 : Int32) (k : Wd → Int32 → Int32 → Int32 → Int32 → Option Wd) (d : Nat) (hd : d < 2 ^ 20) (n : Nat) : Mo_rideLate_L32 k (n + 4) w (nI t) v2 v3 (nI d) = k w (nI t) v2 v3 (nI (nr (tr t 2) (tr t 3) d)) := by
  obtain ⟨-, -, e1, e2, e3, -⟩ := hT.2.2.2 t ht
  have step : ∀ (c n : Nat), c < 2 ^ 21 → Mo_rideLate_L32 k (n + 1) w (nI t) v2 v3 (nI c) = if c % tr t 2 = tr t 3 then k w (nI t) v2 v3 (nI c) else Mo_rideLate_L32 k n w (nI t) v2 v3 (nI (c + 1)) := by
    intro c n hc
    rw [Mo_rideLate_L32, if_pos (mo_2 hM hT ht).1, (mo_2 hM hT ht).2, if_pos (nI_ne0 e1 (by omega)), if_pos (mo_3 hM hT ht).1, (mo_3 hM hT ht).2, pk_rem (by omega) e1 (by omega), nI_1]
    have : c % tr t 2 < tr t 2 := Nat.mod_lt _ e1
    by_cases h : c % tr t 2 = tr t 3
    · rw [if_pos (by rw [h]), if_pos h]
    · rw [if_neg (fun e => h ((nI_eq (by omega) (by omega)).mp e)), if_neg h]
  rw [show n + 4 = n + 3 + 1 from rfl, step d (n + 3) (by omega)]
  have hn := nr_run d e1 e2 e3
  unfold nr at hn ⊢
  by_cases h0 : d % tr t 2 = tr t 3
  · rw [if_pos h0, if_pos h0]
  rw [if_neg h0, if_neg h0, show n + 3 = n + 2 + 1 from rfl, step (d + 1) (n + 2) (by omega)]
  by_cases h1 : (d + 1) % tr t 2 = tr t 3
  · rw [if_pos h1, if_pos h1]
  rw [if_neg h1, if_neg h1, show n + 2 = n + 1 + 1 from rfl, step (d + 1 + 1) (n + 1) (by omega)]
  by_cases h2 : (d + 2) % tr t 2 = tr t 3
  · rw [if_pos h2, if_pos h2]
  rw [if_neg h0, if_neg h1, if_neg h2] at hn
  rw [if_neg h2, if_neg h2, step (d + 1 + 1 + 1) n (by omega), if_pos hn]
theorem mo_ride_L (hT : TOK S T tr) {t : Nat} (ht : t < T) {p : Nat} (hp : p ≤ 10) (W : Nat → Nat) (k : Wd → Option Wd) : ∀ (e c n : Nat) (w : Wd), TM w T tr → c + e = 41 → e < n → (∀ d, d < 41 → w.2 48 d = lN (W d)) → (∀ j, j < 41 → w.2 49 j = lN (sm (fun d => cb (tr t 2) (tr t 3) (tr t 4) p W d j) c 0)) → ∃ w', Mo_rideLate_L23 k n w (nI t) (nI p) (nI c) = k w' ∧ w'.1 = w.1 ∧ ∀ j, j < 41 → w'.2 49 j = lN (wr (tr t 2) (tr t 3) (tr t 4) p W j) := by
  obtain ⟨-, -, e1, e2, e3, e4, -⟩ := hT.2.2.2 t ht
  have h12 := hT.2.2.1
  intro e
  induction e with
  | zero =>
    intro c n w hM hc hn h48 h49
    obtain ⟨n, rfl⟩ : ∃ q, n = q + 1 := ⟨n - 1, by omega⟩
    rw [Mo_rideLate_L23, if_pos (show (41 : Int32) ≤ nI c from nI_le (a := 41) (by omega) (by omega))]
    have : c = 41 := by omega
    subst this
    exact ⟨w, rfl, rfl, fun j hj => h49 j hj⟩
  | succ e ih =>
    intro c n w hM hc hn h48 h49
    obtain ⟨n, rfl⟩ : ∃ q, n = q + 1 := ⟨n - 1, by omega⟩
    have hnl : nr (tr t 2) (tr t 3) c ≤ 44 := by unfold nr; (repeat' split) <;> omega
    rw [Mo_rideLate_L23, if_neg (show ¬ (41 : Int32) ≤ nI c from nI_ge (b := 41) (by omega) (by decide)), show FU = 1996 + 4 from rfl, mo_day hM hT ht _ _ _ c (by omega)]
    unfold Mo_rideLate_B66
    rw [if_pos (mo_4 hM hT ht).1, (mo_4 hM hT ht).2, if_pos (ib_nI (by omega) (by decide)), nI_clamp (by omega), h48 c (by omega), show (10 : Int32) - nI p = nI (10 - p) from pk_sub (a := 10) hp, nI_l (by omega), lN_mul, nI_add]
    obtain ⟨w1, a1, a2, a3, a4⟩ := mo_then w (nr (tr t 2) (tr t 3) c + tr t 4) (by omega) (lN (W c * (10 - p)))
    rw [a1, Option.bind_some, if_pos (ib_nI (by omega) (by decide)), a3, h48 c (by omega), nI_l (by omega), lN_mul, nI_1, nI_1]
    obtain ⟨w2, b1, b2, b3, b4⟩ := mo_then w1 (nr (tr t 2) (tr t 3) c + tr t 4 + 1) (by omega) (lN (W c * p))
    rw [b1, Option.bind_some]
    have hM2 : TM w2 T tr := by unfold TM at hM ⊢; rw [b2, a2]; exact hM
    obtain ⟨w', f1, f2, f3⟩ := ih (c + 1) n w2 hM2 (by omega) (by omega) (fun d hd => by rw [b3, a3]; exact h48 d hd) (fun j hj => by
      rw [b4 j hj, a4 j hj, h49 j hj, sm_last, Nat.zero_add]
      generalize sm (fun d => cb (tr t 2) (tr t 3) (tr t 4) p W d j) c 0 = s
      unfold cb
      by_cases g1 : nr (tr t 2) (tr t 3) c + tr t 4 = j
      · rw [if_pos g1, if_pos g1, if_neg (by omega), if_neg (by omega), lN_add]
        congr 1
      · rw [if_neg g1, if_neg g1]
        by_cases g2 : nr (tr t 2) (tr t 3) c + tr t 4 + 1 = j
        · rw [if_pos g2, if_pos g2, lN_add]; congr 1; omega
        · rw [if_neg g2, if_neg g2]; congr 1)
    exact ⟨w', f1, by rw [f2, b2, a2], f3⟩
theorem mo_zero_L (k : Wd → Int32 → Int32 → Option Wd) (v1 v2 : Int32) : ∀ (d j n : Nat) (w : Wd), j + d = 41 → d < n → ∃ w', Mo_rideLate_L2 k n w v1 v2 (nI j) = k w' v1 v2 ∧ w'.1 = w.1 ∧ w'.2 48 = w.2 48 ∧ (∀ q, j ≤ q → q < 41 → w'.2 49 q = 0) ∧ ∀ q, q < j → w'.2 49 q = w.2 49 q := by
  intro d
  induction d with
  | zero =>
    intro j n w hj hn
    obtain ⟨n, rfl⟩ : ∃ q, n = q + 1 := ⟨n - 1, by omega⟩
    rw [Mo_rideLate_L2, if_pos (show (41 : Int32) ≤ nI j from nI_le (a := 41) (by omega) (by omega))]
    exact ⟨w, rfl, rfl, rfl, fun q a b => by omega, fun _ _ => rfl⟩
  | succ d ih =>
    intro j n w hj hn
    obtain ⟨n, rfl⟩ : ∃ q, n = q + 1 := ⟨n - 1, by omega⟩
    rw [Mo_rideLate_L2, if_neg (show ¬ (41 : Int32) ≤ nI j from nI_ge (b := 41) (by omega) (by decide)), if_pos (ib_nI (by omega) (by decide)), nI_clamp (by omega), nI_1]
    obtain ⟨w', f1, f2, f3, f4, f5⟩ := ih (j + 1) n (sJ w 49 j 0) (by omega) (by omega)
    refine ⟨w', f1, f2, by rw [f3, sJ_ne (by decide)], fun q a b => ?_, fun q hq => by rw [f5 q (by omega), sJ_nk (by omega)]⟩
    by_cases h : q = j
    · rw [h, f5 j (by omega), sJ_at]
    · exact f4 q (by omega) b
theorem mo_cpy_L (k : Wd → Option Wd) : ∀ (d j n : Nat) (w : Wd), j + d = 41 → d < n → ∃ w', Mo_rideLate_L125 k n w (nI j) = k w' ∧ w'.1 = w.1 ∧ (∀ q, j ≤ q → q < 41 → w'.2 48 q = w.2 49 q) ∧ ∀ q, q < j → w'.2 48 q = w.2 48 q := by
  intro d
  induction d with
  | zero =>
    intro j n w hj hn
    obtain ⟨n, rfl⟩ : ∃ q, n = q + 1 := ⟨n - 1, by omega⟩
    rw [Mo_rideLate_L125, if_pos (show (41 : Int32) ≤ nI j from nI_le (a := 41) (by omega) (by omega))]
    exact ⟨w, rfl, rfl, fun q a b => by omega, fun _ _ => rfl⟩
  | succ d ih =>
    intro j n w hj hn
    obtain ⟨n, rfl⟩ : ∃ q, n = q + 1 := ⟨n - 1, by omega⟩
    rw [Mo_rideLate_L125, if_neg (show ¬ (41 : Int32) ≤ nI j from nI_ge (b := 41) (by omega) (by decide)), if_pos (ib_nI (by omega) (by decide)), if_pos (ib_nI (by omega) (by decide)), nI_clamp (by omega), nI_1]
    obtain ⟨w', f1, f2, f4, f5⟩ := ih (j + 1) n (sJ w 48 j (w.2 49 j)) (by omega) (by omega)
    refine ⟨w', f1, f2, fun q a b => ?_, fun q hq => by rw [f5 q (by omega), sJ_nk (by omega)]⟩
    by_cases h : q = j
    · rw [h, f5 j (by omega), sJ_at]
    · rw [f4 q (by omega) b, sJ_ne (by decide)]
theorem mo_rideLate {w : Wd} (hM : TM w T tr) (hT : TOK S T tr) {t : Nat} (ht : t < T) {p : Nat} (hp : p ≤ 10) {W : Nat → Nat} (hW : ∀ d, d < 41 → w.2 48 d = lN (W d)) : ∃ w', Mo_rideLate w (nI t) (nI p) = some w' ∧ w'.1 = w.1 ∧ ∀ j, j < 41 → w'.2 48 j = lN (wr (tr t 2) (tr t 3) (tr t 4) p W j) := by
  unfold Mo_rideLate
  obtain ⟨w1, a1, a2, a3, a4, -⟩ := mo_zero_L Mo_rideLate_B21 (nI t) (nI p) 41 0 FU w rfl (by decide)
  rw [show Mo_rideLate_L2 Mo_rideLate_B21 FU w (nI t) (nI p) 0 = _ from a1]
  unfold Mo_rideLate_B21
  have hM1 : TM w1 T tr := by unfold TM at hM ⊢; rw [a2]; exact hM
  obtain ⟨w2, b1, b2, b3⟩ := mo_ride_L hT ht hp W Mo_rideLate_B123 41 0 FU w1 hM1 rfl (by decide) (fun d hd => by rw [a3]; exact hW d hd) (fun j hj => by rw [a4 j (by omega) hj]; rfl)
  rw [show Mo_rideLate_L23 Mo_rideLate_B123 FU w1 (nI t) (nI p) 0 = _ from b1]
  unfold Mo_rideLate_B123
  obtain ⟨w3, c1, c2, c3, -⟩ := mo_cpy_L Mo_rideLate_B149 41 0 FU w2 rfl (by decide)
  rw [show Mo_rideLate_L125 Mo_rideLate_B149 FU w2 0 = _ from c1]
  exact ⟨w3, rfl, by rw [c2, b2, a2], fun j hj => by rw [c3 j (by omega) hj]; exact b3 j hj⟩
end Late
