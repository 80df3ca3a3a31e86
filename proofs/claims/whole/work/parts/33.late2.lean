/-! LATE: over the whole log -/
/-- ways behind j rides -/
def WW (tr : Tr) (lg : Nat → Nat) (p : Nat) : Nat → Nat → Nat
  | 0 => fun d => if d = 0 then 1 else 0
  | j + 1 => wr (tr (lg j) 2) (tr (lg j) 3) (tr (lg j) 4) p (WW tr lg p j)
/-- where one stands behind j rides -/
def sj (tr : Tr) (lg : Nat → Nat) (s0 : Nat) : Nat → Nat
  | 0 => s0
  | j + 1 => tr (lg j) 1
/-- do the first j rides join -/
def gj (tr : Tr) (lg : Nat → Nat) (s0 : Nat) : Nat → Bool
  | 0 => true
  | j + 1 => gj tr lg s0 j && decide (tr (lg j) 0 = sj tr lg s0 j)
theorem WW_sum (tr : Tr) (lg : Nat → Nat) {p : Nat} (hp : p ≤ 10) : ∀ j, sm (WW tr lg p j) 41 0 ≤ 10 ^ j := by
  intro j
  induction j with
  | zero => exact (show sm (fun d => if d = 0 then 1 else 0) 41 0 ≤ 10 ^ 0 by decide)
  | succ j ih =>
    have := wr_sum (tr (lg j) 2) (tr (lg j) 3) (tr (lg j) 4) p hp (WW tr lg p j)
    rw [Nat.pow_succ]
    exact Nat.le_trans this (Nat.mul_le_mul_right 10 ih)
theorem gj_no (tr : Tr) (lg : Nat → Nat) (s0 : Nat) : ∀ (d j : Nat), gj tr lg s0 j = false → gj tr lg s0 (j + d) = false := by
  intro d
  induction d with
  | zero => intro j h; exact h
  | succ d ih => intro j h; show (gj tr lg s0 (j + d) && _) = false; rw [ih j h, Bool.false_and]
section Late2
variable {S T : Nat} {tr : Tr}
theorem mo_late_L (hT : TOK S T tr) {ln : Nat} {lg : Nat → Nat} (hl : ln ≤ 12) (hlg : ∀ j, j < ln → lg j < T) {s0 : Nat} (h0 : s0 < S) {p : Nat} (hp : p ≤ 10) (v2 v3 : Int32) (k : Wd → Int32 → Int32 → Int64 → Int32 → Option (Int64 × Wd)) : ∀ (d j n : Nat) (m : Wd), TM m T tr → m.1 37 22 = nI ln → (∀ j, j < ln → m.1 46 j = nI (lg j)) → j + d = ln → d < n → (∀ q, q < 41 → m.2 48 q = lN (WW tr lg p j q)) →
    ∃ m', Mo_late_L86 k n m (nI p) v2 v3 (nI (sj tr lg s0 j)) (lN (10 ^ j)) (bi (gj tr lg s0 j)) (nI j) = k m' v2 v3 (lN (10 ^ ln)) (bi (gj tr lg s0 ln)) ∧ m'.1 = m.1 ∧ ∀ q, q < 41 → m'.2 48 q = lN (WW tr lg p ln q) := by
  have h12 := hT.2.2.1
  have h7 := hT.2.1
  have hsj : ∀ j, j ≤ ln → sj tr lg s0 j < S := by
    intro j hj
    cases j with
    | zero => exact h0
    | succ j => exact (hT.2.2.2 _ (hlg j (by omega))).2.1
  intro d
  induction d with
  | zero =>
    intro j n m hM e1 e2 hj hn hW
    obtain ⟨n, rfl⟩ : ∃ q, n = q + 1 := ⟨n - 1, by omega⟩
    have : j = ln := by omega
    subst this
    rw [Mo_late_L86, e1, if_pos (nI_le (by omega) (by omega))]
    exact ⟨m, rfl, rfl, hW⟩
  | succ d ih =>
    intro j n m hM e1 e2 hj hn hW
    obtain ⟨n, rfl⟩ : ∃ q, n = q + 1 := ⟨n - 1, by omega⟩
    have hjl : j < ln := by omega
    have ht := hlg j hjl
    have f2 := e2 j hjl
    obtain ⟨a0, a1, -⟩ := hT.2.2.2 _ ht
    have core : ∃ m', Mo_late_B127 (Mo_late_L86 k n) m (nI p) v2 v3 (lN (10 ^ j)) (nI j) (bi (gj tr lg s0 (j + 1))) = k m' v2 v3 (lN (10 ^ ln)) (bi (gj tr lg s0 ln)) ∧ m'.1 = m.1 ∧ ∀ q, q < 41 → m'.2 48 q = lN (WW tr lg p ln q) := by
      unfold Mo_late_B127
      obtain ⟨m1, b1, b2, b3⟩ := mo_rideLate hM hT ht hp hW
      rw [if_pos (ib_nI (by omega) (by decide)), nI_clamp (by omega), f2, if_pos (mo_1 hM hT ht).1, if_pos (ib_nI (by omega) (by decide)), b1, Option.bind_some, (mo_1 hM hT ht).2, nI_1, show (10 : Int64) = lN 10 from rfl, lN_mul, ← Nat.pow_succ]
      have hM1 : TM m1 T tr := hM.eq (me_1 b2).S
      obtain ⟨m', c1, c2, c3⟩ := ih (j + 1) n m1 hM1 (by rw [b2]; exact e1) (fun j hj => by rw [b2]; exact e2 j hj) (by omega) (by omega) b3
      exact ⟨m', c1, by rw [c2, b2], c3⟩
    rw [Mo_late_L86, e1, if_neg (nI_ge hjl (by omega))]
    cases hg : gj tr lg s0 j with
    | false =>
      rw [bi_f, if_pos rfl]
      have : gj tr lg s0 (j + 1) = false := by show (gj tr lg s0 j && _) = false; rw [hg, Bool.false_and]
      rw [this, bi_f] at core
      exact core
    | true =>
      rw [bi_t, if_neg one_ne, if_pos (ib_nI (by omega) (by decide)), nI_clamp (by omega), f2, if_pos (mo_0 hM hT ht).1, (mo_0 hM hT ht).2]
      have hs := hsj j (by omega)
      have : (if nI (tr (lg j) 0) = nI (sj tr lg s0 j) then (1 : Int32) else 0) = bi (gj tr lg s0 (j + 1)) := by
        show _ = bi (gj tr lg s0 j && decide (tr (lg j) 0 = sj tr lg s0 j))
        rw [hg, Bool.true_and]
        by_cases h : tr (lg j) 0 = sj tr lg s0 j
        · rw [if_pos (by rw [h]), decide_eq_true h, bi_t]
        · rw [if_neg (fun e => h ((nI_eq (by omega) (by omega)).mp e)), decide_eq_false h, bi_f]
      rw [this]
      exact core
theorem ri_late_L (hT : TOK S T tr) {ln : Nat} {lg : Nat → Nat} (hl : ln ≤ 12) (hlg : ∀ j, j < ln → lg j < T) {s0 : Nat} (h0 : s0 < S) {p : Nat} (hp : p ≤ 10) (v2 : Int32) (k : Wd → Option (Int64 × Wd)) (k' : Wd → Int32 → Option (Int64 × Wd)) : ∀ (d j n : Nat) (x : Wd), TX x T tr → x.1 32 2 = nI ln → (∀ j, j < ln → x.1 33 j = nI (lg j)) → j + d = ln → d < n → (∀ q, q < 41 → x.2 35 q = lN (WW tr lg p j q)) → gj tr lg s0 j = true →
    ∃ x', Ri_waysInTime_L26 k k' n x (nI p) v2 (nI (sj tr lg s0 j)) (nI j) = (if gj tr lg s0 ln = true then k' x' v2 else k x') ∧ x'.1 = x.1 ∧ (gj tr lg s0 ln = true → ∀ q, q < 41 → x'.2 35 q = lN (WW tr lg p ln q)) := by
  have h12 := hT.2.2.1
  have h7 := hT.2.1
  have hsj : ∀ j, j ≤ ln → sj tr lg s0 j < S := by
    intro j hj
    cases j with
    | zero => exact h0
    | succ j => exact (hT.2.2.2 _ (hlg j (by omega))).2.1
  intro d
  induction d with
  | zero =>
    intro j n x hX e1 e2 hj hn hW hg
    obtain ⟨n, rfl⟩ : ∃ q, n = q + 1 := ⟨n - 1, by omega⟩
    have : j = ln := by omega
    subst this
    rw [Ri_waysInTime_L26, e1, if_pos (nI_le (by omega) (by omega))]
    exact ⟨x, by rw [if_pos hg], rfl, fun _ => hW⟩
  | succ d ih =>
    intro j n x hX e1 e2 hj hn hW hg
    obtain ⟨n, rfl⟩ : ∃ q, n = q + 1 := ⟨n - 1, by omega⟩
    have hjl : j < ln := by omega
    have ht := hlg j hjl
    have f2 := e2 j hjl
    obtain ⟨a0, a1, -⟩ := hT.2.2.2 _ ht
    have hs := hsj j (by omega)
    rw [Ri_waysInTime_L26, e1, if_neg (nI_ge hjl (by omega)), if_neg (show ¬ (12 : Int32) ≤ nI j from nI_ge (b := 12) (by omega) (by decide)), if_pos (ib_nI (by omega) (by decide)), nI_clamp (by omega), f2, la_p0 hX hT ht, Option.bind_some]
    by_cases h : tr (lg j) 0 = sj tr lg s0 j
    · obtain ⟨x1, b1, b2, b3⟩ := ri_rideOn hX hT ht hp hW
      have hX1 : TX x1 T tr := hX.eq (xe_1 b2).S
      rw [if_pos (by rw [h]), if_pos (ib_nI (by omega) (by decide)), b1, Option.bind_some, if_pos (ib_nI (by omega) (by decide)), b2, f2, la_p1 hX1 hT ht, Option.bind_some, nI_1]
      obtain ⟨x', c1, c2, c3⟩ := ih (j + 1) n x1 hX1 (by rw [b2]; exact e1) (fun j hj => by rw [b2]; exact e2 j hj) (by omega) (by omega) b3 (by show (gj tr lg s0 j && decide (tr (lg j) 0 = sj tr lg s0 j)) = true; rw [hg, decide_eq_true h]; rfl)
      exact ⟨x', c1, by rw [c2, b2], c3⟩
    · rw [if_neg (fun e => h ((nI_eq (by omega) (by omega)).mp e))]
      have g1 : gj tr lg s0 (j + 1) = false := by show (gj tr lg s0 j && decide (tr (lg j) 0 = sj tr lg s0 j)) = false; rw [decide_eq_false h, Bool.and_false]
      have g2 := gj_no tr lg s0 d (j + 1) g1
      rw [show j + 1 + d = ln by omega] at g2
      rw [g2]
      exact ⟨x, (if_neg (by decide)).symm, rfl, fun e => absurd e (by decide)⟩
theorem ri_sum_L {x : Wd} {W : Nat → Nat} (hW : ∀ q, q < 41 → x.2 35 q = lN (W q)) (k : Wd → Int64 → Option (Int64 × Wd)) {e : Nat} (he : e ≤ 40) : ∀ (d j n : Nat), j + d = e + 1 → d < n → Ri_waysInTime_L103 k n x (nI e) (lN (sm W j 0)) (nI j) = k x (lN (sm W (e + 1) 0)) := by
  intro d
  induction d with
  | zero =>
    intro j n hj hn
    obtain ⟨n, rfl⟩ : ∃ q, n = q + 1 := ⟨n - 1, by omega⟩
    rw [Ri_waysInTime_L103, if_pos (nI_lt (by omega) (by omega)), show j = e + 1 by omega]
  | succ d ih =>
    intro j n hj hn
    obtain ⟨n, rfl⟩ : ∃ q, n = q + 1 := ⟨n - 1, by omega⟩
    rw [Ri_waysInTime_L103, if_neg (nI_nlt (by omega) (by omega)), if_neg (show ¬ (40 : Int32) < nI j from nI_nlt (a := 40) (by omega) (by decide)), if_pos (ib_nI (by omega) (by decide)), nI_clamp (by omega), hW j (by omega), lN_add, nI_1]
    have := sm_last W j 0
    rw [Nat.zero_add] at this
    rw [← this]
    exact ih (j + 1) n (by omega) (by omega)
theorem mo_sum_L {m : Wd} {W : Nat → Nat} (hW : ∀ q, q < 41 → m.2 48 q = lN (W q)) (v3 : Int32) (v5 : Int64) (k : Wd → Int32 → Int64 → Int64 → Option (Int64 × Wd)) {e : Nat} (he : e ≤ 40) : ∀ (d j n : Nat), j + d = e + 1 → d < n → Mo_late_L180 k n m (nI e) v3 v5 1 (lN (sm W j 0)) (nI j) = k m v3 v5 (lN (sm W (e + 1) 0)) := by
  intro d
  induction d with
  | zero =>
    intro j n hj hn
    obtain ⟨n, rfl⟩ : ∃ q, n = q + 1 := ⟨n - 1, by omega⟩
    rw [Mo_late_L180, if_pos (nI_lt (by omega) (by omega)), show j = e + 1 by omega]
  | succ d ih =>
    intro j n hj hn
    obtain ⟨n, rfl⟩ : ∃ q, n = q + 1 := ⟨n - 1, by omega⟩
    rw [Mo_late_L180, if_neg (nI_nlt (by omega) (by omega)), if_neg one_ne, if_pos (ib_nI (by omega) (by decide)), nI_clamp (by omega), hW j (by omega), lN_add, nI_1]
    have := sm_last W j 0
    rw [Nat.zero_add] at this
    rw [← this]
    exact ih (j + 1) n (by omega) (by omega)
theorem ri_all_L {x : Wd} {ln : Nat} (hl : ln ≤ 12) (e1 : x.1 32 2 = nI ln) (k : Int64 → Option Int64) : ∀ (d j n : Nat), j + d = ln → d < n → Ri_waysInAll_L4 x k n (lN (10 ^ j)) (nI j) = k (lN (10 ^ ln)) := by
  intro d
  induction d with
  | zero =>
    intro j n hj hn
    obtain ⟨n, rfl⟩ : ∃ q, n = q + 1 := ⟨n - 1, by omega⟩
    have : j = ln := by omega
    subst this
    rw [Ri_waysInAll_L4, e1, if_pos (nI_le (by omega) (by omega))]
  | succ d ih =>
    intro j n hj hn
    obtain ⟨n, rfl⟩ : ∃ q, n = q + 1 := ⟨n - 1, by omega⟩
    rw [Ri_waysInAll_L4, e1, if_neg (nI_ge (by omega) (by omega)), if_neg (show ¬ (12 : Int32) ≤ nI j from nI_ge (b := 12) (by omega) (by decide)), show (10 : Int64) = lN 10 from rfl, lN_mul, ← Nat.pow_succ, nI_1]
    exact ih (j + 1) n (by omega) (by omega)
theorem mo_one_L (k : Wd → Int32 → Int32 → Int32 → Option (Int64 × Wd)) (v1 v2 v3 : Int32) : ∀ (d j n : Nat) (m : Wd), j + d = 41 → d < n → (∀ q, q < j → m.2 48 q = lN (if q = 0 then 1 else 0)) → ∃ m', Mo_late_L41 k n m v1 v2 v3 (nI j) = k m' v1 v2 v3 ∧ m'.1 = m.1 ∧ ∀ q, q < 41 → m'.2 48 q = lN (if q = 0 then 1 else 0) := by
  intro d
  induction d with
  | zero =>
    intro j n w hj hn h
    obtain ⟨n, rfl⟩ : ∃ q, n = q + 1 := ⟨n - 1, by omega⟩
    rw [Mo_late_L41, if_pos (show (41 : Int32) ≤ nI j from nI_le (a := 41) (by omega) (by omega))]
    exact ⟨w, rfl, rfl, fun q hq => h q (by omega)⟩
  | succ d ih =>
    intro j n w hj hn h
    obtain ⟨n, rfl⟩ : ∃ q, n = q + 1 := ⟨n - 1, by omega⟩
    rw [Mo_late_L41, if_neg (show ¬ (41 : Int32) ≤ nI j from nI_ge (b := 41) (by omega) (by decide)), if_pos (ib_nI (by omega) (by decide)), if_pos (ib_nI (by omega) (by decide)), nI_clamp (by omega), nI_1]
    by_cases h0 : j = 0
    · subst h0
      rw [if_pos (show nI 0 = 0 from rfl)]
      obtain ⟨m', f1, f2, f3⟩ := ih 1 n (sJ w 48 0 1) (by omega) (by omega) (fun q hq => by rw [show q = 0 by omega, sJ_at]; rfl)
      exact ⟨m', f1, f2, f3⟩
    · rw [if_neg (nI_ne0 (by omega) (by omega))]
      obtain ⟨m', f1, f2, f3⟩ := ih (j + 1) n (sJ w 48 j 0) (by omega) (by omega) (fun q hq => by
        by_cases e : q = j
        · rw [e, sJ_at, if_neg h0]; rfl
        · rw [sJ_nk e]; exact h q (by omega))
      exact ⟨m', f1, f2, f3⟩
theorem r_late {x m : Wd} (h : Rel x m) (a b c : Int32) : ∃ r x' m', Nt_late x a b c = some (r, x') ∧ Mo_late m a b c = some (r, m') ∧ Rel x' m' := by
  have h0 := h
  obtain ⟨S, T, s0, sh, tr, tk, sk, tn, tx, ln, lg, kb, z, hT, hL, hTx, ⟨g1, g2, g3, g4⟩, hK, hZ, hZ', hO⟩ := h
  obtain ⟨hX, hM, l1, l2, l3, l4, l5, l6, l7, l8, l9, l10, l11⟩ := hL
  unfold Nt_late Mo_late
  rw [show Mo_in m a.toInt64 (0 : Int64) (10 : Int64) = Nt_within x a 0 10 from mo_within x m a 0 10, show Mo_in m b.toInt64 (0 : Int64) (40 : Int64) = Nt_within x b 0 40 from mo_within x m b 0 40, show Mo_in m c.toInt64 (0 : Int64) (1 : Int64) = Nt_within x c 0 1 from mo_within x m c 0 1]
  rcases wi_cases x a (n := 10) (by decide) with e | ⟨e, p, hp, rfl⟩
  · rw [if_pos (show Nt_within x a 0 10 = 0 from e), if_pos (show Nt_within x a 0 10 = 0 from e)]; exact ⟨_, _, _, rfl, rfl, h0⟩
  rw [if_neg (fun q => one_ne ((show Nt_within x (nI p) 0 10 = 1 from e).symm.trans q)), if_neg (fun q => one_ne ((show Nt_within x (nI p) 0 10 = 1 from e).symm.trans q))]
  rcases wi_cases x b (n := 40) (by decide) with e | ⟨e, d, hd, rfl⟩
  · rw [if_pos (show Nt_within x b 0 40 = 0 from e), if_pos (show Nt_within x b 0 40 = 0 from e)]; exact ⟨_, _, _, rfl, rfl, h0⟩
  rw [if_neg (fun q => one_ne ((show Nt_within x (nI d) 0 40 = 1 from e).symm.trans q)), if_neg (fun q => one_ne ((show Nt_within x (nI d) 0 40 = 1 from e).symm.trans q))]
  rcases wi_cases x c (n := 1) (by decide) with e | ⟨e, -⟩
  · rw [if_pos (show Nt_within x c 0 1 = 0 from e), if_pos (show Nt_within x c 0 1 = 0 from e)]; exact ⟨_, _, _, rfl, rfl, h0⟩
  rw [if_neg (fun q => one_ne ((show Nt_within x c 0 1 = 1 from e).symm.trans q)), if_neg (fun q => one_ne ((show Nt_within x c 0 1 = 1 from e).symm.trans q))]
  -- the numbers
  have hs := WW_sum tr lg hp ln
  have hs2 := sm_mono (WW tr lg p ln) (d + 1) 41 0 (by omega)
  have hpw : 10 ^ ln ≤ 10 ^ 12 := Nat.pow_le_pow_right (by decide) g1
  have hpp : 0 < 10 ^ ln := Nat.pow_pos (by decide)
  -- the class
  have hx : ∃ x', Ri_waysInTime x (nI p) (nI d) = some (lN (if gj tr lg s0 ln = true then sm (WW tr lg p ln) (d + 1) 0 else 0), x') ∧ x'.1 = x.1 := by
    unfold Ri_waysInTime Jd_fillL_35
    obtain ⟨x1, a1, a2, a3, -⟩ := fill35_L Jd_fillL_35_B22 41 0 FU x rfl (by decide)
    rw [show Jd_fillL_35_L6 Jd_fillL_35_B22 FU x 0 0 41 = some x1 from a1, Option.bind_some]
    have b0 : (sJ x1 35 0 1).1 = x.1 := a2
    obtain ⟨x', f1, f2, f3⟩ := ri_late_L hT g1 (fun j hj => (g4 j hj).1) l9 hp (nI d) Ri_waysInTime_B61 Ri_waysInTime_B97 ln 0 FU (sJ x1 35 0 1) (hX.eq (xe_1 b0).S) (by rw [b0]; exact g2) (fun j hj => by rw [b0]; exact (g4 j hj).2.1) (by omega) (by unfold FU; omega) (fun q hq => by
      show _ = lN (if q = 0 then 1 else 0)
      by_cases e : q = 0
      · rw [e, sJ_at, if_pos rfl]; rfl
      · rw [sJ_nk e, a3 q (by omega) hq, if_neg e]; rfl) rfl
    rw [b0, l3]
    rw [show Ri_waysInTime_L26 Ri_waysInTime_B61 Ri_waysInTime_B97 FU (sJ x1 35 0 1) (nI p) (nI d) (nI s0) 0 = _ from f1]
    by_cases hg : gj tr lg s0 ln = true
    · rw [if_pos hg, if_pos hg]
      unfold Ri_waysInTime_B97
      have := ri_sum_L (f3 hg) Ri_waysInTime_B134 hd (d + 1) 0 FU (by omega) (by unfold FU; omega)
      rw [show Ri_waysInTime_L103 Ri_waysInTime_B134 FU x' (nI d) 0 0 = _ from this]
      exact ⟨x', rfl, by rw [f2, b0]⟩
    · rw [if_neg hg, if_neg hg]
      exact ⟨x', rfl, by rw [f2, b0]⟩
  -- the reference
  obtain ⟨m1, q1, q2, q3⟩ := mo_one_L Mo_late_B71 (nI p) (nI d) c 41 0 FU m rfl (by decide) (fun q hq => by omega)
  rw [show Mo_late_L41 Mo_late_B71 FU m (nI p) (nI d) c 0 = _ from q1]
  unfold Mo_late_B71
  obtain ⟨m2, u1, u2, u3⟩ := mo_late_L hT g1 (fun j hj => (g4 j hj).1) l9 hp (nI d) c Mo_late_B174 ln 0 FU m1 (hM.eq (me_1 q2).S) (by rw [q2]; exact g3) (fun j hj => by rw [q2]; exact (g4 j hj).2.2) (by omega) (by unfold FU; omega) q3
  rw [q2, l4, show Mo_late_L86 Mo_late_B174 FU m1 (nI p) (nI d) c (nI s0) 1 1 0 = _ from u1]
  unfold Mo_late_B174
  have u4 : Mo_late_L180 Mo_late_B209 FU m2 (nI d) c (lN (10 ^ ln)) (bi (gj tr lg s0 ln)) 0 0 = Mo_late_B209 m2 c (lN (10 ^ ln)) (lN (if gj tr lg s0 ln = true then sm (WW tr lg p ln) (d + 1) 0 else 0)) := by
    cases hg : gj tr lg s0 ln with
    | true =>
      rw [if_pos rfl, bi_t]
      exact mo_sum_L u3 c (lN (10 ^ ln)) Mo_late_B209 hd (d + 1) 0 FU (by omega) (by unfold FU; omega)
    | false =>
      rw [if_neg (by decide), bi_f]
      show Mo_late_L180 Mo_late_B209 (1999 + 1) m2 (nI d) c (lN (10 ^ ln)) 0 0 0 = _
      rw [Mo_late_L180, if_neg (nI_pos (by omega)), if_pos rfl]
      rfl
  rw [u4]
  unfold Mo_late_B209
  obtain ⟨x', w1, w2⟩ := hx
  rw [w1, Option.bind_some]
  dsimp only
  unfold Ri_waysInAll
  have w3 := ri_all_L g1 (x := x') (by rw [w2]; exact g2) (Ri_waysInAll_B30 x') ln 0 FU (by omega) (by unfold FU; omega)
  rw [show Ri_waysInAll_L4 x' (Ri_waysInAll_B30 x') FU 1 0 = some (lN (10 ^ ln)) from w3, Option.bind_some]
  generalize hA : (if gj tr lg s0 ln = true then sm (WW tr lg p ln) (d + 1) 0 else 0) = A
  have hA1 : A ≤ 10 ^ 12 := by
    rw [← hA]
    split <;> omega
  generalize 10 ^ ln = B at hpw hpp
  unfold Nt_commonDivisor Mo_divisor
  have k1 := nt_gcd x' (Nt_commonDivisor_B45 x') 40 A B FU 0 (by omega) (by omega) (by omega) (by decide) (by decide)
  have k2 := mo_gcd m2 (Mo_divisor_B31 m2) 40 A B FU (by omega) (by omega) (by omega) (by decide)
  rw [show Nt_commonDivisor_L9 x' (Nt_commonDivisor_B45 x') FU (lN A) (lN B) 0 = some (lN (Nat.gcd A B)) from k1, k2]
  have hG : 0 < Nat.gcd A B := Nat.gcd_pos_of_pos_right _ hpp
  have hG2 : Nat.gcd A B ≤ B := Nat.gcd_le_right _ hpp
  show ∃ r x'_1 m', (Option.bind (some (lN (Nat.gcd A B))) _) = _ ∧ (Option.bind (some (lN (Nat.gcd A B))) _) = _ ∧ _
  rw [Option.bind_some, Option.bind_some]
  have n0 : ¬ lN (Nat.gcd A B) = 0 := ne0_l (by omega) (by omega)
  have n1 : (0 : Int32) ≤ lg_cmp (lN (Nat.gcd A B)) 1 := by
    unfold lg_cmp
    by_cases e : lN (Nat.gcd A B) > 1
    · rw [if_pos e]; decide
    · rw [if_neg e]
      have : Nat.gcd A B = 1 := by
        have : ¬ 1 < Nat.gcd A B := fun q => e ((pk_lLT (a := 1) (b := Nat.gcd A B) (by decide) (by omega)).mpr q)
        omega
      rw [this, if_pos (show lN 1 = 1 from rfl)]; decide
  rw [if_pos n1]
  have hR : Rel x' m2 := h0.eq (xe_1 w2) (me_1 (by rw [u2, q2]))
  by_cases hc : c = 0
  · rw [if_pos hc, if_pos hc, if_pos n0, if_pos n0]; exact ⟨_, _, _, rfl, rfl, hR⟩
  · rw [if_neg hc, if_neg hc, if_pos n0, if_pos n0]; exact ⟨_, _, _, rfl, rfl, hR⟩
end Late2
