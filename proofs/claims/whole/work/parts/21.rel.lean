/-! What ties the class's world to the reference's -/
theorem lgc_lt (a b : Int64) : lg_cmp a b < 0 ↔ a < b := by
  unfold lg_cmp
  by_cases h1 : a > b
  · rw [if_pos h1]
    exact ⟨fun h => absurd h (by decide), fun h => absurd h1 (by rw [GT.gt, Int64.lt_iff_toInt_lt]; rw [Int64.lt_iff_toInt_lt] at h; omega)⟩
  · rw [if_neg h1]
    by_cases h2 : a = b
    · rw [if_pos h2]
      exact ⟨fun h => absurd h (by decide), fun h => absurd h (by rw [h2, Int64.lt_iff_toInt_lt]; omega)⟩
    · rw [if_neg h2]
      refine ⟨fun _ => ?_, fun _ => by decide⟩
      have h3 : ¬ a.toInt = b.toInt := fun e => h2 (Int64.toInt_inj.mp e)
      rw [GT.gt, Int64.lt_iff_toInt_lt] at h1
      rw [Int64.lt_iff_toInt_lt]
      omega
theorem lgc_gt (a b : Int64) : 0 < lg_cmp a b ↔ b < a := by
  unfold lg_cmp
  by_cases h1 : a > b
  · rw [if_pos h1]
    exact ⟨fun _ => h1, fun _ => by decide⟩
  · rw [if_neg h1]
    by_cases h2 : a = b
    · rw [if_pos h2]
      exact ⟨fun h => absurd h (by decide), fun h => absurd h h1⟩
    · rw [if_neg h2]
      exact ⟨fun h => absurd h (by decide), fun h => absurd h h1⟩
theorem wide_lt (a b : Int32) : a.toInt64 < b.toInt64 ↔ a < b := by
  rw [Int64.lt_iff_toInt_lt, Int32.lt_iff_toInt_lt, Int32.toInt_toInt64, Int32.toInt_toInt64]
theorem mo_in (m : Wd) (a lo hi : Int32) : Mo_in m a.toInt64 lo.toInt64 hi.toInt64 = if a < lo then 0 else if hi < a then 0 else 1 := by
  unfold Mo_in
  by_cases h1 : a < lo
  · rw [if_pos h1, if_pos ((lgc_lt _ _).mpr ((wide_lt _ _).mpr h1))]
  · rw [if_neg h1, if_neg (fun h => h1 ((wide_lt _ _).mp ((lgc_lt _ _).mp h)))]
    by_cases h2 : hi < a
    · rw [if_pos h2, if_pos ((lgc_gt _ _).mpr ((wide_lt _ _).mpr h2))]
    · rw [if_neg h2, if_neg (fun h => h2 ((wide_lt _ _).mp ((lgc_gt _ _).mp h)))]
/-- 'in' of the reference and 'within' of the class -/
theorem mo_within (x m : Wd) (a lo hi : Int32) : Mo_in m a.toInt64 lo.toInt64 hi.toInt64 = Nt_within x a lo hi := by rw [mo_in]; rfl
/-- below n: the two ways of asking -/
theorem in_lt (m : Wd) (a : Int32) {n : Nat} (hn : n < 2 ^ 31) : Mo_in m a.toInt64 (0 : Int64) ((nI n - 1).toInt64) = if a < 0 then 0 else if nI n ≤ a then 0 else 1 := by
  have h := mo_in m a 0 (nI n - 1)
  have e : ((0 : Int32).toInt64) = (0 : Int64) := by decide
  rw [e] at h
  rw [h]
  by_cases h1 : a < 0
  · rw [if_pos h1, if_pos h1]
  · rw [if_neg h1, if_neg h1]
    have hi : (nI n - 1).toInt = (n : Int) - 1 := by
      rcases Nat.eq_zero_or_pos n with rfl | hp
      · decide
      · obtain ⟨q, rfl⟩ : ∃ q, n = q + 1 := ⟨n - 1, by omega⟩
        rw [nI_pred, nI_toInt (by omega)]
        omega
    have e2 : nI n - 1 < a ↔ nI n ≤ a := by
      rw [Int32.lt_iff_toInt_lt, Int32.le_iff_toInt_le, hi, nI_toInt hn]
      omega
    by_cases h2 : nI n ≤ a
    · rw [if_pos h2, if_pos (e2.mpr h2)]
    · rw [if_neg h2, if_neg (fun h => h2 (e2.mp h))]
/-- a scene: day, where, on the way, caught, ride told, tickets, seekers, sent, may, way, letter -/
abbrev Sc : Type := Int32 × Nat × Bool × Bool × Int32 × (Nat → Nat) × (Nat → Int32) × (Nat → Int32) × Nat × Nat × Nat
def ScX (x : Wd) (c : Nat) : Sc → Prop
  | (dy, he, aw, ca, rd, tk, sk, sn, my, wy, lt) => x.1 c 1 = dy ∧ x.1 c 2 = nI he ∧ x.1 c 3 = bi aw ∧ x.1 c 4 = bi ca ∧ x.1 c 5 = rd ∧ (∀ k, k < 3 → x.1 (c + 1) k = nI (tk k)) ∧ (∀ i, i < 2 → x.1 (c + 2) i = sk i) ∧ (∀ i, i < 2 → x.1 (c + 3) i = sn i) ∧ x.1 c 9 = nI my ∧ x.1 c 10 = nI wy ∧ x.1 c 11 = nI lt
def ScM (m : Wd) (o : Nat) : Sc → Prop
  | (dy, he, aw, ca, rd, tk, sk, sn, my, wy, lt) => m.1 38 o = dy ∧ m.1 38 (o + 1) = nI he ∧ m.1 38 (o + 2) = bi aw ∧ m.1 38 (o + 3) = bi ca ∧ m.1 38 (o + 7) = rd ∧ (∀ k, k < 3 → m.1 38 (o + 4 + k) = nI (tk k)) ∧ (∀ i, i < 2 → m.1 38 (o + 8 + i) = sk i) ∧ (∀ i, i < 2 → m.1 38 (o + 10 + i) = sn i) ∧ m.1 38 (o + 12) = nI my ∧ m.1 38 (o + 13) = nI wy ∧ m.1 38 (o + 14) = nI lt
def ScOK (S T : Nat) (tr : Tr) : Sc → Prop
  | (dy, he, aw, ca, rd, tk, sk, sn, my, wy, lt) => he < S ∧ (∀ k, k < 3 → tk k ≤ 9) ∧ (rd = -1 ∨ ∃ t, t < T ∧ rd = nI t ∧ rid tr tk he dy t = true ∧ aw = false ∧ ca = false) ∧ (∀ i, i < 2 → sk i = -1 ∨ ∃ s, s < S ∧ sk i = nI s) ∧ (∀ i, i < 2 → sn i = -1 ∨ ∃ t, t < T ∧ sn i = nI t) ∧ my < 2 ^ S ∧ wy < 2 ^ S ∧ lt < 2 ^ S ∧ (ca = true → aw = false ∧ (sk 0 = nI he ∨ sk 1 = nI he))
def LdR (x m : Wd) (S T s0 sh : Nat) (tr : Tr) (tk : Nat → Nat) (sk : Nat → Int32) : Prop :=
  TX x T tr ∧ TM m T tr ∧ x.1 3 0 = nI S ∧ m.1 37 6 = nI S ∧ x.1 3 2 = nI s0 ∧ m.1 37 9 = nI s0 ∧ x.1 3 3 = nI sh ∧ m.1 37 11 = nI sh ∧ (∀ k, k < 3 → x.1 5 k = nI (tk k) ∧ m.1 43 k = nI (tk k) ∧ tk k ≤ 9) ∧ (∀ i, i < 2 → x.1 6 i = sk i ∧ m.1 44 i = sk i ∧ (sk i = -1 ∨ ∃ s, s < S ∧ sk i = nI s)) ∧ s0 < S ∧ 1 ≤ sh ∧ sh ≤ 9
def TxR (x m : Wd) (tn : Nat) (tx : Nat → Nat) : Prop := tn ≤ 200 ∧ x.1 1 1 = nI tn ∧ m.1 37 3 = nI tn ∧ ∀ j, j < tn → tx j < 256 ∧ x.1 2 j = nI (tx j) ∧ m.1 40 j = nI (tx j)
def LgR (x m : Wd) (T ln : Nat) (lg : Nat → Nat) : Prop := ln ≤ 12 ∧ x.1 32 2 = nI ln ∧ m.1 37 22 = nI ln ∧ ∀ j, j < ln → lg j < T ∧ x.1 33 j = nI (lg j) ∧ m.1 46 j = nI (lg j)
def KpR (x m : Wd) (S T : Nat) (tr : Tr) (kb : Nat → Bool) : Prop := x.1 0 9 = nI ((if kb 0 then 1 else 0) + (if kb 1 then 2 else 0)) ∧ ∀ i, i < 2 → m.1 39 i = bi (kb i) ∧ (kb i = true → ∃ z, ScX x (17 + 4 * i) z ∧ ScM m (15 + 15 * i) z ∧ ScOK S T tr z)
def Rel (x m : Wd) : Prop := ∃ (S T s0 sh : Nat) (tr : Tr) (tk : Nat → Nat) (sk : Nat → Int32) (tn : Nat) (tx : Nat → Nat) (ln : Nat) (lg : Nat → Nat) (kb : Nat → Bool) (z : Sc),
  TOK S T tr ∧ LdR x m S T s0 sh tr tk sk ∧ TxR x m tn tx ∧ LgR x m T ln lg ∧ KpR x m S T tr kb ∧ ScX x 13 z ∧ ScM m 0 z ∧ ScOK S T tr z
/-- worlds that differ in scratch alone -/
def XEq (x x' : Wd) : Prop := x'.1 0 9 = x.1 0 9 ∧ x'.1 1 1 = x.1 1 1 ∧ x'.1 2 = x.1 2 ∧ (∀ k, k < 4 → x'.1 3 k = x.1 3 k) ∧ x'.1 4 = x.1 4 ∧ x'.1 5 = x.1 5 ∧ x'.1 6 = x.1 6 ∧ (∀ c, 13 ≤ c → c ≤ 24 → x'.1 c = x.1 c) ∧ x'.1 32 2 = x.1 32 2 ∧ x'.1 33 = x.1 33
def MEq (m m' : Wd) : Prop := m'.1 37 3 = m.1 37 3 ∧ m'.1 37 6 = m.1 37 6 ∧ m'.1 37 8 = m.1 37 8 ∧ m'.1 37 9 = m.1 37 9 ∧ m'.1 37 11 = m.1 37 11 ∧ m'.1 37 22 = m.1 37 22 ∧ m'.1 38 = m.1 38 ∧ m'.1 39 = m.1 39 ∧ m'.1 40 = m.1 40 ∧ m'.1 42 = m.1 42 ∧ m'.1 43 = m.1 43 ∧ m'.1 44 = m.1 44 ∧ m'.1 46 = m.1 46
theorem ScX.eq {x x' : Wd} {c : Nat} {z : Sc} (h : ScX x c z) (h0 : x'.1 c = x.1 c) (h1 : x'.1 (c + 1) = x.1 (c + 1)) (h2 : x'.1 (c + 2) = x.1 (c + 2)) (h3 : x'.1 (c + 3) = x.1 (c + 3)) : ScX x' c z := by
  obtain ⟨dy, he, aw, ca, rd, tk, sk, sn, my, wy, lt⟩ := z
  unfold ScX at h ⊢
  rw [h0, h1, h2, h3]
  exact h
theorem ScM.eq {m m' : Wd} {o : Nat} {z : Sc} (h : ScM m o z) (h0 : m'.1 38 = m.1 38) : ScM m' o z := by
  obtain ⟨dy, he, aw, ca, rd, tk, sk, sn, my, wy, lt⟩ := z
  unfold ScM at h ⊢
  rw [h0]
  exact h
theorem Rel.eq {x m x' m' : Wd} (h : Rel x m) (hx : XEq x x') (hm : MEq m m') : Rel x' m' := by
  obtain ⟨S, T, s0, sh, tr, tk, sk, tn, tx, ln, lg, kb, z, h1, h2, h3, h4, h5, h6, h7, h8⟩ := h
  obtain ⟨x0, x1, x2, x3, x4, x5, x6, x13, x32, x33⟩ := hx
  obtain ⟨m3, m6, m8, m9, m11, m22, m38, m39, m40, m42, m43, m44, m46⟩ := hm
  refine ⟨S, T, s0, sh, tr, tk, sk, tn, tx, ln, lg, kb, z, h1, ?_, ?_, ?_, ?_, h6.eq (x13 _ (by omega) (by omega)) (x13 _ (by omega) (by omega)) (x13 _ (by omega) (by omega)) (x13 _ (by omega) (by omega)), h7.eq m38, h8⟩
  · unfold LdR TX TM at h2 ⊢
    rw [x3 0 (by decide), x3 1 (by decide), x3 2 (by decide), x3 3 (by decide), x4, x5, x6, m6, m8, m9, m11, m42, m43, m44]
    exact h2
  · unfold TxR at h3 ⊢
    rw [x1, x2, m3, m40]
    exact h3
  · unfold LgR at h4 ⊢
    rw [x32, x33, m22, m46]
    exact h4
  · unfold KpR at h5 ⊢
    rw [x0, m39]
    refine ⟨h5.1, fun i hi => ⟨(h5.2 i hi).1, fun hk => ?_⟩⟩
    obtain ⟨z, a, b, c⟩ := (h5.2 i hi).2 hk
    exact ⟨z, a.eq (x13 _ (by omega) (by omega)) (x13 _ (by omega) (by omega)) (x13 _ (by omega) (by omega)) (x13 _ (by omega) (by omega)), b.eq m38, c⟩
theorem XEq.rf (x : Wd) : XEq x x := ⟨rfl, rfl, rfl, fun _ _ => rfl, rfl, rfl, rfl, fun _ _ _ => rfl, rfl, rfl⟩
theorem MEq.rf (m : Wd) : MEq m m := ⟨rfl, rfl, rfl, rfl, rfl, rfl, rfl, rfl, rfl, rfl, rfl, rfl, rfl⟩
theorem MEq.tr {a b c : Wd} (h : MEq a b) (g : MEq b c) : MEq a c := by
  obtain ⟨a1, a2, a3, a4, a5, a6, a7, a8, a9, b1, b2, b3, b4⟩ := h
  obtain ⟨c1, c2, c3, c4, c5, c6, c7, c8, c9, d1, d2, d3, d4⟩ := g
  exact ⟨c1.trans a1, c2.trans a2, c3.trans a3, c4.trans a4, c5.trans a5, c6.trans a6, c7.trans a7, c8.trans a8, c9.trans a9, d1.trans b1, d2.trans b2, d3.trans b3, d4.trans b4⟩
theorem XEq.tr {a b c : Wd} (h : XEq a b) (g : XEq b c) : XEq a c := by
  obtain ⟨a1, a2, a3, a4, a5, a6, a7, a8, a9, b1⟩ := h
  obtain ⟨c1, c2, c3, c4, c5, c6, c7, c8, c9, d1⟩ := g
  exact ⟨c1.trans a1, c2.trans a2, c3.trans a3, fun k hk => (c4 k hk).trans (a4 k hk), c5.trans a5, c6.trans a6, c7.trans a7, fun q h1 h2 => (c8 q h1 h2).trans (a8 q h1 h2), c9.trans a9, d1.trans b1⟩
/-- which train an argument is -/
theorem tr_cases {x m : Wd} {T : Nat} {tr : Tr} (h : TX x T tr) (h' : TM m T tr) (hT : T < 2 ^ 31) (a : Int32) : (La_hasTrain x a = 0 ∧ Mo_isTrain m a = 0) ∨ (La_hasTrain x a = 1 ∧ Mo_isTrain m a = 1 ∧ ∃ t, t < T ∧ a = nI t) := by
  unfold La_hasTrain Mo_isTrain
  rw [h.1, h'.1, in_lt m a hT]
  rcases pk_ix a hT with h0 | h0 | ⟨t, h0, rfl⟩
  · exact Or.inl ⟨if_pos h0, if_pos h0⟩
  · left
    by_cases h1 : a < 0
    · exact ⟨if_pos h1, if_pos h1⟩
    · rw [if_neg h1, if_pos h0]; exact ⟨rfl, rfl⟩
  · right
    rw [if_neg (nI_pos (by omega)), if_neg (nI_ge h0 hT)]
    exact ⟨rfl, rfl, t, h0, rfl⟩
theorem st_cases {x m : Wd} {S : Nat} (h : x.1 3 0 = nI S) (h' : m.1 37 6 = nI S) (hS : S < 2 ^ 31) (a : Int32) : (La_hasStation_3 x a = 0 ∧ Mo_in m a.toInt64 (0 : Int64) ((m.1 37 6 - 1).toInt64) = 0) ∨ (La_hasStation_3 x a = 1 ∧ Mo_in m a.toInt64 (0 : Int64) ((m.1 37 6 - 1).toInt64) = 1 ∧ ∃ t, t < S ∧ a = nI t) := by
  unfold La_hasStation_3
  rw [h, h', in_lt m a hS]
  rcases pk_ix a hS with h0 | h0 | ⟨t, h0, rfl⟩
  · exact Or.inl ⟨if_pos h0, if_pos h0⟩
  · left
    by_cases h1 : a < 0
    · exact ⟨if_pos h1, if_pos h1⟩
    · rw [if_neg h1, if_pos h0]; exact ⟨rfl, rfl⟩
  · right
    rw [if_neg (nI_pos (by omega)), if_neg (nI_ge h0 hS)]
    exact ⟨rfl, rfl, t, h0, rfl⟩
/-- 0 .. n: which number an argument is -/
theorem wi_cases (x : Wd) (a : Int32) {n : Nat} (hn : n + 1 < 2 ^ 31) : Nt_within x a (0 : Int32) (nI n) = 0 ∨ (Nt_within x a (0 : Int32) (nI n) = 1 ∧ ∃ t, t ≤ n ∧ a = nI t) := by
  unfold Nt_within
  by_cases h1 : a < 0
  · exact Or.inl (if_pos h1)
  · rw [if_neg h1]
    by_cases h2 : nI n < a
    · exact Or.inl (if_pos h2)
    · rw [if_neg h2]
      obtain ⟨j, hj, rfl⟩ := nI_of h1
      refine Or.inr ⟨rfl, j, ?_, rfl⟩
      rw [nI_ltI (by omega) hj] at h2
      omega
/-- all but the scene of now -/
def XEqS (x x' : Wd) : Prop := x'.1 0 9 = x.1 0 9 ∧ x'.1 1 1 = x.1 1 1 ∧ x'.1 2 = x.1 2 ∧ (∀ k, k < 4 → x'.1 3 k = x.1 3 k) ∧ x'.1 4 = x.1 4 ∧ x'.1 5 = x.1 5 ∧ x'.1 6 = x.1 6 ∧ (∀ c, 17 ≤ c → c ≤ 24 → x'.1 c = x.1 c) ∧ x'.1 32 2 = x.1 32 2 ∧ x'.1 33 = x.1 33
def MEqS (m m' : Wd) : Prop := m'.1 37 3 = m.1 37 3 ∧ m'.1 37 6 = m.1 37 6 ∧ m'.1 37 8 = m.1 37 8 ∧ m'.1 37 9 = m.1 37 9 ∧ m'.1 37 11 = m.1 37 11 ∧ m'.1 37 22 = m.1 37 22 ∧ (∀ j, 15 ≤ j → m'.1 38 j = m.1 38 j) ∧ m'.1 39 = m.1 39 ∧ m'.1 40 = m.1 40 ∧ m'.1 42 = m.1 42 ∧ m'.1 43 = m.1 43 ∧ m'.1 44 = m.1 44 ∧ m'.1 46 = m.1 46
theorem XEqS.rf (x : Wd) : XEqS x x := ⟨rfl, rfl, rfl, fun _ _ => rfl, rfl, rfl, rfl, fun _ _ _ => rfl, rfl, rfl⟩
theorem MEqS.rf (m : Wd) : MEqS m m := ⟨rfl, rfl, rfl, rfl, rfl, rfl, fun _ _ => rfl, rfl, rfl, rfl, rfl, rfl, rfl⟩
theorem MEqS.tr {a b c : Wd} (h : MEqS a b) (g : MEqS b c) : MEqS a c := by
  obtain ⟨a1, a2, a3, a4, a5, a6, a7, a8, a9, b1, b2, b3, b4⟩ := h
  obtain ⟨c1, c2, c3, c4, c5, c6, c7, c8, c9, d1, d2, d3, d4⟩ := g
  exact ⟨c1.trans a1, c2.trans a2, c3.trans a3, c4.trans a4, c5.trans a5, c6.trans a6, fun j hj => (c7 j hj).trans (a7 j hj), c8.trans a8, c9.trans a9, d1.trans b1, d2.trans b2, d3.trans b3, d4.trans b4⟩
theorem XEqS.tr {a b c : Wd} (h : XEqS a b) (g : XEqS b c) : XEqS a c := by
  obtain ⟨a1, a2, a3, a4, a5, a6, a7, a8, a9, b1⟩ := h
  obtain ⟨c1, c2, c3, c4, c5, c6, c7, c8, c9, d1⟩ := g
  exact ⟨c1.trans a1, c2.trans a2, c3.trans a3, fun k hk => (c4 k hk).trans (a4 k hk), c5.trans a5, c6.trans a6, c7.trans a7, fun q h1 h2 => (c8 q h1 h2).trans (a8 q h1 h2), c9.trans a9, d1.trans b1⟩
theorem XEq.S {a b : Wd} (h : XEq a b) : XEqS a b := by
  obtain ⟨a1, a2, a3, a4, a5, a6, a7, a8, a9, b1⟩ := h
  exact ⟨a1, a2, a3, a4, a5, a6, a7, fun c h1 h2 => a8 c (by omega) h2, a9, b1⟩
theorem MEq.S {a b : Wd} (h : MEq a b) : MEqS a b := by
  obtain ⟨a1, a2, a3, a4, a5, a6, a7, a8, a9, b1, b2, b3, b4⟩ := h
  exact ⟨a1, a2, a3, a4, a5, a6, fun j _ => by rw [a7], a8, a9, b1, b2, b3, b4⟩
theorem sI_ne {w : Wd} {c k a : Nat} {v : Int32} (h : a ≠ c) : (sI w c k v).1 a = w.1 a := by
  show (if a = c then upd (w.1 a) k v else w.1 a) = w.1 a
  rw [if_neg h]
theorem sI_nk {w : Wd} {c k a b : Nat} {v : Int32} (h : b ≠ k) : (sI w c k v).1 a b = w.1 a b := by
  rw [sI_1, if_neg (fun q => h q.2)]
theorem sI_at {w : Wd} {c k : Nat} {v : Int32} : (sI w c k v).1 c k = v := by
  rw [sI_1, if_pos ⟨rfl, rfl⟩]
theorem xs_sI (x : Wd) {c : Nat} (k : Nat) (v : Int32) (h : 7 ≤ c ∧ c ≤ 16 ∨ 25 ≤ c ∧ c ≤ 31 ∨ 34 ≤ c) : XEqS x (sI x c k v) := by
  have e : ∀ a, a ≠ c → (sI x c k v).1 a = x.1 a := fun a h => sI_ne h
  refine ⟨?_, ?_, e 2 (by omega), fun q _ => ?_, e 4 (by omega), e 5 (by omega), e 6 (by omega), fun q h1 h2 => e q (by omega), ?_, e 33 (by omega)⟩
  · rw [e 0 (by omega)]
  · rw [e 1 (by omega)]
  · rw [e 3 (by omega)]
  · rw [e 32 (by omega)]
theorem xe_sI (x : Wd) {c : Nat} (k : Nat) (v : Int32) (h : 7 ≤ c ∧ c ≤ 12 ∨ 25 ≤ c ∧ c ≤ 31 ∨ 34 ≤ c) : XEq x (sI x c k v) := by
  have e : ∀ a, a ≠ c → (sI x c k v).1 a = x.1 a := fun a h => sI_ne h
  refine ⟨?_, ?_, e 2 (by omega), fun q _ => ?_, e 4 (by omega), e 5 (by omega), e 6 (by omega), fun q h1 h2 => e q (by omega), ?_, e 33 (by omega)⟩
  · rw [e 0 (by omega)]
  · rw [e 1 (by omega)]
  · rw [e 3 (by omega)]
  · rw [e 32 (by omega)]
theorem xe_sJ (x : Wd) (c k : Nat) (v : Int64) : XEq x (sJ x c k v) := XEq.rf x
theorem me_sJ (m : Wd) (c k : Nat) (v : Int64) : MEq m (sJ m c k v) := MEq.rf m
theorem me_sI (m : Wd) {c k : Nat} (v : Int32) (h : c = 41 ∨ c = 45 ∨ c = 47 ∨ c = 37 ∧ k ≠ 3 ∧ k ≠ 6 ∧ k ≠ 8 ∧ k ≠ 9 ∧ k ≠ 11 ∧ k ≠ 22) : MEq m (sI m c k v) := by
  have e : ∀ a, a ≠ c → (sI m c k v).1 a = m.1 a := fun a h => sI_ne h
  have f : ∀ b, ¬ (37 = c ∧ b = k) → (sI m c k v).1 37 b = m.1 37 b := fun b h => by rw [sI_1, if_neg h]
  exact ⟨f 3 (by omega), f 6 (by omega), f 8 (by omega), f 9 (by omega), f 11 (by omega), f 22 (by omega), e 38 (by omega), e 39 (by omega), e 40 (by omega), e 42 (by omega), e 43 (by omega), e 44 (by omega), e 46 (by omega)⟩
theorem ms_sI (m : Wd) {k : Nat} (v : Int32) (h : k < 15) : MEqS m (sI m 38 k v) := by
  have e : ∀ a, a ≠ 38 → (sI m 38 k v).1 a = m.1 a := fun a h => sI_ne h
  have f : ∀ b, (sI m 38 k v).1 37 b = m.1 37 b := fun b => by rw [e 37 (by omega)]
  exact ⟨f 3, f 6, f 8, f 9, f 11, f 22, fun j hj => sI_nk (by omega), e 39 (by omega), e 40 (by omega), e 42 (by omega), e 43 (by omega), e 44 (by omega), e 46 (by omega)⟩
theorem TX.eq {x x' : Wd} {T : Nat} {tr : Tr} (h : TX x T tr) (hx : XEqS x x') : TX x' T tr := by
  obtain ⟨a1, a2, a3, a4, a5, a6, a7, a8, a9, b1⟩ := hx
  unfold TX at h ⊢
  rw [a4 1 (by decide), a5]
  exact h
theorem TM.eq {m m' : Wd} {T : Nat} {tr : Tr} (h : TM m T tr) (hm : MEqS m m') : TM m' T tr := by
  obtain ⟨a1, a2, a3, a4, a5, a6, a7, a8, a9, b1, b2, b3, b4⟩ := hm
  unfold TM at h ⊢
  rw [a3, b1]
  exact h
theorem ScM.kept {m m' : Wd} {o : Nat} {z : Sc} (h : ScM m o z) (h0 : ∀ j, o ≤ j → m'.1 38 j = m.1 38 j) : ScM m' o z := by
  obtain ⟨dy, he, aw, ca, rd, tk, sk, sn, my, wy, lt⟩ := z
  obtain ⟨c1, c2, c3, c4, c5, c6, c7, c8, c9, c10, c11⟩ := h
  exact ⟨by rw [h0 _ (by omega)]; exact c1, by rw [h0 _ (by omega)]; exact c2, by rw [h0 _ (by omega)]; exact c3, by rw [h0 _ (by omega)]; exact c4, by rw [h0 _ (by omega)]; exact c5, fun k hk => by rw [h0 _ (by omega)]; exact c6 k hk, fun k hk => by rw [h0 _ (by omega)]; exact c7 k hk, fun k hk => by rw [h0 _ (by omega)]; exact c8 k hk, by rw [h0 _ (by omega)]; exact c9, by rw [h0 _ (by omega)]; exact c10, by rw [h0 _ (by omega)]; exact c11⟩
theorem LdR.eq {x m x' m' : Wd} {S T s0 sh : Nat} {tr : Tr} {tk : Nat → Nat} {sk : Nat → Int32} (h2 : LdR x m S T s0 sh tr tk sk) (hx : XEqS x x') (hm : MEqS m m') : LdR x' m' S T s0 sh tr tk sk := by
  obtain ⟨x0, x1, x2, x3, x4, x5, x6, x13, x32, x33⟩ := hx
  obtain ⟨m3, m6, m8, m9, m11, m22, m38, m39, m40, m42, m43, m44, m46⟩ := hm
  unfold LdR TX TM at h2 ⊢
  rw [x3 0 (by decide), x3 1 (by decide), x3 2 (by decide), x3 3 (by decide), x4, x5, x6, m6, m8, m9, m11, m42, m43, m44]
  exact h2
theorem TxR.eq {x m x' m' : Wd} {tn : Nat} {tx : Nat → Nat} (h3 : TxR x m tn tx) (hx : XEqS x x') (hm : MEqS m m') : TxR x' m' tn tx := by
  obtain ⟨x0, x1, x2, x3, x4, x5, x6, x13, x32, x33⟩ := hx
  obtain ⟨m3, m6, m8, m9, m11, m22, m38, m39, m40, m42, m43, m44, m46⟩ := hm
  unfold TxR at h3 ⊢
  rw [x1, x2, m3, m40]
  exact h3
theorem LgR.eq {x m x' m' : Wd} {T ln : Nat} {lg : Nat → Nat} (h4 : LgR x m T ln lg) (hx : XEqS x x') (hm : MEqS m m') : LgR x' m' T ln lg := by
  obtain ⟨x0, x1, x2, x3, x4, x5, x6, x13, x32, x33⟩ := hx
  obtain ⟨m3, m6, m8, m9, m11, m22, m38, m39, m40, m42, m43, m44, m46⟩ := hm
  unfold LgR at h4 ⊢
  rw [x32, x33, m22, m46]
  exact h4
theorem KpR.eq {x m x' m' : Wd} {S T : Nat} {tr : Tr} {kb : Nat → Bool} (h5 : KpR x m S T tr kb) (hx : XEqS x x') (hm : MEqS m m') : KpR x' m' S T tr kb := by
  obtain ⟨x0, x1, x2, x3, x4, x5, x6, x13, x32, x33⟩ := hx
  obtain ⟨m3, m6, m8, m9, m11, m22, m38, m39, m40, m42, m43, m44, m46⟩ := hm
  unfold KpR at h5 ⊢
  rw [x0, m39]
  refine ⟨h5.1, fun i hi => ⟨(h5.2 i hi).1, fun hk => ?_⟩⟩
  obtain ⟨z, a, b, c⟩ := (h5.2 i hi).2 hk
  exact ⟨z, a.eq (x13 _ (by omega) (by omega)) (x13 _ (by omega) (by omega)) (x13 _ (by omega) (by omega)) (x13 _ (by omega) (by omega)), b.kept (fun j hj => m38 j (by omega)), c⟩
