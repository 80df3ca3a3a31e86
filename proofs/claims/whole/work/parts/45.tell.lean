/-! FAULT and LAND: what a line tells -/
/-- stations, trains, start, show, rows of trains, tickets, seekers -/
abbrev Ld : Type := Nat × Nat × Nat × Nat × Tr × (Nat → Nat) × (Nat → Int32)
def DX (x : Wd) : Ld → Prop
  | (S, T, s0, sh, tr, tk, sk) => x.1 8 0 = nI S ∧ x.1 8 1 = nI T ∧ x.1 8 2 = nI s0 ∧ x.1 8 3 = nI sh ∧ (∀ t k, t < T → k < 6 → x.1 9 (6 * t + k) = nI (tr t k)) ∧ (∀ k, k < 3 → x.1 10 k = nI (tk k)) ∧ ∀ i, i < 2 → x.1 11 i = sk i
def DM (m : Wd) : Ld → Prop
  | (S, T, s0, sh, tr, tk, sk) => m.1 37 6 = nI S ∧ m.1 37 8 = nI T ∧ m.1 37 9 = nI s0 ∧ m.1 37 11 = nI sh ∧ (∀ t k, t < T → k < 6 → m.1 42 (6 * t + k) = nI (tr t k)) ∧ (∀ k, k < 3 → m.1 43 k = nI (tk k)) ∧ ∀ i, i < 2 → m.1 44 i = sk i
def OKL : Ld → Prop
  | (S, T, s0, sh, tr, tk, sk) => TOK S T tr ∧ (∀ k, k < 3 → tk k ≤ 9) ∧ (∀ i, i < 2 → sk i = -1 ∨ ∃ s, s < S ∧ sk i = nI s) ∧ s0 < S ∧ 1 ≤ sh ∧ sh ≤ 9
/-- the line w with its fields f -/
def tellP : Ld → Nat → (Nat → Nat) → Ld
  | (_, _, _, sh, tr, tk, _), 0, f => (f 0, 0, 0, sh, tr, tk, fun _ => -1)
  | (S, T, s0, sh, tr, tk, sk), 1, f => (S, T + 1, s0, sh, fun t k => if t = T then f k else tr t k, tk, sk)
  | (S, T, _, sh, tr, tk, sk), 2, f => (S, T, f 0, sh, tr, tk, sk)
  | (S, T, s0, sh, tr, _, sk), 3, f => (S, T, s0, sh, tr, f, sk)
  | (S, T, s0, _, tr, tk, sk), 4, f => (S, T, s0, f 0, tr, tk, sk)
  | (S, T, s0, sh, tr, tk, sk), _, f => (S, T, s0, sh, tr, tk, fun i => if i = f 0 then nI (f 1) else sk i)
def cnt (w : Nat) : Nat := if w = 1 then 6 else if w = 3 then 3 else if w = 5 then 2 else 1
/-- may the line be told -/
def okL : Ld → Nat → (Nat → Nat) → Prop
  | _, 0, f => 2 ≤ f 0 ∧ f 0 ≤ 7
  | (S, T, _, _, _, _, _), 1, f => T < 12 ∧ f 0 < S ∧ f 1 < S ∧ 1 ≤ f 2 ∧ f 2 ≤ 4 ∧ f 3 < f 2 ∧ (f 4 = 1 ∨ f 4 = 2) ∧ f 5 < 3
  | (S, _, _, _, _, _, _), 2, f => f 0 < S
  | _, 3, f => f 0 ≤ 9 ∧ f 1 ≤ 9 ∧ f 2 ≤ 9
  | _, 4, f => 1 ≤ f 0 ∧ f 0 ≤ 9
  | (S, _, _, _, _, _, _), _, f => f 0 < 2 ∧ f 1 < S
theorem tell_ok {L : Ld} {w : Nat} {f : Nat → Nat} (hw : w < 6) (h : OKL L) (g : okL L w f) : OKL (tellP L w f) := by
  obtain ⟨S, T, s0, sh, tr, tk, sk⟩ := L
  obtain ⟨⟨t1, t2, t3, t4⟩, h2, h3, h4, h5, h6⟩ := h
  match w, hw, g with
  | 0, _, g => exact ⟨⟨g.1, g.2, Nat.zero_le _, fun t ht => by omega⟩, h2, fun _ _ => Or.inl rfl, Nat.lt_of_lt_of_le (by decide) g.1, h5, h6⟩
  | 1, _, g =>
    obtain ⟨g0, g1, g2, g3, g4, g5, g6, g7⟩ := g
    refine ⟨⟨t1, t2, g0, fun t ht => ?_⟩, h2, h3, h4, h5, h6⟩
    dsimp only
    by_cases e : t = T
    · rw [if_pos e, if_pos e, if_pos e, if_pos e, if_pos e, if_pos e]; exact ⟨g1, g2, g3, g4, g5, g6, g7⟩
    · rw [if_neg e, if_neg e, if_neg e, if_neg e, if_neg e, if_neg e]; exact t4 t (by omega)
  | 2, _, g => exact ⟨⟨t1, t2, t3, t4⟩, h2, h3, g, h5, h6⟩
  | 3, _, g =>
    refine ⟨⟨t1, t2, t3, t4⟩, fun k hk => ?_, h3, h4, h5, h6⟩
    match k, hk with
    | 0, _ => exact g.1
    | 1, _ => exact g.2.1
    | 2, _ => exact g.2.2
  | 4, _, g => exact ⟨⟨t1, t2, t3, t4⟩, h2, h3, h4, g.1, g.2⟩
  | 5, _, g =>
    refine ⟨⟨t1, t2, t3, t4⟩, h2, fun i hi => ?_, h4, h5, h6⟩
    dsimp only
    by_cases e : i = f 0
    · rw [if_pos e]; exact Or.inr ⟨f 1, g.2, rfl⟩
    · rw [if_neg e]; exact h3 i hi
/-- row n of R leads from L to L' -/
def TS (R : Nat → Int32) (n : Nat) (L L' : Ld) : Prop := ∃ w f, w < 6 ∧ R (7 * n) = nI w ∧ (∀ k, k < cnt w → R (7 * n + 1 + k) = nI (f k)) ∧ okL L w f ∧ L' = tellP L w f
def Ch (R : Nat → Int32) : Nat → Ld → Ld → Prop
  | 0, L0, L => L = L0
  | n + 1, L0, L => ∃ L1, Ch R n L0 L1 ∧ TS R n L1 L
theorem cnt_le (w : Nat) : 1 ≤ cnt w ∧ cnt w ≤ 6 := by
  unfold cnt
  repeat' split
  all_goals omega
theorem Ch.con {R R' : Nat → Int32} : ∀ {n : Nat} {L0 L : Ld}, Ch R n L0 L → (∀ j, j < 7 * n → R' j = R j) → Ch R' n L0 L := by
  intro n
  induction n with
  | zero => intro L0 L h _; exact h
  | succ n ih =>
    intro L0 L h e
    obtain ⟨L1, h1, w, f, a1, a2, a3, a4⟩ := h
    have := cnt_le w
    exact ⟨L1, ih h1 fun j hj => e j (by omega), w, f, a1, by rw [e _ (by omega)]; exact a2, fun k hk => by rw [e _ (by omega)]; exact a3 k hk, a4⟩
