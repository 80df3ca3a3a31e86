/-! LAND: the reference tells a line -/
section TellM
/-- all that telling leaves alone -/
def FT (m m' : Wd) : Prop := (∀ q, q ≠ 37 → q ≠ 42 → q ≠ 43 → q ≠ 44 → m'.1 q = m.1 q) ∧ ∀ k, k ≠ 6 → k ≠ 8 → k ≠ 9 → k ≠ 11 → m'.1 37 k = m.1 37 k
theorem FT.rf (m : Wd) : FT m m := ⟨fun _ _ _ _ _ => rfl, fun _ _ _ _ _ => rfl⟩
theorem FT.tr {a b c : Wd} (h : FT a b) (g : FT b c) : FT a c := ⟨fun q h1 h2 h3 h4 => (g.1 q h1 h2 h3 h4).trans (h.1 q h1 h2 h3 h4), fun k a1 a2 a3 a4 => (g.2 k a1 a2 a3 a4).trans (h.2 k a1 a2 a3 a4)⟩
theorem FT.s (m : Wd) {c k : Nat} {v : Int32} (h : c = 42 ∨ c = 43 ∨ c = 44 ∨ c = 37 ∧ (k = 6 ∨ k = 8 ∨ k = 9 ∨ k = 11)) : FT m (sI m c k v) := ⟨fun q h1 h2 h3 h4 => sI_ne (by omega), fun j h1 h2 h3 h4 => by rw [sI_1, if_neg (by omega)]⟩
theorem tt_L {f : Nat → Nat} {T b : Nat} (hT : T < 12) (hb : b < 64) (k : Wd → Option Wd) : ∀ (d j n : Nat) (m : Wd), j + d = 6 → d < n → m.1 37 8 = nI T → (∀ i, i < 6 → m.1 41 (b + 1 + i) = nI (f i)) → ∃ m', Mo_tell_L80 k n m (nI b) (nI j) = k m' ∧ (∀ q, q ≠ 42 → m'.1 q = m.1 q) ∧ (∀ q, m'.1 42 q = if 6 * T + j ≤ q ∧ q < 6 * T + 6 then nI (f (q - 6 * T)) else m.1 42 q) := by
  intro d
  induction d with
  | zero =>
    intro j n m hj hn h8 h41
    obtain ⟨n, rfl⟩ : ∃ q, n = q + 1 := ⟨n - 1, by omega⟩
    rw [Mo_tell_L80, if_pos (show (6 : Int32) ≤ nI j from nI_le (a := 6) (by omega) (by omega))]
    exact ⟨m, rfl, fun _ _ => rfl, fun q => by rw [if_neg (by omega)]⟩
  | succ d ih =>
    intro j n m hj hn h8 h41
    obtain ⟨n, rfl⟩ : ∃ q, n = q + 1 := ⟨n - 1, by omega⟩
    rw [Mo_tell_L80, if_neg (show ¬ (6 : Int32) ≤ nI j from nI_ge (b := 6) (by omega) (by decide)), nI_1, nI_add, if_pos (ib_nI (by omega) (by decide)), h8, m6, if_pos (ib_nI (by omega) (by decide)), nI_clamp (by omega), nI_clamp (by omega), h41 j (by omega), nI_1]
    obtain ⟨m', f1, f2, f3⟩ := ih (j + 1) n (sI m 42 (6 * T + j) (nI (f j))) (by omega) (by omega) (by rw [sI_ne (by decide)]; exact h8) (fun i hi => by rw [sI_ne (by decide)]; exact h41 i hi)
    refine ⟨m', f1, fun q hq => by rw [f2 q hq, sI_ne hq], fun q => ?_⟩
    rw [f3 q]
    by_cases e : q = 6 * T + j
    · rw [if_neg (by omega), if_pos (by omega), e, sI_at, show 6 * T + j - 6 * T = j by omega]
    · rw [sI_nk e]
      by_cases g : 6 * T + (j + 1) ≤ q ∧ q < 6 * T + 6
      · rw [if_pos g, if_pos (by omega)]
      · rw [if_neg g, if_neg (by omega)]
theorem tk_L {f : Nat → Nat} {b : Nat} (hb : b < 64) (k : Wd → Option Wd) : ∀ (d j n : Nat) (m : Wd), j + d = 3 → d < n → (∀ i, i < 3 → m.1 41 (b + 1 + i) = nI (f i)) → ∃ m', Mo_tell_L135 k n m (nI b) (nI j) = k m' ∧ (∀ q, q ≠ 43 → m'.1 q = m.1 q) ∧ (∀ q, m'.1 43 q = if j ≤ q ∧ q < 3 then nI (f q) else m.1 43 q) := by
  intro d
  induction d with
  | zero =>
    intro j n m hj hn h41
    obtain ⟨n, rfl⟩ : ∃ q, n = q + 1 := ⟨n - 1, by omega⟩
    rw [Mo_tell_L135, if_pos (show (3 : Int32) ≤ nI j from nI_le (a := 3) (by omega) (by omega))]
    exact ⟨m, rfl, fun _ _ => rfl, fun q => by rw [if_neg (by omega)]⟩
  | succ d ih =>
    intro j n m hj hn h41
    obtain ⟨n, rfl⟩ : ∃ q, n = q + 1 := ⟨n - 1, by omega⟩
    rw [Mo_tell_L135, if_neg (show ¬ (3 : Int32) ≤ nI j from nI_ge (b := 3) (by omega) (by decide)), nI_1, nI_add, if_pos (ib_nI (by omega) (by decide)), if_pos (ib_nI (by omega) (by decide)), nI_clamp (by omega), nI_clamp (by omega), h41 j (by omega), nI_1]
    obtain ⟨m', f1, f2, f3⟩ := ih (j + 1) n (sI m 43 j (nI (f j))) (by omega) (by omega) (fun i hi => by rw [sI_ne (by decide)]; exact h41 i hi)
    refine ⟨m', f1, fun q hq => by rw [f2 q hq, sI_ne hq], fun q => ?_⟩
    rw [f3 q]
    by_cases e : q = j
    · rw [if_neg (by omega), if_pos (by omega), e, sI_at]
    · rw [sI_nk e]
      by_cases g : j + 1 ≤ q ∧ q < 3
      · rw [if_pos g, if_pos (by omega)]
      · rw [if_neg g, if_neg (by omega)]
theorem mo_tell {m : Wd} {L : Ld} {n w : Nat} {f : Nat → Nat} (hn : n < 10) (hw : w < 6) (h : DM m L) (hk : okL L w f) (h0 : m.1 41 (7 * n) = nI w) (h41 : ∀ k, k < cnt w → m.1 41 (7 * n + 1 + k) = nI (f k)) : ∃ m', Mo_tell m (nI (7 * n)) = some m' ∧ DM m' (tellP L w f) ∧ FT m m' := by
  obtain ⟨S, T, s0, sh, tr, tk, sk⟩ := L
  obtain ⟨d0, d1, d2, d3, d4, d5, d6⟩ := h
  have hc := cnt_le w
  have a1 : m.1 41 (7 * n + 1) = nI (f 0) := h41 0 (by omega)
  unfold Mo_tell
  rw [nI_1, if_pos (ib_nI (by omega) (by decide)), if_pos (ib_nI (by omega) (by decide)), nI_clamp (by omega), nI_clamp (by omega), h0, a1]
  match w, hw, hk with
  | 0, _, hk =>
    rw [if_pos (show nI 0 = 0 from rfl)]
    refine ⟨_, rfl, ⟨rfl, rfl, rfl, d3, fun t k ht => by omega, d5, fun i hi => ?_⟩, ((((FT.s m (by omega)).tr (FT.s _ (by omega))).tr (FT.s _ (by omega))).tr (FT.s _ (by omega))).tr (FT.s _ (by omega))⟩
    match i, hi with
    | 0, _ => rfl
    | 1, _ => rfl
  | 1, _, hk =>
    rw [if_neg (show ¬ nI 1 = 0 by decide), if_pos (show nI 1 = 1 from rfl)]
    obtain ⟨m', f1, f2, f3⟩ := tt_L (f := f) hk.1 (b := 7 * n) (by omega) Mo_tell_B116 6 0 FU m rfl (by decide) d1 (fun i hi => h41 i hi)
    rw [show Mo_tell_L80 Mo_tell_B116 FU m (nI (7 * n)) 0 = _ from f1]
    unfold Mo_tell_B116
    rw [f2 37 (by decide), d1, nI_1]
    refine ⟨_, rfl, ⟨?_, sI_at, ?_, ?_, fun t k ht hk6 => ?_, fun k hk => ?_, fun i hi => ?_⟩, ?_⟩
    · rw [sI_nk (by decide), f2 37 (by decide)]; exact d0
    · rw [sI_nk (by decide), f2 37 (by decide)]; exact d2
    · rw [sI_nk (by decide), f2 37 (by decide)]; exact d3
    · rw [sI_ne (by decide), f3]
      dsimp only
      by_cases e : t = T
      · rw [if_pos (by omega), if_pos e, e, show 6 * T + k - 6 * T = k by omega]
      · rw [if_neg (by omega), if_neg e]; exact d4 t k (by omega) hk6
    · rw [sI_ne (by decide), f2 43 (by decide)]; exact d5 k hk
    · rw [sI_ne (by decide), f2 44 (by decide)]; exact d6 i hi
    · exact FT.tr ⟨fun q h1 h2 h3 h4 => f2 q h2, fun k _ _ _ _ => by rw [f2 37 (by decide)]⟩ (FT.s m' (by omega))
  | 2, _, hk =>
    rw [if_neg (show ¬ nI 2 = 0 by decide), if_neg (show ¬ nI 2 = 1 by decide), if_pos (show nI 2 = 2 from rfl)]
    exact ⟨_, rfl, ⟨d0, d1, rfl, d3, d4, d5, d6⟩, FT.s m (by omega)⟩
  | 3, _, hk =>
    rw [if_neg (show ¬ nI 3 = 0 by decide), if_neg (show ¬ nI 3 = 1 by decide), if_neg (show ¬ nI 3 = 2 by decide), if_pos (show nI 3 = 3 from rfl)]
    obtain ⟨m', f1, f2, f3⟩ := tk_L (f := f) (b := 7 * n) (by omega) Mo_tell_B162 3 0 FU m rfl (by decide) (fun i hi => h41 i hi)
    rw [show Mo_tell_L135 Mo_tell_B162 FU m (nI (7 * n)) 0 = _ from f1]
    refine ⟨_, rfl, ⟨?_, ?_, ?_, ?_, fun t k ht hk6 => ?_, fun k hk => ?_, fun i hi => ?_⟩, ⟨fun q h1 h2 h3 h4 => f2 q h3, fun k _ _ _ _ => by rw [f2 37 (by decide)]⟩⟩
    · rw [f2 37 (by decide)]; exact d0
    · rw [f2 37 (by decide)]; exact d1
    · rw [f2 37 (by decide)]; exact d2
    · rw [f2 37 (by decide)]; exact d3
    · rw [f2 42 (by decide)]; exact d4 t k ht hk6
    · rw [f3, if_pos ⟨by omega, hk⟩]
    · rw [f2 44 (by decide)]; exact d6 i hi
  | 4, _, hk =>
    rw [if_neg (show ¬ nI 4 = 0 by decide), if_neg (show ¬ nI 4 = 1 by decide), if_neg (show ¬ nI 4 = 2 by decide), if_neg (show ¬ nI 4 = 3 by decide), if_pos (show nI 4 = 4 from rfl)]
    exact ⟨_, rfl, ⟨d0, d1, d2, rfl, d4, d5, d6⟩, FT.s m (by omega)⟩
  | 5, _, hk =>
    have a2 : m.1 41 (7 * n + 2) = nI (f 1) := h41 1 (by decide)
    rw [if_neg (show ¬ nI 5 = 0 by decide), if_neg (show ¬ nI 5 = 1 by decide), if_neg (show ¬ nI 5 = 2 by decide), if_neg (show ¬ nI 5 = 3 by decide), if_neg (show ¬ nI 5 = 4 by decide), show nI (7 * n) + (2 : Int32) = nI (7 * n + 2) from nI_add _ 2, if_pos (ib_nI (by omega) (by decide)), if_pos (ib_nI hk.1 (by decide)), nI_clamp (n := f 0) (by have := hk.1; omega), nI_clamp (n := 7 * n + 2) (by omega), a2]
    refine ⟨_, rfl, ⟨d0, d1, d2, d3, d4, d5, fun i hi => ?_⟩, FT.s m (by omega)⟩
    dsimp only
    by_cases e : i = f 0
    · rw [if_pos e, e, sI_at]
    · rw [if_neg e, sI_nk e]; exact d6 i hi
end TellM
