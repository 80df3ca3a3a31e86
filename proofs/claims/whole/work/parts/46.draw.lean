/-! FAULT and LAND: the class draws a line, the reference tells it -/
section Draw
def FD (x x' : Wd) : Prop := ∀ q, q < 8 ∨ 11 < q → x'.1 q = x.1 q
theorem FD.rf (x : Wd) : FD x x := fun _ _ => rfl
theorem FD.tr {a b c : Wd} (h : FD a b) (g : FD b c) : FD a c := fun q hq => (g q hq).trans (h q hq)
theorem FD.s (x : Wd) {c k : Nat} {v : Int32} (h : 8 ≤ c ∧ c ≤ 11) : FD x (sI x c k v) := fun q hq => sI_ne (by omega)
theorem dt_L {f : Nat → Nat} {T : Nat} (hT : T < 12) (k : Wd → Option Wd) : ∀ (d j n : Nat) (x : Wd), j + d = 6 → d < n → x.1 8 1 = nI T → (∀ i, i < 6 → x.1 12 i = nI (f i)) → ∃ x', Re_drawTrain_L2 k n x (nI j) = k x' ∧ (∀ q, q ≠ 9 → x'.1 q = x.1 q) ∧ (∀ q, x'.1 9 q = if 6 * T + j ≤ q ∧ q < 6 * T + 6 then nI (f (q - 6 * T)) else x.1 9 q) := by
  intro d
  induction d with
  | zero =>
    intro j n x hj hn h1 h12
    obtain ⟨n, rfl⟩ : ∃ q, n = q + 1 := ⟨n - 1, by omega⟩
    rw [Re_drawTrain_L2, if_pos (show (6 : Int32) ≤ nI j from nI_le (a := 6) (by omega) (by omega))]
    exact ⟨x, rfl, fun _ _ => rfl, fun q => by rw [if_neg (by omega)]⟩
  | succ d ih =>
    intro j n x hj hn h1 h12
    obtain ⟨n, rfl⟩ : ∃ q, n = q + 1 := ⟨n - 1, by omega⟩
    rw [Re_drawTrain_L2, if_neg (show ¬ (6 : Int32) ≤ nI j from nI_ge (b := 6) (by omega) (by decide)), if_pos (ib_nI (by omega) (by decide)), nI_clamp (by omega), h12 j (by omega), h1]
    unfold La_setPart
    rw [show Nt_within x (nI T) 0 11 = 1 from within_in (n := 11) (by omega) (by decide), if_neg one_ne, show Nt_within x (nI j) 0 5 = 1 from within_in (n := 5) (by omega) (by decide), if_neg one_ne, x6, if_pos (ib_nI (by omega) (by decide)), nI_clamp (by omega), Option.bind_some, nI_1]
    obtain ⟨x', f1, f2, f3⟩ := ih (j + 1) n (sI x 9 (6 * T + j) (nI (f j))) (by omega) (by omega) (by rw [sI_ne (by decide)]; exact h1) (fun i hi => by rw [sI_ne (by decide)]; exact h12 i hi)
    refine ⟨x', f1, fun q hq => by rw [f2 q hq, sI_ne hq], fun q => ?_⟩
    rw [f3 q]
    by_cases e : q = 6 * T + j
    · rw [if_neg (by omega), if_pos (by omega), e, sI_at, show 6 * T + j - 6 * T = j by omega]
    · rw [sI_nk e]
      by_cases g : 6 * T + (j + 1) ≤ q ∧ q < 6 * T + 6
      · rw [if_pos g, if_pos (by omega)]
      · rw [if_neg g, if_neg (by omega)]
theorem re_draw {x : Wd} {L : Ld} {w : Nat} {f : Nat → Nat} (hw : w < 6) (h : DX x L) (ho : OKL L) (hk : okL L w f) (h12 : ∀ k, k < cnt w → x.1 12 k = nI (f k)) : ∃ x', Re_draw x (nI (w + 1)) = some x' ∧ DX x' (tellP L w f) ∧ FD x x' := by
  obtain ⟨S, T, s0, sh, tr, tk, sk⟩ := L
  obtain ⟨d0, d1, d2, d3, d4, d5, d6⟩ := h
  obtain ⟨⟨-, -, t3, -⟩, -⟩ := ho
  match w, hw, hk with
  | 0, _, hk =>
    show ∃ x', (Option.bind (La_clear x (x.1 12 0)) (fun q2 => some q2)) = some x' ∧ _
    unfold La_clear Jd_fillI_11
    rw [h12 0 (by decide)]
    show ∃ x', (Option.bind (Option.bind (Jd_fillI_11_L5 Jd_fillI_11_B20 (1997 + 1 + 1 + 1) (sI (sI (sI x 8 0 (nI (f 0))) 8 1 0) 8 2 0) (-1) 0 2) (fun q1 => some q1)) (fun q2 => some q2)) = some x' ∧ _
    rw [Jd_fillI_11_L5, if_neg (by decide), if_pos (by decide), Jd_fillI_11_L5, if_neg (by decide), if_pos (by decide), Jd_fillI_11_L5, if_pos (by decide)]
    refine ⟨_, rfl, ⟨rfl, rfl, rfl, d3, fun t k ht => by omega, d5, fun i hi => ?_⟩, ?_⟩
    · match i, hi with
      | 0, _ => rfl
      | 1, _ => rfl
    · exact ((((FD.s x (by omega)).tr (FD.s _ (by omega))).tr (FD.s _ (by omega))).tr (FD.s _ (by omega))).tr (FD.s _ (by omega))
  | 1, _, hk =>
    show ∃ x', (Option.bind (Re_drawTrain x) (fun q4 => some q4)) = some x' ∧ _
    unfold Re_drawTrain
    obtain ⟨x', f1, f2, f3⟩ := dt_L (f := f) hk.1 Re_drawTrain_B35 6 0 FU x rfl (by decide) d1 (fun i hi => h12 i hi)
    rw [show Re_drawTrain_L2 Re_drawTrain_B35 FU x 0 = _ from f1]
    unfold Re_drawTrain_B35
    rw [f2 8 (by decide), d1, nI_1]
    refine ⟨_, rfl, ⟨?_, sI_at, ?_, ?_, fun t k ht hk6 => ?_, fun k hk => ?_, fun i hi => ?_⟩, ?_⟩
    · rw [sI_nk (by decide), f2 8 (by decide)]; exact d0
    · rw [sI_nk (by decide), f2 8 (by decide)]; exact d2
    · rw [sI_nk (by decide), f2 8 (by decide)]; exact d3
    · rw [sI_ne (by decide), f3]
      dsimp only
      by_cases e : t = T
      · rw [if_pos (by omega), if_pos e, e, show 6 * T + k - 6 * T = k by omega]
      · rw [if_neg (by omega), if_neg e]; exact d4 t k (by omega) hk6
    · rw [sI_ne (by decide), f2 10 (by decide)]; exact d5 k hk
    · rw [sI_ne (by decide), f2 11 (by decide)]; exact d6 i hi
    · intro q hq
      rw [sI_ne (by omega), f2 q (by omega)]
  | 2, _, hk =>
    show ∃ x', some (sI x 8 2 (x.1 12 0)) = some x' ∧ _
    refine ⟨_, rfl, ⟨d0, d1, ?_, d3, d4, d5, d6⟩, FD.s x (by omega)⟩
    rw [sI_at]; exact h12 0 (by decide)
  | 3, _, hk =>
    show ∃ x', Re_draw_L77 Re_draw_B102 (1996 + 1 + 1 + 1 + 1) x 0 = some x' ∧ _
    have s1 : ∀ (y : Wd) (v : Int32), La_setTickets y 0 v = some (sI y 10 0 v) := fun y v => rfl
    have s2 : ∀ (y : Wd) (v : Int32), La_setTickets y (0 + 1) v = some (sI y 10 1 v) := fun y v => rfl
    have s3 : ∀ (y : Wd) (v : Int32), La_setTickets y (0 + 1 + 1) v = some (sI y 10 2 v) := fun y v => rfl
    rw [Re_draw_L77, if_neg (by decide), if_pos (by decide), s1, Option.bind_some, Re_draw_L77, if_neg (by decide), if_pos (by decide), s2, Option.bind_some, Re_draw_L77, if_neg (by decide), if_pos (by decide), s3, Option.bind_some, Re_draw_L77, if_pos (by decide)]
    refine ⟨_, rfl, ⟨d0, d1, d2, d3, d4, fun k hk => ?_, d6⟩, ((FD.s x (by omega)).tr (FD.s _ (by omega))).tr (FD.s _ (by omega))⟩
    match k, hk with
    | 0, _ => exact h12 0 (by decide)
    | 1, _ => exact h12 1 (by decide)
    | 2, _ => exact h12 2 (by decide)
  | 4, _, hk =>
    show ∃ x', some (sI x 8 3 (x.1 12 0)) = some x' ∧ _
    refine ⟨_, rfl, ⟨d0, d1, d2, ?_, d4, d5, d6⟩, FD.s x (by omega)⟩
    rw [sI_at]; exact h12 0 (by decide)
  | 5, _, hk =>
    show ∃ x', (Option.bind (La_setSeeker x (x.1 12 0) (x.1 12 1)) (fun q11 => some q11)) = some x' ∧ _
    unfold La_setSeeker Nt_isSeeker
    rw [h12 0 (by decide), h12 1 (by decide), show Nt_within x (nI (f 0)) 0 1 = 1 from within_in (n := 1) (by have := hk.1; omega) (by decide), if_neg one_ne, if_pos (ib_nI hk.1 (by decide)), nI_clamp (by have := hk.1; omega), Option.bind_some]
    refine ⟨_, rfl, ⟨d0, d1, d2, d3, d4, d5, fun i hi => ?_⟩, FD.s x (by omega)⟩
    dsimp only
    by_cases e : i = f 0
    · rw [if_pos e, e, sI_at]
    · rw [if_neg e, sI_nk e]; exact d6 i hi
end Draw
