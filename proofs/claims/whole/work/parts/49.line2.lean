/-! FAULT: a line in both -/
section Line2
variable {tn : Nat} {tx : Nat → Nat}
def FY (x x' : Wd) : Prop := ∀ q, q < 7 ∨ 12 < q → x'.1 q = x.1 q
theorem FY.rf (x : Wd) : FY x x := fun _ _ => rfl
theorem FY.tr {a b c : Wd} (h : FY a b) (g : FY b c) : FY a c := fun q hq => (g q hq).trans (h q hq)
theorem FY.s (x : Wd) {c k : Nat} {v : Int32} (h : 7 ≤ c ∧ c ≤ 12) : FY x (sI x c k v) := fun q hq => sI_ne (by omega)
theorem FX.y {x x' : Wd} (h : FX x x') : FY x x' := fun q hq => h.1 q (by omega) (by omega)
theorem FD.y {x x' : Wd} (h : FD x x') : FY x x' := fun q hq => h q (by omega)
def FN (m m' : Wd) : Prop := (∀ q, q ≠ 37 → q ≠ 41 → m'.1 q = m.1 q) ∧ ∀ k, k ≠ 5 → k ≠ 13 → k ≠ 14 → k ≠ 15 → k ≠ 16 → k ≠ 17 → m'.1 37 k = m.1 37 k
theorem FN.rf (m : Wd) : FN m m := ⟨fun _ _ _ => rfl, fun _ _ _ _ _ _ _ => rfl⟩
theorem FN.tr {a b c : Wd} (h : FN a b) (g : FN b c) : FN a c := ⟨fun q h1 h2 => (g.1 q h1 h2).trans (h.1 q h1 h2), fun k a1 a2 a3 a4 a5 a6 => (g.2 k a1 a2 a3 a4 a5 a6).trans (h.2 k a1 a2 a3 a4 a5 a6)⟩
theorem FM.n {m m' : Wd} (h : FM m m') : FN m m' := ⟨h.1, fun k _ a b c _ _ => h.2 k a b c⟩
theorem MK.m {m m' : Wd} (h : MK m m') : FM m m' := ⟨fun q a _ => h.1 q a, h.2⟩
theorem FN.s (m : Wd) {c k : Nat} {v : Int32} (h : c = 41 ∨ c = 37 ∧ (k = 5 ∨ k = 13 ∨ k = 14 ∨ k = 15 ∨ k = 16 ∨ k = 17)) : FN m (sI m c k v) := ⟨fun q h1 h2 => sI_ne (by omega), fun j _ _ _ _ _ _ => by rw [sI_1, if_neg (by omega)]⟩
theorem XT.y {x x' : Wd} (h : XT x tn tx) (g : FY x x') : XT x' tn tx := by
  unfold XT at h ⊢
  rw [g 1 (by omega), g 2 (by omega)]
  exact h
theorem MT.n {m m' : Wd} (h : MT m tn tx) (g : FN m m') : MT m' tn tx := by
  unfold MT at h ⊢
  rw [g.2 3 (by decide) (by decide) (by decide) (by decide) (by decide) (by decide), g.1 40 (by decide) (by decide)]
  exact h
theorem okL_of {L : Ld} {w : Nat} {f : Nat → Nat} (hw : w < 6) (hT : w = 1 → L.2.1 < 12) (h : ∀ j, j < cnt w → cF L.1 f (f j) w j) : okL L w f := by
  obtain ⟨S, T, s0, sh, tr, tk, sk⟩ := L
  match w, hw with
  | 0, _ => exact h 0 (by decide)
  | 1, _ =>
    have a0 : f 0 < S := h 0 (by decide)
    have a1 : f 1 < S ∧ f 1 ≠ f 0 := h 1 (by decide)
    have a2 : 1 ≤ f 2 ∧ f 2 ≤ 4 := h 2 (by decide)
    have a3 : f 3 < f 2 := h 3 (by decide)
    have a4 : 1 ≤ f 4 ∧ f 4 ≤ 2 := h 4 (by decide)
    have a5 : f 5 < 3 := h 5 (by decide)
    exact ⟨hT rfl, a0, a1.1, a2.1, a2.2, a3, by omega, a5⟩
  | 2, _ => exact h 0 (by decide)
  | 3, _ => exact ⟨h 0 (by decide), h 1 (by decide), h 2 (by decide)⟩
  | 4, _ => exact h 0 (by decide)
  | 5, _ => exact ⟨h 0 (by decide), h 1 (by decide)⟩
/-- one number more: the reference's way to say it -/
theorem rd_one {A : Option (Int32 × Wd)} (h : (∃ m', A = some (0, m')) ∨ ∃ m', A = some (1, m')) : Option.bind A (fun q => if q.1 &&& (1 : Int32) = q.1 then some (q.1, q.2) else none) = Option.bind A (fun q => if q.1 = 0 then some ((0 : Int32), q.2) else some (1, q.2)) := by
  rcases h with ⟨m', rfl⟩ | ⟨m', rfl⟩
  · rw [Option.bind_some, Option.bind_some, if_pos (show (0 : Int32) &&& 1 = 0 by decide), if_pos rfl]
  · rw [Option.bind_some, Option.bind_some, if_pos (show (1 : Int32) &&& 1 = 1 by decide), if_neg one_ne]
theorem reads_b {m : Wd} (h : MT m tn tx) {p : Nat} (hp : p ≤ tn) (hR : RM m tn tx p) {n i : Nat} (h5 : m.1 37 5 = nI n) (hn : n < 10) (hi : i < 6) (lo hi' ne : Int32) : (∃ m', Mo_reads m (nI i) lo hi' ne = some (0, m')) ∨ ∃ m', Mo_reads m (nI i) lo hi' ne = some (1, m') := by
  rcases mo_reads h hp hR h5 hn hi lo hi' ne with ⟨-, e⟩ | ⟨-, m', e, -⟩
  · exact Or.inl ⟨_, e⟩
  · exact Or.inr ⟨_, e⟩
theorem mo_rest {m : Wd} (h : MT m tn tx) {p : Nat} (hp : p ≤ tn) (hR : RM m tn tx p) {n w : Nat} (h5 : m.1 37 5 = nI n) (hn : n < 10) (hw : w < 6) (hr : (∃ m', rdC m n w (cnt w) 0 m = some (0, m')) ∨ ∃ m', rdC m n w (cnt w) 0 m = some (1, m')) : Mo_readsRest m (nI w) = rdC m n w (cnt w) 0 m := by
  match w, hw with
  | 0, _ =>
    unfold Mo_readsRest
    rw [if_pos (show nI 0 = 0 from rfl), rd_one (A := Mo_reads m 0 2 7 (-1)) (reads_b h hp hR h5 hn (i := 0) (by decide) 2 7 (-1))]
    rfl
  | 1, _ =>
    unfold Mo_readsRest
    rw [if_neg (show ¬ nI 1 = 0 by decide), if_pos (show nI 1 = 1 from rfl)]
    have ht : Mo_readsTrain m = rdC m n 1 6 0 m := by
      have e0 : (7 : Int32) * m.1 37 5 + 1 = nI (7 * n + 1) := by rw [h5, show (7 : Int32) = nI 7 from rfl, pk_mul, nI_1]
      have e00 : (7 : Int32) * m.1 37 5 + 1 + 2 = nI (7 * n + 1 + 2) := by rw [e0]; exact nI_add _ 2
      have e1 : ib ((7 : Int32) * m.1 37 5 + 1) 70 = true := by rw [e0]; exact ib_nI (by omega) (by decide)
      have e2 : ib ((7 : Int32) * m.1 37 5 + 1 + 2) 70 = true := by rw [e00]; exact ib_nI (by omega) (by decide)
      have e3 : Int32.toNatClampNeg ((7 : Int32) * m.1 37 5 + 1) = 7 * n + 1 := by rw [e0]; exact nI_clamp (by omega)
      have e4 : Int32.toNatClampNeg ((7 : Int32) * m.1 37 5 + 1 + 2) = 7 * n + 1 + 2 := by rw [e00]; exact nI_clamp (by omega)
      unfold Mo_readsTrain
      simp only [if_pos e1, if_pos e2, e3, e4]
      rfl
    rw [ht]
    rcases hr with ⟨m', e⟩ | ⟨m', e⟩
    · rw [show rdC m n 1 6 0 m = _ from e, show rdC m n 1 (cnt 1) 0 m = _ from e, Option.bind_some, if_pos (show (0 : Int32) &&& 1 = 0 by decide)]
    · rw [show rdC m n 1 6 0 m = _ from e, show rdC m n 1 (cnt 1) 0 m = _ from e, Option.bind_some, if_pos (show (1 : Int32) &&& 1 = 1 by decide)]
  | 2, _ =>
    unfold Mo_readsRest
    rw [if_neg (show ¬ nI 2 = 0 by decide), if_neg (show ¬ nI 2 = 1 by decide), if_pos (show nI 2 = 2 from rfl), rd_one (A := Mo_reads m 0 0 (m.1 37 16 - 1) (-1)) (reads_b h hp hR h5 hn (i := 0) (by decide) 0 (m.1 37 16 - 1) (-1))]
    rfl
  | 3, _ =>
    unfold Mo_readsRest
    rw [if_neg (show ¬ nI 3 = 0 by decide), if_neg (show ¬ nI 3 = 1 by decide), if_neg (show ¬ nI 3 = 2 by decide), if_pos (show nI 3 = 3 from rfl)]
    rfl
  | 4, _ =>
    unfold Mo_readsRest
    rw [if_neg (show ¬ nI 4 = 0 by decide), if_neg (show ¬ nI 4 = 1 by decide), if_neg (show ¬ nI 4 = 2 by decide), if_neg (show ¬ nI 4 = 3 by decide), if_pos (show nI 4 = 4 from rfl), rd_one (A := Mo_reads m 0 1 9 (-1)) (reads_b h hp hR h5 hn (i := 0) (by decide) 1 9 (-1))]
    rfl
  | 5, _ =>
    unfold Mo_readsRest
    rw [if_neg (show ¬ nI 5 = 0 by decide), if_neg (show ¬ nI 5 = 1 by decide), if_neg (show ¬ nI 5 = 2 by decide), if_neg (show ¬ nI 5 = 3 by decide), if_neg (show ¬ nI 5 = 4 by decide)]
    rfl
/-- the reference, when a line's fields are read -/
theorem mo_b80 {m : Wd} {n w : Nat} {L : Ld} {f : Nat → Nat} (hw : w < 6) (hn : n < 10) (h5 : m.1 37 5 = nI n) (h16 : m.1 37 16 = nI L.1) (h17 : m.1 37 17 = nI L.2.1) (h41 : m.1 41 (7 * n + 1) = nI (f 0)) :
    ∃ m', (if nI w = (0 : Int32) then (if ib (((7 : Int32) * (m.1 37 5)) + (1 : Int32)) 70 = true then (Mo_readsLine_B80 (sI (sI m 37 16 (m.1 41 (Int32.toNatClampNeg (((7 : Int32) * (m.1 37 5)) + (1 : Int32))))) 37 17 (0 : Int32)) (nI w)) else none) else (Mo_readsLine_B80 m (nI w))) = some (1, m') ∧ FN m m' ∧ m'.1 41 = m.1 41 ∧ (∀ k, k = 13 ∨ k = 14 ∨ k = 15 → m'.1 37 k = m.1 37 k) ∧ m'.1 37 5 = nI (n + 1) ∧ m'.1 37 16 = nI (tellP L w f).1 ∧ m'.1 37 17 = nI (tellP L w f).2.1 := by
  obtain ⟨S, T, s0, sh, tr, tk, sk⟩ := L
  have key : ∀ (y : Wd) (a : Int32), y.1 37 5 = nI n → ∃ m', Mo_readsLine_B95 y a (y.1 37 17) = some (1, m') ∧ FN y m' ∧ m'.1 41 = y.1 41 ∧ (∀ k, k = 13 ∨ k = 14 ∨ k = 15 → m'.1 37 k = y.1 37 k) ∧ m'.1 37 5 = nI (n + 1) ∧ m'.1 37 16 = y.1 37 16 ∧ m'.1 37 17 = y.1 37 17 + a := by
    intro y a hy
    unfold Mo_readsLine_B95
    refine ⟨_, rfl, (FN.s y (by omega)).tr (FN.s _ (by omega)), by rw [sI_ne (by decide), sI_ne (by decide)], fun k hk => by rw [sI_nk (by omega), sI_nk (by omega)], ?_, by rw [sI_nk (by decide), sI_nk (by decide)], by rw [sI_nk (by decide), sI_at]⟩
    rw [sI_at, sI_nk (by decide), hy, nI_1]
  by_cases e : w = 0
  · subst e
    have e0 : (7 : Int32) * m.1 37 5 + 1 = nI (7 * n + 1) := by rw [h5, show (7 : Int32) = nI 7 from rfl, pk_mul, nI_1]
    rw [if_pos (show nI 0 = 0 from rfl), e0, if_pos (ib_nI (by omega) (by decide)), nI_clamp (by omega), h41]
    unfold Mo_readsLine_B80
    rw [if_neg (show ¬ nI 0 = 1 by decide)]
    obtain ⟨m', a1, a2, a3, a4, a5, a6, a7⟩ := key (sI (sI m 37 16 (nI (f 0))) 37 17 0) 0 (by rw [sI_nk (by decide), sI_nk (by decide)]; exact h5)
    refine ⟨m', a1, ((FN.s m (by omega)).tr (FN.s _ (by omega))).tr a2, by rw [a3, sI_ne (by decide), sI_ne (by decide)], fun k hk => by rw [a4 k hk, sI_nk (by omega), sI_nk (by omega)], a5, by rw [a6, sI_nk (by decide), sI_at]; rfl, by rw [a7, sI_at]; rfl⟩
  · rw [if_neg (show ¬ nI w = 0 from nI_ne0 (by omega) (by omega))]
    unfold Mo_readsLine_B80
    by_cases e1 : w = 1
    · subst e1
      rw [if_pos (show nI 1 = 1 from rfl)]
      obtain ⟨m', a1, a2, a3, a4, a5, a6, a7⟩ := key m 1 h5
      exact ⟨m', a1, a2, a3, a4, a5, by rw [a6]; exact h16, by rw [a7, h17, nI_1]; rfl⟩
    · rw [if_neg (show ¬ nI w = 1 from fun q => e1 ((nI_eq (a := w) (b := 1) (by omega) (by decide)).mp q))]
      obtain ⟨m', a1, a2, a3, a4, a5, a6, a7⟩ := key m 0 h5
      have q0 : (tellP (S, T, s0, sh, tr, tk, sk) w f).1 = S ∧ (tellP (S, T, s0, sh, tr, tk, sk) w f).2.1 = T := by
        match w, hw, e, e1 with
        | 2, _, _, _ => exact ⟨rfl, rfl⟩
        | 3, _, _, _ => exact ⟨rfl, rfl⟩
        | 4, _, _, _ => exact ⟨rfl, rfl⟩
        | 5, _, _, _ => exact ⟨rfl, rfl⟩
      refine ⟨m', a1, a2, a3, a4, a5, by rw [a6, q0.1]; exact h16, ?_⟩
      rw [a7, h17, q0.2]
      exact nI_add _ 0
theorem rline {x m : Wd} {p n : Nat} {L : Ld} (hs : LSt tn tx x m p n) (hD : DX x L) (hO : OKL L) (h16 : m.1 37 16 = nI L.1) (h17 : m.1 37 17 = nI L.2.1) :
    (∃ x' m' a, Re_readLine x = some (0, x') ∧ Mo_readsLine m = some (0, m') ∧ FY x x' ∧ FN m m' ∧ x'.1 7 5 = nI a ∧ m'.1 37 14 = nI a ∧ a ≤ 200)
    ∨ (∃ x' m' p' L', Re_readLine x = some (1, x') ∧ Mo_readsLine m = some (1, m') ∧ FY x x' ∧ FN m m' ∧ p' ≤ tn ∧ x'.1 7 6 = nI p' ∧ RM m' tn tx p' ∧ m'.1 37 5 = nI (n + 1) ∧ DX x' L' ∧ OKL L' ∧ m'.1 37 16 = nI L'.1 ∧ m'.1 37 17 = nI L'.2.1 ∧ TS (m'.1 41) n L L' ∧ ∀ j, j < 7 * n → m'.1 41 j = m.1 41 j) := by
  obtain ⟨hX, hM, hp, h6, hR, h5, hn⟩ := hs
  have h200 := hX.1
  have hA := tA_le tx hp
  have hE := tE_le tx hp
  have st := re_step hX hp h6
  generalize hx1 : sI (sI (sI x 7 5 (nI (tA tn tx p))) 7 4 (nI (tS tn tx p))) 7 6 (nI (tE tn tx p)) = x1 at st
  have f1 : ∀ q, q ≠ 7 → x1.1 q = x.1 q := fun q hq => by rw [← hx1, sI_ne hq, sI_ne hq, sI_ne hq]
  have f2 : ∀ k, k ≠ 4 → k ≠ 5 → k ≠ 6 → x1.1 7 k = x.1 7 k := fun k a b c => by rw [← hx1, sI_nk c, sI_nk a, sI_nk b]
  have g5 : x1.1 7 5 = nI (tA tn tx p) := by rw [← hx1, sI_nk (by decide), sI_nk (by decide), sI_at]
  have g6 : x1.1 7 6 = nI (tE tn tx p) := by rw [← hx1, sI_at]
  have F1 : FX x x1 := ⟨fun q a _ => f1 q a, f2⟩
  have hX1 := hX.f F1
  obtain ⟨hOT, -⟩ := id hO
  have hS2 : 2 ≤ L.1 := hOT.1
  have hS7 : L.1 ≤ 7 := hOT.2.1
  have hT12 : L.2.1 ≤ 12 := hOT.2.2.1
  have hD0 : x.1 8 0 = nI L.1 := hD.1
  have hD1 : x.1 8 1 = nI L.2.1 := hD.2.1
  have hDX1 : DX x1 L := by
    obtain ⟨S, T, s0, sh, tr, tk, sk⟩ := L
    unfold DX at hD ⊢
    rw [f1 8 (by decide), f1 9 (by decide), f1 10 (by decide), f1 11 (by decide)]
    exact hD
  unfold Re_readLine Mo_readsLine
  rw [st, Option.bind_some, re_word hX1 hE.1 hE.2.1 g5 g6, Option.bind_some, mo_word hM hE.1 hE.2.1 hR.2.1 hR.2.2, Option.bind_some]
  have hwd := wdF_le tx (tA tn tx p) (tE tn tx p)
  generalize wdF tx (tA tn tx p) (tE tn tx p) = wd at hwd
  have stop : ∃ x' m' a, some ((0 : Int32), x1) = some (0, x') ∧ some ((0 : Int32), m) = some (0, m') ∧ FY x x' ∧ FN m m' ∧ x'.1 7 5 = nI a ∧ m'.1 37 14 = nI a ∧ a ≤ 200 := ⟨x1, m, _, rfl, rfl, F1.y, FN.rf m, g5, hR.2.1, by omega⟩
  by_cases e : wd = 0
  · left
    rw [if_pos (by rw [e]; rfl), if_pos e, if_pos rfl]
    exact stop
  obtain ⟨w, rfl⟩ : ∃ w, wd = w + 1 := ⟨wd - 1, by omega⟩
  rw [if_neg (show ¬ nI (w + 1) = 0 from nI_ne0 (by omega) (by omega)), if_neg e, Nat.add_sub_cancel, if_neg (show ¬ nI w = -1 from nI_m1 (by omega))]
  by_cases full : w = 1 ∧ L.2.1 = 12
  · left
    have hfl : ¬ La_isFull x1 = 0 := by
      unfold La_isFull
      rw [f1 8 (by decide), hD1, full.2, if_neg (by decide)]
      exact one_ne
    rw [full.1, if_pos (show nI (1 + 1) = 2 from rfl), if_neg hfl, if_pos (show nI 1 = 1 from rfl), h17, full.2, if_pos (show nI 12 = 12 from rfl)]
    exact stop
  have ca : ∀ A B : Option (Int32 × Wd), (if nI (w + 1) = (2 : Int32) then (if La_isFull x1 = 0 then A else B) else A) = A := by
    intro A B
    by_cases e1 : w = 1
    · have : La_isFull x1 = 0 := by
        unfold La_isFull
        rw [f1 8 (by decide), hD1, if_pos (show nI L.2.1 < 12 from nI_lt (b := 12) (by omega) (by decide))]
      rw [if_pos this, ite_self]
    · rw [if_neg (show ¬ nI (w + 1) = 2 from fun q => e1 (by have := (nI_eq (a := w + 1) (b := 2) (by omega) (by decide)).mp q; omega))]
  have cb : ∀ A B : Option (Int32 × Wd), (if nI w = (1 : Int32) then (if m.1 37 17 = 12 then B else A) else A) = A := by
    intro A B
    by_cases e1 : w = 1
    · have : ¬ m.1 37 17 = 12 := by
        rw [h17]
        exact fun q => full ⟨e1, (nI_eq (a := L.2.1) (b := 12) (by omega) (by decide)).mp q⟩
      rw [if_neg this, ite_self]
    · rw [if_neg (show ¬ nI w = 1 from fun q => e1 ((nI_eq (a := w) (b := 1) (by omega) (by decide)).mp q))]
  rw [ca, cb]
  unfold Mo_readsLine_B26
  obtain ⟨m1, t1, t2, t3, t4, t5⟩ := mo_token hM hE.2.1 hR.1
  have k5 : m1.1 37 5 = nI n := by rw [t2.2 5 (by decide) (by decide) (by decide)]; exact h5
  rw [t1, Option.bind_some, k5, show (7 : Int32) * nI n = nI (7 * n) by rw [show (7 : Int32) = nI 7 from rfl, pk_mul], if_pos (ib_nI (by omega) (by decide)), nI_clamp (by omega)]
  have N2 : FN m (sI m1 41 (7 * n) (nI w)) := t2.m.n.tr (FN.s m1 (by omega))
  have c37 : (sI m1 41 (7 * n) (nI w)).1 37 = m1.1 37 := sI_ne (by decide)
  have c41 : (sI m1 41 (7 * n) (nI w)).1 41 (7 * n) = nI w := sI_at
  have c41' : ∀ j, j < 7 * n → (sI m1 41 (7 * n) (nI w)).1 41 j = m.1 41 j := fun j hj => by rw [sI_nk (by omega), t2.1 41 (by decide)]
  generalize sI m1 41 (7 * n) (nI w) = m2 at N2 c37 c41 c41' ⊢
  have hM2 := hM.n N2
  have hR2 : RM m2 tn tx (tE tn tx p) := by
    unfold RM
    rw [c37]
    exact ⟨t3, t4, t5⟩
  have k5' : m2.1 37 5 = nI n := by rw [c37]; exact k5
  have k16 : m2.1 37 16 = nI L.1 := by rw [c37, t2.2 16 (by decide) (by decide) (by decide)]; exact h16
  have k17 : m2.1 37 17 = nI L.2.1 := by rw [c37, t2.2 17 (by decide) (by decide) (by decide)]; exact h17
  have hw6 : w < 6 := by omega
  have hc6 := cnt_le w
  have hs2 : LSt tn tx x1 m2 (tE tn tx p) n := ⟨hX1, hM2, hE.2.1, g6, hR2, k5', hn⟩
  have key := flds (m0 := m2) hS2 hS7 hw6 k16 (cnt w) 0 x1 m2 (tE tn tx p) (fun _ => 0) (by omega) hs2 (by rw [f1 8 (by decide)]; exact hD0) k16 (fun j hj => by omega)
  have hFU : ∃ N, FU = N + cnt w + 1 := ⟨1999 - cnt w, by unfold FU; omega⟩
  obtain ⟨NN, hNN⟩ := hFU
  rcases key with ⟨x3, m3, a, c1, c2, c3, c4, c5, c6, c7⟩ | ⟨x3, m3, p3, f, c1, c2, c3, c4, c5, c6, c7⟩
  · left
    rw [mo_rest hM2 hE.2.1 hR2 k5' hn hw6 (Or.inl ⟨_, c4⟩), c4, Option.bind_some, if_pos rfl, hNN, show Re_readLine_L32 Re_readLine_B63 Re_readLine_B78 (NN + cnt w + 1) x1 (nI (w + 1)) 0 = _ from c1 _ _ NN]
    exact ⟨x3, m3, a, rfl, rfl, F1.y.tr c2.y, N2.tr c5.n, by rw [c3]; exact c6, c6, c7⟩
  · right
    obtain ⟨sX, sM, sp, s6, sR, s5, -⟩ := c6
    rw [mo_rest hM2 hE.2.1 hR2 k5' hn hw6 (Or.inr ⟨_, c3⟩), c3, Option.bind_some, if_neg one_ne, hNN, show Re_readLine_L32 Re_readLine_B63 Re_readLine_B78 (NN + cnt w + 1) x1 (nI (w + 1)) 0 = _ from c1 _ _ NN]
    have hok : okL L w f := okL_of hw6 (fun e1 => by have : ¬ L.2.1 = 12 := fun q => full ⟨e1, q⟩; omega) (fun j hj => (c7 j hj).2.2.2)
    have hDX3 : DX x3 L := by
      obtain ⟨S, T, s0, sh, tr, tk, sk⟩ := L
      unfold DX at hDX1 ⊢
      rw [c2.1 8 (by decide) (by decide), c2.1 9 (by decide) (by decide), c2.1 10 (by decide) (by decide), c2.1 11 (by decide) (by decide)]
      exact hDX1
    obtain ⟨x4, d1, d2, d3⟩ := re_draw hw6 hDX3 hO hok (fun k hk => (c7 k hk).1)
    obtain ⟨m4, e1, e2, e3, e4, e5, e6, e7⟩ := mo_b80 (m := m3) (L := L) (f := f) hw6 hn s5 (by rw [c4.2 16 (by decide) (by decide) (by decide)]; exact k16) (by rw [c4.2 17 (by decide) (by decide) (by decide)]; exact k17) ((c7 0 (by omega)).2.1)
    refine ⟨x4, m4, p3, tellP L w f, ?_, e1, F1.y.tr (c2.y.tr d3.y), N2.tr (c4.n.tr e2), sp, by rw [d3 7 (by omega)]; exact s6, ⟨by rw [e4 13 (by omega)]; exact sR.1, by rw [e4 14 (by omega)]; exact sR.2.1, by rw [e4 15 (by omega)]; exact sR.2.2⟩, e5, d2, tell_ok hw6 hO hok, e6, e7, ⟨w, f, hw6, ?_, fun k hk => ?_, hok, rfl⟩, fun j hj => ?_⟩
    · unfold Re_readLine_B78
      rw [d1, Option.bind_some]
    · rw [e3, c5 (7 * n) (by omega)]; exact c41
    · rw [e3]; exact (c7 k hk).2.1
    · rw [e3, c5 j (by omega)]; exact c41' j hj
end Line2
