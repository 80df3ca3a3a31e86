/-! FAULT: a field in both -/
def FX (x x' : Wd) : Prop := (∀ q, q ≠ 7 → q ≠ 12 → x'.1 q = x.1 q) ∧ ∀ k, k ≠ 4 → k ≠ 5 → k ≠ 6 → x'.1 7 k = x.1 7 k
theorem FX.rf (x : Wd) : FX x x := ⟨fun _ _ _ => rfl, fun _ _ _ _ => rfl⟩
theorem FX.tr {a b c : Wd} (h : FX a b) (g : FX b c) : FX a c := ⟨fun q h1 h2 => (g.1 q h1 h2).trans (h.1 q h1 h2), fun k a1 a2 a3 => (g.2 k a1 a2 a3).trans (h.2 k a1 a2 a3)⟩
def FM (m m' : Wd) : Prop := (∀ q, q ≠ 37 → q ≠ 41 → m'.1 q = m.1 q) ∧ ∀ k, k ≠ 13 → k ≠ 14 → k ≠ 15 → m'.1 37 k = m.1 37 k
theorem FM.rf (m : Wd) : FM m m := ⟨fun _ _ _ => rfl, fun _ _ _ _ => rfl⟩
theorem FM.tr {a b c : Wd} (h : FM a b) (g : FM b c) : FM a c := ⟨fun q h1 h2 => (g.1 q h1 h2).trans (h.1 q h1 h2), fun k a1 a2 a3 => (g.2 k a1 a2 a3).trans (h.2 k a1 a2 a3)⟩
def LSt (tn : Nat) (tx : Nat → Nat) (x m : Wd) (p n : Nat) : Prop := XT x tn tx ∧ MT m tn tx ∧ p ≤ tn ∧ x.1 7 6 = nI p ∧ RM m tn tx p ∧ m.1 37 5 = nI n ∧ n < 10
section Line
variable {tn : Nat} {tx : Nat → Nat}
theorem XT.f {x x' : Wd} (h : XT x tn tx) (g : FX x x') : XT x' tn tx := by
  unfold XT at h ⊢
  rw [g.1 1 (by decide) (by decide), g.1 2 (by decide) (by decide)]
  exact h
theorem MT.f {m m' : Wd} (h : MT m tn tx) (g : FM m m') : MT m' tn tx := by
  unfold MT at h ⊢
  rw [g.2 3 (by decide) (by decide) (by decide), g.1 40 (by decide) (by decide)]
  exact h
theorem fld {x m : Wd} {p n : Nat} (hs : LSt tn tx x m p n) {w i : Nat} (hi : i < 6) (hc : ¬ Re_fieldsOf x (nI w) ≤ nI i) (lo hi' ne : Int32) (hf : ∀ x1 v, (∀ q, q ≠ 7 → x1.1 q = x.1 q) → v ≤ 99 → (Re_fits x1 (nI w) (nI i) (nI v) = 0 ↔ ¬ (¬ nI v < lo ∧ ¬ hi' < nI v ∧ ¬ nI v = ne))) :
    (∃ x', (∀ k63 k78 N, Re_readLine_L32 k63 k78 (N + 1) x (nI w) (nI i) = k63 x') ∧ FX x x' ∧ x'.1 7 5 = m.1 37 14 ∧ Mo_reads m (nI i) lo hi' ne = some (0, m))
    ∨ (∃ x' m' p' v, (∀ k63 k78 N, Re_readLine_L32 k63 k78 (N + 1) x (nI w) (nI i) = Re_readLine_L32 k63 k78 N x' (nI w) (nI (i + 1))) ∧ FX x x' ∧ x'.1 12 i = nI v ∧ (∀ j, j ≠ i → x'.1 12 j = x.1 12 j) ∧ Mo_reads m (nI i) lo hi' ne = some (1, m') ∧ FM m m' ∧ m'.1 41 (7 * n + 1 + i) = nI v ∧ (∀ j, j ≠ 7 * n + 1 + i → m'.1 41 j = m.1 41 j) ∧ LSt tn tx x' m' p' n ∧ v ≤ 99 ∧ ¬ nI v < lo ∧ ¬ hi' < nI v ∧ ¬ nI v = ne) := by
  obtain ⟨hX, hM, hp, h6, hR, h5, hn⟩ := hs
  have h200 := hX.1
  have hA := tA_le tx hp
  have hE := tE_le tx hp
  have st := re_step hX hp h6
  generalize hx1 : sI (sI (sI x 7 5 (nI (tA tn tx p))) 7 4 (nI (tS tn tx p))) 7 6 (nI (tE tn tx p)) = x1 at st
  have f1 : ∀ q, q ≠ 7 → x1.1 q = x.1 q := fun q hq => by rw [← hx1, sI_ne hq, sI_ne hq, sI_ne hq]
  have f2 : ∀ k, k ≠ 4 → k ≠ 5 → k ≠ 6 → x1.1 7 k = x.1 7 k := fun k a b c => by rw [← hx1, sI_nk c, sI_nk a, sI_nk b]
  have g5 : x1.1 7 5 = nI (tA tn tx p) := by rw [← hx1, sI_nk (by decide), sI_nk (by decide), sI_at]
  have g4 : x1.1 7 4 = nI (tS tn tx p) := by rw [← hx1, sI_nk (by decide), sI_at]
  have g6 : x1.1 7 6 = nI (tE tn tx p) := by rw [← hx1, sI_at]
  have F1 : FX x x1 := ⟨fun q a _ => f1 q a, f2⟩
  have hX1 := hX.f F1
  have val := re_value hX1 hp g4 g5 g6
  rcases mo_reads hM hp hR h5 hn hi lo hi' ne with ⟨no, mr⟩ | ⟨ok, m', mr, m1, m2, m3, m4⟩
  · left
    refine ⟨x1, fun k63 k78 N => ?_, F1, by rw [g5, hR.2.1], mr⟩
    rw [Re_readLine_L32, if_neg hc, st, Option.bind_some, val, Option.bind_some]
    by_cases g : tS tn tx p = 2 ∧ tE tn tx p - tA tn tx p ≤ 2
    · have nl := num_lt hp g.1 g.2
      rw [if_pos g, if_neg (nI_pos (by omega)), if_pos ((hf x1 _ f1 nl).mpr fun q => no ⟨g.1, g.2, q⟩)]
    · rw [if_neg g, if_pos (by decide)]
  · right
    obtain ⟨o1, o2, o3⟩ := ok
    have nl := num_lt hp o1 o2
    refine ⟨sI x1 12 i (nI (num tx (tA tn tx p) (tE tn tx p))), m', tE tn tx p, num tx (tA tn tx p) (tE tn tx p), fun k63 k78 N => ?_, F1.tr ⟨fun q _ b => sI_ne b, fun k _ _ _ => by rw [sI_ne (by decide)]⟩, sI_at, fun j hj => by rw [sI_nk hj, f1 12 (by decide)], mr, ⟨m1, m2⟩, by rw [m3, if_pos rfl], fun j hj => by rw [m3, if_neg hj], ⟨?_, hM.f ⟨m1, m2⟩, hE.2.1, by rw [sI_ne (by decide)]; exact g6, m4, by rw [m2 5 (by decide) (by decide) (by decide)]; exact h5, hn⟩, nl, o3⟩
    · rw [Re_readLine_L32, if_neg hc, st, Option.bind_some, val, Option.bind_some, if_pos (show tS tn tx p = 2 ∧ tE tn tx p - tA tn tx p ≤ 2 from ⟨o1, o2⟩), if_neg (nI_pos (by omega)), if_neg (fun q => (hf x1 _ f1 nl).mp q o3), if_pos (ib_nI hi (by decide)), nI_clamp (by omega), nI_1]
    · exact hX.f (F1.tr ⟨fun q _ b => sI_ne b, fun k _ _ _ => by rw [sI_ne (by decide)]⟩)
end Line
