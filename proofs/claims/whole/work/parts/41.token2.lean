/-! FAULT: the reference's tokens -/
def MK (m m' : Wd) : Prop := (∀ q, q ≠ 37 → m'.1 q = m.1 q) ∧ ∀ k, k ≠ 13 → k ≠ 14 → k ≠ 15 → m'.1 37 k = m.1 37 k
theorem MK.rf (m : Wd) : MK m m := ⟨fun _ _ => rfl, fun _ _ _ _ => rfl⟩
theorem MK.tr {a b c : Wd} (h : MK a b) (g : MK b c) : MK a c := ⟨fun q hq => (g.1 q hq).trans (h.1 q hq), fun k a1 a2 a3 => (g.2 k a1 a2 a3).trans (h.2 k a1 a2 a3)⟩
theorem MK.s (m : Wd) {k : Nat} (v : Int32) (h : k = 13 ∨ k = 14 ∨ k = 15) : MK m (sI m 37 k v) := ⟨fun q hq => sI_ne hq, fun j a1 a2 a3 => sI_nk (by omega)⟩
section Token2
variable {tn : Nat} {tx : Nat → Nat}
theorem MT.k {m m' : Wd} (h : MT m tn tx) (g : MK m m') : MT m' tn tx := by
  unfold MT at h ⊢
  rw [g.2 3 (by decide) (by decide) (by decide), g.1 40 (by decide)]
  exact h
theorem mo_sort (m : Wd) {b : Nat} (hb : b < 256) : Mo_sort m (nI b) = nI (if srt b = 3 then 0 else srt b) := by
  unfold Mo_sort Mo_sort_B16 srt
  by_cases g1 : 97 ≤ b ∧ b ≤ 122
  · rw [if_neg (show ¬ nI b < 97 from nI_nlt (b := 97) (by omega) (by omega)), if_neg (show ¬ (122 : Int32) < nI b from nI_nlt (a := 122) (by omega) (by decide)), if_pos g1]; rfl
  · rw [if_neg g1]
    have inner : (if nI b < (48 : Int32) then (0 : Int32) else if (57 : Int32) < nI b then 0 else 2) = nI (if (if 48 ≤ b ∧ b ≤ 57 then 2 else 3) = 3 then 0 else if 48 ≤ b ∧ b ≤ 57 then 2 else 3) := by
      by_cases g2 : 48 ≤ b ∧ b ≤ 57
      · rw [if_neg (show ¬ nI b < 48 from nI_nlt (b := 48) (by omega) (by omega)), if_neg (show ¬ (57 : Int32) < nI b from nI_nlt (a := 57) (by omega) (by decide)), if_pos g2]; rfl
      · rw [if_neg g2]
        by_cases g3 : b < 48
        · rw [if_pos (show nI b < 48 from nI_lt (b := 48) g3 (by decide))]; rfl
        · rw [if_neg (show ¬ nI b < 48 from nI_nlt (b := 48) (by omega) (by omega)), if_pos (show (57 : Int32) < nI b from nI_lt (a := 57) (by omega) (by omega))]; rfl
    by_cases g4 : b < 97
    · rw [if_pos (show nI b < 97 from nI_lt (b := 97) g4 (by decide))]; exact inner
    · rw [if_neg (show ¬ nI b < 97 from nI_nlt (b := 97) (by omega) (by omega)), if_pos (show (122 : Int32) < nI b from nI_lt (a := 122) (by omega) (by omega))]; exact inner
theorem mt_sp_L (k : Wd → Option Wd) : ∀ (d p n : Nat) (m : Wd), MT m tn tx → m.1 37 13 = nI p → p + d = tn → d < n → ∃ m', Mo_token_L0 k n m = k m' ∧ MK m m' ∧ m'.1 37 13 = nI (sk1 tx d p) := by
  intro d
  induction d with
  | zero =>
    intro p n m h h13 hp hn
    have h200 := h.1
    obtain ⟨n, rfl⟩ : ∃ q, n = q + 1 := ⟨n - 1, by omega⟩
    rw [Mo_token_L0, h.2.1, h13, if_pos (nI_le (by omega) (by omega))]
    exact ⟨m, rfl, MK.rf m, h13⟩
  | succ d ih =>
    intro p n m h h13 hp hn
    have h200 := h.1
    obtain ⟨n, rfl⟩ : ∃ q, n = q + 1 := ⟨n - 1, by omega⟩
    obtain ⟨hb, h40⟩ := h.2.2 p (by omega)
    rw [Mo_token_L0, h.2.1, h13, if_neg (nI_ge (by omega) (by omega)), if_pos (ib_nI (by omega) (by decide)), nI_clamp (by omega), h40, nI_1, sk1]
    by_cases e : tx p = 32
    · rw [if_pos (show nI (tx p) = 32 by rw [e]; rfl), if_pos e]
      have hk := MK.s m (nI (p + 1)) (k := 13) (by omega)
      obtain ⟨m', f1, f2, f3⟩ := ih (p + 1) n (sI m 37 13 (nI (p + 1))) (h.k hk) sI_at (by omega) (by omega)
      exact ⟨m', f1, hk.tr f2, f3⟩
    · rw [if_neg (show ¬ nI (tx p) = 32 from fun q => e ((nI_eq (a := tx p) (b := 32) (by omega) (by decide)).mp q)), if_neg e]
      exact ⟨m, rfl, MK.rf m, h13⟩
theorem mt_rn_L (k : Wd → Option Wd) {a s : Nat} (ha : a < tn) (hs : s = srt (tx a)) (h3 : ¬ s = 3) : ∀ (d p n : Nat) (m : Wd), MT m tn tx → m.1 37 13 = nI p → m.1 37 14 = nI a → p + d = tn → d < n → ∃ m', Mo_token_L71 k n m = k m' ∧ MK m m' ∧ m'.1 37 13 = nI (rn1 tx s d p) ∧ m'.1 37 14 = nI a := by
  have hl := srt_le (tx a)
  intro d
  induction d with
  | zero =>
    intro p n m h h13 h14 hp hn
    have h200 := h.1
    obtain ⟨n, rfl⟩ : ∃ q, n = q + 1 := ⟨n - 1, by omega⟩
    rw [Mo_token_L71, h.2.1, h13, if_pos (nI_le (by omega) (by omega))]
    exact ⟨m, rfl, MK.rf m, h13, h14⟩
  | succ d ih =>
    intro p n m h h13 h14 hp hn
    have h200 := h.1
    obtain ⟨n, rfl⟩ : ∃ q, n = q + 1 := ⟨n - 1, by omega⟩
    obtain ⟨hb, h40⟩ := h.2.2 p (by omega)
    obtain ⟨hb', h40'⟩ := h.2.2 a ha
    have hl2 := srt_le (tx p)
    rw [Mo_token_L71, h.2.1, h13, h14, if_neg (nI_ge (by omega) (by omega)), if_pos (ib_nI (by omega) (by decide)), if_pos (ib_nI (by omega) (by decide)), if_pos (ib_nI (by omega) (by decide)), nI_clamp (by omega), nI_clamp (by omega), h40, h40', mo_sort m hb, mo_sort m hb', nI_1, rn1, ← hs, if_neg h3, if_neg (show ¬ nI s ≤ 0 from nI_ge (b := s) (a := 0) (by omega) (by omega))]
    by_cases e : srt (tx p) = s
    · rw [if_neg (show ¬ srt (tx p) = 3 by omega), if_pos (by rw [e]), if_pos e]
      have hk := MK.s m (nI (p + 1)) (k := 13) (by omega)
      obtain ⟨m', f1, f2, f3, f4⟩ := ih (p + 1) n (sI m 37 13 (nI (p + 1))) (h.k hk) sI_at (by rw [sI_nk (by decide)]; exact h14) (by omega) (by omega)
      exact ⟨m', f1, hk.tr f2, f3, f4⟩
    · have : ¬ nI (if srt (tx p) = 3 then 0 else srt (tx p)) = nI s := fun q => by
        have := (nI_eq (by split <;> omega) (by omega)).mp q
        split at this <;> omega
      rw [if_neg this, if_neg e]
      exact ⟨m, rfl, MK.rf m, h13, h14⟩
theorem mo_token {m : Wd} (h : MT m tn tx) {p : Nat} (hp : p ≤ tn) (h13 : m.1 37 13 = nI p) : ∃ m', Mo_token m = some m' ∧ MK m m' ∧ m'.1 37 13 = nI (tE tn tx p) ∧ m'.1 37 14 = nI (tA tn tx p) ∧ m'.1 37 15 = nI (tE tn tx p) := by
  have h200 := h.1
  have ha := tA_le tx hp
  unfold Mo_token
  obtain ⟨m1, a1, a2, a3⟩ := mt_sp_L Mo_token_B38 (tn - p) p FU m h h13 (by omega) (by unfold FU; omega)
  have a3 : m1.1 37 13 = nI (tA tn tx p) := a3
  have h1 := h.k a2
  rw [a1]
  unfold Mo_token_B38
  have k1 := MK.s m1 (m1.1 37 13) (k := 14) (by omega)
  have u13 : (sI m1 37 14 (m1.1 37 13)).1 37 13 = nI (tA tn tx p) := by rw [sI_nk (by decide)]; exact a3
  have u14 : (sI m1 37 14 (m1.1 37 13)).1 37 14 = nI (tA tn tx p) := by rw [sI_at]; exact a3
  have h2 := h1.k k1
  revert k1 u13 u14 h2
  generalize sI m1 37 14 (m1.1 37 13) = m2
  intro k1 u13 u14 h2
  rw [u13, h2.2.1]
  -- the end of both
  have fin : ∀ (m3 : Wd), MK m2 m3 → m3.1 37 13 = nI (tE tn tx p) → m3.1 37 14 = nI (tA tn tx p) → ∃ m', Mo_token_B137 m3 = some m' ∧ MK m m' ∧ m'.1 37 13 = nI (tE tn tx p) ∧ m'.1 37 14 = nI (tA tn tx p) ∧ m'.1 37 15 = nI (tE tn tx p) := by
    intro m3 b1 b2 b3
    unfold Mo_token_B137
    refine ⟨_, rfl, ((a2.tr k1).tr b1).tr (MK.s m3 _ (by omega)), by rw [sI_nk (by decide)]; exact b2, by rw [sI_nk (by decide)]; exact b3, by rw [sI_at]; exact b2⟩
  by_cases e : tA tn tx p < tn
  · rw [if_neg (nI_ge e (by omega)), nI_1]
    have k2 := MK.s m2 (nI (tA tn tx p + 1)) (k := 13) (by omega)
    have v14 : (sI m2 37 13 (nI (tA tn tx p + 1))).1 37 14 = nI (tA tn tx p) := by rw [sI_nk (by decide)]; exact u14
    have h3 := h2.k k2
    by_cases g : srt (tx (tA tn tx p)) = 3
    · have hE : tE tn tx p = tA tn tx p + 1 := by unfold tE; rw [if_pos e, if_pos g]
      show ∃ m', Mo_token_L71 Mo_token_B137 (1999 + 1) _ = _ ∧ _
      rw [Mo_token_L71, h3.2.1, sI_at, v14]
      by_cases q : tA tn tx p + 1 < tn
      · obtain ⟨hb', h40'⟩ := h3.2.2 (tA tn tx p) e
        rw [if_neg (nI_ge q (by omega)), if_pos (ib_nI (by omega) (by decide)), nI_clamp (by omega), h40', mo_sort _ hb', g, if_pos rfl, if_pos (show nI 0 ≤ 0 by decide)]
        exact fin _ k2 (by rw [sI_at, hE]) v14
      · rw [if_pos (nI_le (by omega) (by omega))]
        exact fin _ k2 (by rw [sI_at, hE]) v14
    · have hE : tE tn tx p = rn1 tx (srt (tx (tA tn tx p))) (tn - (tA tn tx p + 1)) (tA tn tx p + 1) := by unfold tE; rw [if_pos e, if_neg g]
      obtain ⟨m3, c1, c2, c3, c4⟩ := mt_rn_L Mo_token_B137 e rfl g (tn - (tA tn tx p + 1)) (tA tn tx p + 1) FU (sI m2 37 13 (nI (tA tn tx p + 1))) h3 sI_at v14 (by omega) (by unfold FU; omega)
      rw [c1]
      exact fin m3 (k2.tr c2) (by rw [c3, hE]) c4
  · have hE : tE tn tx p = tA tn tx p := by unfold tE; rw [if_neg e]
    rw [if_pos (nI_le (by omega) (by omega)), show nI (tA tn tx p) + 0 = nI (tA tn tx p) from nI_add _ 0]
    have k2 := MK.s m2 (nI (tA tn tx p)) (k := 13) (by omega)
    have h3 := h2.k k2
    show ∃ m', Mo_token_L71 Mo_token_B137 (1999 + 1) _ = _ ∧ _
    rw [Mo_token_L71, h3.2.1, sI_at, if_pos (nI_le (by omega) (by omega))]
    exact fin _ k2 (by rw [sI_at, hE]) (by rw [sI_nk (by decide)]; exact u14)
end Token2
