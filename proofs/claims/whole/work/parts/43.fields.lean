/-! FAULT: numbers -/
def num (tx : Nat → Nat) (a e : Nat) : Nat := if e - a = 1 then tx a - 48 else (tx a - 48) * 10 + tx (a + 1) - 48
theorem srt_2 {b : Nat} (h : srt b = 2) : 48 ≤ b ∧ b ≤ 57 := by
  unfold srt at h
  by_cases g1 : 97 ≤ b ∧ b ≤ 122
  · rw [if_pos g1] at h; omega
  · rw [if_neg g1] at h
    by_cases g2 : 48 ≤ b ∧ b ≤ 57
    · exact g2
    · rw [if_neg g2] at h; omega
section Fields
variable {tn : Nat} {tx : Nat → Nat}
theorem tok_2 {p : Nat} (hp : p ≤ tn) (h : tS tn tx p = 2) : tA tn tx p < tn ∧ tA tn tx p < tE tn tx p ∧ ∀ q, tA tn tx p ≤ q → q < tE tn tx p → 48 ≤ tx q ∧ tx q ≤ 57 := by
  have e : tA tn tx p < tn := by
    unfold tS at h
    by_cases e : tA tn tx p < tn
    · exact e
    · rw [if_neg e] at h; omega
  exact ⟨e, (tE_le tx hp).2.2 e, fun q h1 h2 => srt_2 (by rw [(tE_in tx h1 h2).2]; exact h)⟩
theorem num_lt {p : Nat} (hp : p ≤ tn) (h : tS tn tx p = 2) (h2 : tE tn tx p - tA tn tx p ≤ 2) : num tx (tA tn tx p) (tE tn tx p) ≤ 99 := by
  obtain ⟨a1, a2, a3⟩ := tok_2 hp h
  have b1 := a3 _ (Nat.le_refl _) a2
  unfold num
  by_cases e : tE tn tx p - tA tn tx p = 1
  · rw [if_pos e]; omega
  · rw [if_neg e]
    have b2 := a3 (tA tn tx p + 1) (by omega) (by omega)
    omega
theorem re_value {x : Wd} (h : XT x tn tx) {p : Nat} (hp : p ≤ tn) (h4 : x.1 7 4 = nI (tS tn tx p)) (h5 : x.1 7 5 = nI (tA tn tx p)) (h6 : x.1 7 6 = nI (tE tn tx p)) : Re_tokenValue x = some (if tS tn tx p = 2 ∧ tE tn tx p - tA tn tx p ≤ 2 then nI (num tx (tA tn tx p) (tE tn tx p)) else -1) := by
  have h200 := h.1
  have hA := tA_le tx hp
  have hE := tE_le tx hp
  have hs : tS tn tx p ≤ 3 := by
    unfold tS
    have := srt_le (tx (tA tn tx p))
    split <;> omega
  unfold Re_tokenValue
  rw [h4, h5, h6, pk_sub hE.1]
  by_cases g : tS tn tx p = 2
  · obtain ⟨a1, a2, a3⟩ := tok_2 hp g
    have b1 := a3 _ (Nat.le_refl _) a2
    rw [if_pos (show nI (tS tn tx p) = 2 by rw [g]; rfl)]
    by_cases g2 : tE tn tx p - tA tn tx p ≤ 2
    · rw [if_pos (show nI (tE tn tx p - tA tn tx p) ≤ 2 from nI_le (b := 2) g2 (by decide)), if_pos ⟨g, g2⟩, te_byte h (by omega), Option.bind_some, if_pos a1, show (48 : Int32) = nI 48 from rfl, pk_sub b1.1]
      unfold num
      by_cases g3 : tE tn tx p - tA tn tx p = 1
      · rw [if_pos (show nI (tE tn tx p - tA tn tx p) = 1 by rw [g3]; rfl), if_pos g3]
      · have b2 := a3 (tA tn tx p + 1) (by omega) (by omega)
        rw [if_neg (show ¬ nI (tE tn tx p - tA tn tx p) = 1 from fun q => g3 ((nI_eq (a := tE tn tx p - tA tn tx p) (b := 1) (by omega) (by decide)).mp q)), if_neg g3, nI_1, te_byte h (by omega), Option.bind_some, if_pos (show tA tn tx p + 1 < tn by omega), show (10 : Int32) = nI 10 from rfl, pk_mul, nI_add, pk_sub (by omega)]
    · rw [if_neg (show ¬ nI (tE tn tx p - tA tn tx p) ≤ 2 from nI_ge (a := 2) (by omega) (by omega)), if_neg (fun q => g2 q.2)]
  · rw [if_neg (show ¬ nI (tS tn tx p) = 2 from fun q => g ((nI_eq (a := tS tn tx p) (b := 2) (by omega) (by decide)).mp q)), if_neg (fun q => g q.1)]
/-- the reference's token, fetched from p on -/
def RM (m : Wd) (tn : Nat) (tx : Nat → Nat) (p : Nat) : Prop := m.1 37 13 = nI (tE tn tx p) ∧ m.1 37 14 = nI (tA tn tx p) ∧ m.1 37 15 = nI (tE tn tx p)
/-- a number of lo .. hi, and not ne -/
def okF (tn : Nat) (tx : Nat → Nat) (p : Nat) (lo hi ne : Int32) : Prop := tS tn tx p = 2 ∧ tE tn tx p - tA tn tx p ≤ 2 ∧ ¬ nI (num tx (tA tn tx p) (tE tn tx p)) < lo ∧ ¬ hi < nI (num tx (tA tn tx p) (tE tn tx p)) ∧ ¬ nI (num tx (tA tn tx p) (tE tn tx p)) = ne
theorem mo_num {m : Wd} (h : MT m tn tx) {p : Nat} (hp : p ≤ tn) (hR : RM m tn tx p) (h2 : tS tn tx p = 2) (h3 : tE tn tx p - tA tn tx p ≤ 2) (k : Wd → Int32 → Int32 → Int32 → Int32 → Int32 → Option (Int32 × Wd)) (v1 v2 v3 v4 : Int32) : Mo_reads_L51 k FU m v1 v2 v3 v4 0 (nI (tA tn tx p)) = k m v1 v2 v3 v4 (nI (num tx (tA tn tx p) (tE tn tx p))) := by
  have h200 := h.1
  have hE := tE_le tx hp
  obtain ⟨a1, a2, a3⟩ := tok_2 hp h2
  have b1 := a3 _ (Nat.le_refl _) a2
  obtain ⟨hb, h40⟩ := h.2.2 _ a1
  show Mo_reads_L51 k (1997 + 1 + 1 + 1) m v1 v2 v3 v4 0 _ = _
  rw [Mo_reads_L51, hR.2.2, if_neg (nI_ge a2 (by omega)), if_pos (ib_nI (by omega) (by decide)), nI_clamp (by omega), h40, show (10 : Int32) * 0 + nI (tx (tA tn tx p)) - 48 = nI (tx (tA tn tx p) - 48) by rw [show (10 : Int32) * 0 = nI 0 from rfl, nI_add, Nat.zero_add, show (48 : Int32) = nI 48 from rfl, pk_sub b1.1], nI_1, Mo_reads_L51, hR.2.2]
  unfold num
  by_cases g : tE tn tx p - tA tn tx p = 1
  · rw [if_pos (nI_le (by omega) (by omega)), if_pos g]
  · have b2 := a3 (tA tn tx p + 1) (by omega) (by omega)
    obtain ⟨hb', h40'⟩ := h.2.2 (tA tn tx p + 1) (by omega)
    rw [if_neg (nI_ge (by omega) (by omega)), if_pos (ib_nI (by omega) (by decide)), nI_clamp (by omega), h40', nI_1, Mo_reads_L51, hR.2.2, if_pos (nI_le (by omega) (by omega)), if_neg g]
    congr 1
    rw [show (10 : Int32) = nI 10 from rfl, pk_mul, nI_add, show (48 : Int32) = nI 48 from rfl, pk_sub (by omega)]
    congr 1; omega
theorem mo_reads {m : Wd} (h : MT m tn tx) {p : Nat} (hp : p ≤ tn) (hR : RM m tn tx p) {n i : Nat} (h5 : m.1 37 5 = nI n) (hn : n < 10) (hi : i < 6) (lo hi' ne : Int32) : (¬ okF tn tx p lo hi' ne ∧ Mo_reads m (nI i) lo hi' ne = some (0, m)) ∨ (okF tn tx p lo hi' ne ∧ ∃ m', Mo_reads m (nI i) lo hi' ne = some (1, m') ∧ (∀ q, q ≠ 37 → q ≠ 41 → m'.1 q = m.1 q) ∧ (∀ k, k ≠ 13 → k ≠ 14 → k ≠ 15 → m'.1 37 k = m.1 37 k) ∧ (∀ j, m'.1 41 j = if j = 7 * n + 1 + i then nI (num tx (tA tn tx p) (tE tn tx p)) else m.1 41 j) ∧ RM m' tn tx (tE tn tx p)) := by
  have h200 := h.1
  have hA := tA_le tx hp
  have hE := tE_le tx hp
  unfold Mo_reads
  rw [hR.2.1, hR.2.2, h.2.1]
  by_cases e : tA tn tx p = tn
  · left
    rw [if_pos (by rw [e])]
    refine ⟨fun q => ?_, rfl⟩
    have := (tok_2 hp q.1).1
    omega
  rw [if_neg (fun q => e ((nI_eq (by omega) (by omega)).mp q)), if_pos (ib_nI (by omega) (by decide)), nI_clamp (by omega)]
  have a1 : tA tn tx p < tn := by omega
  obtain ⟨hb, h40⟩ := h.2.2 _ a1
  have hS : tS tn tx p = srt (tx (tA tn tx p)) := if_pos a1
  have hl := srt_le (tx (tA tn tx p))
  rw [h40, mo_sort m hb, ← hS]
  by_cases g : tS tn tx p = 2
  · rw [g, if_neg (show ¬ 2 = 3 by decide), if_pos (show nI 2 = 2 from rfl), pk_sub hE.1]
    by_cases g2 : tE tn tx p - tA tn tx p ≤ 2
    · rw [if_pos (show nI (tE tn tx p - tA tn tx p) ≤ 2 from nI_le (b := 2) g2 (by decide)), mo_num h hp hR g g2]
      unfold Mo_reads_B84
      rw [mo_in]
      by_cases g3 : nI (num tx (tA tn tx p) (tE tn tx p)) < lo
      · rw [if_pos g3, if_pos rfl]; exact Or.inl ⟨fun q => q.2.2.1 g3, rfl⟩
      rw [if_neg g3]
      by_cases g4 : hi' < nI (num tx (tA tn tx p) (tE tn tx p))
      · rw [if_pos g4, if_pos rfl]; exact Or.inl ⟨fun q => q.2.2.2.1 g4, rfl⟩
      rw [if_neg g4, if_neg one_ne]
      by_cases g5 : nI (num tx (tA tn tx p) (tE tn tx p)) = ne
      · rw [if_pos g5]; exact Or.inl ⟨fun q => q.2.2.2.2 g5, rfl⟩
      rw [if_neg g5, h5, show (7 : Int32) * nI n + 1 + nI i = nI (7 * n + 1 + i) by rw [show (7 : Int32) = nI 7 from rfl, pk_mul, nI_1, nI_add], if_pos (ib_nI (by omega) (by decide)), nI_clamp (by omega)]
      have h' : MT (sI m 41 (7 * n + 1 + i) (nI (num tx (tA tn tx p) (tE tn tx p)))) tn tx := by
        unfold MT at h ⊢
        rw [sI_ne (by decide), sI_ne (by decide)]
        exact h
      obtain ⟨m', c1, c2, c3, c4, c5⟩ := mo_token h' hE.2.1 (by rw [sI_ne (by decide)]; exact hR.1)
      rw [c1, Option.bind_some]
      refine Or.inr ⟨⟨g, g2, g3, g4, g5⟩, m', rfl, fun q q1 q2 => by rw [c2.1 q q1, sI_ne q2], fun k k1 k2 k3 => by rw [c2.2 k k1 k2 k3, sI_ne (by decide)], fun j => ?_, c3, c4, c5⟩
      rw [c2.1 41 (by decide), sI_1]
      by_cases q : j = 7 * n + 1 + i
      · rw [if_pos ⟨rfl, q⟩, if_pos q]
      · rw [if_neg (fun z => q z.2), if_neg q]
    · rw [if_neg (show ¬ nI (tE tn tx p - tA tn tx p) ≤ 2 from nI_ge (a := 2) (by omega) (by omega))]
      exact Or.inl ⟨fun q => g2 q.2.1, rfl⟩
  · have : ¬ nI (if tS tn tx p = 3 then 0 else tS tn tx p) = 2 := fun q => by
      have := (nI_eq (b := 2) (by split <;> omega) (by decide)).mp q
      split at this <;> omega
    rw [if_neg this]
    exact Or.inl ⟨fun q => g q.1, rfl⟩
end Fields
