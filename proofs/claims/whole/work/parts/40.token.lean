/-! FAULT: tokens -/
/-- a letter 1, a digit 2, else 3 -/
def srt (b : Nat) : Nat := if 97 ≤ b ∧ b ≤ 122 then 1 else if 48 ≤ b ∧ b ≤ 57 then 2 else 3
/-- past the spaces, d places being left -/
def sk1 (tx : Nat → Nat) : Nat → Nat → Nat
  | 0, p => p
  | d + 1, p => if tx p = 32 then sk1 tx d (p + 1) else p
def rn1 (tx : Nat → Nat) (s : Nat) : Nat → Nat → Nat
  | 0, p => p
  | d + 1, p => if srt (tx p) = s then rn1 tx s d (p + 1) else p
def tA (tn : Nat) (tx : Nat → Nat) (p : Nat) : Nat := sk1 tx (tn - p) p
def tS (tn : Nat) (tx : Nat → Nat) (p : Nat) : Nat := if tA tn tx p < tn then srt (tx (tA tn tx p)) else 0
def tE (tn : Nat) (tx : Nat → Nat) (p : Nat) : Nat := if tA tn tx p < tn then (if srt (tx (tA tn tx p)) = 3 then tA tn tx p + 1 else rn1 tx (srt (tx (tA tn tx p))) (tn - (tA tn tx p + 1)) (tA tn tx p + 1)) else tA tn tx p
theorem srt_le (b : Nat) : 1 ≤ srt b ∧ srt b ≤ 3 := by
  unfold srt
  split
  · omega
  · split <;> omega
theorem sk1_le (tx : Nat → Nat) : ∀ d p, p ≤ sk1 tx d p ∧ sk1 tx d p ≤ p + d := by
  intro d
  induction d with
  | zero => intro p; rw [sk1]; omega
  | succ d ih =>
    intro p
    rw [sk1]
    have := ih (p + 1)
    split <;> omega
theorem rn1_le (tx : Nat → Nat) (s : Nat) : ∀ d p, p ≤ rn1 tx s d p ∧ rn1 tx s d p ≤ p + d := by
  intro d
  induction d with
  | zero => intro p; rw [rn1]; omega
  | succ d ih =>
    intro p
    rw [rn1]
    have := ih (p + 1)
    split <;> omega
theorem rn1_in (tx : Nat → Nat) (s : Nat) : ∀ d p q, p ≤ q → q < rn1 tx s d p → srt (tx q) = s := by
  intro d
  induction d with
  | zero => intro p q h1 h2; rw [rn1] at h2; omega
  | succ d ih =>
    intro p q h1 h2
    rw [rn1] at h2
    by_cases e : srt (tx p) = s
    · rw [if_pos e] at h2
      by_cases g : q = p
      · rw [g]; exact e
      · exact ih (p + 1) q (by omega) h2
    · rw [if_neg e] at h2; omega
theorem tA_le {tn p : Nat} (tx : Nat → Nat) (h : p ≤ tn) : p ≤ tA tn tx p ∧ tA tn tx p ≤ tn := by
  have := sk1_le tx (tn - p) p
  unfold tA
  omega
theorem tE_le {tn p : Nat} (tx : Nat → Nat) (h : p ≤ tn) : tA tn tx p ≤ tE tn tx p ∧ tE tn tx p ≤ tn ∧ (tA tn tx p < tn → tA tn tx p < tE tn tx p) := by
  have h1 := tA_le tx h
  unfold tE
  by_cases e : tA tn tx p < tn
  · rw [if_pos e]
    have := rn1_le tx (srt (tx (tA tn tx p))) (tn - (tA tn tx p + 1)) (tA tn tx p + 1)
    split <;> omega
  · rw [if_neg e]; omega
/-- all bytes of a token are of its sort -/
theorem tE_in {tn p : Nat} (tx : Nat → Nat) {q : Nat} (h1 : tA tn tx p ≤ q) (h2 : q < tE tn tx p) : tA tn tx p < tn ∧ srt (tx q) = tS tn tx p := by
  unfold tE at h2
  unfold tS
  by_cases e : tA tn tx p < tn
  · rw [if_pos e] at h2 ⊢
    refine ⟨e, ?_⟩
    by_cases g : srt (tx (tA tn tx p)) = 3
    · rw [if_pos g] at h2
      rw [show q = tA tn tx p by omega]
    · rw [if_neg g] at h2
      by_cases f : q = tA tn tx p
      · rw [f]
      · exact rn1_in tx _ _ _ q (by omega) h2
  · rw [if_neg e] at h2; omega
section Token
variable {tn : Nat} {tx : Nat → Nat}
/-- the text, in the class's world and in the reference's -/
def XT (x : Wd) (tn : Nat) (tx : Nat → Nat) : Prop := tn ≤ 200 ∧ x.1 1 1 = nI tn ∧ ∀ j, j < tn → tx j < 256 ∧ x.1 2 j = nI (tx j)
def MT (m : Wd) (tn : Nat) (tx : Nat → Nat) : Prop := tn ≤ 200 ∧ m.1 37 3 = nI tn ∧ ∀ j, j < tn → tx j < 256 ∧ m.1 40 j = nI (tx j)
theorem te_byte {x : Wd} (h : XT x tn tx) {p : Nat} (hp : p < 2 ^ 31) : Te_byteAt x (nI p) = some (if p < tn then nI (tx p) else -1) := by
  obtain ⟨h1, h2, h3⟩ := h
  unfold Te_byteAt
  rw [if_neg (nI_pos hp), h2]
  by_cases e : p < tn
  · rw [if_neg (nI_ge e (by omega)), if_neg (show ¬ (200 : Int32) ≤ nI p from nI_ge (b := 200) (by omega) (by decide)), if_pos (ib_nI (by omega) (by decide)), nI_clamp hp, (h3 p e).2, if_pos e]
  · rw [if_pos (nI_le (by omega) hp), if_neg e]
theorem wi_in {x : Wd} {b lo hi : Nat} (hb : b < 2 ^ 31) (hl : lo < 2 ^ 31) (hh : hi < 2 ^ 31) : Nt_within x (nI b) (nI lo) (nI hi) = bi (decide (lo ≤ b ∧ b ≤ hi)) := by
  unfold Nt_within
  by_cases e : b < lo
  · rw [if_pos (nI_lt e hl), decide_eq_false (by omega)]; rfl
  · rw [if_neg (nI_nlt (by omega) hb)]
    by_cases g : hi < b
    · rw [if_pos (nI_lt g hb), decide_eq_false (by omega)]; rfl
    · rw [if_neg (nI_nlt (by omega) hh), decide_eq_true (by omega)]; rfl
theorem re_sort {x : Wd} (h : XT x tn tx) {p : Nat} (hp : p < 2 ^ 31) : Re_sortAt x (nI p) = some (nI (if p < tn then srt (tx p) else 0)) := by
  unfold Re_sortAt
  rw [te_byte h hp, Option.bind_some]
  by_cases e : p < tn
  · have hb := (h.2.2 p e).1
    rw [if_pos e, if_pos e, if_neg (nI_m1 (by omega)), show Nt_within x (nI (tx p)) 97 122 = bi (decide (97 ≤ tx p ∧ tx p ≤ 122)) from wi_in (lo := 97) (hi := 122) (by omega) (by decide) (by decide), show Nt_within x (nI (tx p)) 48 57 = bi (decide (48 ≤ tx p ∧ tx p ≤ 57)) from wi_in (lo := 48) (hi := 57) (by omega) (by decide) (by decide)]
    unfold srt
    by_cases g1 : 97 ≤ tx p ∧ tx p ≤ 122
    · rw [decide_eq_true g1, if_pos g1, bi_t, if_neg one_ne]; rfl
    · rw [decide_eq_false g1, if_neg g1, bi_f, if_pos rfl]
      by_cases g2 : 48 ≤ tx p ∧ tx p ≤ 57
      · rw [decide_eq_true g2, if_pos g2, bi_t, if_neg one_ne]; rfl
      · rw [decide_eq_false g2, if_neg g2, bi_f, if_pos rfl]; rfl
  · rw [if_neg e, if_neg e, if_pos rfl]; rfl
theorem XT.s7 {x : Wd} (h : XT x tn tx) (k : Nat) (v : Int32) : XT (sI x 7 k v) tn tx := by
  unfold XT at h ⊢
  rw [sI_ne (by decide), sI_ne (by decide)]
  exact h
theorem re_sp_L {x : Wd} (h : XT x tn tx) (k : Wd → Int32 → Option Wd) : ∀ (d p n : Nat), p + d = tn → d < n → Re_step_L5 k n x (nI p) = k x (nI (sk1 tx d p)) := by
  have h200 := h.1
  intro d
  induction d with
  | zero =>
    intro p n hp hn
    obtain ⟨n, rfl⟩ : ∃ q, n = q + 1 := ⟨n - 1, by omega⟩
    rw [Re_step_L5, h.2.1, if_pos (nI_le (by omega) (by omega)), sk1]
  | succ d ih =>
    intro p n hp hn
    obtain ⟨n, rfl⟩ : ∃ q, n = q + 1 := ⟨n - 1, by omega⟩
    have hb := (h.2.2 p (by omega)).1
    rw [Re_step_L5, h.2.1, if_neg (nI_ge (by omega) (by omega)), te_byte h (by omega), Option.bind_some, if_pos (show p < tn by omega), sk1, nI_1]
    by_cases e : tx p = 32
    · rw [if_pos (show nI (tx p) = 32 by rw [e]; rfl), if_pos e]; exact ih (p + 1) n (by omega) (by omega)
    · rw [if_neg (show ¬ nI (tx p) = 32 from fun q => e ((nI_eq (a := tx p) (b := 32) (by omega) (by decide)).mp q)), if_neg e]
theorem re_rn_L {x : Wd} (h : XT x tn tx) {s : Nat} (hs : s < 3) (h4 : x.1 7 4 = nI s) (k : Wd → Int32 → Option Wd) : ∀ (d p n : Nat), p + d = tn → d < n → Re_step_L59 k n x (nI p) = k x (nI (rn1 tx s d p)) := by
  have h200 := h.1
  have s3 : ¬ nI s = 3 := fun q => by have := (nI_eq (a := s) (b := 3) (by omega) (by decide)).mp q; omega
  intro d
  induction d with
  | zero =>
    intro p n hp hn
    obtain ⟨n, rfl⟩ : ∃ q, n = q + 1 := ⟨n - 1, by omega⟩
    rw [Re_step_L59, h4, if_neg s3, h.2.1, if_pos (nI_le (by omega) (by omega)), rn1]
  | succ d ih =>
    intro p n hp hn
    obtain ⟨n, rfl⟩ : ∃ q, n = q + 1 := ⟨n - 1, by omega⟩
    have hl := srt_le (tx p)
    rw [Re_step_L59, h4, if_neg s3, h.2.1, if_neg (nI_ge (by omega) (by omega)), re_sort h (by omega), Option.bind_some, if_pos (show p < tn by omega), rn1, nI_1]
    by_cases e : srt (tx p) = s
    · rw [if_pos (by rw [e]), if_pos e]; exact ih (p + 1) n (by omega) (by omega)
    · rw [if_neg (fun q => e ((nI_eq (by omega) (by omega)).mp q)), if_neg e]
theorem re_step {x : Wd} (h : XT x tn tx) {p : Nat} (hp : p ≤ tn) (h6 : x.1 7 6 = nI p) : Re_step x = some (sI (sI (sI x 7 5 (nI (tA tn tx p))) 7 4 (nI (tS tn tx p))) 7 6 (nI (tE tn tx p))) := by
  have h200 := h.1
  have ha := tA_le tx hp
  unfold Re_step
  rw [h6, re_sp_L h Re_step_B35 (tn - p) p FU (by omega) (by unfold FU; omega), show sk1 tx (tn - p) p = tA tn tx p from rfl]
  unfold Re_step_B35
  rw [re_sort (h.s7 5 _) (by omega), Option.bind_some, show (if tA tn tx p < tn then srt (tx (tA tn tx p)) else 0) = tS tn tx p from rfl, sI_at]
  have hx := (h.s7 5 (nI (tA tn tx p))).s7 4 (nI (tS tn tx p))
  have h4 : (sI (sI x 7 5 (nI (tA tn tx p))) 7 4 (nI (tS tn tx p))).1 7 4 = nI (tS tn tx p) := sI_at
  revert hx h4
  generalize hy : sI (sI x 7 5 (nI (tA tn tx p))) 7 4 (nI (tS tn tx p)) = y
  intro hx h4
  by_cases e : tA tn tx p < tn
  · have hs : tS tn tx p = srt (tx (tA tn tx p)) := if_pos e
    have hl := srt_le (tx (tA tn tx p))
    rw [if_neg (show ¬ nI (tS tn tx p) = 0 from nI_ne0 (by omega) (by omega)), nI_1]
    by_cases g : srt (tx (tA tn tx p)) = 3
    · show Re_step_L59 Re_step_B96 (1999 + 1) y _ = _
      rw [Re_step_L59, h4, hs, g, if_pos (show nI 3 = 3 from rfl)]
      unfold tE Re_step_B96
      rw [if_pos e, if_pos g]
    · rw [re_rn_L hx (s := srt (tx (tA tn tx p))) (by omega) (by rw [h4, hs]) Re_step_B96 (tn - (tA tn tx p + 1)) (tA tn tx p + 1) FU (by omega) (by unfold FU; omega)]
      unfold tE Re_step_B96
      rw [if_pos e, if_neg g]
  · have hs : tS tn tx p = 0 := if_neg e
    rw [hs, if_pos (show nI 0 = 0 from rfl), re_rn_L hx (s := 0) (by omega) (by rw [h4, hs]) Re_step_B96 0 (tA tn tx p) FU (by omega) (by decide)]
    unfold tE Re_step_B96
    rw [if_neg e]
    rfl
end Token
