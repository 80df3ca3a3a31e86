/-! CHASE: the class's four foldings -/
/-- a row of 448 numbers -/
def AR (w : Wd) (c : Nat) (D : Nat → Nat) : Prop := ∀ p, p < 448 → w.1 c p = nI (D p)
def L13 (D : Nat → Nat) : Prop := ∀ p, p < 448 → D p ≤ 13
theorem AR.ne {w w' : Wd} {c : Nat} {D : Nat → Nat} (h : AR w c D) (e : w'.1 c = w.1 c) : AR w' c D := fun p hp => by rw [e]; exact h p hp
theorem AR.con {w : Wd} {c : Nat} {D D' : Nat → Nat} (h : AR w c D) (e : ∀ p, p < 448 → D p = D' p) : AR w c D' := fun p hp => by rw [← e p hp]; exact h p hp
theorem AR.cpy {w : Wd} {c d : Nat} {D : Nat → Nat} (h : AR w c D) : AR (cI w c 0 d 0 448) d D := fun p hp => by
  rw [cI_1, if_pos ⟨rfl, by omega, by omega⟩, Nat.zero_add, Nat.sub_zero]
  exact h p hp
theorem AR.set {w : Wd} {c k v : Nat} {D : Nat → Nat} (h : AR w c D) : AR (sI w c k (nI v)) c (fun p => if p = k then v else D p) := fun p hp => by
  show _ = nI (if p = k then v else D p)
  by_cases e : p = k
  · rw [e, sI_at, if_pos rfl]
  · rw [sI_nk e, if_neg e]; exact h p hp
theorem mx_nI {a b : Nat} (ha : a ≤ 13) (hb : b ≤ 13) : (if nI a < nI b then nI b else nI a) = nI (max a b) := by
  by_cases h : a < b
  · rw [if_pos (nI_lt h (by omega)), Nat.max_eq_right (by omega)]
  · rw [if_neg (nI_nlt (by omega) (by omega)), Nat.max_eq_left (by omega)]
theorem mn_nI {a b : Nat} (ha : a ≤ 13) (hb : b ≤ 13) : (if nI b < nI a then nI b else nI a) = nI (min a b) := by
  by_cases h : b < a
  · rw [if_pos (nI_lt h (by omega)), Nat.min_eq_right (by omega)]
  · rw [if_neg (nI_nlt (by omega) (by omega)), Nat.min_eq_left (by omega)]
/-- what each folding leaves, train by train -/
def bZ (fr D : Nat → Nat) : Nat → Nat → Nat
  | 0, p => D p
  | i + 1, p => if fr i = p / 64 then 0 else bZ fr D i p
def bM (fr to D : Nat → Nat) (r : Nat) : Nat → Nat → Nat
  | 0, p => bZ fr D r p
  | i + 1, p => if fr i = p / 64 then max (bM fr to D r i p) (D (to i * 64 + p % 64)) else bM fr to D r i p
def zM (fr to B : Nat → Nat) : Nat → Nat → Nat
  | 0, p => B p
  | i + 1, p => if fr i = p / 8 % 8 then min (zM fr to B i p) (B (p / 64 * 64 + to i * 8 + p % 8)) else zM fr to B i p
def oM (fr to Z : Nat → Nat) : Nat → Nat → Nat
  | 0, p => Z p
  | i + 1, p => if fr i = p % 8 then min (oM fr to Z i p) (Z (p / 8 * 8 + to i)) else oM fr to Z i p
section Purs
theorem fill27_L (k : Wd → Option Wd) (v : Nat) : ∀ (d j n : Nat) (w : Wd), j + d = 448 → d < n → (∀ p, p < j → w.1 27 p = nI v) → (∃ w', Jd_fillI_27_L5 k n w (nI v) (nI j) 448 = k w' ∧ (∀ c, c ≠ 27 → w'.1 c = w.1 c) ∧ AR w' 27 (fun _ => v)) := by
  intro d
  induction d with
  | zero =>
    intro j n w hj hn h
    obtain ⟨n, rfl⟩ : ∃ q, n = q + 1 := ⟨n - 1, by omega⟩
    rw [Jd_fillI_27_L5, if_pos (show (448 : Int32) ≤ nI j from nI_le (a := 448) (by omega) (by omega))]
    exact ⟨w, rfl, fun _ _ => rfl, fun p hp => h p (by omega)⟩
  | succ d ih =>
    intro j n w hj hn h
    obtain ⟨n, rfl⟩ : ∃ q, n = q + 1 := ⟨n - 1, by omega⟩
    rw [Jd_fillI_27_L5, if_neg (show ¬ (448 : Int32) ≤ nI j from nI_ge (b := 448) (by omega) (by decide)), if_pos (ib_nI (by omega) (by decide)), nI_clamp (by omega), nI_1]
    obtain ⟨w', f1, f2, f3⟩ := ih (j + 1) n (sI w 27 j (nI v)) (by omega) (by omega) (fun p hp => by
      by_cases e : p = j
      · rw [e, sI_at]
      · rw [sI_nk e]; exact h p (by omega))
    exact ⟨w', f1, fun c hc => by rw [f2 c hc, sI_ne hc], f3⟩
/-- caught -/
abbrev cgt (p : Nat) : Prop := p / 64 = p / 8 % 8 ∨ p / 64 = p % 8
theorem mark_in (k : Wd → Int32 → Option Wd) {h : Nat} (hh : h < 7) (D : Nat → Nat) : ∀ (d j n : Nat) (w : Wd), j + d = 8 → d < n → AR w 27 (fun p => if p / 64 < h ∧ cgt p ∨ p / 64 = h ∧ (p / 8 % 8 = h ∧ p % 8 < j ∨ p % 8 = h ∧ p / 8 % 8 < j) then 0 else D p) → ∃ w', Pu_markCaught_L15 k n w (nI h) (nI (h * 64)) (nI j) = k w' (nI h) ∧ (∀ c, c ≠ 27 → w'.1 c = w.1 c) ∧ AR w' 27 (fun p => if p / 64 < h + 1 ∧ cgt p then 0 else D p) := by
  intro d
  induction d with
  | zero =>
    intro j n w hj hn hw
    obtain ⟨n, rfl⟩ : ∃ q, n = q + 1 := ⟨n - 1, by omega⟩
    rw [Pu_markCaught_L15, if_pos (show (8 : Int32) ≤ nI j from nI_le (a := 8) (by omega) (by omega))]
    refine ⟨w, rfl, fun _ _ => rfl, hw.con fun p hp => ?_⟩
    by_cases e : p / 64 < h + 1 ∧ (p / 64 = p / 8 % 8 ∨ p / 64 = p % 8)
    · rw [if_pos e, if_pos (by omega)]
    · rw [if_neg e, if_neg (by omega)]
  | succ d ih =>
    intro j n w hj hn hw
    obtain ⟨n, rfl⟩ : ∃ q, n = q + 1 := ⟨n - 1, by omega⟩
    have e1 : nI (h * 64) + nI h * (8 : Int32) + nI j = nI (h * 64 + h * 8 + j) := by rw [show (8 : Int32) = nI 8 from rfl, pk_mul, nI_add, nI_add]
    have e2 : nI (h * 64) + nI j * (8 : Int32) + nI h = nI (h * 64 + j * 8 + h) := by rw [show (8 : Int32) = nI 8 from rfl, pk_mul, nI_add, nI_add]
    rw [Pu_markCaught_L15, if_neg (show ¬ (8 : Int32) ≤ nI j from nI_ge (b := 8) (by omega) (by decide)), e1, e2, if_pos (ib_nI (by omega) (by decide)), if_pos (ib_nI (by omega) (by decide)), nI_clamp (by omega), nI_clamp (by omega), nI_1]
    obtain ⟨w', f1, f2, f3⟩ := ih (j + 1) n (sI (sI w 27 (h * 64 + h * 8 + j) (nI 0)) 27 (h * 64 + j * 8 + h) (nI 0)) (by omega) (by omega) (hw.set.set.con fun p hp => by
      by_cases a1 : p = h * 64 + j * 8 + h
      · have q1 : p / 64 = h := by omega
        have q2 : p / 8 = h * 8 + j := by omega
        have q3 : p % 8 = h := by omega
        rw [if_pos a1, if_pos (by rw [q1, q2, q3]; omega)]
      · rw [if_neg a1]
        by_cases a2 : p = h * 64 + h * 8 + j
        · rw [if_pos a2, if_pos (by omega)]
        · rw [if_neg a2]
          by_cases a3 : p / 64 < h ∧ (p / 64 = p / 8 % 8 ∨ p / 64 = p % 8) ∨ p / 64 = h ∧ (p / 8 % 8 = h ∧ p % 8 < j ∨ p % 8 = h ∧ p / 8 % 8 < j)
          · rw [if_pos a3, if_pos (by omega)]
          · rw [if_neg a3, if_neg (by omega)])
    exact ⟨w', f1, fun c hc => by rw [f2 c hc, sI_ne hc, sI_ne hc], f3⟩
theorem mark_out (k : Wd → Option Wd) (D : Nat → Nat) : ∀ (d h n : Nat) (w : Wd), h + d = 7 → d < n → AR w 27 (fun p => if p / 64 < h ∧ cgt p then 0 else D p) → ∃ w', Pu_markCaught_L2 k n w (nI h) = k w' ∧ (∀ c, c ≠ 27 → w'.1 c = w.1 c) ∧ AR w' 27 (fun p => if cgt p then 0 else D p) := by
  intro d
  induction d with
  | zero =>
    intro j n w hj hn hw
    obtain ⟨n, rfl⟩ : ∃ q, n = q + 1 := ⟨n - 1, by omega⟩
    rw [Pu_markCaught_L2, if_pos (show (7 : Int32) ≤ nI j from nI_le (a := 7) (by omega) (by omega))]
    refine ⟨w, rfl, fun _ _ => rfl, hw.con fun p hp => ?_⟩
    by_cases e : cgt p
    · rw [if_pos e, if_pos ⟨by omega, e⟩]
    · rw [if_neg e, if_neg (fun q => e q.2)]
  | succ d ih =>
    intro h n w hj hn hw
    obtain ⟨n, rfl⟩ : ∃ q, n = q + 1 := ⟨n - 1, by omega⟩
    rw [Pu_markCaught_L2, if_neg (show ¬ (7 : Int32) ≤ nI h from nI_ge (b := 7) (by omega) (by decide)), show (64 : Int32) = nI 64 from rfl, pk_mul]
    obtain ⟨w1, a1, a2, a3⟩ := mark_in (Pu_markCaught_B55 (Pu_markCaught_L2 k n)) (h := h) (by omega) D 8 0 FU w rfl (by decide) (hw.con fun p hp => by
      by_cases e : p / 64 < h ∧ cgt p
      · rw [if_pos e, if_pos (Or.inl e)]
      · rw [if_neg e, if_neg (by intro q; rcases q with q | q; exact e q; omega)])
    rw [show Pu_markCaught_L15 _ FU w (nI h) (nI (h * 64)) 0 = _ from a1]
    unfold Pu_markCaught_B55
    rw [nI_1]
    obtain ⟨w', f1, f2, f3⟩ := ih (h + 1) n w1 (by omega) (by omega) a3
    exact ⟨w', f1, fun c hc => by rw [f2 c hc, a2 c hc], f3⟩
theorem pu_mark {w : Wd} {D : Nat → Nat} (hw : AR w 27 D) : ∃ w', Pu_markCaught w = some w' ∧ (∀ c, c ≠ 27 → w'.1 c = w.1 c) ∧ AR w' 27 (fun p => if cgt p then 0 else D p) := by
  obtain ⟨w', f1, f2, f3⟩ := mark_out Pu_markCaught_B61 D 7 0 FU w rfl (by decide) (hw.con fun p hp => by rw [if_neg (by omega)])
  exact ⟨w', f1, f2, f3⟩
theorem him0_in (k : Wd → Int32 → Option Wd) {i f : Nat} (hi : i < 12) (hf : f < 7) (B : Nat → Nat) : ∀ (d j n : Nat) (w : Wd), j + d = 64 → d < n → w.1 30 i = nI f → AR w 28 (fun p => if f = p / 64 ∧ p % 64 < j then 0 else B p) → ∃ w', Pu_foldHim_L28 k n w (nI i) (nI j) = k w' (nI i) ∧ (∀ c, c ≠ 28 → w'.1 c = w.1 c) ∧ AR w' 28 (fun p => if f = p / 64 then 0 else B p) := by
  intro d
  induction d with
  | zero =>
    intro j n w hj hn h30 hw
    obtain ⟨n, rfl⟩ : ∃ q, n = q + 1 := ⟨n - 1, by omega⟩
    rw [Pu_foldHim_L28, if_pos (show (64 : Int32) ≤ nI j from nI_le (a := 64) (by omega) (by omega))]
    refine ⟨w, rfl, fun _ _ => rfl, hw.con fun p hp => ?_⟩
    by_cases e : f = p / 64
    · rw [if_pos e, if_pos ⟨e, by omega⟩]
    · rw [if_neg e, if_neg (fun q => e q.1)]
  | succ d ih =>
    intro j n w hj hn h30 hw
    obtain ⟨n, rfl⟩ : ∃ q, n = q + 1 := ⟨n - 1, by omega⟩
    have e1 : w.1 30 i * (64 : Int32) + nI j = nI (f * 64 + j) := by rw [h30, show (64 : Int32) = nI 64 from rfl, pk_mul, nI_add]
    rw [Pu_foldHim_L28, if_neg (show ¬ (64 : Int32) ≤ nI j from nI_ge (b := 64) (by omega) (by decide)), if_pos (ib_nI (by omega) (by decide)), nI_clamp (by omega), e1, if_pos (ib_nI (by omega) (by decide)), nI_clamp (by omega), nI_1]
    obtain ⟨w', f1, f2, f3⟩ := ih (j + 1) n (sI w 28 (f * 64 + j) (nI 0)) (by omega) (by omega) (by rw [sI_ne (by decide)]; exact h30) (hw.set.con fun p hp => by
      by_cases a1 : p = f * 64 + j
      · rw [if_pos a1, if_pos (by omega)]
      · rw [if_neg a1]
        by_cases a3 : f = p / 64 ∧ p % 64 < j
        · rw [if_pos a3, if_pos (by omega)]
        · rw [if_neg a3, if_neg (by omega)])
    exact ⟨w', f1, fun c hc => by rw [f2 c hc, sI_ne hc], f3⟩
/-- the running trains -/
def RT (w : Wd) (r : Nat) (fr to : Nat → Nat) : Prop := w.1 26 7 = nI r ∧ r ≤ 12 ∧ ∀ i, i < r → w.1 30 i = nI (fr i) ∧ w.1 31 i = nI (to i) ∧ fr i < 7 ∧ to i < 7
theorem RT.eq {w w' : Wd} {r : Nat} {fr to : Nat → Nat} (h : RT w r fr to) (a : w'.1 26 = w.1 26) (b : w'.1 30 = w.1 30) (c : w'.1 31 = w.1 31) : RT w' r fr to := by
  unfold RT at h ⊢
  rw [a, b, c]
  exact h
theorem him0_out (k : Wd → Option Wd) {r : Nat} {fr to : Nat → Nat} (D : Nat → Nat) : ∀ (d i n : Nat) (w : Wd), i + d = r → d < n → RT w r fr to → AR w 28 (bZ fr D i) → ∃ w', Pu_foldHim_L18 k n w (nI i) = k w' ∧ (∀ c, c ≠ 28 → w'.1 c = w.1 c) ∧ AR w' 28 (bZ fr D r) := by
  intro d
  induction d with
  | zero =>
    intro i n w hj hn hR hw
    obtain ⟨n, rfl⟩ : ∃ q, n = q + 1 := ⟨n - 1, by omega⟩
    have h12 := hR.2.1
    have : i = r := by omega
    subst this
    rw [Pu_foldHim_L18, hR.1, if_pos (nI_le (by omega) (by omega))]
    exact ⟨w, rfl, fun _ _ => rfl, hw⟩
  | succ d ih =>
    intro i n w hj hn hR hw
    obtain ⟨n, rfl⟩ : ∃ q, n = q + 1 := ⟨n - 1, by omega⟩
    have h12 := hR.2.1
    obtain ⟨r1, r2, r3, r4⟩ := hR.2.2 i (by omega)
    rw [Pu_foldHim_L18, hR.1, if_neg (nI_ge (by omega) (by omega))]
    obtain ⟨w1, a1, a2, a3⟩ := him0_in (Pu_foldHim_B57 (Pu_foldHim_L18 k n)) (i := i) (f := fr i) (by omega) r3 (bZ fr D i) 64 0 FU w rfl (by decide) r1 (hw.con fun p hp => by rw [if_neg (by omega)])
    rw [show Pu_foldHim_L28 _ FU w (nI i) 0 = _ from a1]
    unfold Pu_foldHim_B57
    rw [nI_1]
    obtain ⟨w', f1, f2, f3⟩ := ih (i + 1) n w1 (by omega) (by omega) (hR.eq (a2 26 (by decide)) (a2 30 (by decide)) (a2 31 (by decide))) a3
    exact ⟨w', f1, fun c hc => by rw [f2 c hc, a2 c hc], f3⟩
theorem him1_in (k : Wd → Int32 → Option Wd) (i : Int32) {f g : Nat} (hf : f < 7) (hg : g < 7) {B D : Nat → Nat} (hB : L13 B) (hD : L13 D) : ∀ (d j n : Nat) (w : Wd), j + d = 64 → d < n → AR w 27 D → AR w 28 (fun p => if f = p / 64 ∧ p % 64 < j then max (B p) (D (g * 64 + p % 64)) else B p) → ∃ w', Pu_foldHim_L96 k n w i (nI (f * 64)) (nI (g * 64)) (nI j) = k w' i ∧ (∀ c, c ≠ 28 → w'.1 c = w.1 c) ∧ AR w' 28 (fun p => if f = p / 64 then max (B p) (D (g * 64 + p % 64)) else B p) := by
  intro d
  induction d with
  | zero =>
    intro j n w hj hn h27 hw
    obtain ⟨n, rfl⟩ : ∃ q, n = q + 1 := ⟨n - 1, by omega⟩
    rw [Pu_foldHim_L96, if_pos (show (64 : Int32) ≤ nI j from nI_le (a := 64) (by omega) (by omega))]
    refine ⟨w, rfl, fun _ _ => rfl, hw.con fun p hp => ?_⟩
    by_cases e : f = p / 64
    · rw [if_pos e, if_pos ⟨e, by omega⟩]
    · rw [if_neg e, if_neg (fun q => e q.1)]
  | succ d ih =>
    intro j n w hj hn h27 hw
    obtain ⟨n, rfl⟩ : ∃ q, n = q + 1 := ⟨n - 1, by omega⟩
    have b1 : w.1 28 (f * 64 + j) = nI (B (f * 64 + j)) := by rw [hw _ (by omega)]; dsimp only; rw [if_neg (by omega)]
    rw [Pu_foldHim_L96, if_neg (show ¬ (64 : Int32) ≤ nI j from nI_ge (b := 64) (by omega) (by decide)), nI_add, nI_add, if_pos (ib_nI (by omega) (by decide)), if_pos (ib_nI (by omega) (by decide)), if_pos (ib_nI (by omega) (by decide)), nI_clamp (by omega), nI_clamp (by omega), b1, h27 _ (by omega), mx_nI (hB _ (by omega)) (hD _ (by omega)), nI_1]
    obtain ⟨w', f1, f2, f3⟩ := ih (j + 1) n (sI w 28 (f * 64 + j) (nI (max (B (f * 64 + j)) (D (g * 64 + j))))) (by omega) (by omega) (h27.ne (sI_ne (by decide))) (hw.set.con fun p hp => by
      by_cases a1 : p = f * 64 + j
      · rw [if_pos a1, if_pos (by omega), a1, show (f * 64 + j) % 64 = j by omega]
      · rw [if_neg a1]
        by_cases a3 : f = p / 64 ∧ p % 64 < j
        · rw [if_pos a3, if_pos (by omega)]
        · rw [if_neg a3, if_neg (by omega)])
    exact ⟨w', f1, fun c hc => by rw [f2 c hc, sI_ne hc], f3⟩
theorem bZ_13 {fr D : Nat → Nat} (hD : L13 D) : ∀ i, L13 (bZ fr D i) := by
  intro i
  induction i with
  | zero => exact hD
  | succ i ih =>
    intro p hp
    rw [bZ]
    split
    · omega
    · exact ih p hp
theorem bM_13 {fr to D : Nat → Nat} {r : Nat} (hD : L13 D) (ht : ∀ i, i < r → to i < 7) : ∀ i, i ≤ r → L13 (bM fr to D r i) := by
  intro i
  induction i with
  | zero => intro _; exact bZ_13 hD r
  | succ i ih =>
    intro hi p hp
    have h1 := ih (by omega) p hp
    have h2 := ht i (by omega)
    rw [bM]
    split
    · have := hD (to i * 64 + p % 64) (by omega)
      omega
    · exact h1
theorem zM_13 {fr to B : Nat → Nat} (hB : L13 B) : ∀ i, L13 (zM fr to B i) := by
  intro i
  induction i with
  | zero => exact hB
  | succ i ih =>
    intro p hp
    have h1 := ih p hp
    rw [zM]
    split
    · omega
    · exact h1
theorem oM_13 {fr to B : Nat → Nat} (hB : L13 B) : ∀ i, L13 (oM fr to B i) := by
  intro i
  induction i with
  | zero => exact hB
  | succ i ih =>
    intro p hp
    have h1 := ih p hp
    rw [oM]
    split
    · omega
    · exact h1
theorem him1_out (k : Wd → Option Wd) {r : Nat} {fr to : Nat → Nat} {D : Nat → Nat} (hD : L13 D) : ∀ (d i n : Nat) (w : Wd), i + d = r → d < n → RT w r fr to → AR w 27 D → AR w 28 (bM fr to D r i) → ∃ w', Pu_foldHim_L65 k n w (nI i) = k w' ∧ (∀ c, c ≠ 28 → w'.1 c = w.1 c) ∧ AR w' 28 (bM fr to D r r) := by
  intro d
  induction d with
  | zero =>
    intro i n w hj hn hR h27 hw
    obtain ⟨n, rfl⟩ : ∃ q, n = q + 1 := ⟨n - 1, by omega⟩
    have h12 := hR.2.1
    have : i = r := by omega
    subst this
    rw [Pu_foldHim_L65, hR.1, if_pos (nI_le (by omega) (by omega))]
    exact ⟨w, rfl, fun _ _ => rfl, hw⟩
  | succ d ih =>
    intro i n w hj hn hR h27 hw
    obtain ⟨n, rfl⟩ : ∃ q, n = q + 1 := ⟨n - 1, by omega⟩
    have h12 := hR.2.1
    obtain ⟨r1, r2, r3, r4⟩ := hR.2.2 i (by omega)
    rw [Pu_foldHim_L65, hR.1, if_neg (nI_ge (by omega) (by omega)), if_pos (ib_nI (by omega) (by decide)), if_pos (ib_nI (by omega) (by decide)), nI_clamp (by omega), r1, r2, show (64 : Int32) = nI 64 from rfl, pk_mul, pk_mul]
    obtain ⟨w1, a1, a2, a3⟩ := him1_in (Pu_foldHim_B139 (Pu_foldHim_L65 k n)) (nI i) r3 r4 (bM_13 hD (fun i hi => (hR.2.2 i hi).2.2.2) i (by omega)) hD 64 0 FU w rfl (by decide) h27 (hw.con fun p hp => by rw [if_neg (by omega)])
    rw [show Pu_foldHim_L96 _ FU w (nI i) (nI (fr i * 64)) (nI (to i * 64)) 0 = _ from a1]
    unfold Pu_foldHim_B139
    rw [nI_1]
    obtain ⟨w', f1, f2, f3⟩ := ih (i + 1) n w1 (by omega) (by omega) (hR.eq (a2 26 (by decide)) (a2 30 (by decide)) (a2 31 (by decide))) (h27.ne (a2 27 (by decide))) a3
    exact ⟨w', f1, fun c hc => by rw [f2 c hc, a2 c hc], f3⟩
theorem pu_him {w : Wd} {r : Nat} {fr to D : Nat → Nat} (hR : RT w r fr to) (hD : L13 D) (hw : AR w 27 D) : ∃ w', Pu_foldHim w = some w' ∧ (∀ c, c ≠ 28 → w'.1 c = w.1 c) ∧ AR w' 28 (bM fr to D r r) := by
  unfold Pu_foldHim
  have h12 := hR.2.1
  have e0 : ∀ c, c ≠ 28 → (cI w 27 0 28 0 448).1 c = w.1 c := fun c hc => cI_ne hc
  obtain ⟨w1, a1, a2, a3⟩ := him0_out Pu_foldHim_B63 D r 0 FU (cI w 27 0 28 0 448) (by omega) (by unfold FU; omega) (hR.eq (e0 26 (by decide)) (e0 30 (by decide)) (e0 31 (by decide))) hw.cpy
  rw [show Pu_foldHim_L18 _ FU (cI w 27 0 28 0 448) 0 = _ from a1]
  unfold Pu_foldHim_B63
  have e1 : ∀ c, c ≠ 28 → w1.1 c = w.1 c := fun c hc => by rw [a2 c hc, e0 c hc]
  obtain ⟨w', f1, f2, f3⟩ := him1_out Pu_foldHim_B145 hD r 0 FU w1 (by omega) (by unfold FU; omega) (hR.eq (e1 26 (by decide)) (e1 30 (by decide)) (e1 31 (by decide))) (hw.ne (e1 27 (by decide))) a3
  exact ⟨w', f1, fun c hc => by rw [f2 c hc, e1 c hc], f3⟩
theorem zero_in (k : Wd → Int32 → Int32 → Option Wd) (i : Int32) {h f g : Nat} (hh : h < 7) (hf : f < 7) (hg : g < 7) {B Z : Nat → Nat} (hB : L13 B) (hZ : L13 Z) : ∀ (d j n : Nat) (w : Wd), j + d = 8 → d < n → AR w 28 B → AR w 29 (fun p => if f = p / 8 % 8 ∧ (p / 64 < h ∨ p / 64 = h ∧ p % 8 < j) then min (Z p) (B (p / 64 * 64 + g * 8 + p % 8)) else Z p) → ∃ w', Pu_foldZero_L68 k n w i (nI h) (nI (h * 64 + f * 8)) (nI (h * 64 + g * 8)) (nI j) = k w' i (nI h) ∧ (∀ c, c ≠ 29 → w'.1 c = w.1 c) ∧ AR w' 29 (fun p => if f = p / 8 % 8 ∧ p / 64 < h + 1 then min (Z p) (B (p / 64 * 64 + g * 8 + p % 8)) else Z p) := by
  intro d
  induction d with
  | zero =>
    intro j n w hj hn h28 hw
    obtain ⟨n, rfl⟩ : ∃ q, n = q + 1 := ⟨n - 1, by omega⟩
    rw [Pu_foldZero_L68, if_pos (show (8 : Int32) ≤ nI j from nI_le (a := 8) (by omega) (by omega))]
    refine ⟨w, rfl, fun _ _ => rfl, hw.con fun p hp => ?_⟩
    by_cases e : f = p / 8 % 8 ∧ p / 64 < h + 1
    · rw [if_pos e, if_pos (by omega)]
    · rw [if_neg e, if_neg (by omega)]
  | succ d ih =>
    intro j n w hj hn h28 hw
    obtain ⟨n, rfl⟩ : ∃ q, n = q + 1 := ⟨n - 1, by omega⟩
    have b1 : w.1 29 (h * 64 + f * 8 + j) = nI (Z (h * 64 + f * 8 + j)) := by rw [hw _ (by omega)]; dsimp only; rw [if_neg (by omega)]
    rw [Pu_foldZero_L68, if_neg (show ¬ (8 : Int32) ≤ nI j from nI_ge (b := 8) (by omega) (by decide)), nI_add, nI_add, if_pos (ib_nI (by omega) (by decide)), if_pos (ib_nI (by omega) (by decide)), if_pos (ib_nI (by omega) (by decide)), nI_clamp (by omega), nI_clamp (by omega), b1, h28 _ (by omega), mn_nI (hZ _ (by omega)) (hB _ (by omega)), nI_1]
    obtain ⟨w', f1, f2, f3⟩ := ih (j + 1) n (sI w 29 (h * 64 + f * 8 + j) (nI (min (Z (h * 64 + f * 8 + j)) (B (h * 64 + g * 8 + j))))) (by omega) (by omega) (h28.ne (sI_ne (by decide))) (hw.set.con fun p hp => by
      by_cases a1 : p = h * 64 + f * 8 + j
      · rw [if_pos a1, if_pos (by omega), a1, show (h * 64 + f * 8 + j) / 64 * 64 + g * 8 + (h * 64 + f * 8 + j) % 8 = h * 64 + g * 8 + j by omega]
      · rw [if_neg a1]
        by_cases a3 : f = p / 8 % 8 ∧ (p / 64 < h ∨ p / 64 = h ∧ p % 8 < j)
        · rw [if_pos a3, if_pos (by omega)]
        · rw [if_neg a3, if_neg (by omega)])
    exact ⟨w', f1, fun c hc => by rw [f2 c hc, sI_ne hc], f3⟩
theorem zero_mid (k : Wd → Int32 → Option Wd) {i f g : Nat} (hi : i < 12) (hf : f < 7) (hg : g < 7) {B Z : Nat → Nat} (hB : L13 B) (hZ : L13 Z) : ∀ (d h n : Nat) (w : Wd), h + d = 7 → d < n → w.1 30 i = nI f → w.1 31 i = nI g → AR w 28 B → AR w 29 (fun p => if f = p / 8 % 8 ∧ p / 64 < h then min (Z p) (B (p / 64 * 64 + g * 8 + p % 8)) else Z p) → ∃ w', Pu_foldZero_L28 k n w (nI i) (nI h) = k w' (nI i) ∧ (∀ c, c ≠ 29 → w'.1 c = w.1 c) ∧ AR w' 29 (fun p => if f = p / 8 % 8 then min (Z p) (B (p / 64 * 64 + g * 8 + p % 8)) else Z p) := by
  intro d
  induction d with
  | zero =>
    intro h n w hj hn h30 h31 h28 hw
    obtain ⟨n, rfl⟩ : ∃ q, n = q + 1 := ⟨n - 1, by omega⟩
    rw [Pu_foldZero_L28, if_pos (show (7 : Int32) ≤ nI h from nI_le (a := 7) (by omega) (by omega))]
    refine ⟨w, rfl, fun _ _ => rfl, hw.con fun p hp => ?_⟩
    by_cases e : f = p / 8 % 8
    · rw [if_pos e, if_pos (by omega)]
    · rw [if_neg e, if_neg (by omega)]
  | succ d ih =>
    intro h n w hj hn h30 h31 h28 hw
    obtain ⟨n, rfl⟩ : ∃ q, n = q + 1 := ⟨n - 1, by omega⟩
    have e1 : nI h * (64 : Int32) + nI f * (8 : Int32) = nI (h * 64 + f * 8) := by rw [show (64 : Int32) = nI 64 from rfl, show (8 : Int32) = nI 8 from rfl, pk_mul, pk_mul, nI_add]
    have e2 : nI h * (64 : Int32) + nI g * (8 : Int32) = nI (h * 64 + g * 8) := by rw [show (64 : Int32) = nI 64 from rfl, show (8 : Int32) = nI 8 from rfl, pk_mul, pk_mul, nI_add]
    rw [Pu_foldZero_L28, if_neg (show ¬ (7 : Int32) ≤ nI h from nI_ge (b := 7) (by omega) (by decide)), if_pos (ib_nI (by omega) (by decide)), if_pos (ib_nI (by omega) (by decide)), nI_clamp (by omega), h30, h31, e1, e2]
    obtain ⟨w1, a1, a2, a3⟩ := zero_in (Pu_foldZero_B112 (Pu_foldZero_L28 k n)) (nI i) (h := h) (by omega) hf hg hB hZ 8 0 FU w rfl (by decide) h28 (hw.con fun p hp => by
      by_cases e : f = p / 8 % 8 ∧ p / 64 < h
      · rw [if_pos e, if_pos (by omega)]
      · rw [if_neg e, if_neg (by omega)])
    rw [show Pu_foldZero_L68 _ FU w (nI i) (nI h) (nI (h * 64 + f * 8)) (nI (h * 64 + g * 8)) 0 = _ from a1]
    unfold Pu_foldZero_B112
    rw [nI_1]
    obtain ⟨w', f1, f2, f3⟩ := ih (h + 1) n w1 (by omega) (by omega) (by rw [a2 30 (by decide)]; exact h30) (by rw [a2 31 (by decide)]; exact h31) (h28.ne (a2 28 (by decide))) a3
    exact ⟨w', f1, fun c hc => by rw [f2 c hc, a2 c hc], f3⟩
theorem zero_out (k : Wd → Option Wd) {r : Nat} {fr to : Nat → Nat} {B : Nat → Nat} (hB : L13 B) : ∀ (d i n : Nat) (w : Wd), i + d = r → d < n → RT w r fr to → AR w 28 B → AR w 29 (zM fr to B i) → ∃ w', Pu_foldZero_L18 k n w (nI i) = k w' ∧ (∀ c, c ≠ 29 → w'.1 c = w.1 c) ∧ AR w' 29 (zM fr to B r) := by
  intro d
  induction d with
  | zero =>
    intro i n w hj hn hR h28 hw
    obtain ⟨n, rfl⟩ : ∃ q, n = q + 1 := ⟨n - 1, by omega⟩
    have h12 := hR.2.1
    have : i = r := by omega
    subst this
    rw [Pu_foldZero_L18, hR.1, if_pos (nI_le (by omega) (by omega))]
    exact ⟨w, rfl, fun _ _ => rfl, hw⟩
  | succ d ih =>
    intro i n w hj hn hR h28 hw
    obtain ⟨n, rfl⟩ : ∃ q, n = q + 1 := ⟨n - 1, by omega⟩
    have h12 := hR.2.1
    obtain ⟨r1, r2, r3, r4⟩ := hR.2.2 i (by omega)
    rw [Pu_foldZero_L18, hR.1, if_neg (nI_ge (by omega) (by omega))]
    obtain ⟨w1, a1, a2, a3⟩ := zero_mid (Pu_foldZero_B118 (Pu_foldZero_L18 k n)) (i := i) (by omega) r3 r4 hB (zM_13 hB i) 7 0 FU w rfl (by decide) r1 r2 h28 (hw.con fun p hp => by rw [if_neg (by omega)])
    rw [show Pu_foldZero_L28 _ FU w (nI i) 0 = _ from a1]
    unfold Pu_foldZero_B118
    rw [nI_1]
    obtain ⟨w', f1, f2, f3⟩ := ih (i + 1) n w1 (by omega) (by omega) (hR.eq (a2 26 (by decide)) (a2 30 (by decide)) (a2 31 (by decide))) (h28.ne (a2 28 (by decide))) a3
    exact ⟨w', f1, fun c hc => by rw [f2 c hc, a2 c hc], f3⟩
theorem pu_zero {w : Wd} {r : Nat} {fr to B : Nat → Nat} (hR : RT w r fr to) (hB : L13 B) (hw : AR w 28 B) : ∃ w', Pu_foldZero w = some w' ∧ (∀ c, c ≠ 29 → w'.1 c = w.1 c) ∧ AR w' 29 (zM fr to B r) := by
  unfold Pu_foldZero
  have h12 := hR.2.1
  have e0 : ∀ c, c ≠ 29 → (cI w 28 0 29 0 448).1 c = w.1 c := fun c hc => cI_ne hc
  obtain ⟨w', f1, f2, f3⟩ := zero_out Pu_foldZero_B124 hB r 0 FU (cI w 28 0 29 0 448) (by omega) (by unfold FU; omega) (hR.eq (e0 26 (by decide)) (e0 30 (by decide)) (e0 31 (by decide))) (hw.ne (e0 28 (by decide))) hw.cpy
  exact ⟨w', f1, fun c hc => by rw [f2 c hc, e0 c hc], f3⟩
theorem one_in (k : Wd → Int32 → Option Wd) {i f g : Nat} (hi : i < 12) (hf : f < 7) (hg : g < 7) {Z O : Nat → Nat} (hZ : L13 Z) (hO : L13 O) : ∀ (d j n : Nat) (w : Wd), j + d = 56 → d < n → w.1 30 i = nI f → w.1 31 i = nI g → AR w 29 Z → AR w 27 (fun p => if f = p % 8 ∧ p < 8 * j then min (O p) (Z (p / 8 * 8 + g)) else O p) → ∃ w', Pu_foldOne_L28 k n w (nI i) (nI (8 * j)) = k w' (nI i) ∧ (∀ c, c ≠ 27 → w'.1 c = w.1 c) ∧ AR w' 27 (fun p => if f = p % 8 then min (O p) (Z (p / 8 * 8 + g)) else O p) := by
  intro d
  induction d with
  | zero =>
    intro j n w hj hn h30 h31 h29 hw
    obtain ⟨n, rfl⟩ : ∃ q, n = q + 1 := ⟨n - 1, by omega⟩
    rw [Pu_foldOne_L28, if_pos (show (448 : Int32) ≤ nI (8 * j) from nI_le (a := 448) (by omega) (by omega))]
    refine ⟨w, rfl, fun _ _ => rfl, hw.con fun p hp => ?_⟩
    by_cases e : f = p % 8
    · rw [if_pos e, if_pos (by omega)]
    · rw [if_neg e, if_neg (by omega)]
  | succ d ih =>
    intro j n w hj hn h30 h31 h29 hw
    obtain ⟨n, rfl⟩ : ∃ q, n = q + 1 := ⟨n - 1, by omega⟩
    have b1 : w.1 27 (8 * j + f) = nI (O (8 * j + f)) := by rw [hw _ (by omega)]; dsimp only; rw [if_neg (by omega)]
    rw [Pu_foldOne_L28, if_neg (show ¬ (448 : Int32) ≤ nI (8 * j) from nI_ge (b := 448) (by omega) (by decide)), if_pos (ib_nI (by omega) (by decide)), if_pos (ib_nI (by omega) (by decide)), if_pos (ib_nI (by omega) (by decide)), nI_clamp (by omega), h30, h31, nI_add, nI_add, if_pos (ib_nI (by omega) (by decide)), if_pos (ib_nI (by omega) (by decide)), if_pos (ib_nI (by omega) (by decide)), nI_clamp (by omega), nI_clamp (by omega), b1, h29 _ (by omega), mn_nI (hO _ (by omega)) (hZ _ (by omega)), show (8 : Int32) = nI 8 from rfl, nI_add]
    obtain ⟨w', f1, f2, f3⟩ := ih (j + 1) n (sI w 27 (8 * j + f) (nI (min (O (8 * j + f)) (Z (8 * j + g))))) (by omega) (by omega) (by rw [sI_ne (by decide)]; exact h30) (by rw [sI_ne (by decide)]; exact h31) (h29.ne (sI_ne (by decide))) (hw.set.con fun p hp => by
      by_cases a1 : p = 8 * j + f
      · rw [if_pos a1, if_pos (by omega), a1, show (8 * j + f) / 8 * 8 + g = 8 * j + g by omega]
      · rw [if_neg a1]
        by_cases a3 : f = p % 8 ∧ p < 8 * j
        · rw [if_pos a3, if_pos (by omega)]
        · rw [if_neg a3, if_neg (by omega)])
    exact ⟨w', f1, fun c hc => by rw [f2 c hc, sI_ne hc], f3⟩
theorem one_out (k : Wd → Option Wd) {r : Nat} {fr to : Nat → Nat} {Z : Nat → Nat} (hZ : L13 Z) : ∀ (d i n : Nat) (w : Wd), i + d = r → d < n → RT w r fr to → AR w 29 Z → AR w 27 (oM fr to Z i) → ∃ w', Pu_foldOne_L18 k n w (nI i) = k w' ∧ (∀ c, c ≠ 27 → w'.1 c = w.1 c) ∧ AR w' 27 (oM fr to Z r) := by
  intro d
  induction d with
  | zero =>
    intro i n w hj hn hR h28 hw
    obtain ⟨n, rfl⟩ : ∃ q, n = q + 1 := ⟨n - 1, by omega⟩
    have h12 := hR.2.1
    have : i = r := by omega
    subst this
    rw [Pu_foldOne_L18, hR.1, if_pos (nI_le (by omega) (by omega))]
    exact ⟨w, rfl, fun _ _ => rfl, hw⟩
  | succ d ih =>
    intro i n w hj hn hR h28 hw
    obtain ⟨n, rfl⟩ : ∃ q, n = q + 1 := ⟨n - 1, by omega⟩
    have h12 := hR.2.1
    obtain ⟨r1, r2, r3, r4⟩ := hR.2.2 i (by omega)
    rw [Pu_foldOne_L18, hR.1, if_neg (nI_ge (by omega) (by omega))]
    obtain ⟨w1, a1, a2, a3⟩ := one_in (Pu_foldOne_B83 (Pu_foldOne_L18 k n)) (i := i) (by omega) r3 r4 hZ (oM_13 hZ i) 56 0 FU w rfl (by decide) r1 r2 h28 (hw.con fun p hp => by rw [if_neg (by omega)])
    rw [show Pu_foldOne_L28 _ FU w (nI i) 0 = _ from a1]
    unfold Pu_foldOne_B83
    rw [nI_1]
    obtain ⟨w', f1, f2, f3⟩ := ih (i + 1) n w1 (by omega) (by omega) (hR.eq (a2 26 (by decide)) (a2 30 (by decide)) (a2 31 (by decide))) (h28.ne (a2 29 (by decide))) a3
    exact ⟨w', f1, fun c hc => by rw [f2 c hc, a2 c hc], f3⟩
theorem one_up (k : Wd → Option Wd) {O : Nat → Nat} (hO : L13 O) : ∀ (d j n : Nat) (w : Wd), j + d = 448 → d < n → AR w 27 (fun p => if p < j then min (O p + 1) 13 else O p) → ∃ w', Pu_foldOne_L91 k n w (nI j) = k w' ∧ (∀ c, c ≠ 27 → w'.1 c = w.1 c) ∧ AR w' 27 (fun p => min (O p + 1) 13) := by
  intro d
  induction d with
  | zero =>
    intro j n w hj hn h
    obtain ⟨n, rfl⟩ : ∃ q, n = q + 1 := ⟨n - 1, by omega⟩
    rw [Pu_foldOne_L91, if_pos (show (448 : Int32) ≤ nI j from nI_le (a := 448) (by omega) (by omega))]
    exact ⟨w, rfl, fun _ _ => rfl, h.con fun p hp => if_pos (by omega)⟩
  | succ d ih =>
    intro j n w hj hn h
    obtain ⟨n, rfl⟩ : ∃ q, n = q + 1 := ⟨n - 1, by omega⟩
    have hj1 := hO j (by omega)
    have b1 : w.1 27 j = nI (O j) := by rw [h _ (by omega)]; dsimp only; rw [if_neg (by omega)]
    have b2 : (if (13 : Int32) < nI (O j + 1) then (13 : Int32) else nI (O j + 1)) = nI (min (O j + 1) 13) := by
      by_cases e : 13 < O j + 1
      · rw [if_pos (show (13 : Int32) < nI (O j + 1) from nI_lt (a := 13) e (by omega)), Nat.min_eq_right (by omega)]; rfl
      · rw [if_neg (show ¬ (13 : Int32) < nI (O j + 1) from nI_nlt (a := 13) (by omega) (by omega)), Nat.min_eq_left (by omega)]
    rw [Pu_foldOne_L91, if_neg (show ¬ (448 : Int32) ≤ nI j from nI_ge (b := 448) (by omega) (by decide)), if_pos (ib_nI (by omega) (by decide)), if_pos (ib_nI (by omega) (by decide)), nI_clamp (by omega), b1, nI_1, nI_1, b2]
    obtain ⟨w', f1, f2, f3⟩ := ih (j + 1) n (sI w 27 j (nI (min (O j + 1) 13))) (by omega) (by omega) (h.set.con fun p hp => by
      by_cases e : p = j
      · rw [if_pos e, if_pos (by omega), e]
      · rw [if_neg e]
        by_cases e2 : p < j
        · rw [if_pos e2, if_pos (by omega)]
        · rw [if_neg e2, if_neg (by omega)])
    exact ⟨w', f1, fun c hc => by rw [f2 c hc, sI_ne hc], f3⟩
theorem pu_one {w : Wd} {r : Nat} {fr to Z : Nat → Nat} (hR : RT w r fr to) (hZ : L13 Z) (hw : AR w 29 Z) : ∃ w', Pu_foldOne w = some w' ∧ (∀ c, c ≠ 27 → w'.1 c = w.1 c) ∧ AR w' 27 (fun p => min (oM fr to Z r p + 1) 13) := by
  unfold Pu_foldOne
  have h12 := hR.2.1
  have e0 : ∀ c, c ≠ 27 → (cI w 29 0 27 0 448).1 c = w.1 c := fun c hc => cI_ne hc
  obtain ⟨w1, a1, a2, a3⟩ := one_out Pu_foldOne_B89 hZ r 0 FU (cI w 29 0 27 0 448) (by omega) (by unfold FU; omega) (hR.eq (e0 26 (by decide)) (e0 30 (by decide)) (e0 31 (by decide))) (hw.ne (e0 29 (by decide))) hw.cpy
  rw [show Pu_foldOne_L18 _ FU (cI w 29 0 27 0 448) 0 = _ from a1]
  unfold Pu_foldOne_B89
  obtain ⟨w', f1, f2, f3⟩ := one_up Pu_foldOne_B123 (oM_13 hZ r) 448 0 FU w1 (by omega) (by decide) (a3.con fun p hp => by rw [if_neg (by omega)])
  exact ⟨w', f1, fun c hc => by rw [f2 c hc, a2 c hc, e0 c hc], f3⟩
end Purs
