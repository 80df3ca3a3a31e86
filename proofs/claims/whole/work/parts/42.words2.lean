/-! FAULT: words -/
def sW : List (List Nat) := [[108, 97, 110, 100], [116, 114, 97, 105, 110], [115, 116, 97, 114, 116], [116, 105, 99, 107, 101, 116, 115], [115, 104, 111, 119], [115, 101, 101, 107, 101, 114]]
def sC (i j : Nat) : Nat := (sW.getD i []).getD j 0
def sQ : List Int64 := [145452, 14976596, 21563027, 21077790004, 769299, 609588403]
theorem sC_x : ∀ i, i < 6 → ∀ j, j < sLen.getD i 0 → sCh i (nI j) = nI (sC i j) := by decide +kernel
theorem sC_m : ∀ i, i < 6 → ∀ j, j < sLen.getD i 0 → (96 : Int32) + (Int64.toInt32 ((sQ.getD i 0 >>> (Int32.toInt64 ((5 : Int32) * nI j) &&& (63 : Int64))) &&& (31 : Int64))) = nI (sC i j) := by decide +kernel
theorem sC_lt : ∀ i, i < 6 → ∀ j, j < sLen.getD i 0 → sC i j < 256 := by decide +kernel
theorem sLen_7 : ∀ i, i < 6 → sLen.getD i 0 ≤ 7 := by decide
/-- letters j, .. of word i, d of them, stand from a on -/
def mtc (tx : Nat → Nat) (a i : Nat) : Nat → Nat → Bool
  | 0, _ => true
  | d + 1, j => decide (tx (a + j) = sC i j) && mtc tx a i d (j + 1)
def spl (tx : Nat → Nat) (a e i : Nat) : Bool := decide (e - a = sLen.getD i 0) && mtc tx a i (sLen.getD i 0) 0
section Words
variable {tn : Nat} {tx : Nat → Nat}
theorem re_sp2_L {x : Wd} (h : XT x tn tx) {a e i : Nat} (hi : i < 6) (he : e ≤ tn) (hl : e = a + sLen.getD i 0) (h5 : x.1 7 5 = nI a) : ∀ (d j n : Nat), j + d = sLen.getD i 0 → d < n → Re_spells_L20 i x (Re_spells_B49 i x) (Re_spells_B57 i x) n (nI j) = some (bi (mtc tx a i d j)) := by
  have h200 := h.1
  have h7 := sLen_7 i hi
  intro d
  induction d with
  | zero =>
    intro j n hj hn
    obtain ⟨n, rfl⟩ : ∃ q, n = q + 1 := ⟨n - 1, by omega⟩
    rw [Re_spells_L20, if_pos (nI_le (by omega) (by omega))]
    rfl
  | succ d ih =>
    intro j n hj hn
    obtain ⟨n, rfl⟩ : ∃ q, n = q + 1 := ⟨n - 1, by omega⟩
    have hb := (h.2.2 (a + j) (by omega)).1
    have hc := sC_lt i hi j (by omega)
    rw [Re_spells_L20, if_neg (nI_ge (by omega) (by omega)), h5, nI_add, te_byte h (by omega), Option.bind_some, if_pos (show a + j < tn by omega), if_pos (ib_nI (by omega) (by omega)), sC_x i hi j (by omega), nI_1, mtc]
    by_cases g : tx (a + j) = sC i j
    · rw [if_pos (by rw [g]), ih (j + 1) n (by omega) (by omega), decide_eq_true g, Bool.true_and]
    · rw [if_neg (fun q => g ((nI_eq (by omega) (by omega)).mp q)), decide_eq_false g, Bool.false_and]
      rfl
theorem re_spells {x : Wd} (h : XT x tn tx) {a e i : Nat} (hi : i < 6) (hae : a ≤ e) (he : e ≤ tn) (h5 : x.1 7 5 = nI a) (h6 : x.1 7 6 = nI e) : Re_spells i x = some (bi (spl tx a e i)) := by
  have h200 := h.1
  have h7 := sLen_7 i hi
  unfold Re_spells spl
  rw [h5, h6, pk_sub hae]
  by_cases g : e - a = sLen.getD i 0
  · rw [if_pos (by rw [g]), decide_eq_true g, Bool.true_and]
    exact re_sp2_L h hi he (by omega) h5 (sLen.getD i 0) 0 FU (by omega) (by unfold FU; omega)
  · rw [if_neg (fun q => g ((nI_eq (by omega) (by omega)).mp q)), decide_eq_false g, Bool.false_and]
    rfl
theorem mo_w_L {m : Wd} (h : MT m tn tx) {a i : Nat} (hi : i < 6) (h14 : m.1 37 14 = nI a) (k : Int32 → Option Int32) : ∀ (d j n : Nat) (b : Bool), (b = true → a + sLen.getD i 0 ≤ tn) → j + d = sLen.getD i 0 → d < n → Mo_isWord_L23 m k n (sQ.getD i 0) (nI (sLen.getD i 0)) (bi b) (nI j) = k (bi (b && mtc tx a i d j)) := by
  have h200 := h.1
  have h7 := sLen_7 i hi
  intro d
  induction d with
  | zero =>
    intro j n b hb hj hn
    obtain ⟨n, rfl⟩ : ∃ q, n = q + 1 := ⟨n - 1, by omega⟩
    rw [Mo_isWord_L23, mtc, Bool.and_true]
    cases b with
    | false => rw [bi_f, if_pos rfl]
    | true => rw [bi_t, if_neg one_ne, if_pos (nI_le (by omega) (by omega))]
  | succ d ih =>
    intro j n b hb hj hn
    obtain ⟨n, rfl⟩ : ∃ q, n = q + 1 := ⟨n - 1, by omega⟩
    rw [Mo_isWord_L23]
    cases b with
    | false => rw [bi_f, if_pos rfl]; rfl
    | true =>
      have hl := hb rfl
      obtain ⟨hb1, h40⟩ := h.2.2 (a + j) (by omega)
      have hc := sC_lt i hi j (by omega)
      rw [bi_t, if_neg one_ne, if_neg (nI_ge (by omega) (by omega)), h14, nI_add, if_pos (ib_nI (by omega) (by decide)), nI_clamp (by omega), h40, sC_m i hi j (by omega), nI_1]
      have e : (if nI (tx (a + j)) = nI (sC i j) then (1 : Int32) else 0) = bi (decide (tx (a + j) = sC i j)) := by
        by_cases g : tx (a + j) = sC i j
        · rw [if_pos (by rw [g]), decide_eq_true g]; rfl
        · rw [if_neg (fun q => g ((nI_eq (by omega) (by omega)).mp q)), decide_eq_false g]; rfl
      rw [e, ih (j + 1) n _ (fun _ => hl) (by omega) (by omega), mtc, Bool.true_and]
theorem mo_isWord {m : Wd} (h : MT m tn tx) {a e i : Nat} (hi : i < 6) (hae : a ≤ e) (he : e ≤ tn) (h14 : m.1 37 14 = nI a) (h15 : m.1 37 15 = nI e) : Mo_isWord m (sQ.getD i 0) (nI (sLen.getD i 0)) = some (bi (spl tx a e i)) := by
  have h200 := h.1
  have h7 := sLen_7 i hi
  unfold Mo_isWord spl
  have g1 : (if (m.1 37 15) - (m.1 37 14) = nI (sLen.getD i 0) then (1 : Int32) else 0) = bi (decide (e - a = sLen.getD i 0)) := by
    rw [h14, h15, pk_sub hae]
    by_cases g : e - a = sLen.getD i 0
    · rw [if_pos (by rw [g]), decide_eq_true g]; rfl
    · rw [if_neg (fun q => g ((nI_eq (by omega) (by omega)).mp q)), decide_eq_false g]; rfl
  rw [g1]
  have := mo_w_L h hi h14 (Mo_isWord_B76 m) (sLen.getD i 0) 0 FU (decide (e - a = sLen.getD i 0)) (fun q => by have := of_decide_eq_true q; omega) (by omega) (by unfold FU; omega)
  rw [show Mo_isWord_L23 m (Mo_isWord_B76 m) FU (sQ.getD i 0) (nI (sLen.getD i 0)) (bi (decide (e - a = sLen.getD i 0))) 0 = _ from this]
  unfold Mo_isWord_B76
  rw [if_pos (bi_and1 _)]
/-- which line: 1 .. 6, or 0 -/
def wdF (tx : Nat → Nat) (a e : Nat) : Nat := if spl tx a e 0 then 1 else if spl tx a e 1 then 2 else if spl tx a e 2 then 3 else if spl tx a e 3 then 4 else if spl tx a e 4 then 5 else if spl tx a e 5 then 6 else 0
theorem wdF_le (tx : Nat → Nat) (a e : Nat) : wdF tx a e ≤ 6 := by
  unfold wdF
  repeat' split
  all_goals omega
theorem re_word {x : Wd} (h : XT x tn tx) {a e : Nat} (hae : a ≤ e) (he : e ≤ tn) (h5 : x.1 7 5 = nI a) (h6 : x.1 7 6 = nI e) : Re_lineOfWord x = some (nI (wdF tx a e)) := by
  unfold Re_lineOfWord wdF
  rw [re_spells h (i := 0) (by decide) hae he h5 h6, re_spells h (i := 1) (by decide) hae he h5 h6, re_spells h (i := 2) (by decide) hae he h5 h6, re_spells h (i := 3) (by decide) hae he h5 h6, re_spells h (i := 4) (by decide) hae he h5 h6, re_spells h (i := 5) (by decide) hae he h5 h6]
  cases spl tx a e 0 <;> cases spl tx a e 1 <;> cases spl tx a e 2 <;> cases spl tx a e 3 <;> cases spl tx a e 4 <;> cases spl tx a e 5 <;> rfl
theorem mo_word {m : Wd} (h : MT m tn tx) {a e : Nat} (hae : a ≤ e) (he : e ≤ tn) (h14 : m.1 37 14 = nI a) (h15 : m.1 37 15 = nI e) : Mo_wordOf m = some (if wdF tx a e = 0 then -1 else nI (wdF tx a e - 1)) := by
  unfold Mo_wordOf wdF
  rw [show Mo_isWord m 145452 4 = _ from mo_isWord h (i := 0) (by decide) hae he h14 h15, show Mo_isWord m 14976596 5 = _ from mo_isWord h (i := 1) (by decide) hae he h14 h15, show Mo_isWord m 21563027 5 = _ from mo_isWord h (i := 2) (by decide) hae he h14 h15, show Mo_isWord m 21077790004 7 = _ from mo_isWord h (i := 3) (by decide) hae he h14 h15, show Mo_isWord m 769299 4 = _ from mo_isWord h (i := 4) (by decide) hae he h14 h15, show Mo_isWord m 609588403 6 = _ from mo_isWord h (i := 5) (by decide) hae he h14 h15]
  cases spl tx a e 0 <;> cases spl tx a e 1 <;> cases spl tx a e 2 <;> cases spl tx a e 3 <;> cases spl tx a e 4 <;> cases spl tx a e 5 <;> rfl
end Words
