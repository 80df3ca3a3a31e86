/-! FAULT: the fields of a line in both -/
section Flds
variable {tn : Nat} {tx : Nat → Nat}
/-- may v be field i of the line w, those ahead of it being f -/
def cF (S : Nat) (f : Nat → Nat) (v : Nat) : Nat → Nat → Prop
  | 0, _ => 2 ≤ v ∧ v ≤ 7
  | 1, 0 => v < S
  | 1, 1 => v < S ∧ v ≠ f 0
  | 1, 2 => 1 ≤ v ∧ v ≤ 4
  | 1, 3 => v < f 2
  | 1, 4 => 1 ≤ v ∧ v ≤ 2
  | 1, _ => v < 3
  | 2, _ => v < S
  | 3, _ => v ≤ 9
  | 4, _ => 1 ≤ v ∧ v ≤ 9
  | _, 0 => v < 2
  | _, _ => v < S
def spF (m0 m : Wd) (n : Nat) : Nat → Nat → Int32 × Int32 × Int32
  | 0, _ => (2, 7, -1)
  | 1, 0 => (0, m0.1 37 16 - 1, -1)
  | 1, 1 => (0, m0.1 37 16 - 1, m.1 41 (7 * n + 1))
  | 1, 2 => (1, 4, -1)
  | 1, 3 => (0, m.1 41 (7 * n + 1 + 2) - 1, -1)
  | 1, 4 => (1, 2, -1)
  | 1, _ => (0, 2, -1)
  | 2, _ => (0, m.1 37 16 - 1, -1)
  | 3, _ => (0, 9, -1)
  | 4, _ => (1, 9, -1)
  | _, 0 => (0, 1, -1)
  | _, _ => (0, m.1 37 16 - 1, -1)
def rdC (m0 : Wd) (n w : Nat) : Nat → Nat → Wd → Option (Int32 × Wd)
  | 0, _, m => some (1, m)
  | d + 1, i, m => Option.bind (Mo_reads m (nI i) (spF m0 m n w i).1 (spF m0 m n w i).2.1 (spF m0 m n w i).2.2) (fun q => if q.1 = 0 then some (0, q.2) else rdC m0 n w d (i + 1) q.2)
theorem wi_enum {P : Nat → Nat → Prop} (a : P 0 0) (b0 : P 1 0) (b1 : P 1 1) (b2 : P 1 2) (b3 : P 1 3) (b4 : P 1 4) (b5 : P 1 5) (c : P 2 0) (d0 : P 3 0) (d1 : P 3 1) (d2 : P 3 2) (e : P 4 0) (f0 : P 5 0) (f1 : P 5 1) {w i : Nat} (hw : w < 6) (hi : i < cnt w) : P w i := by
  match w, hw with
  | 0, _ =>
    have hi : i < 1 := hi
    match i, hi with
    | 0, _ => exact a
  | 1, _ =>
    have hi : i < 6 := hi
    match i, hi with
    | 0, _ => exact b0
    | 1, _ => exact b1
    | 2, _ => exact b2
    | 3, _ => exact b3
    | 4, _ => exact b4
    | 5, _ => exact b5
  | 2, _ =>
    have hi : i < 1 := hi
    match i, hi with
    | 0, _ => exact c
  | 3, _ =>
    have hi : i < 3 := hi
    match i, hi with
    | 0, _ => exact d0
    | 1, _ => exact d1
    | 2, _ => exact d2
  | 4, _ =>
    have hi : i < 1 := hi
    match i, hi with
    | 0, _ => exact e
  | 5, _ =>
    have hi : i < 2 := hi
    match i, hi with
    | 0, _ => exact f0
    | 1, _ => exact f1
theorem bd {P : Prop} [Decidable P] : bi (decide P) = 0 ↔ ¬ P := by rw [bi_0, decide_eq_false_iff_not]
theorem hs8 {x : Wd} {S v : Nat} (h : x.1 8 0 = nI S) (hS : S < 2 ^ 31) (hv : v < 2 ^ 31) : La_hasStation_8 x (nI v) = bi (decide (v < S)) := by
  unfold La_hasStation_8
  rw [if_neg (nI_pos hv), h]
  by_cases e : v < S
  · rw [if_neg (nI_ge e hS), decide_eq_true e]; rfl
  · rw [if_pos (nI_le (by omega) hv), decide_eq_false e]; rfl
theorem re_fits_c {x : Wd} {S v : Nat} {f : Nat → Nat} (hS : S ≤ 7) (h8 : x.1 8 0 = nI S) (hv : v ≤ 99) {w i : Nat} (hw : w < 6) (hi : i < cnt w) (hf : ∀ j, j < i → x.1 12 j = nI (f j) ∧ f j ≤ 99) : Re_fits x (nI (w + 1)) (nI i) (nI v) = 0 ↔ ¬ cF S f v w i := by
  have A : La_hasStation_8 x (nI v) = bi (decide (v < S)) := hs8 h8 (by omega) (by omega)
  have B : ∀ lo hi : Nat, lo < 2 ^ 31 → hi < 2 ^ 31 → Nt_within x (nI v) (nI lo) (nI hi) = bi (decide (lo ≤ v ∧ v ≤ hi)) := fun lo hi a b => wi_in (by omega) a b
  revert hf
  refine wi_enum (P := fun w i => (∀ j, j < i → x.1 12 j = nI (f j) ∧ f j ≤ 99) → (Re_fits x (nI (w + 1)) (nI i) (nI v) = 0 ↔ ¬ cF S f v w i)) ?_ ?_ ?_ ?_ ?_ ?_ ?_ ?_ ?_ ?_ ?_ ?_ ?_ ?_ hw hi
  · intro _
    unfold Re_fits
    rw [if_pos (show nI (0 + 1) = 1 from rfl), show Nt_within x (nI v) 2 7 = _ from B 2 7 (by decide) (by decide)]
    exact bd
  · intro _
    unfold Re_fits Re_fitsTrain
    rw [if_neg (show ¬ nI (1 + 1) = 1 by decide), if_pos (show nI (1 + 1) = 2 from rfl), if_pos (show nI 0 = 0 from rfl), A]
    exact bd
  · intro hf
    obtain ⟨h0, h9⟩ := hf 0 (by decide)
    unfold Re_fits Re_fitsTrain
    rw [if_neg (show ¬ nI (1 + 1) = 1 by decide), if_pos (show nI (1 + 1) = 2 from rfl), if_neg (show ¬ nI 1 = 0 by decide), if_pos (show nI 1 = 1 from rfl), A, h0]
    show _ ↔ ¬ (v < S ∧ v ≠ f 0)
    by_cases g : v < S
    · rw [decide_eq_true g, bi_t, if_neg one_ne]
      by_cases g2 : v = f 0
      · rw [if_pos (by rw [g2])]; exact ⟨fun _ q => q.2 g2, fun _ => rfl⟩
      · rw [if_neg (fun q => g2 ((nI_eq (by omega) (by omega)).mp q))]; exact ⟨fun q => absurd q one_ne, fun q => absurd ⟨g, g2⟩ q⟩
    · rw [decide_eq_false g, bi_f, if_pos rfl]; exact ⟨fun _ q => g q.1, fun _ => rfl⟩
  · intro _
    unfold Re_fits Re_fitsTrain
    rw [if_neg (show ¬ nI (1 + 1) = 1 by decide), if_pos (show nI (1 + 1) = 2 from rfl), if_neg (show ¬ nI 2 = 0 by decide), if_neg (show ¬ nI 2 = 1 by decide), if_pos (show nI 2 = 2 from rfl), show Nt_within x (nI v) 1 4 = _ from B 1 4 (by decide) (by decide)]
    exact bd
  · intro hf
    obtain ⟨h0, h9⟩ := hf 2 (by decide)
    unfold Re_fits Re_fitsTrain
    rw [if_neg (show ¬ nI (1 + 1) = 1 by decide), if_pos (show nI (1 + 1) = 2 from rfl), if_neg (show ¬ nI 3 = 0 by decide), if_neg (show ¬ nI 3 = 1 by decide), if_neg (show ¬ nI 3 = 2 by decide), if_pos (show nI 3 = 3 from rfl), h0]
    show _ ↔ ¬ (v < f 2)
    by_cases g : v < f 2
    · rw [if_neg (nI_ge g (by omega))]; exact ⟨fun q => absurd q one_ne, fun q => absurd g q⟩
    · rw [if_pos (nI_le (by omega) (by omega))]; exact ⟨fun _ => g, fun _ => rfl⟩
  · intro _
    unfold Re_fits Re_fitsTrain
    rw [if_neg (show ¬ nI (1 + 1) = 1 by decide), if_pos (show nI (1 + 1) = 2 from rfl), if_neg (show ¬ nI 4 = 0 by decide), if_neg (show ¬ nI 4 = 1 by decide), if_neg (show ¬ nI 4 = 2 by decide), if_neg (show ¬ nI 4 = 3 by decide), if_pos (show nI 4 = 4 from rfl), show Nt_within x (nI v) 1 2 = _ from B 1 2 (by decide) (by decide)]
    exact bd
  · intro _
    unfold Re_fits Re_fitsTrain
    rw [if_neg (show ¬ nI (1 + 1) = 1 by decide), if_pos (show nI (1 + 1) = 2 from rfl), if_neg (show ¬ nI 5 = 0 by decide), if_neg (show ¬ nI 5 = 1 by decide), if_neg (show ¬ nI 5 = 2 by decide), if_neg (show ¬ nI 5 = 3 by decide), if_neg (show ¬ nI 5 = 4 by decide)]
    show _ ↔ ¬ (v < 3)
    by_cases g : v < 3
    · rw [if_neg (show ¬ (3 : Int32) ≤ nI v from nI_ge (b := 3) g (by decide))]; exact ⟨fun q => absurd q one_ne, fun q => absurd g q⟩
    · rw [if_pos (show (3 : Int32) ≤ nI v from nI_le (a := 3) (by omega) (by omega))]; exact ⟨fun _ => g, fun _ => rfl⟩
  · intro _
    unfold Re_fits
    rw [if_neg (show ¬ nI (2 + 1) = 1 by decide), if_neg (show ¬ nI (2 + 1) = 2 by decide), if_pos (show nI (2 + 1) = 3 from rfl), A]
    exact bd
  all_goals first
    | (intro _
       unfold Re_fits
       rw [if_neg (show ¬ nI (3 + 1) = 1 by decide), if_neg (show ¬ nI (3 + 1) = 2 by decide), if_neg (show ¬ nI (3 + 1) = 3 by decide), if_pos (show nI (3 + 1) = 4 from rfl)]
       show _ ↔ ¬ (v ≤ 9)
       by_cases g : v ≤ 9
       · rw [if_neg (show ¬ (9 : Int32) < nI v from nI_nlt (a := 9) g (by decide))]; exact ⟨fun q => absurd q one_ne, fun q => absurd g q⟩
       · rw [if_pos (show (9 : Int32) < nI v from nI_lt (a := 9) (by omega) (by omega))]; exact ⟨fun _ => g, fun _ => rfl⟩)
    | (intro _
       unfold Re_fits
       rw [if_neg (show ¬ nI (4 + 1) = 1 by decide), if_neg (show ¬ nI (4 + 1) = 2 by decide), if_neg (show ¬ nI (4 + 1) = 3 by decide), if_neg (show ¬ nI (4 + 1) = 4 by decide), if_pos (show nI (4 + 1) = 5 from rfl), show Nt_within x (nI v) 1 9 = _ from B 1 9 (by decide) (by decide)]
       exact bd)
    | (intro _
       unfold Re_fits
       rw [if_neg (show ¬ nI (5 + 1) = 1 by decide), if_neg (show ¬ nI (5 + 1) = 2 by decide), if_neg (show ¬ nI (5 + 1) = 3 by decide), if_neg (show ¬ nI (5 + 1) = 4 by decide), if_neg (show ¬ nI (5 + 1) = 5 by decide), if_pos (show nI 0 = 0 from rfl)]
       unfold Nt_isSeeker
       rw [show Nt_within x (nI v) 0 1 = _ from B 0 1 (by decide) (by decide), bd]
       show _ ↔ ¬ (v < 2)
       omega)
    | (intro _
       unfold Re_fits
       rw [if_neg (show ¬ nI (5 + 1) = 1 by decide), if_neg (show ¬ nI (5 + 1) = 2 by decide), if_neg (show ¬ nI (5 + 1) = 3 by decide), if_neg (show ¬ nI (5 + 1) = 4 by decide), if_neg (show ¬ nI (5 + 1) = 5 by decide), if_neg (show ¬ nI 1 = 0 by decide), A]
       exact bd)
theorem lhe {v lo hi : Nat} (hv : v < 2 ^ 31) (hl : lo < 2 ^ 31) (hh : hi < 2 ^ 31) : (¬ nI v < nI lo ∧ ¬ nI hi < nI v ∧ ¬ nI v = (-1 : Int32)) ↔ lo ≤ v ∧ v ≤ hi :=
  ⟨fun q => ⟨Nat.le_of_not_lt fun h => q.1 (nI_lt h hl), Nat.le_of_not_lt fun h => q.2.1 (nI_lt h hv)⟩, fun q => ⟨nI_nlt q.1 hv, nI_nlt q.2 hh, nI_m1 hv⟩⟩
theorem lhn {v lo hi u : Nat} (hv : v < 2 ^ 31) (hl : lo < 2 ^ 31) (hh : hi < 2 ^ 31) (hu : u < 2 ^ 31) : (¬ nI v < nI lo ∧ ¬ nI hi < nI v ∧ ¬ nI v = nI u) ↔ lo ≤ v ∧ v ≤ hi ∧ v ≠ u :=
  ⟨fun q => ⟨Nat.le_of_not_lt fun h => q.1 (nI_lt h hl), Nat.le_of_not_lt fun h => q.2.1 (nI_lt h hv), fun h => q.2.2 (by rw [h])⟩, fun q => ⟨nI_nlt q.1 hv, nI_nlt q.2.1 hh, fun h => q.2.2 ((nI_eq hv hu).mp h)⟩⟩
theorem sp_c {m0 m : Wd} {S v n : Nat} {f : Nat → Nat} (hS2 : 2 ≤ S) (hS : S ≤ 7) (h0 : m0.1 37 16 = nI S) (h1 : m.1 37 16 = nI S) (hv : v ≤ 99) {w i : Nat} (hw : w < 6) (hi : i < cnt w) (hf : ∀ j, j < i → m.1 41 (7 * n + 1 + j) = nI (f j) ∧ f j ≤ 99 ∧ cF S f (f j) w j) : (¬ nI v < (spF m0 m n w i).1 ∧ ¬ (spF m0 m n w i).2.1 < nI v ∧ ¬ nI v = (spF m0 m n w i).2.2) ↔ cF S f v w i := by
  have hS1 : nI S - 1 = nI (S - 1) := by rw [show (1 : Int32) = nI 1 from rfl, pk_sub (by omega)]
  have st : (¬ nI v < (0 : Int32) ∧ ¬ nI S - 1 < nI v ∧ ¬ nI v = (-1 : Int32)) ↔ v < S := by
    rw [hS1, show (0 : Int32) = nI 0 from rfl, lhe (by omega) (by decide) (by omega)]
    omega
  revert hf
  refine wi_enum (P := fun w i => (∀ j, j < i → m.1 41 (7 * n + 1 + j) = nI (f j) ∧ f j ≤ 99 ∧ cF S f (f j) w j) → ((¬ nI v < (spF m0 m n w i).1 ∧ ¬ (spF m0 m n w i).2.1 < nI v ∧ ¬ nI v = (spF m0 m n w i).2.2) ↔ cF S f v w i)) ?_ ?_ ?_ ?_ ?_ ?_ ?_ ?_ ?_ ?_ ?_ ?_ ?_ ?_ hw hi
  · intro _
    exact lhe (v := v) (lo := 2) (hi := 7) (by omega) (by decide) (by decide)
  · intro _
    show (¬ nI v < (0 : Int32) ∧ ¬ m0.1 37 16 - 1 < nI v ∧ ¬ nI v = (-1 : Int32)) ↔ v < S
    rw [h0]
    exact st
  · intro hf
    obtain ⟨h0', h9, -⟩ := hf 0 (by decide)
    have h0' : m.1 41 (7 * n + 1) = nI (f 0) := h0'
    show (¬ nI v < (0 : Int32) ∧ ¬ m0.1 37 16 - 1 < nI v ∧ ¬ nI v = m.1 41 (7 * n + 1)) ↔ v < S ∧ v ≠ f 0
    rw [h0, h0', hS1, show (0 : Int32) = nI 0 from rfl, lhn (by omega) (by decide) (by omega) (by omega)]
    omega
  · intro _
    exact lhe (v := v) (lo := 1) (hi := 4) (by omega) (by decide) (by decide)
  · intro hf
    obtain ⟨h0', h9, hc⟩ := hf 2 (by decide)
    have hc : 1 ≤ f 2 ∧ f 2 ≤ 4 := hc
    show (¬ nI v < (0 : Int32) ∧ ¬ m.1 41 (7 * n + 1 + 2) - 1 < nI v ∧ ¬ nI v = (-1 : Int32)) ↔ v < f 2
    rw [h0', show nI (f 2) - 1 = nI (f 2 - 1) by rw [show (1 : Int32) = nI 1 from rfl, pk_sub (by omega)], show (0 : Int32) = nI 0 from rfl, lhe (by omega) (by decide) (by omega)]
    omega
  · intro _
    exact lhe (v := v) (lo := 1) (hi := 2) (by omega) (by decide) (by decide)
  · intro _
    show (¬ nI v < nI 0 ∧ ¬ nI 2 < nI v ∧ ¬ nI v = (-1 : Int32)) ↔ v < 3
    rw [lhe (by omega) (by decide) (by decide)]
    omega
  · intro _
    show (¬ nI v < (0 : Int32) ∧ ¬ m.1 37 16 - 1 < nI v ∧ ¬ nI v = (-1 : Int32)) ↔ v < S
    rw [h1]
    exact st
  · intro _
    show (¬ nI v < nI 0 ∧ ¬ nI 9 < nI v ∧ ¬ nI v = (-1 : Int32)) ↔ v ≤ 9
    rw [lhe (by omega) (by decide) (by decide)]
    omega
  · intro _
    show (¬ nI v < nI 0 ∧ ¬ nI 9 < nI v ∧ ¬ nI v = (-1 : Int32)) ↔ v ≤ 9
    rw [lhe (by omega) (by decide) (by decide)]
    omega
  · intro _
    show (¬ nI v < nI 0 ∧ ¬ nI 9 < nI v ∧ ¬ nI v = (-1 : Int32)) ↔ v ≤ 9
    rw [lhe (by omega) (by decide) (by decide)]
    omega
  · intro _
    exact lhe (v := v) (lo := 1) (hi := 9) (by omega) (by decide) (by decide)
  · intro _
    show (¬ nI v < nI 0 ∧ ¬ nI 1 < nI v ∧ ¬ nI v = (-1 : Int32)) ↔ v < 2
    rw [lhe (by omega) (by decide) (by decide)]
    omega
  · intro _
    show (¬ nI v < (0 : Int32) ∧ ¬ m.1 37 16 - 1 < nI v ∧ ¬ nI v = (-1 : Int32)) ↔ v < S
    rw [h1]
    exact st
theorem cF_con {S v : Nat} {f g : Nat → Nat} {w i : Nat} (hw : w < 6) (hi : i < cnt w) (e : ∀ j, j < i → g j = f j) (h : cF S f v w i) : cF S g v w i := by
  revert e h
  refine wi_enum (P := fun w i => (∀ j, j < i → g j = f j) → cF S f v w i → cF S g v w i) ?_ ?_ ?_ ?_ ?_ ?_ ?_ ?_ ?_ ?_ ?_ ?_ ?_ ?_ hw hi
  · exact fun _ h => h
  · exact fun _ h => h
  · intro e h
    have h : v < S ∧ v ≠ f 0 := h
    show v < S ∧ v ≠ g 0
    rw [e 0 (by decide)]
    exact h
  · exact fun _ h => h
  · intro e h
    have h : v < f 2 := h
    show v < g 2
    rw [e 2 (by decide)]
    exact h
  all_goals exact fun _ h => h
theorem fo (x : Wd) {w : Nat} (hw : w < 6) : Re_fieldsOf x (nI (w + 1)) = nI (cnt w) := by
  unfold Re_fieldsOf
  revert w
  decide
theorem flds {m0 : Wd} {S n w : Nat} (hS2 : 2 ≤ S) (hS : S ≤ 7) (hw : w < 6) (h0 : m0.1 37 16 = nI S) : ∀ (d i : Nat) (x m : Wd) (p : Nat) (f : Nat → Nat), i + d = cnt w → LSt tn tx x m p n → x.1 8 0 = nI S → m.1 37 16 = nI S → (∀ j, j < i → x.1 12 j = nI (f j) ∧ m.1 41 (7 * n + 1 + j) = nI (f j) ∧ f j ≤ 99 ∧ cF S f (f j) w j) →
    (∃ x' m' a, (∀ k63 k78 N, Re_readLine_L32 k63 k78 (N + d + 1) x (nI (w + 1)) (nI i) = k63 x') ∧ FX x x' ∧ x'.1 7 5 = m'.1 37 14 ∧ rdC m0 n w d i m = some (0, m') ∧ FM m m' ∧ m'.1 37 14 = nI a ∧ a ≤ 200)
    ∨ (∃ x' m' p' f', (∀ k63 k78 N, Re_readLine_L32 k63 k78 (N + d + 1) x (nI (w + 1)) (nI i) = k78 x' (nI (w + 1))) ∧ FX x x' ∧ rdC m0 n w d i m = some (1, m') ∧ FM m m' ∧ (∀ j, j < 7 * n + 1 → m'.1 41 j = m.1 41 j) ∧ LSt tn tx x' m' p' n ∧ ∀ j, j < cnt w → x'.1 12 j = nI (f' j) ∧ m'.1 41 (7 * n + 1 + j) = nI (f' j) ∧ f' j ≤ 99 ∧ cF S f' (f' j) w j) := by
  have hc6 := cnt_le w
  intro d
  induction d with
  | zero =>
    intro i x m p f hi hs h8 h16 hf
    right
    refine ⟨x, m, p, f, fun k63 k78 N => ?_, FX.rf x, rfl, FM.rf m, fun _ _ => rfl, hs, fun j hj => hf j (by omega)⟩
    rw [Re_readLine_L32, fo x hw, if_pos (nI_le (by omega) (by omega))]
  | succ d ih =>
    intro i x m p f hi hs h8 h16 hf
    have hic : i < cnt w := by omega
    have hc : ¬ Re_fieldsOf x (nI (w + 1)) ≤ nI i := by
      rw [fo x hw]
      exact nI_ge hic (by omega)
    have hsp : ∀ v, v ≤ 99 → ((¬ nI v < (spF m0 m n w i).1 ∧ ¬ (spF m0 m n w i).2.1 < nI v ∧ ¬ nI v = (spF m0 m n w i).2.2) ↔ cF S f v w i) := fun v hv => sp_c hS2 hS h0 h16 hv hw hic (fun j hj => (hf j hj).2)
    have hfit : ∀ (x1 : Wd) v, (∀ q, q ≠ 7 → x1.1 q = x.1 q) → v ≤ 99 → (Re_fits x1 (nI (w + 1)) (nI i) (nI v) = 0 ↔ ¬ (¬ nI v < (spF m0 m n w i).1 ∧ ¬ (spF m0 m n w i).2.1 < nI v ∧ ¬ nI v = (spF m0 m n w i).2.2)) := by
      intro x1 v e hv
      rw [hsp v hv]
      exact re_fits_c hS (by rw [e 8 (by decide)]; exact h8) hv hw hic (fun j hj => ⟨by rw [e 12 (by decide)]; exact (hf j hj).1, (hf j hj).2.2.1⟩)
    rcases fld hs (w := w + 1) (i := i) (by omega) hc (spF m0 m n w i).1 (spF m0 m n w i).2.1 (spF m0 m n w i).2.2 hfit with ⟨x', a1, a2, a3, a4⟩ | ⟨x', m', p', v, b1, b2, b3, b4, b5, b6, b7, b8, b9, b10, b11⟩
    · left
      have ha := tA_le tx hs.2.2.1
      have h200 := hs.1.1
      refine ⟨x', m, tA tn tx p, fun k63 k78 N => a1 k63 k78 (N + d + 1), a2, a3, ?_, FM.rf m, hs.2.2.2.2.1.2.1, by omega⟩
      rw [rdC, a4, Option.bind_some, if_pos rfl]
    · have cv : cF S f v w i := (hsp v b10).mp b11
      have hf' : ∀ j, j < i + 1 → x'.1 12 j = nI (if j = i then v else f j) ∧ m'.1 41 (7 * n + 1 + j) = nI (if j = i then v else f j) ∧ (if j = i then v else f j) ≤ 99 ∧ cF S (fun j => if j = i then v else f j) (if j = i then v else f j) w j := by
        intro j hj
        by_cases e : j = i
        · subst e
          rw [if_pos rfl]
          exact ⟨b3, b7, b10, cF_con hw hic (fun q hq => if_neg (by omega)) cv⟩
        · obtain ⟨c1, c2, c3, c4⟩ := hf j (by omega)
          rw [if_neg e]
          exact ⟨by rw [b4 j e]; exact c1, by rw [b8 _ (by omega)]; exact c2, c3, cF_con hw (by omega) (fun q hq => if_neg (by omega)) c4⟩
      rcases ih (i + 1) x' m' p' (fun j => if j = i then v else f j) (by omega) b9 (by rw [b2.1 8 (by decide) (by decide)]; exact h8) (by rw [b6.2 16 (by decide) (by decide) (by decide)]; exact h16) hf' with ⟨x2, m2, a, c1, c2, c3, c4, c5, c6, c7⟩ | ⟨x2, m2, p2, f2, c1, c2, c3, c4, c5, c6, c7⟩
      · left
        refine ⟨x2, m2, a, fun k63 k78 N => (b1 k63 k78 (N + d + 1)).trans (c1 k63 k78 N), b2.tr c2, c3, ?_, b6.tr c5, c6, c7⟩
        rw [rdC, b5, Option.bind_some, if_neg one_ne]
        exact c4
      · right
        refine ⟨x2, m2, p2, f2, fun k63 k78 N => (b1 k63 k78 (N + d + 1)).trans (c1 k63 k78 N), b2.tr c2, ?_, b6.tr c4, fun j hj => by rw [c5 j hj, b8 j (by omega)], c6, c7⟩
        rw [rdC, b5, Option.bind_some, if_neg one_ne]
        exact c3
end Flds
