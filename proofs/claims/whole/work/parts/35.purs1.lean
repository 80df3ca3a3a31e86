/-! CHASE: what the foldings mean -/
/-- one rides from a to b in a night -/
def Ev (T : Nat) (tr : Tr) (dy c : Int32) (a b : Nat) : Prop := (ngt T tr a dy c).testBit b = true
/-- caught within n days, from the day dy + a on -/
def Wn (T : Nat) (tr : Tr) (dy c : Int32) : Nat → Nat → Nat → Nat → Nat → Prop
  | 0, _, h, z, o => h = z ∨ h = o
  | n + 1, a, h, z, o => (h = z ∨ h = o) ∨ ∃ o' z', (o' = o ∨ Ev T tr (dy + nI a) c o o') ∧ (z' = z ∨ Ev T tr (dy + nI a) c z z') ∧ ∀ h', (Ev T tr (dy + nI a) c h h' ∨ h' = h ∧ ∀ b, ¬ Ev T tr (dy + nI a) c h b) → Wn T tr dy c n (a + 1) h' z' o'
theorem Wn_c {T : Nat} {tr : Tr} {dy c : Int32} {n a h z o : Nat} (e : h = z ∨ h = o) : Wn T tr dy c n a h z o := by
  cases n with
  | zero => exact e
  | succ n => exact Or.inl e
def Ed (r : Nat) (fr to : Nat → Nat) (E : Nat → Nat → Prop) : Prop := ∀ a b, (∃ i, i < r ∧ fr i = a ∧ to i = b) ↔ E a b
theorem bZ_no {fr D : Nat → Nat} {p : Nat} : ∀ r, (∀ i, i < r → ¬ fr i = p / 64) → bZ fr D r p = D p := by
  intro r
  induction r with
  | zero => intro _; rfl
  | succ r ih => intro h; rw [bZ, if_neg (h r (by omega)), ih fun i hi => h i (by omega)]
theorem bZ_yes {fr D : Nat → Nat} {p : Nat} : ∀ r, (∃ i, i < r ∧ fr i = p / 64) → bZ fr D r p = 0 := by
  intro r
  induction r with
  | zero => rintro ⟨i, h, -⟩; omega
  | succ r ih =>
    rintro ⟨i, h, e⟩
    rw [bZ]
    by_cases q : fr r = p / 64
    · rw [if_pos q]
    · rw [if_neg q]
      refine ih ⟨i, ?_, e⟩
      rcases Nat.lt_or_ge i r with g | g
      · exact g
      · have : i = r := by omega
        exact absurd (this ▸ e) q
theorem bM_le {fr to D : Nat → Nat} {r p v : Nat} : ∀ i, bM fr to D r i p ≤ v ↔ bZ fr D r p ≤ v ∧ ∀ j, j < i → fr j = p / 64 → D (to j * 64 + p % 64) ≤ v := by
  intro i
  induction i with
  | zero => exact ⟨fun h => ⟨h, fun j hj => by omega⟩, fun h => h.1⟩
  | succ i ih =>
    rw [bM]
    by_cases q : fr i = p / 64
    · rw [if_pos q, Nat.max_le, ih]
      constructor
      · rintro ⟨⟨a, b⟩, c⟩
        refine ⟨a, fun j hj e => ?_⟩
        by_cases g : j = i
        · rw [g]; exact c
        · exact b j (by omega) e
      · rintro ⟨a, b⟩
        exact ⟨⟨a, fun j hj e => b j (by omega) e⟩, b i (by omega) q⟩
    · rw [if_neg q, ih]
      constructor
      · rintro ⟨a, b⟩
        refine ⟨a, fun j hj e => ?_⟩
        by_cases g : j = i
        · exact absurd (g ▸ e) q
        · exact b j (by omega) e
      · rintro ⟨a, b⟩
        exact ⟨a, fun j hj e => b j (by omega) e⟩
theorem mn_le {a b v : Nat} : min a b ≤ v ↔ a ≤ v ∨ b ≤ v := by omega
theorem zM_le {fr to B : Nat → Nat} {p v : Nat} : ∀ i, zM fr to B i p ≤ v ↔ B p ≤ v ∨ ∃ j, j < i ∧ fr j = p / 8 % 8 ∧ B (p / 64 * 64 + to j * 8 + p % 8) ≤ v := by
  intro i
  induction i with
  | zero => exact ⟨Or.inl, fun h => h.elim id fun ⟨j, hj, _⟩ => absurd hj (by omega)⟩
  | succ i ih =>
    rw [zM]
    by_cases q : fr i = p / 8 % 8
    · rw [if_pos q, mn_le, ih]
      constructor
      · rintro ((a | ⟨j, h1, h2, h3⟩) | a)
        · exact Or.inl a
        · exact Or.inr ⟨j, by omega, h2, h3⟩
        · exact Or.inr ⟨i, by omega, q, a⟩
      · rintro (a | ⟨j, h1, h2, h3⟩)
        · exact Or.inl (Or.inl a)
        · by_cases g : j = i
          · rw [g] at h3; exact Or.inr h3
          · exact Or.inl (Or.inr ⟨j, by omega, h2, h3⟩)
    · rw [if_neg q, ih]
      constructor
      · rintro (a | ⟨j, h1, h2, h3⟩)
        · exact Or.inl a
        · exact Or.inr ⟨j, by omega, h2, h3⟩
      · rintro (a | ⟨j, h1, h2, h3⟩)
        · exact Or.inl a
        · by_cases g : j = i
          · exact absurd (g ▸ h2) q
          · exact Or.inr ⟨j, by omega, h2, h3⟩
theorem oM_le {fr to B : Nat → Nat} {p v : Nat} : ∀ i, oM fr to B i p ≤ v ↔ B p ≤ v ∨ ∃ j, j < i ∧ fr j = p % 8 ∧ B (p / 8 * 8 + to j) ≤ v := by
  intro i
  induction i with
  | zero => exact ⟨Or.inl, fun h => h.elim id fun ⟨j, hj, _⟩ => absurd hj (by omega)⟩
  | succ i ih =>
    rw [oM]
    by_cases q : fr i = p % 8
    · rw [if_pos q, mn_le, ih]
      constructor
      · rintro ((a | ⟨j, h1, h2, h3⟩) | a)
        · exact Or.inl a
        · exact Or.inr ⟨j, by omega, h2, h3⟩
        · exact Or.inr ⟨i, by omega, q, a⟩
      · rintro (a | ⟨j, h1, h2, h3⟩)
        · exact Or.inl (Or.inl a)
        · by_cases g : j = i
          · rw [g] at h3; exact Or.inr h3
          · exact Or.inl (Or.inr ⟨j, by omega, h2, h3⟩)
    · rw [if_neg q, ih]
      constructor
      · rintro (a | ⟨j, h1, h2, h3⟩)
        · exact Or.inl a
        · exact Or.inr ⟨j, by omega, h2, h3⟩
      · rintro (a | ⟨j, h1, h2, h3⟩)
        · exact Or.inl a
        · by_cases g : j = i
          · exact absurd (g ▸ h2) q
          · exact Or.inr ⟨j, by omega, h2, h3⟩
theorem bM_E {r : Nat} {fr to D : Nat → Nat} {E : Nat → Nat → Prop} (hE : Ed r fr to E) {p v : Nat} : bM fr to D r r p ≤ v ↔ ∀ h', (E (p / 64) h' ∨ h' = p / 64 ∧ ∀ b, ¬ E (p / 64) b) → D (h' * 64 + p % 64) ≤ v := by
  rw [bM_le]
  by_cases q : ∃ i, i < r ∧ fr i = p / 64
  · obtain ⟨i0, hi0, e0⟩ := q
    have e1 : E (p / 64) (to i0) := (hE _ _).mp ⟨i0, hi0, e0, rfl⟩
    rw [bZ_yes r ⟨i0, hi0, e0⟩]
    constructor
    · rintro ⟨-, b⟩ h' (g | ⟨-, g⟩)
      · obtain ⟨i, h1, h2, h3⟩ := (hE _ _).mpr g
        rw [← h3]; exact b i h1 h2
      · exact absurd e1 (g _)
    · intro b
      refine ⟨Nat.zero_le _, fun j hj e => b (to j) (Or.inl ((hE _ _).mp ⟨j, hj, e, rfl⟩))⟩
  · have q' : ∀ i, i < r → ¬ fr i = p / 64 := fun i hi e => q ⟨i, hi, e⟩
    have n : ∀ b, ¬ E (p / 64) b := fun b g => by
      obtain ⟨i, h1, h2, h3⟩ := (hE _ _).mpr g
      exact q' i h1 h2
    rw [bZ_no r q']
    have hp : p / 64 * 64 + p % 64 = p := by omega
    constructor
    · rintro ⟨a, -⟩ h' (g | ⟨g, -⟩)
      · exact absurd g (n _)
      · rw [g, hp]; exact a
    · intro b
      refine ⟨?_, fun j hj e => absurd e (q' j hj)⟩
      have := b (p / 64) (Or.inr ⟨rfl, n⟩)
      rwa [hp] at this
theorem zM_E {r : Nat} {fr to B : Nat → Nat} {E : Nat → Nat → Prop} (hE : Ed r fr to E) {p v : Nat} : zM fr to B r p ≤ v ↔ ∃ z', (z' = p / 8 % 8 ∨ E (p / 8 % 8) z') ∧ B (p / 64 * 64 + z' * 8 + p % 8) ≤ v := by
  rw [zM_le]
  have hp : p / 64 * 64 + p / 8 % 8 * 8 + p % 8 = p := by omega
  constructor
  · rintro (a | ⟨j, h1, h2, h3⟩)
    · exact ⟨_, Or.inl rfl, by rw [hp]; exact a⟩
    · exact ⟨to j, Or.inr ((hE _ _).mp ⟨j, h1, h2, rfl⟩), h3⟩
  · rintro ⟨z', g | g, a⟩
    · rw [g, hp] at a; exact Or.inl a
    · obtain ⟨i, h1, h2, h3⟩ := (hE _ _).mpr g
      exact Or.inr ⟨i, h1, h2, by rw [h3]; exact a⟩
theorem oM_E {r : Nat} {fr to B : Nat → Nat} {E : Nat → Nat → Prop} (hE : Ed r fr to E) {p v : Nat} : oM fr to B r p ≤ v ↔ ∃ o', (o' = p % 8 ∨ E (p % 8) o') ∧ B (p / 8 * 8 + o') ≤ v := by
  rw [oM_le]
  have hp : p / 8 * 8 + p % 8 = p := by omega
  constructor
  · rintro (a | ⟨j, h1, h2, h3⟩)
    · exact ⟨_, Or.inl rfl, by rw [hp]; exact a⟩
    · exact ⟨to j, Or.inr ((hE _ _).mp ⟨j, h1, h2, rfl⟩), h3⟩
  · rintro ⟨z', g | g, a⟩
    · rw [g, hp] at a; exact Or.inl a
    · obtain ⟨i, h1, h2, h3⟩ := (hE _ _).mpr g
      exact Or.inr ⟨i, h1, h2, by rw [h3]; exact a⟩
/-- the numbers of the class mean Wn -/
def TH (T : Nat) (tr : Tr) (dy c : Int32) (S H a : Nat) (D : Nat → Nat) : Prop := ∀ h z o v, h < S → z < 8 → o < 8 → v ≤ 12 → (D (h * 64 + z * 8 + o) ≤ v ↔ Wn T tr dy c (min v (H - a)) a h z o)
section Purs1
variable {S T : Nat} {tr : Tr}
theorem Ev_lt (hT : TOK S T tr) {dy c : Int32} {a b : Nat} (h : Ev T tr dy c a b) : b < S := by
  obtain ⟨t, h1, -, -, -, -, h6⟩ := (ngt_bit b).mp h
  rw [← h6]
  exact (hT.2.2.2 t h1).2.1
theorem th_step (hT : TOK S T tr) {dy c : Int32} {H a r : Nat} {fr to D : Nat → Nat} (ha : a < H) (hE : Ed r fr to (Ev T tr (dy + nI a) c)) (h : TH T tr dy c S H (a + 1) D) : TH T tr dy c S H a (fun p => if cgt p then 0 else min (oM fr to (zM fr to (bM fr to D r r) r) r p + 1) 13) := by
  have h7 := hT.2.1
  intro h0 z o v hh hz ho hv
  have p1 : (h0 * 64 + z * 8 + o) / 64 = h0 := by omega
  have p2 : (h0 * 64 + z * 8 + o) / 8 = h0 * 8 + z := by omega
  have p3 : (h0 * 64 + z * 8 + o) % 8 = o := by omega
  have hc : cgt (h0 * 64 + z * 8 + o) ↔ (h0 = z ∨ h0 = o) := by
    unfold cgt
    rw [p1, p2, p3]
    omega
  dsimp only
  by_cases g : h0 = z ∨ h0 = o
  · rw [if_pos (hc.mpr g)]
    exact ⟨fun _ => Wn_c g, fun _ => Nat.zero_le _⟩
  · rw [if_neg (fun q => g (hc.mp q))]
    cases v with
    | zero =>
      rw [Nat.zero_min, Wn]
      exact ⟨fun q => by omega, fun q => absurd q g⟩
    | succ u =>
      have e1 : min (u + 1) (H - a) = min u (H - (a + 1)) + 1 := by omega
      rw [e1, Wn]
      have e2 : min (oM fr to (zM fr to (bM fr to D r r) r) r (h0 * 64 + z * 8 + o) + 1) 13 ≤ u + 1 ↔ oM fr to (zM fr to (bM fr to D r r) r) r (h0 * 64 + z * 8 + o) ≤ u := by omega
      rw [e2, oM_E hE, p3, p2]
      have body : ∀ o' z', o' < 8 → z' < 8 → (bM fr to D r r (h0 * 64 + z' * 8 + o') ≤ u ↔ ∀ h', (Ev T tr (dy + nI a) c h0 h' ∨ h' = h0 ∧ ∀ b, ¬ Ev T tr (dy + nI a) c h0 b) → Wn T tr dy c (min u (H - (a + 1))) (a + 1) h' z' o') := by
        intro o' z' ho' hz'
        rw [bM_E hE, show (h0 * 64 + z' * 8 + o') / 64 = h0 by omega, show (h0 * 64 + z' * 8 + o') % 64 = z' * 8 + o' by omega]
        constructor
        · intro q h' w
          have hl : h' < S := by
            rcases w with w | ⟨w, -⟩
            · exact Ev_lt hT w
            · omega
          have := q h' w
          rw [← Nat.add_assoc] at this
          exact (h h' z' o' u hl hz' ho' (by omega)).mp this
        · intro q h' w
          have hl : h' < S := by
            rcases w with w | ⟨w, -⟩
            · exact Ev_lt hT w
            · omega
          rw [← Nat.add_assoc]
          exact (h h' z' o' u hl hz' ho' (by omega)).mpr (q h' w)
      have lt8 : ∀ y y', y < 8 → (y' = y ∨ Ev T tr (dy + nI a) c y y') → y' < 8 := by
        intro y y' hy w
        rcases w with w | w
        · omega
        · have := Ev_lt hT w; omega
      have mid : ∀ o', o' < 8 → (zM fr to (bM fr to D r r) r ((h0 * 8 + z) * 8 + o') ≤ u ↔ ∃ z', (z' = z ∨ Ev T tr (dy + nI a) c z z') ∧ bM fr to D r r (h0 * 64 + z' * 8 + o') ≤ u) := by
        intro o' ho'
        rw [zM_E hE, show ((h0 * 8 + z) * 8 + o') / 8 % 8 = z by omega, show ((h0 * 8 + z) * 8 + o') / 64 = h0 by omega, show ((h0 * 8 + z) * 8 + o') % 8 = o' by omega]
      constructor
      · rintro ⟨o', w1, w2⟩
        have l1 := lt8 o o' ho w1
        obtain ⟨z', w3, w4⟩ := (mid o' l1).mp w2
        exact Or.inr ⟨o', z', w1, w3, (body o' z' l1 (lt8 z z' hz w3)).mp w4⟩
      · rintro (w | ⟨o', z', w1, w3, w4⟩)
        · exact absurd w g
        · have l1 := lt8 o o' ho w1
          exact ⟨o', w1, (mid o' l1).mpr ⟨z', w3, (body o' z' l1 (lt8 z z' hz w3)).mpr w4⟩⟩
theorem th_end {dy c : Int32} {H : Nat} (h7 : S ≤ 7) : TH T tr dy c S H H (fun p => if cgt p then 0 else 13) := by
  intro h0 z o v hh hz ho hv
  have p1 : (h0 * 64 + z * 8 + o) / 64 = h0 := by omega
  have p2 : (h0 * 64 + z * 8 + o) / 8 = h0 * 8 + z := by omega
  have p3 : (h0 * 64 + z * 8 + o) % 8 = o := by omega
  have hc : cgt (h0 * 64 + z * 8 + o) ↔ (h0 = z ∨ h0 = o) := by
    unfold cgt
    rw [p1, p2, p3]
    omega
  dsimp only
  rw [Nat.sub_self, Nat.min_zero, Wn]
  by_cases g : h0 = z ∨ h0 = o
  · rw [if_pos (hc.mpr g)]
    exact ⟨fun _ => g, fun _ => Nat.zero_le _⟩
  · rw [if_neg (fun q => g (hc.mp q))]
    exact ⟨fun q => by omega, fun q => absurd q g⟩
/-- a running train -/
def rnT (tr : Tr) (day c : Int32) (t : Nat) : Prop := ¬ nI t = c ∧ tr t 4 = 1 ∧ rn tr t day = true
theorem gather_L (hT : TOK S T tr) (day c : Int32) (k : Wd → Option Wd) : ∀ (d t n : Nat) (w : Wd) (r : Nat) (fr to : Nat → Nat), TX w T tr → t + d = T → d < n → r ≤ t → RT w r fr to → Ed r fr to (fun a b => ∃ t', t' < t ∧ rnT tr day c t' ∧ tr t' 0 = a ∧ tr t' 1 = b) →
    ∃ w' r' fr' to', Pu_gather_L7 k n w day c (nI t) = k w' ∧ (∀ q, q ≠ 26 → q ≠ 30 → q ≠ 31 → w'.1 q = w.1 q) ∧ (∀ q, q ≠ 7 → w'.1 26 q = w.1 26 q) ∧ RT w' r' fr' to' ∧ Ed r' fr' to' (fun a b => ∃ t', t' < T ∧ rnT tr day c t' ∧ tr t' 0 = a ∧ tr t' 1 = b) := by
  have h12 := hT.2.2.1
  have h7 := hT.2.1
  intro d
  induction d with
  | zero =>
    intro t n w r fr to hX ht hn hr hR hE
    obtain ⟨n, rfl⟩ : ∃ q, n = q + 1 := ⟨n - 1, by omega⟩
    have : t = T := by omega
    subst this
    rw [Pu_gather_L7, hX.1, if_pos (nI_le (by omega) (by omega))]
    exact ⟨w, r, fr, to, rfl, fun _ _ _ _ => rfl, fun _ _ => rfl, hR, hE⟩
  | succ d ih =>
    intro t n w r fr to hX ht hn hr hR hE
    obtain ⟨n, rfl⟩ : ∃ q, n = q + 1 := ⟨n - 1, by omega⟩
    have htT : t < T := by omega
    obtain ⟨e0, e1, -⟩ := hT.2.2.2 t htT
    have no : ¬ rnT tr day c t → ∃ w' r' fr' to', Pu_gather_B75 (Pu_gather_L7 k n) w day c (nI t) (nI (tr t 0)) (nI (tr t 1)) 0 = k w' ∧ (∀ q, q ≠ 26 → q ≠ 30 → q ≠ 31 → w'.1 q = w.1 q) ∧ (∀ q, q ≠ 7 → w'.1 26 q = w.1 26 q) ∧ RT w' r' fr' to' ∧ Ed r' fr' to' (fun a b => ∃ t', t' < T ∧ rnT tr day c t' ∧ tr t' 0 = a ∧ tr t' 1 = b) := by
      intro hno
      unfold Pu_gather_B75
      rw [if_pos rfl, nI_1]
      refine ih (t + 1) n w r fr to hX (by omega) (by omega) (by omega) hR fun a b => ?_
      rw [hE a b]
      constructor
      · rintro ⟨t', a1, a2⟩; exact ⟨t', by omega, a2⟩
      · rintro ⟨t', a1, a2⟩
        by_cases g : t' = t
        · exact absurd (g ▸ a2.1) hno
        · exact ⟨t', by omega, a2⟩
    rw [Pu_gather_L7, hX.1, if_neg (nI_ge htT (by omega)), la_p0 hX hT htT, Option.bind_some, la_p1 hX hT htT, Option.bind_some]
    by_cases g1 : nI t = c
    · rw [if_pos g1]; exact no fun q => q.1 g1
    rw [if_neg g1, la_p4 hX hT htT, Option.bind_some]
    by_cases g2 : ¬ tr t 4 = 1
    · rw [if_neg (show ¬ nI (tr t 4) = 1 from fun q => g2 ((nI_eq (a := tr t 4) (b := 1) (by have := (hT.2.2.2 t htT).2.2.2.2.2.1; omega) (by decide)).mp q))]
      exact no fun q => g2 q.2.1
    have g2 : tr t 4 = 1 := Decidable.not_not.mp g2
    rw [g2, if_pos (show nI 1 = 1 from rfl), la_runs hX hT htT, Option.bind_some]
    cases g3 : rn tr t day with
    | false =>
      rw [bi_f, if_pos rfl]
      exact no fun q => absurd (g3.symm.trans q.2.2) (by decide)
    | true =>
      have yes : rnT tr day c t := ⟨g1, g2, g3⟩
      rw [bi_t, if_neg one_ne]
      unfold Pu_gather_B75 Pu_isStation
      obtain ⟨R1, R2, R3⟩ := hR
      rw [if_neg one_ne, show (6 : Int32) = nI 6 from rfl, within_in (by omega) (by decide), if_neg one_ne, within_in (by omega) (by decide), if_neg one_ne, R1, if_neg (show ¬ (12 : Int32) ≤ nI r from nI_ge (b := 12) (by omega) (by decide)), if_pos (ib_nI (by omega) (by decide)), nI_clamp (by omega)]
      have s1 : (sI w 30 r (nI (tr t 0))).1 26 7 = nI r := by rw [sI_ne (by decide)]; exact R1
      rw [s1, if_pos (ib_nI (by omega) (by decide)), nI_clamp (by omega)]
      have s2 : (sI (sI w 30 r (nI (tr t 0))) 31 r (nI (tr t 1))).1 26 7 = nI r := by rw [sI_ne (by decide)]; exact s1
      rw [s2, nI_1, nI_1]
      have hx : XEq w (sI (sI (sI w 30 r (nI (tr t 0))) 31 r (nI (tr t 1))) 26 7 (nI (r + 1))) := ((xe_sI w r _ (by omega)).tr (xe_sI _ r _ (by omega))).tr (xe_sI _ 7 _ (by omega))
      obtain ⟨w', r', fr', to', f1, f2, f3, f4, f5⟩ := ih (t + 1) n _ (r + 1) (fun i => if i = r then tr t 0 else fr i) (fun i => if i = r then tr t 1 else to i) (hX.eq hx.S) (by omega) (by omega) (by omega) ⟨sI_at, by omega, fun i hi => by
        have u1 : (sI (sI (sI w 30 r (nI (tr t 0))) 31 r (nI (tr t 1))) 26 7 (nI (r + 1))).1 30 = (sI w 30 r (nI (tr t 0))).1 30 := by rw [sI_ne (by decide), sI_ne (by decide)]
        have u2 : (sI (sI (sI w 30 r (nI (tr t 0))) 31 r (nI (tr t 1))) 26 7 (nI (r + 1))).1 31 = (sI (sI w 30 r (nI (tr t 0))) 31 r (nI (tr t 1))).1 31 := by rw [sI_ne (by decide)]
        rw [u1, u2]
        dsimp only
        by_cases g : i = r
        · rw [if_pos g, if_pos g, g, sI_at, sI_at]; exact ⟨rfl, rfl, by omega, by omega⟩
        · rw [if_neg g, if_neg g, sI_nk g, sI_nk g, sI_ne (show 31 ≠ 30 by decide)]; exact R3 i (by omega)⟩ (fun a b => by
        dsimp only
        constructor
        · rintro ⟨i, a1, a2, a3⟩
          by_cases g : i = r
          · rw [if_pos g] at a2 a3; exact ⟨t, by omega, yes, a2, a3⟩
          · rw [if_neg g] at a2 a3
            obtain ⟨t', b1, b2⟩ := (hE a b).mp ⟨i, by omega, a2, a3⟩
            exact ⟨t', by omega, b2⟩
        · rintro ⟨t', b1, b2⟩
          by_cases g : t' = t
          · rw [g] at b2; exact ⟨r, by omega, by rw [if_pos rfl]; exact b2.2.1, by rw [if_pos rfl]; exact b2.2.2⟩
          · obtain ⟨i, a1, a2, a3⟩ := (hE a b).mpr ⟨t', by omega, b2⟩
            exact ⟨i, by omega, by rw [if_neg (by omega)]; exact a2, by rw [if_neg (by omega)]; exact a3⟩)
      refine ⟨w', r', fr', to', f1, fun q q1 q2 q3 => by rw [f2 q q1 q2 q3, sI_ne q1, sI_ne q3, sI_ne q2], fun q hq => by rw [f3 q hq, sI_nk hq, sI_ne (by decide), sI_ne (by decide)], f4, f5⟩
theorem pu_gather {w : Wd} (hX : TX w T tr) (hT : TOK S T tr) (day c : Int32) : ∃ w' r fr to, Pu_gather w day c = some w' ∧ (∀ q, q ≠ 26 → q ≠ 30 → q ≠ 31 → w'.1 q = w.1 q) ∧ (∀ q, q ≠ 7 → w'.1 26 q = w.1 26 q) ∧ RT w' r fr to ∧ Ed r fr to (Ev T tr day c) := by
  have h12 := hT.2.2.1
  unfold Pu_gather
  obtain ⟨w', r', fr', to', f1, f2, f3, f4, f5⟩ := gather_L hT day c Pu_gather_B145 T 0 FU (sI w 26 7 0) 0 id id (hX.eq (xe_sI w 7 0 (by omega)).S) (by omega) (by unfold FU; omega) (Nat.le_refl _) ⟨sI_at, by omega, fun i hi => by omega⟩ (fun a b => ⟨fun ⟨i, hi, _⟩ => by omega, fun ⟨i, hi, _⟩ => by omega⟩)
  refine ⟨w', r', fr', to', f1, fun q q1 q2 q3 => by rw [f2 q q1 q2 q3, sI_ne q1], fun q hq => by rw [f3 q hq, sI_nk hq], f4, fun a b => ?_⟩
  rw [f5 a b]
  unfold Ev rnT
  rw [ngt_bit]
  constructor
  · rintro ⟨t, h1, ⟨h2, h3, h4⟩, h5, h6⟩; exact ⟨t, h1, h2, h3, h5, h4, h6⟩
  · rintro ⟨t, h1, h2, h3, h5, h4, h6⟩; exact ⟨t, h1, ⟨h2, h3, h4⟩, h5, h6⟩
end Purs1
