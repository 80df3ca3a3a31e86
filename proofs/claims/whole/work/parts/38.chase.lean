/-! CHASE and CLOSED -/
section Chase
variable {S T : Nat} {tr : Tr}
theorem level_L (hT : TOK S T tr) (dy c : Int32) {a : Nat} (ha : a ≤ 12) (k : Wd → Int32 → Int32 → Option (Int32 × Wd)) : ∀ (d j n : Nat) (m : Wd), TM m T tr → m.1 37 6 = nI S → m.1 38 0 = dy → (a < 12 → ∀ h z o, h < S → z < 8 → o < 8 → MC T tr dy c m (a + 1) h z o) → j + d = 512 → d < n → (∀ h z o, h < S → z < 8 → o < 8 → 64 * h + 8 * z + o < j → MC T tr dy c m a h z o) → ∃ m', Mo_chaseBy_L9 k n m c (nI a) (nI j) = k m' c (nI a) ∧ (∀ q, q ≠ 45 → m'.1 q = m.1 q) ∧ ∀ h z o, h < S → z < 8 → o < 8 → MC T tr dy c m' a h z o := by
  have h7 := hT.2.1
  intro d
  induction d with
  | zero =>
    intro j n m hM hS hd hC hj hn hD
    obtain ⟨n, rfl⟩ : ∃ q, n = q + 1 := ⟨n - 1, by omega⟩
    rw [Mo_chaseBy_L9, if_pos (show (512 : Int32) ≤ nI j from nI_le (a := 512) (by omega) (by omega))]
    exact ⟨m, rfl, fun _ _ => rfl, fun h z o h1 h2 h3 => hD h z o h1 h2 h3 (by omega)⟩
  | succ d ih =>
    intro j n m hM hS hd hC hj hn hD
    obtain ⟨n, rfl⟩ : ∃ q, n = q + 1 := ⟨n - 1, by omega⟩
    have q1 : nI j / (8 : Int32) = nI (j / 8) := pk_div (d := 8) (by omega) (by decide) (by decide)
    have q2 : nI j - nI (j / 8) * (8 : Int32) = nI (j % 8) := by rw [← q1]; exact pk_rem (d := 8) (by omega) (by decide) (by decide)
    have q3 : nI (j / 8) - nI (j / 8) / (8 : Int32) * (8 : Int32) = nI (j / 8 % 8) := pk_rem (d := 8) (by omega) (by decide) (by decide)
    have q4 : nI j / (64 : Int32) = nI (j / 64) := pk_div (d := 64) (by omega) (by decide) (by decide)
    rw [Mo_chaseBy_L9, if_neg (show ¬ (512 : Int32) ≤ nI j from nI_ge (b := 512) (by omega) (by decide)), q4, q1, q2, q3, hS, nI_1]
    by_cases g : S ≤ j / 64
    · rw [if_pos (nI_le g (by omega))]
      exact ih (j + 1) n m hM hS hd hC (by omega) (by omega) fun h z o h1 h2 h3 h4 => hD h z o h1 h2 h3 (by omega)
    · rw [if_neg (nI_ge (by omega) (by omega))]
      obtain ⟨val, b1, b2⟩ := mo_best hM hT hS hd c (h := j / 64) (z := j / 8 % 8) (o := j % 8) ha (by omega) (by omega) (by omega) hC
      rw [b1, Option.bind_some, show (512 : Int32) * nI a + nI j = nI (512 * a + j) by rw [show (512 : Int32) = nI 512 from rfl, pk_mul, nI_add], if_pos (ib_nI (by omega) (by decide)), nI_clamp (by omega)]
      have hm : MEq m (sI m 45 (512 * a + j) (nI val)) := me_sI m _ (by omega)
      have keep : ∀ p, p ≠ 512 * a + j → (sI m 45 (512 * a + j) (nI val)).1 45 p = m.1 45 p := fun p hp => sI_nk hp
      obtain ⟨m', f1, f2, f3⟩ := ih (j + 1) n (sI m 45 (512 * a + j) (nI val)) (hM.eq hm.S) (by rw [sI_ne (by decide)]; exact hS) (by rw [sI_ne (by decide)]; exact hd) (fun ha' h z o h1 h2 h3 => by
        obtain ⟨v, v1, v2⟩ := hC ha' h z o h1 h2 h3
        exact ⟨v, by rw [keep _ (by omega)]; exact v1, v2⟩) (by omega) (by omega) (fun h z o h1 h2 h3 h4 => by
        by_cases e : 64 * h + 8 * z + o = j
        · have e1 : j / 64 = h := by omega
          have e2 : j / 8 % 8 = z := by omega
          have e3 : j % 8 = o := by omega
          rw [e1, e2, e3] at b2
          exact ⟨val, by rw [show 512 * a + 64 * h + 8 * z + o = 512 * a + j by omega, sI_at], b2⟩
        · obtain ⟨v, v1, v2⟩ := hD h z o h1 h2 h3 (by omega)
          exact ⟨v, by rw [keep _ (by omega)]; exact v1, v2⟩)
      exact ⟨m', f1, fun q hq => by rw [f2 q hq, sI_ne hq], f3⟩
theorem levels_L (hT : TOK S T tr) (dy c : Int32) (k : Wd → Option (Int32 × Wd)) : ∀ (a n : Nat) (m : Wd), TM m T tr → m.1 37 6 = nI S → m.1 38 0 = dy → a ≤ 13 → a < n → (a < 13 → ∀ h z o, h < S → z < 8 → o < 8 → MC T tr dy c m a h z o) → ∃ m', Mo_chaseBy_L3 k n m c (nI a + (-1)) = k m' ∧ (∀ q, q ≠ 45 → m'.1 q = m.1 q) ∧ (∀ h z o, h < S → z < 8 → o < 8 → MC T tr dy c m' 0 h z o ∨ a = 13 ∧ False) := by
  intro a
  induction a with
  | zero =>
    intro n m hM hS hd ha hn hC
    obtain ⟨n, rfl⟩ : ∃ q, n = q + 1 := ⟨n - 1, by omega⟩
    rw [Mo_chaseBy_L3, if_pos (by decide)]
    exact ⟨m, rfl, fun _ _ => rfl, fun h z o h1 h2 h3 => Or.inl (hC (by omega) h z o h1 h2 h3)⟩
  | succ a ih =>
    intro n m hM hS hd ha hn hC
    obtain ⟨n, rfl⟩ : ∃ q, n = q + 1 := ⟨n - 1, by omega⟩
    rw [pk_m1, Mo_chaseBy_L3, if_neg (nI_pos (by omega))]
    obtain ⟨m1, a1, a2, a3⟩ := level_L hT dy c (a := a) (by omega) (Mo_chaseBy_B68 (Mo_chaseBy_L3 k n)) 512 0 FU m hM hS hd (fun h => hC (by omega)) rfl (by decide) (fun h z o _ _ _ h4 => by omega)
    rw [show Mo_chaseBy_L9 _ FU m c (nI a) 0 = _ from a1]
    unfold Mo_chaseBy_B68
    obtain ⟨m', f1, f2, f3⟩ := ih n m1 (by unfold TM at hM ⊢; rw [a2 37 (by decide), a2 42 (by decide)]; exact hM) (by rw [a2 37 (by decide)]; exact hS) (by rw [a2 38 (by decide)]; exact hd) (by omega) (by omega) (fun _ => a3)
    exact ⟨m', f1, fun q hq => by rw [f2 q hq, a2 q hq], fun h z o h1 h2 h3 => Or.inl ((f3 h z o h1 h2 h3).elim id fun q => q.2.elim)⟩
theorem me_45 {m m' : Wd} (h : ∀ q, q ≠ 45 → m'.1 q = m.1 q) : MEq m m' := ⟨by rw [h 37 (by decide)], by rw [h 37 (by decide)], by rw [h 37 (by decide)], by rw [h 37 (by decide)], by rw [h 37 (by decide)], by rw [h 37 (by decide)], h 38 (by decide), h 39 (by decide), h 40 (by decide), h 42 (by decide), h 43 (by decide), h 44 (by decide), h 46 (by decide)⟩
theorem plc_m {s : Int32} (hs : s = -1 ∨ ∃ q, q < S ∧ s = nI q) (h7 : S ≤ 7) : (if s = -1 then (7 : Int32) else s) = nI (plc s) := by
  obtain ⟨a1, a2, a3⟩ := plc_lt hs h7
  by_cases h1 : s = -1
  · rw [if_pos h1, a2 h1]; rfl
  · rw [if_neg h1]; exact (a3 h1).2
theorem mo_chaseBy {m : Wd} (hM : TM m T tr) (hT : TOK S T tr) (hS : m.1 37 6 = nI S) {z : Sc} (hZ : ScM m 0 z) (hO : ScOK S T tr z) (c : Int32) : ∃ m' val, Mo_chaseBy m c = some (nI val, m') ∧ (∀ q, q ≠ 45 → m'.1 q = m.1 q) ∧ Gd T tr z.1 c 0 z.2.1 (plc (z.2.2.2.2.2.2.1 0)) (plc (z.2.2.2.2.2.2.1 1)) val := by
  obtain ⟨dy, he, aw, ca, rd, tk, sk, sn, my, wy, lt⟩ := z
  obtain ⟨c1, c2, c3, c4, c5, c6, c7, c8, c9, c10, c11⟩ := hZ
  obtain ⟨o1, o2, o3, o4, o5, o6, o7, o8, o9⟩ := hO
  have h7 := hT.2.1
  dsimp only
  unfold Mo_chaseBy
  obtain ⟨m', f1, f2, f3⟩ := levels_L hT dy c Mo_chaseBy_B74 13 FU m hM hS c1 (by decide) (by decide) (fun h => by omega)
  rw [show Mo_chaseBy_L3 Mo_chaseBy_B74 FU m c 12 = _ from f1]
  unfold Mo_chaseBy_B74 Mo_chaseBy_B97 Mo_chaseBy_B121
  have s0 := o4 0 (by decide)
  have s1 := o4 1 (by decide)
  have l0 := (plc_lt s0 h7).1
  have l1 := (plc_lt s1 h7).1
  obtain ⟨val, v1, v2, v3⟩ := (f3 he (plc (sk 0)) (plc (sk 1)) o1 l0 l1).elim id fun q => q.2.elim
  have i1 : m'.1 38 1 = nI he := by rw [f2 38 (by decide)]; exact c2
  have i2 : m'.1 38 8 = sk 0 := by rw [f2 38 (by decide)]; exact c7 0 (by decide)
  have i3 : m'.1 38 9 = sk 1 := by rw [f2 38 (by decide)]; exact c7 1 (by decide)
  rw [i1, i2, i3, plc_m s0 h7, plc_m s1 h7, show Mo_placeOf m' 0 (nI he) (nI (plc (sk 0))) (nI (plc (sk 1))) = _ from mo_place m' 0 he _ _, if_pos (ib_nI (by omega) (by decide)), nI_clamp (by omega), v1]
  refine ⟨m', val, ?_, f2, v2, v3⟩
  by_cases e : val < 99
  · rw [if_pos (show nI val < 99 from nI_lt (b := 99) e (by decide))]
  · rw [if_neg (show ¬ nI val < 99 from nI_nlt (b := 99) (by omega) (by omega)), show val = 99 by omega]; rfl
/-- the class's number and the reference's -/
theorem few_least {W : Nat → Prop} {H v val : Nat} (hH : H ≤ 12) (h1 : v ≤ 13) (h2 : ∀ u, u ≤ 12 → (v ≤ u ↔ W (min u H))) (h3 : val ≤ 99) (h4 : ∀ u, u < 99 → (val ≤ u ↔ W (min u 12))) : v = (if val ≤ H then val else 13) ∧ (val ≤ 12 ∨ val = 99) := by
  constructor
  · by_cases e : val ≤ H
    · rw [if_pos e]
      have a : v ≤ val := (h2 val (by omega)).mpr (by
        have := (h4 val (by omega)).mp (Nat.le_refl _)
        rw [show min val 12 = min val H by omega] at this
        exact this)
      have b : val ≤ v := (h4 v (by omega)).mpr (by
        have := (h2 v (by omega)).mp (Nat.le_refl _)
        rw [show min v H = min v 12 by omega] at this
        exact this)
      omega
    · rw [if_neg e]
      by_cases f : v ≤ 12
      · have := (h2 v f).mp (Nat.le_refl _)
        have b : val ≤ min v H := (h4 (min v H) (by omega)).mpr (by rw [show min (min v H) 12 = min v H by omega]; exact this)
        omega
      · omega
  · by_cases e : val = 99
    · exact Or.inr e
    · left
      have a := (h4 val (by omega)).mp (Nat.le_refl _)
      have b : val ≤ min val 12 := (h4 (min val 12) (by omega)).mpr (by rw [show min (min val 12) 12 = min val 12 by omega]; exact a)
      omega
theorem sc_any {x : Wd} {sk : Nat → Int32} (h : ∀ i, i < 2 → x.1 15 i = sk i) : Sc_anySeeks x = some (if sk 0 = -1 ∧ sk 1 = -1 then 0 else 1) := by
  unfold Sc_anySeeks
  rw [sc_seek h, Option.bind_some]
  by_cases h0 : sk 0 = -1
  · by_cases h1 : sk 1 = -1
    · rw [if_pos h0, if_pos h1, if_pos (by decide), if_pos ⟨h0, h1⟩]
    · rw [if_pos h0, if_neg h1, if_neg (by decide), if_neg (fun q => h1 q.2)]
  · by_cases h1 : sk 1 = -1
    · rw [if_neg h0, if_pos h1, if_neg (by decide), if_neg (fun q => h0 q.1)]
    · rw [if_neg h0, if_neg h1, if_neg (by decide), if_neg (fun q => h0 q.1)]
theorem caught_pl {he : Nat} {sk : Nat → Int32} (hh : he < S) (h7 : S ≤ 7) (hs : ∀ i, i < 2 → sk i = -1 ∨ ∃ s, s < S ∧ sk i = nI s) (h : sk 0 = nI he ∨ sk 1 = nI he) : (he = plc (sk 0) ∨ he = plc (sk 1)) ∧ ¬ (sk 0 = -1 ∧ sk 1 = -1) := by
  have P : plc (nI he) = he := by
    unfold plc
    rw [if_neg (nI_m1 (by omega)), nI_clamp (by omega)]
  rcases h with h | h
  · rw [h, P]; exact ⟨Or.inl rfl, fun q => nI_m1 (by omega) q.1⟩
  · rw [h, P]; exact ⟨Or.inr rfl, fun q => nI_m1 (by omega) q.2⟩
theorem gd_c {dy c : Int32} {h z o : Nat} (e : h = z ∨ h = o) : Gd T tr dy c 0 h z o 0 := ⟨by omega, fun _ _ => ⟨fun _ => Wn_c e, fun _ => Nat.zero_le _⟩⟩
theorem r_chase {x m : Wd} (h : Rel x m) : ∃ r x' m', Nt_chase x = some (r, x') ∧ Mo_chase m = some (r, m') ∧ Rel x' m' := by
  have h0 := h
  obtain ⟨S, T, s0, sh, tr, tk, sk, tn, tx, ln, lg, kb, z, hT, hL, hTx, hLg, hK, hZ, hZ', hO⟩ := h
  have h7 := hT.2.1
  have pf := pu_few hL.1 hT hZ hO (-1) 12 (H := 12) (by decide) (Or.inl rfl)
  have mf := mo_chaseBy hL.2.1 hT hL.2.2.2.1 hZ' hO (-1)
  obtain ⟨dy, he, aw, ca, rd, tk2, sk2, sn, my, wy, lt⟩ := z
  obtain ⟨c1, c2, c3, c4, c5, c6, c7, c8, c9, c10, c11⟩ := hZ
  obtain ⟨d1, d2, d3, d4, d5, d6, d7, d8, d9, d10, d11⟩ := hZ'
  obtain ⟨o1, o2, o3, o4, o5, o6, o7, o8, o9⟩ := hO
  dsimp only at pf mf
  obtain ⟨x', v, p1, p2, p3, p4⟩ := pf
  have i8 : m.1 38 8 = sk2 0 := d7 0 (by decide)
  have i9 : m.1 38 9 = sk2 1 := d7 1 (by decide)
  have i2 : m.1 38 2 = bi aw := d3
  have i3 : m.1 38 3 = bi ca := d4
  unfold Nt_chase Mo_chase Mo_isNoChase
  rw [c3, i3, i2, i8, i9, sc_any c7, Option.bind_some]
  cases hca : ca with
  | true =>
    obtain ⟨r1, r2⟩ := o9 hca
    obtain ⟨g1, g2⟩ := caught_pl o1 h7 o4 r2
    rw [r1, bi_f, bi_t, if_pos rfl, if_neg g2, if_neg one_ne, p1, Option.bind_some, if_pos rfl]
    have hv := (few_least (H := 12) (W := fun n => Wn T tr dy (-1) n 0 he (plc (sk2 0)) (plc (sk2 1))) (by decide) p3 p4 (gd_c (c := -1) (dy := dy) (T := T) (tr := tr) g1).1 (by
      have := (gd_c (c := -1) (dy := dy) (T := T) (tr := tr) g1).2
      exact this)).1
    rw [if_pos (by omega)] at hv
    subst hv
    exact ⟨_, _, _, rfl, rfl, h0.eq p2.x (MEq.rf m)⟩
  | false =>
    rw [bi_f, if_neg (show ¬ (0 : Int32) = 1 by decide)]
    cases haw : aw with
    | true =>
      rw [bi_t, if_neg one_ne, if_pos (show (1 : Int32) = 1 from rfl), if_neg one_ne]
      exact ⟨_, _, _, rfl, rfl, h0⟩
    | false =>
      rw [bi_f, if_pos rfl, if_neg (show ¬ (0 : Int32) = 1 by decide)]
      by_cases g : sk2 0 = -1 ∧ sk2 1 = -1
      · rw [if_pos g, if_pos rfl, if_pos g.1, if_pos g.2, if_neg one_ne]
        exact ⟨_, _, _, rfl, rfl, h0⟩
      · rw [if_neg g, if_neg one_ne]
        have e : (if sk2 0 = -1 then (if sk2 1 = -1 then (1 : Int32) else 0) else 0) = 0 := by
          by_cases g0 : sk2 0 = -1
          · rw [if_pos g0, if_neg (fun q => g ⟨g0, q⟩)]
          · rw [if_neg g0]
        obtain ⟨m', val, m1, m2, m3⟩ := mf
        rw [e, if_pos rfl, m1, Option.bind_some, p1, Option.bind_some]
        dsimp only
        obtain ⟨k1, k2⟩ := few_least (H := 12) (W := fun n => Wn T tr dy (-1) n 0 he (plc (sk2 0)) (plc (sk2 1))) (by decide) p3 p4 m3.1 m3.2
        unfold Nt_daysOrNone
        have hR : Rel x' m' := h0.eq p2.x (me_45 m2)
        rcases k2 with k2 | k2
        · rw [if_pos k2] at k1
          rw [k1, if_pos (show nI val ≤ 12 from nI_le (b := 12) k2 (by decide)), if_neg (show ¬ nI val = 99 from fun q => by have := (nI_eq (a := val) (b := 99) (by omega) (by decide)).mp q; omega)]
          exact ⟨_, _, _, rfl, rfl, hR⟩
        · rw [if_neg (by omega)] at k1
          rw [k1, k2, if_neg (show ¬ nI 13 ≤ 12 by decide), if_pos (show nI 99 = 99 from rfl)]
          exact ⟨_, _, _, rfl, rfl, hR⟩
end Chase
