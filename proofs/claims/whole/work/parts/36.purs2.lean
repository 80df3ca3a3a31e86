/-! CHASE: the class's fewest days -/
/-- cells that pursuit leaves alone -/
def PX (w w' : Wd) : Prop := (∀ q, q < 26 ∨ 31 < q → w'.1 q = w.1 q) ∧ ∀ q, q ≠ 7 → w'.1 26 q = w.1 26 q
theorem PX.rf (w : Wd) : PX w w := ⟨fun _ _ => rfl, fun _ _ => rfl⟩
theorem PX.tr {a b c : Wd} (h : PX a b) (g : PX b c) : PX a c := ⟨fun q hq => (g.1 q hq).trans (h.1 q hq), fun q hq => (g.2 q hq).trans (h.2 q hq)⟩
theorem PX.x {w w' : Wd} (h : PX w w') : XEq w w' := ⟨by rw [h.1 0 (by omega)], by rw [h.1 1 (by omega)], h.1 2 (by omega), fun k _ => by rw [h.1 3 (by omega)], h.1 4 (by omega), h.1 5 (by omega), h.1 6 (by omega), fun c h1 h2 => h.1 c (by omega), by rw [h.1 32 (by omega)], h.1 33 (by omega)⟩
theorem PX.of {w w' : Wd} {c : Nat} (hc : 27 ≤ c ∧ c ≤ 31) (h : ∀ q, q ≠ c → w'.1 q = w.1 q) : PX w w' := ⟨fun q hq => h q (by omega), fun q _ => by rw [h 26 (by omega)]⟩
section Purs2
variable {S T : Nat} {tr : Tr}
theorem few_L (hT : TOK S T tr) (dy c : Int32) {H : Nat} (k : Wd → Option (Int32 × Wd)) : ∀ (a n : Nat) (w : Wd) (D : Nat → Nat), TX w T tr → w.1 13 1 = dy → AR w 27 D → L13 D → a ≤ H → a < 2 ^ 31 → TH T tr dy c S H a D → a < n → ∃ w' D', Pu_fewestDays_L22 k n w c (nI a + (-1)) = k w' ∧ PX w w' ∧ AR w' 27 D' ∧ L13 D' ∧ TH T tr dy c S H 0 D' := by
  intro a
  induction a with
  | zero =>
    intro n w D hX hd hA hL ha hb hH hn
    obtain ⟨n, rfl⟩ : ∃ q, n = q + 1 := ⟨n - 1, by omega⟩
    rw [Pu_fewestDays_L22, if_pos (by decide)]
    exact ⟨w, D, rfl, PX.rf w, hA, hL, hH⟩
  | succ a ih =>
    intro n w D hX hd hA hL ha hb hH hn
    obtain ⟨n, rfl⟩ : ∃ q, n = q + 1 := ⟨n - 1, by omega⟩
    rw [pk_m1, Pu_fewestDays_L22, if_neg (nI_pos (by omega)), hd]
    obtain ⟨w1, r, fr, to, a1, a2, a3, a4, a5⟩ := pu_gather hX hT (dy + nI a) c
    have p1 : PX w w1 := ⟨fun q hq => a2 q (by omega) (by omega) (by omega), a3⟩
    have A1 : AR w1 27 D := hA.ne (a2 27 (by decide) (by decide) (by decide))
    have ht := fun i hi => (a4.2.2 i hi).2.2.2
    obtain ⟨w2, b1, b2, b3⟩ := pu_him a4 hL A1
    have R2 : RT w2 r fr to := a4.eq (b2 26 (by decide)) (b2 30 (by decide)) (b2 31 (by decide))
    have B13 := bM_13 (fr := fr) hL ht r (Nat.le_refl _)
    obtain ⟨w3, c1, c2, c3⟩ := pu_zero R2 B13 b3
    have R3 : RT w3 r fr to := R2.eq (c2 26 (by decide)) (c2 30 (by decide)) (c2 31 (by decide))
    have Z13 := zM_13 (fr := fr) (to := to) B13 r
    obtain ⟨w4, d1, d2, d3⟩ := pu_one R3 Z13 c3
    obtain ⟨w5, e1, e2, e3⟩ := pu_mark d3
    rw [a1, Option.bind_some, b1, Option.bind_some, c1, Option.bind_some, d1, Option.bind_some, e1, Option.bind_some]
    have hp : PX w w5 := (((p1.tr (PX.of (c := 28) (by decide) b2)).tr (PX.of (c := 29) (by decide) c2)).tr (PX.of (c := 27) (by decide) d2)).tr (PX.of (c := 27) (by decide) e2)
    obtain ⟨w', D', f1, f2, f3, f4, f5⟩ := ih n w5 _ (hX.eq hp.x.S) (by rw [hp.1 13 (by omega)]; exact hd) e3 (fun p _ => by
      show (if cgt p then 0 else _) ≤ 13
      split
      · omega
      · exact Nat.min_le_right _ _) (by omega) (by omega) (th_step hT (by omega) a5 hH) (by omega)
    exact ⟨w', D', f1, hp.tr f2, f3, f4, f5⟩
theorem pu_place (w : Wd) {s : Int32} (hs : s = -1 ∨ ∃ q, q < S ∧ s = nI q) (h7 : S ≤ 7) : Pu_placeOf w s = nI (plc s) := by
  obtain ⟨a1, a2, a3⟩ := plc_lt hs h7
  unfold Pu_placeOf
  by_cases h1 : s = -1
  · rw [a2 h1, h1, if_pos (show Nt_within w (-1) 0 6 = 0 from rfl)]; rfl
  · obtain ⟨b1, b2⟩ := a3 h1
    have : Nt_within w s 0 6 = 1 := by rw [b2]; exact within_in (n := 6) (by omega) (by decide)
    rw [this, if_neg one_ne]; exact b2
theorem sub1 (x : Int32) : x - 1 = x + (-1) := Int32.sub_eq_add_neg x 1
theorem pu_few {w : Wd} (hX : TX w T tr) (hT : TOK S T tr) {z : Sc} (hZ : ScX w 13 z) (hO : ScOK S T tr z) (c a2 : Int32) {H : Nat} (hH : H ≤ 12) (ha : a2 = nI H ∨ a2 = -1 ∧ H = 0) : ∃ w' v, Pu_fewestDays w c a2 = some (nI v, w') ∧ PX w w' ∧ v ≤ 13 ∧ ∀ u, u ≤ 12 → (v ≤ u ↔ Wn T tr z.1 c (min u H) 0 z.2.1 (plc (z.2.2.2.2.2.2.1 0)) (plc (z.2.2.2.2.2.2.1 1))) := by
  obtain ⟨dy, he, aw, ca, rd, tk, sk, sn, my, wy, lt⟩ := z
  obtain ⟨c1, c2, c3, c4, c5, c6, c7, c8, c9, c10, c11⟩ := hZ
  obtain ⟨o1, o2, o3, o4, o5, o6, o7, o8, o9⟩ := hO
  have h7 := hT.2.1
  dsimp only
  unfold Pu_fewestDays Jd_fillI_27
  obtain ⟨w1, a1, a3, a4⟩ := fill27_L Jd_fillI_27_B20 13 448 0 FU w rfl (by decide) (fun p hp => by omega)
  rw [show Jd_fillI_27_L5 Jd_fillI_27_B20 FU w 13 0 448 = some w1 from a1, Option.bind_some]
  obtain ⟨w2, b1, b2, b3⟩ := pu_mark a4
  rw [b1, Option.bind_some]
  have p2 : PX w w2 := (PX.of (c := 27) (by decide) a3).tr (PX.of (c := 27) (by decide) b2)
  have L2 : L13 (fun p => if cgt p then 0 else 13) := fun p _ => by
    dsimp only
    split <;> omega
  obtain ⟨w3, D, f1, f2, f3, f4, f5⟩ := few_L hT dy c (H := H) Pu_fewestDays_B62 H FU w2 _ (hX.eq p2.x.S) (by rw [p2.1 13 (by omega)]; exact c1) b3 L2 (Nat.le_refl _) (by omega) (th_end h7) (by unfold FU; omega)
  have st : Pu_fewestDays_L22 Pu_fewestDays_B62 FU w2 c ((if (12 : Int32) < a2 then (12 : Int32) else a2) - 1) = Pu_fewestDays_B62 w3 := by
    rcases ha with rfl | ⟨rfl, rfl⟩
    · rw [if_neg (show ¬ (12 : Int32) < nI H from nI_nlt (a := 12) hH (by decide)), sub1]; exact f1
    · show Pu_fewestDays_L22 Pu_fewestDays_B62 (1999 + 1) w2 c ((if (12 : Int32) < -1 then (12 : Int32) else -1) - 1) = _
      have g1 : Pu_fewestDays_L22 Pu_fewestDays_B62 (1999 + 1) w2 c (nI 0 + (-1)) = Pu_fewestDays_B62 w3 := f1
      rw [Pu_fewestDays_L22, if_pos (by decide)] at g1
      rw [Pu_fewestDays_L22, if_pos (by decide)]
      exact g1
  rw [st]
  have p3 := p2.tr f2
  unfold Pu_fewestDays_B62
  have s0 := o4 0 (by decide)
  have s1 := o4 1 (by decide)
  have l0 := (plc_lt s0 h7).1
  have l1 := (plc_lt s1 h7).1
  have i1 : w3.1 13 2 = nI he := by rw [p3.1 13 (by omega)]; exact c2
  have i2 : w3.1 15 0 = sk 0 := by rw [p3.1 15 (by omega)]; exact c7 0 (by decide)
  have i3 : w3.1 15 1 = sk 1 := by rw [p3.1 15 (by omega)]; exact c7 1 (by decide)
  rw [i1, i2, i3, pu_place w3 s0 h7, pu_place w3 s1 h7, show (8 : Int32) = nI 8 from rfl, pk_mul, nI_add, pk_mul, nI_add, show (447 : Int32) = nI 447 from rfl, within_in (by omega) (by decide), if_neg one_ne, if_pos (ib_nI (by omega) (by decide)), nI_clamp (by omega), f3 _ (by omega)]
  refine ⟨w3, _, rfl, p3, f4 _ (by omega), fun u hu => ?_⟩
  have := f5 he (plc (sk 0)) (plc (sk 1)) u o1 l0 l1 hu
  rw [Nat.sub_zero, show he * 64 + plc (sk 0) * 8 + plc (sk 1) = (he * 8 + plc (sk 0)) * 8 + plc (sk 1) by omega] at this
  exact this
end Purs2
