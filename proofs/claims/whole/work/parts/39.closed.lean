/-! CLOSED -/
section Closed
variable {S T : Nat} {tr : Tr}
def Qc (t cd ct : Nat) (v2 v3 : Int32) : Prop := (t = 0 ∧ cd = 13 ∧ ct = 0 ∧ v2 = -1 ∧ v3 = nI 100) ∨ (1 ≤ t ∧ v2 = nI ct ∧ (cd ≤ 12 ∧ v3 = nI cd ∨ cd = 13 ∧ v3 = nI 99))
theorem mo_mu {m : Wd} (hM : TM m T tr) (hT : TOK S T tr) (hS : m.1 37 6 = nI S) {z : Sc} (hZ : ScM m 0 z) (hO : ScOK S T tr z) (k : Wd → Int32 → Int32 → Int32 → Int32 → Option (Int32 × Wd)) (v1 v2 v3 v4 : Int32) : ∃ m' val, (if (m.1 38 3) = (1 : Int32) then (Mo_closed_B69 k m v1 v2 v3 v4 (0 : Int32)) else (Option.bind (Mo_chaseBy m v4) (fun q5 => (Mo_closed_B69 k (q5.2) v1 v2 v3 v4 (q5.1))))) = Mo_closed_B69 k m' v1 v2 v3 v4 (nI val) ∧ (∀ q, q ≠ 45 → m'.1 q = m.1 q) ∧ Gd T tr z.1 v4 0 z.2.1 (plc (z.2.2.2.2.2.2.1 0)) (plc (z.2.2.2.2.2.2.1 1)) val := by
  have mf := mo_chaseBy hM hT hS hZ hO v4
  obtain ⟨dy, he, aw, ca, rd, tk2, sk2, sn, my, wy, lt⟩ := z
  obtain ⟨d1, d2, d3, d4, d5, d6, d7, d8, d9, d10, d11⟩ := hZ
  obtain ⟨o1, o2, o3, o4, o5, o6, o7, o8, o9⟩ := hO
  dsimp only at mf ⊢
  have i3 : m.1 38 3 = bi ca := d4
  rw [i3]
  cases hca : ca with
  | true =>
    obtain ⟨r1, r2⟩ := o9 hca
    obtain ⟨g1, g2⟩ := caught_pl o1 hT.2.1 o4 r2
    rw [bi_t, if_pos rfl]
    exact ⟨m, 0, rfl, fun _ _ => rfl, gd_c g1⟩
  | false =>
    rw [bi_f, if_neg (show ¬ (0 : Int32) = 1 by decide)]
    obtain ⟨m', val, m1, m2, m3⟩ := mf
    rw [m1, Option.bind_some]
    exact ⟨m', val, rfl, m2, m3⟩
theorem closed_L (hT : TOK S T tr) {z : Sc} (hO : ScOK S T tr z) (k : Wd → Option Wd) (k' : Wd → Int32 → Int32 → Int32 → Option (Int32 × Wd)) (v1 : Int32) : ∀ (d t n : Nat) (x m : Wd) (cd ct : Nat) (v2 v3 : Int32), TX x T tr → TM m T tr → ScX x 13 z → ScM m 0 z → m.1 37 6 = nI S → x.1 26 8 = nI ct → x.1 26 9 = nI cd → cd ≤ 13 → Qc t cd ct v2 v3 → t + d = T → d < n →
    ∃ x' m' cd' ct' v2' v3', Pu_close_L13 k n x (nI t) = k x' ∧ Mo_closed_L40 k' n m v1 v2 v3 (nI t) = k' m' v1 v2' v3' ∧ XEq x x' ∧ MEq m m' ∧ x'.1 26 8 = nI ct' ∧ x'.1 26 9 = nI cd' ∧ cd' ≤ 13 ∧ Qc T cd' ct' v2' v3' := by
  have h12 := hT.2.2.1
  intro d
  induction d with
  | zero =>
    intro t n x m cd ct v2 v3 hX hM hZ hZ' hS e8 e9 hcd hQ ht hn
    obtain ⟨n, rfl⟩ : ∃ q, n = q + 1 := ⟨n - 1, by omega⟩
    have : t = T := by omega
    subst this
    rw [Pu_close_L13, Mo_closed_L40, hX.1, hM.1, if_pos (nI_le (by omega) (by omega)), if_pos (nI_le (by omega) (by omega))]
    exact ⟨x, m, cd, ct, v2, v3, rfl, rfl, XEq.rf x, MEq.rf m, e8, e9, hcd, hQ⟩
  | succ d ih =>
    intro t n x m cd ct v2 v3 hX hM hZ hZ' hS e8 e9 hcd hQ ht hn
    obtain ⟨n, rfl⟩ : ∃ q, n = q + 1 := ⟨n - 1, by omega⟩
    have htT : t < T := by omega
    rw [Pu_close_L13, Mo_closed_L40, hX.1, hM.1, if_neg (nI_ge htT (by omega)), if_neg (nI_ge htT (by omega)), e9]
    have hH : nI cd - 1 = nI (cd - 1) ∨ nI cd - 1 = -1 ∧ cd - 1 = 0 := by
      by_cases e : cd = 0
      · subst e; exact Or.inr ⟨by decide, rfl⟩
      · obtain ⟨q, rfl⟩ : ∃ q, cd = q + 1 := ⟨cd - 1, by omega⟩
        exact Or.inl (by rw [nI_pred]; rfl)
    obtain ⟨x1, v, p1, p2, p3, p4⟩ := pu_few hX hT hZ hO (nI t) (nI cd - 1) (H := cd - 1) (by omega) hH
    obtain ⟨m1, val, q1, q2, q3⟩ := mo_mu hM hT hS hZ' hO (Mo_closed_L40 k' n) v1 v2 v3 (nI t)
    rw [p1, Option.bind_some, q1]
    dsimp only
    obtain ⟨k1, k2⟩ := few_least (H := cd - 1) (W := fun n => Wn T tr z.1 (nI t) n 0 z.2.1 (plc (z.2.2.2.2.2.2.1 0)) (plc (z.2.2.2.2.2.2.1 1))) (by omega) p3 p4 q3.1 q3.2
    have hm := me_45 q2
    have e9' : x1.1 26 9 = nI cd := by rw [p2.2 9 (by decide)]; exact e9
    have e8' : x1.1 26 8 = nI ct := by rw [p2.2 8 (by decide)]; exact e8
    have hv99 := q3.1
    unfold Mo_closed_B69 Mo_closed_B83
    rw [nI_1, e9']
    have keepx : ∀ {y : Wd}, XEq x y → TX y T tr ∧ ScX y 13 z := fun hy => ⟨hX.eq hy.S, hZ.eq (hy.2.2.2.2.2.2.2.1 13 (by decide) (by decide)) (hy.2.2.2.2.2.2.2.1 14 (by decide) (by decide)) (hy.2.2.2.2.2.2.2.1 15 (by decide) (by decide)) (hy.2.2.2.2.2.2.2.1 16 (by decide) (by decide))⟩
    have hM1 := hM.eq hm.S
    have hZ1 : ScM m1 0 z := hZ'.eq (q2 38 (by decide))
    have hS1 : m1.1 37 6 = nI S := by rw [q2 37 (by decide)]; exact hS
    -- does this train take the place of the last one?
    by_cases g : val < cd
    · -- in both
      rw [if_pos (show val ≤ cd - 1 by omega)] at k1
      rw [k1, if_neg (nI_ge g (by omega))]
      have hx : XEq x (sI (sI x1 26 9 (nI val)) 26 8 (nI t)) := (p2.x.tr (xe_sI x1 9 _ (by omega))).tr (xe_sI _ 8 _ (by omega))
      have hv3 : ¬ v3 ≤ nI val := by
        rcases hQ with ⟨-, -, -, -, e⟩ | ⟨-, -, ⟨-, e⟩ | ⟨-, e⟩⟩
        · rw [e]; exact nI_ge (by omega) (by omega)
        · rw [e]; exact nI_ge g (by omega)
        · rw [e]; exact nI_ge (by omega) (by omega)
      rw [if_neg hv3, if_neg hv3]
      obtain ⟨x', m', cd', ct', v2', v3', f1, f2, f3, f4, f5, f6, f7, f8⟩ := ih (t + 1) n (sI (sI x1 26 9 (nI val)) 26 8 (nI t)) m1 val t (nI t) (nI val) (keepx hx).1 hM1 (keepx hx).2 hZ1 hS1 sI_at (by rw [sI_nk (by decide), sI_at]) (by omega) (Or.inr ⟨by omega, rfl, Or.inl ⟨by omega, rfl⟩⟩) (by omega) (by omega)
      exact ⟨x', m', cd', ct', v2', v3', f1, f2, hx.tr f3, hm.tr f4, f5, f6, f7, f8⟩
    · have hcv : cd ≤ v := by
        rw [k1]
        split <;> omega
      rw [if_pos (nI_le hcv (by omega))]
      have hQ' : Qc (t + 1) cd ct (if v3 ≤ nI val then v2 else nI t) (if v3 ≤ nI val then v3 else nI val) := by
        rcases hQ with ⟨a1, a2, a3, a4, e⟩ | ⟨a1, a2, ⟨a3, e⟩ | ⟨a3, e⟩⟩
        · have : val = 99 := by omega
          rw [e, if_neg (nI_ge (by omega) (by omega)), if_neg (nI_ge (by omega) (by omega)), this, a1, a3]
          exact Or.inr ⟨by omega, rfl, Or.inr ⟨a2, rfl⟩⟩
        · have hle : v3 ≤ nI val := by rw [e]; exact nI_le (by omega) (by omega)
          rw [if_pos hle, if_pos hle]
          exact Or.inr ⟨by omega, a2, Or.inl ⟨a3, e⟩⟩
        · have hle : v3 ≤ nI val := by rw [e]; exact nI_le (by omega) (by omega)
          rw [if_pos hle, if_pos hle]
          exact Or.inr ⟨by omega, a2, Or.inr ⟨a3, e⟩⟩
      obtain ⟨x', m', cd', ct', v2', v3', f1, f2, f3, f4, f5, f6, f7, f8⟩ := ih (t + 1) n x1 m1 cd ct _ _ (keepx p2.x).1 hM1 (keepx p2.x).2 hZ1 hS1 e8' e9' hcd hQ' (by omega) (by omega)
      exact ⟨x', m', cd', ct', v2', v3', f1, f2, p2.x.tr f3, hm.tr f4, f5, f6, f7, f8⟩
theorem r_closed {x m : Wd} (h : Rel x m) (a : Int32) : ∃ r x' m', Nt_closed x a = some (r, x') ∧ Mo_closed m a = some (r, m') ∧ Rel x' m' := by
  have h0 := h
  obtain ⟨S, T, s0, sh, tr, tk, sk, tn, tx, ln, lg, kb, z, hT, hL, hTx, hLg, hK, hZ, hZ', hO⟩ := h
  have h7 := hT.2.1
  have h12 := hT.2.2.1
  unfold Nt_closed Mo_closed
  rw [show Mo_in m a.toInt64 (0 : Int64) (1 : Int64) = Nt_within x a 0 1 from mo_within x m a 0 1]
  rcases wi_cases x a (n := 1) (by decide) with e | ⟨e, -⟩
  · rw [if_pos (show Nt_within x a 0 1 = 0 from e), if_pos (show Nt_within x a 0 1 = 0 from e)]; exact ⟨_, _, _, rfl, rfl, h0⟩
  rw [if_neg (fun q => one_ne ((show Nt_within x a 0 1 = 1 from e).symm.trans q)), if_neg (fun q => one_ne ((show Nt_within x a 0 1 = 1 from e).symm.trans q))]
  have core : ∃ r x' m', (if (x.1 3 1) = (0 : Int32) then some ((-1 : Int32), x) else (Option.bind (Pu_close x) (fun q6 => (if a = (0 : Int32) then some ((q6.1 26 8), q6) else some ((Nt_daysOrNone q6 (q6.1 26 9)), q6))))) = some (r, x') ∧ Mo_closed_B32 m a = some (r, m') ∧ Rel x' m' := by
    unfold Mo_closed_B32 Pu_close
    rw [hL.1.1]
    have hx : XEq x (sI (sI x 26 8 0) 26 9 13) := (xe_sI x 8 _ (by omega)).tr (xe_sI _ 9 _ (by omega))
    obtain ⟨x', m', cd', ct', v2', v3', f1, f2, f3, f4, f5, f6, f7, f8⟩ := closed_L hT hO Pu_close_B60 Mo_closed_B103 a T 0 FU (sI (sI x 26 8 0) 26 9 13) m 13 0 (-1) (nI 100) (hL.1.eq hx.S) hL.2.1 (hZ.eq (hx.2.2.2.2.2.2.2.1 13 (by decide) (by decide)) (hx.2.2.2.2.2.2.2.1 14 (by decide) (by decide)) (hx.2.2.2.2.2.2.2.1 15 (by decide) (by decide)) (hx.2.2.2.2.2.2.2.1 16 (by decide) (by decide))) hZ' hL.2.2.2.1 (by rw [sI_nk (by decide), sI_at]; rfl) (by rw [sI_at]; rfl) (by decide) (Or.inl ⟨rfl, rfl, rfl, rfl, rfl⟩) (by omega) (by unfold FU; omega)
    rw [show Mo_closed_L40 Mo_closed_B103 FU m a (-1) 100 0 = _ from f2]
    have hR : Rel x' m' := h0.eq (hx.tr f3) f4
    unfold Mo_closed_B103
    by_cases hT0 : T = 0
    · rw [if_pos (show nI T = 0 by rw [hT0]; rfl)]
      rcases f8 with ⟨-, -, -, a4, a5⟩ | ⟨a1, -⟩
      · rw [a4, a5, if_neg (show ¬ nI 100 < 99 by decide)]
        by_cases g : a = 0
        · rw [if_pos g]; exact ⟨_, _, _, rfl, rfl, h0.eq (XEq.rf x) f4⟩
        · rw [if_neg g]; exact ⟨_, _, _, rfl, rfl, h0.eq (XEq.rf x) f4⟩
      · omega
    · rw [if_neg (nI_ne0 (by omega) (by omega)), show Pu_close_L13 Pu_close_B60 FU (sI (sI x 26 8 0) 26 9 13) 0 = some x' from f1, Option.bind_some, f5, f6]
      rcases f8 with ⟨a1, -⟩ | ⟨-, a2, a3⟩
      · omega
      · by_cases g : a = 0
        · rw [if_pos g, if_pos g, a2]; exact ⟨_, _, _, rfl, rfl, hR⟩
        · rw [if_neg g, if_neg g]
          unfold Nt_daysOrNone
          rcases a3 with ⟨b1, b2⟩ | ⟨b1, b2⟩
          · rw [b2, if_pos (show nI cd' ≤ 12 from nI_le (b := 12) b1 (by decide)), if_pos (show nI cd' < 99 from nI_lt (b := 99) (by omega) (by decide))]; exact ⟨_, _, _, rfl, rfl, hR⟩
          · rw [b2, b1, if_neg (show ¬ nI 13 ≤ 12 by decide), if_neg (show ¬ nI 99 < 99 by decide)]; exact ⟨_, _, _, rfl, rfl, hR⟩
  obtain ⟨dy, he, aw, ca, rd, tk2, sk2, sn, my, wy, lt⟩ := z
  obtain ⟨c1, c2, c3, c4, c5, c6, c7, c8, c9, c10, c11⟩ := hZ
  obtain ⟨d1, d2, d3, d4, d5, d6, d7, d8, d9, d10, d11⟩ := hZ'
  obtain ⟨o1, o2, o3, o4, o5, o6, o7, o8, o9⟩ := hO
  have i8 : m.1 38 8 = sk2 0 := d7 0 (by decide)
  have i9 : m.1 38 9 = sk2 1 := d7 1 (by decide)
  have i2 : m.1 38 2 = bi aw := d3
  have i3 : m.1 38 3 = bi ca := d4
  unfold Mo_isNoChase
  rw [c3, i3, i2, i8, i9, sc_any c7, Option.bind_some]
  cases hca : ca with
  | true =>
    obtain ⟨r1, r2⟩ := o9 hca
    obtain ⟨g1, g2⟩ := caught_pl o1 h7 o4 r2
    rw [r1, bi_f, bi_t, if_pos rfl, if_neg g2, if_neg one_ne, if_neg one_ne]
    exact core
  | false =>
    rw [bi_f, if_pos (show (0 : Int32) = 0 from rfl)]
    cases haw : aw with
    | true =>
      rw [bi_t, if_neg one_ne, if_pos (show (1 : Int32) = 1 from rfl), if_neg one_ne]
      exact ⟨_, _, _, rfl, rfl, h0⟩
    | false =>
      rw [bi_f, if_pos rfl, if_neg (show ¬ (0 : Int32) = 1 by decide)]
      by_cases g : sk2 0 = -1 ∧ sk2 1 = -1
      · rw [if_pos g, if_pos rfl, if_pos g.1, if_pos g.2, if_neg one_ne]
        exact ⟨_, _, _, rfl, rfl, h0⟩
      · rw [if_neg g, if_neg one_ne]
        have e : (if sk2 0 = -1 then (if sk2 1 = -1 then (1 : Int32) else 0) else 0) = 0 := by
          by_cases g0 : sk2 0 = -1
          · rw [if_pos g0, if_neg (fun q => g ⟨g0, q⟩)]
          · rw [if_neg g0]
        rw [e, if_pos rfl]
        exact core
end Closed
