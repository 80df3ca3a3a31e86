/-! JUDGED -/
section Judge
variable {S T : Nat} {tr : Tr}
theorem ri_spend {w : Wd} {pu : Nat → Nat} (h : ∀ k, k < 3 → w.1 34 k = nI (pu k)) (h9 : ∀ k, k < 3 → pu k ≤ 9) {k : Nat} (hk : k < 3) : Ri_spend w (nI k) = if pu k = 0 then some (0, w) else some (1, sI w 34 k (nI (pu k - 1))) := by
  have := h9 k hk
  unfold Ri_spend
  rw [show (2 : Int32) = nI 2 from rfl, within_in (by omega) (by decide), if_neg one_ne, if_pos (ib_nI hk (by decide)), nI_clamp (by omega), h k hk]
  by_cases hz : pu k = 0
  · rw [if_pos hz, if_neg (show ¬ (1 : Int32) ≤ nI (pu k) from by rw [hz]; decide)]
  · rw [if_neg hz, if_pos (show (1 : Int32) ≤ nI (pu k) from nI_le (a := 1) (by omega) (by omega))]
    obtain ⟨q, hq⟩ : ∃ q, pu k = q + 1 := ⟨pu k - 1, by omega⟩
    rw [hq, nI_pred, Nat.add_sub_cancel, if_pos (ib_nI hk (by decide)), if_pos (ib_nI hk (by decide))]
theorem judge_L (hT : TOK S T tr) {ln : Nat} {lg : Nat → Nat} (hl : ln ≤ 12) (hlg : ∀ j, j < ln → lg j < T) : ∀ (d j n : Nat) (x m : Wd) (s : Nat) (dy : Int32) (pu : Nat → Nat), TX x T tr → TM m T tr → x.1 32 2 = nI ln → m.1 37 22 = nI ln → (∀ j, j < ln → x.1 33 j = nI (lg j) ∧ m.1 46 j = nI (lg j)) → (∀ k, k < 3 → x.1 34 k = nI (pu k) ∧ m.1 47 k = nI (pu k) ∧ pu k ≤ 9) → s < S → j + d = ln → d < n →
    ∃ r x' m', Ri_firstImpossible_L29 Ri_firstImpossible_B82 Ri_firstImpossible_B114 n x (nI s) dy (nI j) = some (r, x') ∧ Mo_judge_L34 Mo_judge_B85 Mo_judge_B132 n m (nI s) dy (nI j) = some (r, m') ∧ XEq x x' ∧ MEq m m' := by
  have h12 := hT.2.2.1
  have h7 := hT.2.1
  intro d
  induction d with
  | zero =>
    intro j n x m s dy pu hX hM e1 e2 e3 e4 hs hj hn
    obtain ⟨n, rfl⟩ : ∃ q, n = q + 1 := ⟨n - 1, by omega⟩
    rw [Ri_firstImpossible_L29, Mo_judge_L34, e1, e2, if_pos (nI_le (by omega) (by omega)), if_pos (nI_le (by omega) (by omega))]
    exact ⟨_, _, _, rfl, rfl, XEq.rf x, MEq.rf m⟩
  | succ d ih =>
    intro j n x m s dy pu hX hM e1 e2 e3 e4 hs hj hn
    obtain ⟨n, rfl⟩ : ∃ q, n = q + 1 := ⟨n - 1, by omega⟩
    have hjl : j < ln := by omega
    have ht := hlg j hjl
    obtain ⟨f1, f2⟩ := e3 j hjl
    obtain ⟨-, a1, -, -, -, a4, a5⟩ := hT.2.2.2 _ ht
    obtain ⟨p1, p2, p3⟩ := e4 _ a5
    rw [Ri_firstImpossible_L29, Mo_judge_L34, e1, e2, if_neg (nI_ge hjl (by omega)), if_neg (nI_ge hjl (by omega)), if_neg (show ¬ (12 : Int32) ≤ nI j from nI_ge (b := 12) (by omega) (by decide)), if_pos (ib_nI (by omega) (by decide)), if_pos (ib_nI (by omega) (by decide)), nI_clamp (by omega), f1, f2, if_pos (mo_5 hM hT ht).1, la_leaves hX hT ht (by omega), mo_leaves hM hT ht (by omega), Option.bind_some, Option.bind_some, (mo_5 hM hT ht).2]
    cases hlv : lvs tr (lg j) s dy with
    | false => rw [bi_f, if_pos rfl, if_pos rfl]; exact ⟨_, _, _, rfl, rfl, XEq.rf x, MEq.rf m⟩
    | true =>
      rw [bi_t, if_neg one_ne, if_neg one_ne, la_p5 hX hT ht, Option.bind_some, ri_spend (fun k hk => (e4 k hk).1) (fun k hk => (e4 k hk).2.2) a5, if_pos (ib_nI a5 (by decide)), nI_clamp (by omega), p2]
      by_cases hz : pu (tr (lg j) 5) = 0
      · rw [if_pos hz, Option.bind_some, if_pos (show ((0 : Int32), x).1 = 0 from rfl), hz, if_pos (show nI 0 = 0 from rfl)]
        exact ⟨_, _, _, rfl, rfl, XEq.rf x, MEq.rf m⟩
      · rw [if_neg hz, Option.bind_some, if_neg (show ¬ ((1 : Int32), sI x 34 (tr (lg j) 5) (nI (pu (tr (lg j) 5) - 1))).1 = 0 from one_ne), if_neg (nI_ne0 (by omega) (by omega)), if_pos (ib_nI a5 (by decide)), if_pos (ib_nI a5 (by decide)), if_pos (mo_1 hM hT ht).1, if_pos (mo_4 hM hT ht).1]
        dsimp only
        have hx : XEq x (sI x 34 (tr (lg j) 5) (nI (pu (tr (lg j) 5) - 1))) := xe_sI x _ _ (by omega)
        have hsub : nI (pu (tr (lg j) 5)) - 1 = nI (pu (tr (lg j) 5) - 1) := by
          obtain ⟨q, hq⟩ : ∃ q, pu (tr (lg j) 5) = q + 1 := ⟨pu (tr (lg j) 5) - 1, by omega⟩
          rw [hq, nI_pred]; rfl
        have hm : MEq m (sI m 47 (tr (lg j) 5) (nI (pu (tr (lg j) 5) - 1))) := me_sI m _ (by omega)
        rw [hsub, la_p1 (hX.eq hx.S) hT ht, Option.bind_some, la_p4 (hX.eq hx.S) hT ht, Option.bind_some, (mo_1 (hM.eq hm.S) hT ht).2, (mo_4 (hM.eq hm.S) hT ht).2, nI_1]
        obtain ⟨r, x', m', g1, g2, g3, g4⟩ := ih (j + 1) n _ _ (tr (lg j) 1) (dy + nI (tr (lg j) 4)) (fun k => if k = tr (lg j) 5 then pu k - 1 else pu k) (hX.eq hx.S) (hM.eq hm.S) e1 e2 e3 (fun k hk => by
          obtain ⟨q1, q2, q3⟩ := e4 k hk
          by_cases hkk : k = tr (lg j) 5
          · rw [if_pos hkk, hkk, sI_at, sI_at]; exact ⟨rfl, rfl, by omega⟩
          · rw [if_neg hkk, sI_nk hkk, sI_nk hkk]; exact ⟨q1, q2, q3⟩) a1 (by omega) (by omega)
        exact ⟨r, x', m', g1, g2, hx.tr g3, hm.tr g4⟩
theorem r_judge {x m : Wd} (h : Rel x m) : ∃ r x' m', Nt_judge x = some (r, x') ∧ Mo_judge m = some (r, m') ∧ Rel x' m' := by
  have h0 := h
  obtain ⟨S, T, s0, sh, tr, tk, sk, tn, tx, ln, lg, kb, z, hT, hL, hTx, ⟨g1, g2, g3, g4⟩, hK, hZ, hZ', hO⟩ := h
  obtain ⟨hX, hM, l1, l2, l3, l4, l5, l6, l7, l8, l9, l10, l11⟩ := hL
  unfold Nt_judge Mo_judge Ri_firstImpossible
  have hx : XEq x (cI x 5 0 34 0 3) := ⟨rfl, rfl, rfl, fun _ _ => rfl, rfl, rfl, rfl, fun c h1 h2 => cI_ne (by omega), rfl, rfl⟩
  have run : Mo_judge_L2 Mo_judge_B25 FU m 0 = Mo_judge_B25 (sI (sI (sI m 47 0 (m.1 43 0)) 47 1 (m.1 43 1)) 47 2 (m.1 43 2)) := by
    show Mo_judge_L2 Mo_judge_B25 (1996 + 1 + 1 + 1 + 1) m 0 = _
    rw [Mo_judge_L2, if_neg (by decide), if_pos (by decide), if_pos (by decide), Mo_judge_L2, if_neg (by decide), if_pos (by decide), if_pos (by decide), Mo_judge_L2, if_neg (by decide), if_pos (by decide), if_pos (by decide), Mo_judge_L2, if_pos (by decide)]
    rfl
  have hm : MEq m (sI (sI (sI m 47 0 (m.1 43 0)) 47 1 (m.1 43 1)) 47 2 (m.1 43 2)) := ((me_sI m _ (by omega)).tr (me_sI _ _ (by omega))).tr (me_sI _ _ (by omega))
  rw [run]
  unfold Mo_judge_B25
  have a1 : (cI x 5 0 34 0 3).1 3 2 = nI s0 := l3
  have a2 : (sI (sI (sI m 47 0 (m.1 43 0)) 47 1 (m.1 43 1)) 47 2 (m.1 43 2)).1 37 9 = nI s0 := l4
  rw [a1, a2]
  obtain ⟨r, x', m', f1, f2, f3, f4⟩ := judge_L hT g1 (fun j hj => (g4 j hj).1) ln 0 FU (cI x 5 0 34 0 3) (sI (sI (sI m 47 0 (m.1 43 0)) 47 1 (m.1 43 1)) 47 2 (m.1 43 2)) s0 0 tk (hX.eq hx.S) (hM.eq hm.S) g2 g3 (fun j hj => (g4 j hj).2) (fun k hk => by
    obtain ⟨q1, q2, q3⟩ := l7 k hk
    refine ⟨?_, ?_, q3⟩
    · show va_cpy (x.1 5) (x.1 34) 0 0 3 k = _
      rw [pk_cpy_in (by omega) (by omega), Nat.zero_add, Nat.sub_zero]
      exact q1
    · match k, hk, q2 with
      | 0, _, q2 => exact q2
      | 1, _, q2 => exact q2
      | 2, _, q2 => exact q2) l9 (by omega) (by unfold FU; omega)
  rw [show Ri_firstImpossible_L29 Ri_firstImpossible_B82 Ri_firstImpossible_B114 FU (cI x 5 0 34 0 3) (nI s0) 0 0 = _ from f1, Option.bind_some, show Mo_judge_L34 Mo_judge_B85 Mo_judge_B132 FU _ (nI s0) 0 0 = _ from f2]
  exact ⟨_, _, _, rfl, rfl, h0.eq (hx.tr f3) (hm.tr f4)⟩
end Judge
