/-! FAULT: the lines in both -/
section Fault
variable {tn : Nat} {tx : Nat → Nat}
theorem DX.eq {x x' : Wd} {L : Ld} (h : DX x L) (e : ∀ q, 8 ≤ q → q ≤ 11 → x'.1 q = x.1 q) : DX x' L := by
  obtain ⟨S, T, s0, sh, tr, tk, sk⟩ := L
  unfold DX at h ⊢
  rw [e 8 (by omega) (by omega), e 9 (by omega) (by omega), e 10 (by omega) (by omega), e 11 (by omega) (by omega)]
  exact h
theorem ff_L {L0 : Ld} : ∀ (d n : Nat) (x m : Wd) (p : Nat) (L : Ld), n + d = 10 → LSt tn tx x m p n → DX x L → OKL L → m.1 37 16 = nI L.1 → m.1 37 17 = nI L.2.1 → Ch (m.1 41) n L0 L → ∀ N M,
    ∃ r x' m', Re_firstFault_L20 Re_firstFault_B33 Re_firstFault_B56 Re_firstFault_B74 Re_firstFault_B85 (N + d + 1) x (nI n) = some (r, x') ∧ Option.bind (Mo_readsLine m) (fun q2 => (if (q2.1) = (0 : Int32) then some (((q2.2).1 37 14), (q2.2)) else (Mo_fault_L42 Mo_fault_B112 Mo_fault_B120 (M + d) (q2.2)))) = some (r, m') ∧ FY x x' ∧ FN m m' ∧ (r = -1 → ∃ k L', k ≤ 10 ∧ x'.1 7 2 = nI k ∧ m'.1 37 5 = nI k ∧ DX x' L' ∧ OKL L' ∧ Ch (m'.1 41) k L0 L') := by
  intro d
  induction d with
  | zero =>
    intro n x m p L hn hs
    exact absurd hs.2.2.2.2.2.2 (by omega)
  | succ d ih =>
    intro n x m p L hnd hs hD hO h16 h17 hC N M
    have hn := hs.2.2.2.2.2.2
    have hX := hs.1
    have hM := hs.2.1
    have h200 := hX.1
    show ∃ r x' m', Re_firstFault_L20 Re_firstFault_B33 Re_firstFault_B56 Re_firstFault_B74 Re_firstFault_B85 ((N + d + 1) + 1) x (nI n) = some (r, x') ∧ Option.bind (Mo_readsLine m) (fun q2 => (if (q2.1) = (0 : Int32) then some (((q2.2).1 37 14), (q2.2)) else (Mo_fault_L42 Mo_fault_B112 Mo_fault_B120 ((M + d) + 1) (q2.2)))) = some (r, m') ∧ _
    rw [Re_firstFault_L20, if_neg (show ¬ (10 : Int32) ≤ nI n from nI_ge (b := 10) hn (by decide))]
    rcases rline hs hD hO h16 h17 with ⟨x', m', a, a1, a2, a3, a4, a5, a6, a7⟩ | ⟨x', m', p', L', b1, b2, b3, b4, b5, b6, b7, b8, b9, b10, b11, b12, b13, b14⟩
    · rw [a1, a2, Option.bind_some, Option.bind_some, if_pos rfl, if_pos rfl]
      unfold Re_firstFault_B33
      refine ⟨nI a, x', m', by rw [a5], by rw [a6], a3, a4, fun q => absurd q (nI_m1 (by omega))⟩
    · rw [b1, b2, Option.bind_some, Option.bind_some, if_neg one_ne, if_neg one_ne, nI_1]
      have hX' : XT (sI x' 7 2 (nI (n + 1))) tn tx := (hX.y b3).s7 2 _
      have st := re_step hX' b5 (by rw [sI_nk (by decide)]; exact b6)
      rw [st, Option.bind_some]
      have Y2 : FY x' (sI (sI (sI (sI x' 7 2 (nI (n + 1))) 7 5 (nI (tA tn tx p'))) 7 4 (nI (tS tn tx p'))) 7 6 (nI (tE tn tx p'))) := (((FY.s x' (by omega)).tr (FY.s _ (by omega))).tr (FY.s _ (by omega))).tr (FY.s _ (by omega))
      have D2 : DX (sI (sI (sI (sI x' 7 2 (nI (n + 1))) 7 5 (nI (tA tn tx p'))) 7 4 (nI (tS tn tx p'))) 7 6 (nI (tE tn tx p'))) L' := b9.eq (fun q _ _ => by rw [sI_ne (by omega), sI_ne (by omega), sI_ne (by omega), sI_ne (by omega)])
      have z2 : (sI (sI (sI (sI x' 7 2 (nI (n + 1))) 7 5 (nI (tA tn tx p'))) 7 4 (nI (tS tn tx p'))) 7 6 (nI (tE tn tx p'))).1 7 2 = nI (n + 1) := by rw [sI_nk (by decide), sI_nk (by decide), sI_nk (by decide), sI_at]
      have z5 : (sI (sI (sI (sI x' 7 2 (nI (n + 1))) 7 5 (nI (tA tn tx p'))) 7 4 (nI (tS tn tx p'))) 7 6 (nI (tE tn tx p'))).1 7 5 = nI (tA tn tx p') := by rw [sI_nk (by decide), sI_nk (by decide), sI_at]
      have z4 : (sI (sI (sI (sI x' 7 2 (nI (n + 1))) 7 5 (nI (tA tn tx p'))) 7 4 (nI (tS tn tx p'))) 7 6 (nI (tE tn tx p'))).1 7 4 = nI (tS tn tx p') := by rw [sI_nk (by decide), sI_at]
      have z6 : (sI (sI (sI (sI x' 7 2 (nI (n + 1))) 7 5 (nI (tA tn tx p'))) 7 4 (nI (tS tn tx p'))) 7 6 (nI (tE tn tx p'))).1 7 6 = nI (tE tn tx p') := by rw [sI_at]
      generalize sI (sI (sI (sI x' 7 2 (nI (n + 1))) 7 5 (nI (tA tn tx p'))) 7 4 (nI (tS tn tx p'))) 7 6 (nI (tE tn tx p')) = x2 at Y2 D2 z2 z5 z4 z6 ⊢
      have hX2 : XT x2 tn tx := (hX.y b3).y Y2
      have hM' : MT m' tn tx := hM.n b4
      have hA := tA_le tx b5
      have hE := tE_le tx b5
      have hC' : Ch (m'.1 41) (n + 1) L0 L' := ⟨L, hC.con b14, b13⟩
      rw [z4, z5, Mo_fault_L42, hM'.2.1, b7.2.1, b7.2.2]
      by_cases e : tA tn tx p' < tn
      · have hS : tS tn tx p' = srt (tx (tA tn tx p')) := if_pos e
        have hl := srt_le (tx (tA tn tx p'))
        obtain ⟨hb, h40⟩ := hM'.2.2 _ e
        have stop : ∃ r x'' m'', Re_firstFault_B74 x2 = some (r, x'') ∧ Mo_fault_B112 m' = some (r, m'') ∧ FY x x'' ∧ FN m m'' ∧ (r = -1 → ∃ k L', k ≤ 10 ∧ x''.1 7 2 = nI k ∧ m''.1 37 5 = nI k ∧ DX x'' L' ∧ OKL L' ∧ Ch (m''.1 41) k L0 L') := by
          unfold Re_firstFault_B74 Mo_fault_B112
          exact ⟨nI (tA tn tx p'), x2, m', by rw [z5], by rw [b7.2.1], b3.tr Y2, b4, fun q => absurd q (nI_m1 (by omega))⟩
        rw [if_neg (show ¬ nI (tS tn tx p') = 0 from nI_ne0 (by omega) (by omega)), te_byte hX2 (by omega), Option.bind_some, if_pos e, if_neg (nI_ge e (by omega)), pk_sub hE.1, if_pos (ib_nI (by omega) (by decide)), nI_clamp (by omega), h40]
        by_cases g : tx (tA tn tx p') = 59
        · have hE1 : tE tn tx p' = tA tn tx p' + 1 := by
            unfold tE
            rw [if_pos e, g, if_pos (by decide)]
          rw [g, if_pos (show nI 59 = 59 from rfl), if_pos (show nI 59 = 59 from rfl), if_pos (show nI (tE tn tx p' - tA tn tx p') = 1 by rw [hE1, Nat.add_sub_cancel_left]; rfl), b8]
          unfold Mo_fault_B94
          by_cases h10 : n + 1 = 10
          · rw [h10, if_pos (show (10 : Int32) ≤ nI 10 by decide), if_pos rfl]
            unfold Mo_fault_B108
            rw [if_pos rfl, Re_firstFault_L20, if_pos (show (10 : Int32) ≤ nI 10 by decide)]
            exact stop
          · rw [if_neg (show ¬ (10 : Int32) ≤ nI (n + 1) from nI_ge (b := 10) (by omega) (by decide)), if_neg one_ne]
            obtain ⟨m3, t1, t2, t3, t4, t5⟩ := mo_token hM' hE.2.1 b7.1
            rw [t1, Option.bind_some]
            have k5 : m3.1 37 5 = nI (n + 1) := by rw [t2.2 5 (by decide) (by decide) (by decide)]; exact b8
            have N3 : FN m' m3 := t2.m.n
            obtain ⟨r, x4, m4, c1, c2, c3, c4, c5⟩ := ih (n + 1) x2 m3 (tE tn tx p') L' (by omega) ⟨hX2, hM'.n N3, hE.2.1, z6, ⟨t3, t4, t5⟩, k5, by omega⟩ D2 b10 (by rw [t2.2 16 (by decide) (by decide) (by decide)]; exact b11) (by rw [t2.2 17 (by decide) (by decide) (by decide)]; exact b12) (hC'.con (fun j hj => by rw [t2.1 41 (by decide)])) N M
            exact ⟨r, x4, m4, c1, c2, (b3.tr Y2).tr c3, (b4.tr N3).tr c4, c5⟩
        · have g' : ¬ nI (tx (tA tn tx p')) = 59 := fun q => g ((nI_eq (a := tx (tA tn tx p')) (b := 59) (by omega) (by decide)).mp q)
          rw [if_neg g', if_neg g']
          unfold Mo_fault_B94
          rw [if_pos rfl, ite_self]
          unfold Mo_fault_B108
          rw [if_pos rfl]
          exact stop
      · have hS : tS tn tx p' = 0 := if_neg e
        rw [hS, if_pos (show nI 0 = 0 from rfl), if_pos (nI_le (by omega) (by omega))]
        unfold Re_firstFault_B56 Mo_fault_B120
        exact ⟨-1, x2, m', rfl, rfl, b3.tr Y2, b4, fun _ => ⟨n + 1, L', by omega, z2, b8, D2, b10, hC'⟩⟩
theorem re_fault {x m : Wd} {S T s0 sh : Nat} {tr : Tr} {tk : Nat → Nat} {sk : Nat → Int32} (hT : TOK S T tr) (hL : LdR x m S T s0 sh tr tk sk) (hX : TxR x m tn tx) : ∃ r x' m', Re_firstFault x = some (r, x') ∧ Mo_fault m = some (r, m') ∧ FY x x' ∧ FN m m' ∧ (r = -1 → ∃ k L', k ≤ 10 ∧ x'.1 7 2 = nI k ∧ m'.1 37 5 = nI k ∧ DX x' L' ∧ OKL L' ∧ Ch (m'.1 41) k (S, T, s0, sh, tr, tk, sk) L') := by
  obtain ⟨⟨t1, t2⟩, ⟨u1, u2⟩, l1, l2, l3, l4, l5, l6, l7, l8, l9, l10, l11⟩ := hL
  obtain ⟨x1, x2, x3, x4⟩ := hX
  have hT12 := hT.2.2.1
  unfold Re_firstFault Mo_fault
  have Y1 : FY x (sI (sI (La_copy_8_3 x) 7 2 0) 7 6 0) := by
    refine FY.tr ?_ ((FY.s _ (by omega)).tr (FY.s _ (by omega)))
    intro q hq
    unfold La_copy_8_3
    have c1 : ∀ (y : Wd) (a b c d e : Nat), q ≠ c → (cI y a b c d e).1 q = y.1 q := fun y a b c d e h => if_neg h
    rw [c1 _ _ _ _ _ _ (by omega), c1 _ _ _ _ _ _ (by omega), c1 _ _ _ _ _ _ (by omega), sI_ne (by omega), sI_ne (by omega), sI_ne (by omega), sI_ne (by omega)]
  have D1 : DX (sI (sI (La_copy_8_3 x) 7 2 0) 7 6 0) (S, T, s0, sh, tr, tk, sk) := by
    refine DX.eq (x := La_copy_8_3 x) ?_ (fun q _ _ => by rw [sI_ne (by omega), sI_ne (by omega)])
    refine ⟨?_, ?_, ?_, ?_, fun t k ht hk => ?_, fun k hk => ?_, fun i hi => ?_⟩
    · show x.1 3 0 = nI S; exact l1
    · show x.1 3 1 = nI T; exact t1
    · show x.1 3 2 = nI s0; exact l3
    · show x.1 3 3 = nI sh; exact l5
    · rw [← t2 t k ht hk]
      show va_cpy (x.1 4) (x.1 9) 0 0 72 (6 * t + k) = _
      unfold va_cpy
      rw [if_pos ⟨by omega, by omega⟩, Nat.sub_zero, Nat.zero_add]
    · rw [← (l7 k hk).1]
      show va_cpy (x.1 5) (x.1 10) 0 0 3 k = _
      unfold va_cpy
      rw [if_pos ⟨by omega, by omega⟩, Nat.sub_zero, Nat.zero_add]
    · rw [← (l8 i hi).1]
      show va_cpy (x.1 6) (x.1 11) 0 0 2 i = _
      unfold va_cpy
      rw [if_pos ⟨by omega, by omega⟩, Nat.sub_zero, Nat.zero_add]
  have z6 : (sI (sI (La_copy_8_3 x) 7 2 0) 7 6 0).1 7 6 = nI 0 := sI_at
  generalize sI (sI (La_copy_8_3 x) 7 2 0) 7 6 0 = y at Y1 D1 z6 ⊢
  have N1 : FN m (sI (sI (sI (sI m 37 13 0) 37 5 0) 37 16 ((sI (sI m 37 13 0) 37 5 0).1 37 6)) 37 17 ((sI (sI (sI m 37 13 0) 37 5 0) 37 16 ((sI (sI m 37 13 0) 37 5 0).1 37 6)).1 37 8)) := (((FN.s m (by omega)).tr (FN.s _ (by omega))).tr (FN.s _ (by omega))).tr (FN.s _ (by omega))
  have y13 : (sI (sI (sI (sI m 37 13 0) 37 5 0) 37 16 ((sI (sI m 37 13 0) 37 5 0).1 37 6)) 37 17 ((sI (sI (sI m 37 13 0) 37 5 0) 37 16 ((sI (sI m 37 13 0) 37 5 0).1 37 6)).1 37 8)).1 37 13 = nI 0 := by rw [sI_nk (by decide), sI_nk (by decide), sI_nk (by decide), sI_at]; rfl
  have y5 : (sI (sI (sI (sI m 37 13 0) 37 5 0) 37 16 ((sI (sI m 37 13 0) 37 5 0).1 37 6)) 37 17 ((sI (sI (sI m 37 13 0) 37 5 0) 37 16 ((sI (sI m 37 13 0) 37 5 0).1 37 6)).1 37 8)).1 37 5 = nI 0 := by rw [sI_nk (by decide), sI_nk (by decide), sI_at]; rfl
  have y16 : (sI (sI (sI (sI m 37 13 0) 37 5 0) 37 16 ((sI (sI m 37 13 0) 37 5 0).1 37 6)) 37 17 ((sI (sI (sI m 37 13 0) 37 5 0) 37 16 ((sI (sI m 37 13 0) 37 5 0).1 37 6)).1 37 8)).1 37 16 = nI S := by rw [sI_nk (by decide), sI_at, sI_nk (by decide), sI_nk (by decide)]; exact l2
  have y17 : (sI (sI (sI (sI m 37 13 0) 37 5 0) 37 16 ((sI (sI m 37 13 0) 37 5 0).1 37 6)) 37 17 ((sI (sI (sI m 37 13 0) 37 5 0) 37 16 ((sI (sI m 37 13 0) 37 5 0).1 37 6)).1 37 8)).1 37 17 = nI T := by rw [sI_at, sI_nk (by decide), sI_nk (by decide), sI_nk (by decide)]; exact u1
  generalize sI (sI (sI (sI m 37 13 0) 37 5 0) 37 16 ((sI (sI m 37 13 0) 37 5 0).1 37 6)) 37 17 ((sI (sI (sI m 37 13 0) 37 5 0) 37 16 ((sI (sI m 37 13 0) 37 5 0).1 37 6)).1 37 8) = n1 at N1 y13 y5 y16 y17 ⊢
  have hXT : XT y tn tx := XT.y (x := x) ⟨x1, x2, fun j hj => ⟨(x4 j hj).1, (x4 j hj).2.1⟩⟩ Y1
  have hMT : MT n1 tn tx := MT.n (m := m) ⟨x1, x3, fun j hj => ⟨(x4 j hj).1, (x4 j hj).2.2⟩⟩ N1
  obtain ⟨m2, a1, a2, a3, a4, a5⟩ := mo_token hMT (Nat.zero_le _) y13
  rw [a1, Option.bind_some]
  obtain ⟨r, x', m', c1, c2, c3, c4, c5⟩ := ff_L (L0 := (S, T, s0, sh, tr, tk, sk)) 10 0 y m2 0 (S, T, s0, sh, tr, tk, sk) rfl ⟨hXT, hMT.n a2.m.n, Nat.zero_le _, z6, ⟨a3, a4, a5⟩, by rw [a2.2 5 (by decide) (by decide) (by decide)]; exact y5, by decide⟩ D1 ⟨hT, fun k hk => (l7 k hk).2.2, fun i hi => (l8 i hi).2.2, l9, l10, l11⟩ (by rw [a2.2 16 (by decide) (by decide) (by decide)]; exact y16) (by rw [a2.2 17 (by decide) (by decide) (by decide)]; exact y17) rfl 1989 1990
  exact ⟨r, x', m', c1, c2, Y1.tr c3, (N1.tr a2.m.n).tr c4, c5⟩
theorem r_fault {x m : Wd} (h : Rel x m) : ∃ r x' m', Nt_fault x = some (r, x') ∧ Mo_fault m = some (r, m') ∧ Rel x' m' := by
  have h' := h
  obtain ⟨S, T, s0, sh, tr, tk, sk, tn, tx, ln, lg, kb, z, h1, h2, h3, h4, h5, h6, h7, h8⟩ := h'
  obtain ⟨r, x', m', c1, c2, c3, c4, -⟩ := re_fault h1 h2 h3
  unfold Nt_fault
  rw [c1, Option.bind_some]
  refine ⟨r, x', m', rfl, c2, h.eq ?_ ?_⟩
  · exact ⟨by rw [c3 0 (by omega)], by rw [c3 1 (by omega)], c3 2 (by omega), fun k _ => by rw [c3 3 (by omega)], c3 4 (by omega), c3 5 (by omega), c3 6 (by omega), fun c _ _ => c3 c (by omega), by rw [c3 32 (by omega)], c3 33 (by omega)⟩
  · have e : ∀ k, k = 3 ∨ k = 6 ∨ k = 8 ∨ k = 9 ∨ k = 11 ∨ k = 22 → m'.1 37 k = m.1 37 k := fun k hk => c4.2 k (by omega) (by omega) (by omega) (by omega) (by omega) (by omega)
    exact ⟨e 3 (by omega), e 6 (by omega), e 8 (by omega), e 9 (by omega), e 11 (by omega), e 22 (by omega), c4.1 38 (by decide) (by decide), c4.1 39 (by decide) (by decide), c4.1 40 (by decide) (by decide), c4.1 42 (by decide) (by decide), c4.1 43 (by decide) (by decide), c4.1 44 (by decide) (by decide), c4.1 46 (by decide) (by decide)⟩
end Fault
