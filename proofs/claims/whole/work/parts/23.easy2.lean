/-! write, erase, log, burn, send, keep, back -/
theorem byte_of (y : Int64) : ∃ b, b < 256 ∧ (y &&& (255 : Int64)).toInt32 = nI b := by
  refine ⟨y.toBitVec.toNat % 256, Nat.mod_lt _ (by decide), ?_⟩
  have e : y &&& (255 : Int64) = lN (y.toBitVec.toNat % 256) := by
    apply Int64.toBitVec_inj.1
    show y.toBitVec &&& 255#64 = BitVec.ofNat 64 (y.toBitVec.toNat % 256)
    apply BitVec.eq_of_toNat_eq
    have e2 : (BitVec.ofNat 64 (y.toBitVec.toNat % 256)).toNat = y.toBitVec.toNat % 256 := by
      rw [BitVec.toNat_ofNat]
      exact Nat.mod_eq_of_lt (Nat.lt_trans (Nat.mod_lt _ (by decide : 0 < 256)) (by decide))
    rw [BitVec.toNat_and, e2]
    exact Nat.and_two_pow_sub_one_eq_mod _ 8
  rw [e, lN_i]
theorem char_byte {b : Nat} (hb : b < 256) : vp_nar .char (UInt32.toInt32 (Int32.toUInt32 (nI b) % (65536 : UInt32))) = nI b := by
  rw [pk_vc, pk_char, pk_tn (by omega), Nat.mod_eq_of_lt (by omega)]
section Easy2
variable {x m : Wd}
theorem within_in {x : Wd} {n j : Nat} (h : j ≤ n) (hn : n < 2 ^ 31) : Nt_within x (nI j) (0 : Int32) (nI n) = 1 := by
  unfold Nt_within
  rw [if_neg (nI_pos (by omega)), if_neg (nI_nlt h hn)]
theorem w_step (h : Rel x m) {t b : Nat} (hx : x.1 1 1 = nI t) (ht : t < 200) (hb : b < 256) : ∃ x', Te_append x (nI b) = some x' ∧ ib (m.1 37 3) 200 = true ∧ Rel x' (sI (sI m 40 (Int32.toNatClampNeg (m.1 37 3)) (nI b)) 37 3 (((sI m 40 (Int32.toNatClampNeg (m.1 37 3)) (nI b)).1 37 3) + (1 : Int32))) ∧ x'.1 1 1 = nI (t + 1) := by
  obtain ⟨S, T, s0, sh, tr, tk, sk, tn, tx, ln, lg, kb, z, hT, hL, hTx, hLg, hK, hZ, hZ', hO⟩ := h
  obtain ⟨h1, h2, h3, h4⟩ := hTx
  have e : tn = t := (nI_eq (by omega) (by omega)).mp (h2.symm.trans hx)
  subst e
  unfold Te_append
  rw [h2, h3, show (199 : Int32) = nI 199 from rfl, within_in (by omega) (by decide), if_neg one_ne, if_pos (ib_nI ht (by decide)), nI_clamp (by omega), char_byte hb]
  have e1 : (sI x 2 tn (nI b)).1 1 1 = nI tn := h2
  have e2 : (sI m 40 tn (nI b)).1 37 3 = nI tn := h3
  rw [e1, e2, nI_1]
  refine ⟨_, rfl, ib_nI ht (by decide), ?_, sI_at⟩
  refine ⟨S, T, s0, sh, tr, tk, sk, tn + 1, fun j => if j = tn then b else tx j, ln, lg, kb, z, hT, hL, ⟨by omega, sI_at, sI_at, fun j hj => ?_⟩, hLg, ?_, hZ, hZ', hO⟩
  · by_cases hjt : j = tn
    · subst hjt
      dsimp only
      rw [if_pos rfl]
      refine ⟨hb, ?_, ?_⟩
      · rw [sI_ne (by decide), sI_at]
      · rw [sI_ne (by decide), sI_at]
    · obtain ⟨a1, a2, a3⟩ := h4 j (by omega)
      dsimp only
      rw [if_neg hjt]
      refine ⟨a1, ?_, ?_⟩
      · rw [sI_ne (by decide), sI_nk hjt]; exact a2
      · rw [sI_ne (by decide), sI_nk hjt]; exact a3
  · refine ⟨hK.1, fun i hi => ⟨(hK.2 i hi).1, fun hk => ?_⟩⟩
    obtain ⟨z', a1, a2, a3⟩ := (hK.2 i hi).2 hk
    refine ⟨z', a1.eq ?_ ?_ ?_ ?_, a2, a3⟩ <;> rw [sI_ne (by omega), sI_ne (by omega)]
theorem write_L {n8 : Nat} (hn8 : n8 ≤ 8) (v1 : Int64) : ∀ (d j n : Nat) (x m : Wd) (t : Nat), Rel x m → x.1 1 1 = nI t → t + d ≤ 200 → j + d = n8 → d < n → ∃ r x' m', Nt_write_L34 Nt_write_B65 n x v1 (nI n8) (nI j) = some (r, x') ∧ Mo_write_L33 Mo_write_B76 n m v1 (nI n8) (nI j) = some (r, m') ∧ Rel x' m' := by
  intro d
  induction d with
  | zero =>
    intro j n x m t hR hx ht hj hn
    obtain ⟨n, rfl⟩ : ∃ q, n = q + 1 := ⟨n - 1, by omega⟩
    rw [Nt_write_L34, Mo_write_L33, if_pos (nI_le (by omega) (by omega)), if_pos (nI_le (by omega) (by omega))]
    refine ⟨_, _, _, rfl, ?_, hR⟩
    obtain ⟨S, T, s0, sh, tr, tk, sk, tn, tx, ln, lg, kb, z, hT, hL, hTx, -⟩ := hR
    unfold Mo_write_B76
    rw [hTx.2.1, hTx.2.2.1]
  | succ d ih =>
    intro j n x m t hR hx ht hj hn
    obtain ⟨n, rfl⟩ : ∃ q, n = q + 1 := ⟨n - 1, by omega⟩
    rw [Nt_write_L34, Mo_write_L33, if_neg (nI_ge (by omega) (by omega)), if_neg (nI_ge (by omega) (by omega))]
    obtain ⟨b, hb, e⟩ := byte_of (v1 >>> (Int32.toInt64 ((8 : Int32) * nI j) &&& (63 : Int64)))
    rw [e]
    obtain ⟨x', e1, e2, e3, e4⟩ := w_step hR hx (by omega) hb
    rw [e1, Option.bind_some, if_pos e2, nI_1]
    exact ih (j + 1) n x' _ (t + 1) e3 e4 (by omega) (by omega) (by omega)
theorem r_write (h : Rel x m) (a : Int64) (b : Int32) : ∃ r x' m', Nt_write x a b = some (r, x') ∧ Mo_write m a b = some (r, m') ∧ Rel x' m' := by
  have h0 := h
  obtain ⟨S, T, s0, sh, tr, tk, sk, tn, tx, ln, lg, kb, z, hT, hL, ⟨t1, t2, t3, t4⟩, -⟩ := h
  unfold Nt_write Mo_write
  rw [show Mo_in m b.toInt64 (1 : Int64) (8 : Int64) = Nt_within x b 1 8 from mo_within x m b 1 8]
  by_cases hb : Nt_within x b 1 8 = 0
  · rw [hb]; exact ⟨_, _, _, rfl, rfl, h0⟩
  · rw [if_neg hb, if_neg hb]
    have hq : ¬ b < 1 ∧ ¬ (8 : Int32) < b := by
      unfold Nt_within at hb
      by_cases g1 : b < 1
      · rw [if_pos g1] at hb; exact absurd rfl hb
      · rw [if_neg g1] at hb
        by_cases g2 : (8 : Int32) < b
        · rw [if_pos g2] at hb; exact absurd rfl hb
        · exact ⟨g1, g2⟩
    have hb0 : ¬ b < 0 := fun e => hq.1 (by rw [Int32.lt_iff_toInt_lt] at *; have : (0 : Int32).toInt = 0 := by decide
                                            have : (1 : Int32).toInt = 1 := by decide
                                            omega)
    obtain ⟨q, hq2, rfl⟩ := nI_of hb0
    have hq8 : q ≤ 8 := by
      have := hq.2
      rw [show (8 : Int32) = nI 8 from rfl, nI_ltI (by decide) hq2] at this
      omega
    have c1 : nI q ≤ (200 : Int32) - x.1 1 1 ↔ tn + q ≤ 200 := by
      rw [t2, show (200 : Int32) = nI 200 from rfl, pk_sub (by omega), nI_leI (by omega) (by omega)]
      omega
    have c2 : m.1 37 3 + nI q ≤ (200 : Int32) ↔ tn + q ≤ 200 := by
      rw [t3, nI_add, show (200 : Int32) = nI 200 from rfl, nI_leI (by omega) (by decide)]
    by_cases hf : tn + q ≤ 200
    · rw [if_pos (c1.mpr hf), if_pos (c2.mpr hf)]
      exact write_L hq8 a q 0 FU x m tn h0 t2 hf (by omega) (by unfold FU; omega)
    · rw [if_neg (fun e => hf (c1.mp e)), if_neg (fun e => hf (c2.mp e))]
      exact ⟨_, _, _, rfl, rfl, h0⟩
theorem r_erase (h : Rel x m) : (Nt_erase x).1 = (Mo_erase m).1 ∧ Rel (Nt_erase x).2 (Mo_erase m).2 := by
  obtain ⟨S, T, s0, sh, tr, tk, sk, tn, tx, ln, lg, kb, z, hT, hL, ⟨t1, t2, t3, t4⟩, hLg, hK, hZ, hZ', hO⟩ := h
  refine ⟨t2.trans t3.symm, S, T, s0, sh, tr, tk, sk, 0, tx, ln, lg, kb, z, hT, hL, ⟨by omega, sI_at, sI_at, fun j hj => absurd hj (by omega)⟩, hLg, ?_, hZ, hZ', hO⟩
  refine ⟨hK.1, fun i hi => ⟨(hK.2 i hi).1, fun hk => ?_⟩⟩
  obtain ⟨z', a1, a2, a3⟩ := (hK.2 i hi).2 hk
  exact ⟨z', a1.eq (sI_ne (by omega)) (sI_ne (by omega)) (sI_ne (by omega)) (sI_ne (by omega)), a2, a3⟩
theorem r_burn (h : Rel x m) : (Nt_burn x).1 = (Mo_burn m).1 ∧ Rel (Nt_burn x).2 (Mo_burn m).2 := by
  obtain ⟨S, T, s0, sh, tr, tk, sk, tn, tx, ln, lg, kb, z, hT, hL, hTx, ⟨t1, t2, t3, t4⟩, hK, hZ, hZ', hO⟩ := h
  refine ⟨t2.trans t3.symm, S, T, s0, sh, tr, tk, sk, tn, tx, 0, lg, kb, z, hT, hL, hTx, ⟨by omega, sI_at, sI_at, fun j hj => absurd hj (by omega)⟩, ?_, hZ, hZ', hO⟩
  refine ⟨hK.1, fun i hi => ⟨(hK.2 i hi).1, fun hk => ?_⟩⟩
  obtain ⟨z', a1, a2, a3⟩ := (hK.2 i hi).2 hk
  exact ⟨z', a1.eq (sI_ne (by omega)) (sI_ne (by omega)) (sI_ne (by omega)) (sI_ne (by omega)), a2, a3⟩
theorem r_log (h : Rel x m) (a : Int32) : ∃ r x' m', Nt_log x a = some (r, x') ∧ Mo_log m a = some (r, m') ∧ Rel x' m' := by
  have h0 := h
  obtain ⟨S, T, s0, sh, tr, tk, sk, tn, tx, ln, lg, kb, z, hT, hL, hTx, ⟨t1, t2, t3, t4⟩, hK, hZ, hZ', hO⟩ := h
  have h12 := hT.2.2.1
  unfold Nt_log Mo_log
  rcases tr_cases hL.1 hL.2.1 (by omega) a with ⟨e1, e2⟩ | ⟨e1, e2, t, ht, rfl⟩
  · rw [e1, e2]; exact ⟨_, _, _, rfl, rfl, h0⟩
  · rw [e1, e2, if_neg one_ne, if_neg one_ne]
    unfold Ri_append
    rw [t2, t3]
    by_cases hf : ln = 12
    · have g1 : Nt_within x (nI ln) 0 11 = 0 := by
        unfold Nt_within
        rw [if_neg (nI_pos (by omega)), if_pos (show (11 : Int32) < nI ln from nI_lt (a := 11) (by omega) (by omega))]
      rw [g1, if_pos rfl, Option.bind_some, if_pos (show ((0 : Int32), x).1 = 0 from rfl), if_pos (show nI ln = 12 by rw [hf]; rfl)]
      exact ⟨_, _, _, rfl, rfl, h0⟩
    · have g1 : Nt_within x (nI ln) 0 11 = 1 := within_in (n := 11) (by omega) (by decide)
      rw [g1, if_neg one_ne, if_pos (ib_nI (by omega) (by decide)), Option.bind_some]
      dsimp only
      rw [if_neg one_ne, if_neg (show ¬ nI ln = (12 : Int32) from fun e => hf ((nI_eq (a := ln) (b := 12) (by omega) (by decide)).mp e)), if_pos (ib_nI (by omega) (by decide)), nI_clamp (by omega)]
      have e1 : (sI x 33 ln (nI t)).1 32 2 = nI ln := t2
      have e2 : (sI m 46 ln (nI t)).1 37 22 = nI ln := t3
      rw [e1, e2, nI_1]
      refine ⟨_, _, _, rfl, by rw [sI_at, sI_at], ?_⟩
      refine ⟨S, T, s0, sh, tr, tk, sk, tn, tx, ln + 1, fun j => if j = ln then t else lg j, kb, z, hT, hL, hTx, ⟨by omega, sI_at, sI_at, fun j hj => ?_⟩, ?_, hZ, hZ', hO⟩
      · by_cases hjt : j = ln
        · subst hjt
          dsimp only
          rw [if_pos rfl]
          refine ⟨ht, ?_, ?_⟩
          · rw [sI_ne (by decide), sI_at]
          · rw [sI_ne (by decide), sI_at]
        · obtain ⟨a1, a2, a3⟩ := t4 j (by omega)
          dsimp only
          rw [if_neg hjt]
          refine ⟨a1, ?_, ?_⟩
          · rw [sI_ne (by decide), sI_nk hjt]; exact a2
          · rw [sI_ne (by decide), sI_nk hjt]; exact a3
      · refine ⟨hK.1, fun i hi => ⟨(hK.2 i hi).1, fun hk => ?_⟩⟩
        obtain ⟨z', a1, a2, a3⟩ := (hK.2 i hi).2 hk
        refine ⟨z', a1.eq ?_ ?_ ?_ ?_, a2, a3⟩ <;> rw [sI_ne (by omega), sI_ne (by omega)]
theorem nt_isSk {i : Nat} (hi : i < 2) : Nt_isSeeker x (nI i) = 1 := within_in (n := 1) (by omega) (by decide)
/-- a ride of a seeker, told -/
theorem send_ok {S T s0 sh : Nat} {tr : Tr} {tk : Nat → Nat} {sk : Nat → Int32} {tn : Nat} {tx : Nat → Nat} {ln : Nat} {lg : Nat → Nat} {kb : Nat → Bool} {z : Sc} (hT : TOK S T tr) (hL : LdR x m S T s0 sh tr tk sk) (hTx : TxR x m tn tx) (hLg : LgR x m T ln lg) (hK : KpR x m S T tr kb) (hZ : ScX x 13 z) (hZ' : ScM m 0 z) (hO : ScOK S T tr z) {i : Nat} (hi : i < 2) {v : Int32} (hv : v = -1 ∨ ∃ t, t < T ∧ v = nI t) : Rel (sI x 16 i v) (sI m 38 (10 + i) v) := by
  have hx := xs_sI x (c := 16) i v (by omega)
  have hm := ms_sI m (k := 10 + i) v (by omega)
  obtain ⟨dy, he, aw, ca, rd, tk', sk', sn, my, wy, lt⟩ := z
  refine ⟨S, T, s0, sh, tr, tk, sk, tn, tx, ln, lg, kb, (dy, he, aw, ca, rd, tk', sk', fun j => if j = i then v else sn j, my, wy, lt), hT, hL.eq hx hm, hTx.eq hx hm, hLg.eq hx hm, hK.eq hx hm, ?_, ?_, ?_⟩
  · obtain ⟨c1, c2, c3, c4, c5, c6, c7, c8, c9, c10, c11⟩ := hZ
    refine ⟨c1, c2, c3, c4, c5, c6, c7, fun k hk => ?_, c9, c10, c11⟩
    by_cases h : k = i
    · subst h; dsimp only; rw [if_pos rfl, show 13 + 3 = 16 from rfl, sI_at]
    · dsimp only; rw [if_neg h, sI_nk h]; exact c8 k hk
  · obtain ⟨c1, c2, c3, c4, c5, c6, c7, c8, c9, c10, c11⟩ := hZ'
    refine ⟨by rw [sI_nk (by omega)]; exact c1, by rw [sI_nk (by omega)]; exact c2, by rw [sI_nk (by omega)]; exact c3, by rw [sI_nk (by omega)]; exact c4, by rw [sI_nk (by omega)]; exact c5, fun k hk => by rw [sI_nk (by omega)]; exact c6 k hk, fun k hk => by rw [sI_nk (by omega)]; exact c7 k hk, fun k hk => ?_, by rw [sI_nk (by omega)]; exact c9, by rw [sI_nk (by omega)]; exact c10, by rw [sI_nk (by omega)]; exact c11⟩
    by_cases h : k = i
    · subst h; dsimp only; rw [if_pos rfl, Nat.zero_add, sI_at]
    · dsimp only; rw [if_neg h, sI_nk (by omega)]; exact c8 k hk
  · obtain ⟨c1, c2, c3, c4, c5, c6, c7, c8, c9⟩ := hO
    refine ⟨c1, c2, c3, c4, fun k hk => ?_, c6, c7, c8, c9⟩
    by_cases h : k = i
    · dsimp only; rw [if_pos h]; exact hv
    · dsimp only; rw [if_neg h]; exact c5 k hk
theorem r_send (h : Rel x m) (a b : Int32) : ∃ r x' m', Nt_send x a b = some (r, x') ∧ Mo_send m a b = some (r, m') ∧ Rel x' m' := by
  have h0 := h
  obtain ⟨S, T, s0, sh, tr, tk, sk, tn, tx, ln, lg, kb, z, hT, hL, hTx, hLg, hK, hZ, hZ', hO⟩ := h
  have h12 := hT.2.2.1
  have h7 := hT.2.1
  unfold Nt_send Mo_send
  rcases sk_cases x m a with ⟨e1, e2⟩ | ⟨e1, e2, i, hi, rfl⟩
  · rw [e1, e2]; exact ⟨_, _, _, rfl, rfl, h0⟩
  rw [e1, e2, if_neg one_ne, if_neg one_ne]
  have core : (b = -1 ∨ ∃ t, t < T ∧ b = nI t) → ∃ r x' m', Nt_send_B26 x (nI i) b = some (r, x') ∧ Mo_send_B23 m (nI i) b = some (r, m') ∧ Rel x' m' := by
    intro hb
    have hS := send_ok hT hL hTx hLg hK hZ hZ' hO hi hb
    have hx := xs_sI x (c := 16) i b (by omega)
    have hm := ms_sI m (k := 10 + i) b (by omega)
    obtain ⟨dy, he, aw, ca, rd, tk', sk', sn, my, wy, lt⟩ := z
    obtain ⟨c1, c2, c3, c4, c5, c6, c7, c8, c9, c10, c11⟩ := hZ
    obtain ⟨d1, d2, d3, d4, d5, d6, d7, d8, d9, d10, d11⟩ := hZ'
    obtain ⟨o1, o2, o3, o4, -⟩ := hO
    have ci : x.1 15 i = sk' i := c7 i hi
    unfold Nt_send_B26 Mo_send_B23 Sc_canSend
    rw [c4, show m.1 38 3 = bi ca from d4, if_pos (m_sk d7 hi).1, (m_sk d7 hi).2, e1, if_neg one_ne, if_pos (ib_nI hi (by decide)), nI_clamp (by omega), ci]
    cases ca with
    | true => rw [bi_t, if_pos rfl, if_neg one_ne]; exact ⟨_, _, _, rfl, rfl, h0⟩
    | false =>
      rw [bi_f, if_pos rfl, if_neg (show ¬ (0 : Int32) = 1 by decide)]
      by_cases hsk : sk' i = -1
      · rw [if_pos hsk, if_pos hsk]; exact ⟨_, _, _, rfl, rfl, h0⟩
      · rw [if_neg hsk, if_neg hsk]
        obtain ⟨s, hs, es⟩ := (o4 i hi).resolve_left hsk
        unfold Mo_send_B86
        rw [if_pos (m_sn hi).1, (m_sn hi).2]
        rcases hb with rfl | ⟨t, ht, rfl⟩
        · rw [if_pos rfl, if_pos rfl, if_pos rfl, Option.bind_some, if_neg one_ne, if_pos (ib_nI hi (by decide))]
          unfold Sc_placeBehind
          rw [nt_isSk hi, if_neg one_ne, if_pos (ib_nI hi (by decide)), nI_clamp (by omega), sI_at, if_pos rfl, if_pos (ib_nI hi (by decide)), sI_ne (by decide), ci, Option.bind_some]
          exact ⟨_, _, _, rfl, rfl, hS⟩
        · have hne := nI_m1 (j := t) (by omega)
          obtain ⟨-, -, -, -, -, e4, -⟩ := hT.2.2.2 t ht
          rw [if_neg hne, if_neg hne, if_pos (ib_nI hi (by decide)), es, c1, show m.1 38 0 = dy from d1, la_leaves hL.1 hT ht (by omega), mo_leaves hL.2.1 hT ht (by omega), Option.bind_some, Option.bind_some, la_p4 hL.1 hT ht, if_pos (mo_4 hL.2.1 hT ht).1, (mo_4 hL.2.1 hT ht).2]
          cases hl : lvs tr t s dy with
          | false => rw [bi_f, if_pos rfl, if_pos rfl]; exact ⟨_, _, _, rfl, rfl, h0⟩
          | true =>
            rw [bi_t, if_neg one_ne, if_neg one_ne, Option.bind_some]
            rcases e4 with e | e
            · rw [e, if_pos (show nI 1 = 1 from rfl), if_neg (show ¬ nI 1 = 2 by decide), Option.bind_some, if_neg one_ne, if_pos (ib_nI hi (by decide)), if_neg hne]
              unfold Sc_placeBehind
              rw [nt_isSk hi, if_neg one_ne, if_pos (ib_nI hi (by decide)), nI_clamp (by omega), sI_at, if_neg hne, if_pos (ib_nI hi (by decide)), la_p1 (hL.1.eq hx) hT ht, Option.bind_some, Option.bind_some, if_pos (mo_1 (hL.2.1.eq hm) hT ht).1, (mo_1 (hL.2.1.eq hm) hT ht).2]
              exact ⟨_, _, _, rfl, rfl, hS⟩
            · rw [e, if_neg (show ¬ nI 2 = 1 by decide), if_pos (show nI 2 = 2 from rfl)]
              exact ⟨_, _, _, rfl, rfl, h0⟩
  by_cases hb : b = -1
  · rw [if_pos hb, if_pos hb]; exact core (Or.inl hb)
  · rw [if_neg hb, if_neg hb]
    rcases tr_cases hL.1 hL.2.1 (by omega) b with ⟨f1, f2⟩ | ⟨f1, f2, t, ht, rfl⟩
    · rw [f1, f2]; exact ⟨_, _, _, rfl, rfl, h0⟩
    · rw [f1, f2, if_neg one_ne, if_neg one_ne]; exact core (Or.inr ⟨t, ht, rfl⟩)
theorem mo_copy_L {a b : Nat} (ha : a < 3) (hb : b < 3) (hab : a ≠ b) : ∀ (d j n : Nat) (m : Wd), j + d = 15 → d < n → ∃ m', Mo_copy_L2 Mo_copy_B36 n m (nI a) (nI b) (nI j) = some m' ∧ (∀ c, c ≠ 38 → m'.1 c = m.1 c) ∧ m'.2 = m.2 ∧ (∀ q, j ≤ q → q < 15 → m'.1 38 (15 * b + q) = m.1 38 (15 * a + q)) ∧ ∀ q, (q < 15 * b + j ∨ 15 * b + 15 ≤ q) → m'.1 38 q = m.1 38 q := by
  intro d
  induction d with
  | zero =>
    intro j n m hj hn
    obtain ⟨n, rfl⟩ : ∃ q, n = q + 1 := ⟨n - 1, by omega⟩
    rw [Mo_copy_L2, if_pos (show (15 : Int32) ≤ nI j from nI_le (a := 15) (by omega) (by omega))]
    exact ⟨m, rfl, fun _ _ => rfl, rfl, fun q h1 h2 => absurd h2 (by omega), fun _ _ => rfl⟩
  | succ d ih =>
    intro j n m hj hn
    obtain ⟨n, rfl⟩ : ∃ q, n = q + 1 := ⟨n - 1, by omega⟩
    rw [Mo_copy_L2, if_neg (show ¬ (15 : Int32) ≤ nI j from nI_ge (b := 15) (by omega) (by decide)), show (15 : Int32) = nI 15 from rfl, pk_mul, pk_mul, nI_add, nI_add, if_pos (ib_nI (by omega) (by decide)), if_pos (ib_nI (by omega) (by decide)), nI_clamp (by omega), nI_clamp (by omega), nI_1]
    obtain ⟨m', e1, e2, e3, e4, e5⟩ := ih (j + 1) n (sI m 38 (15 * b + j) (m.1 38 (15 * a + j))) (by omega) (by omega)
    refine ⟨m', e1, fun c hc => by rw [e2 c hc, sI_ne hc], e3, fun q h1 h2 => ?_, fun q hq => ?_⟩
    · by_cases hqj : q = j
      · subst hqj; rw [e5 _ (by omega), sI_at]
      · rw [e4 q (by omega) h2, sI_nk (by omega)]
    · rw [e5 q (by omega), sI_nk (by omega)]
theorem mo_copy {a b : Nat} (ha : a < 3) (hb : b < 3) (hab : a ≠ b) (m : Wd) : ∃ m', Mo_copy m (nI a) (nI b) = some m' ∧ (∀ c, c ≠ 38 → m'.1 c = m.1 c) ∧ m'.2 = m.2 ∧ (∀ q, q < 15 → m'.1 38 (15 * b + q) = m.1 38 (15 * a + q)) ∧ ∀ q, (q < 15 * b ∨ 15 * b + 15 ≤ q) → m'.1 38 q = m.1 38 q := by
  obtain ⟨m', e1, e2, e3, e4, e5⟩ := mo_copy_L ha hb hab 15 0 FU m rfl (by decide)
  exact ⟨m', e1, e2, e3, fun q hq => e4 q (by omega) hq, fun q hq => e5 q (by omega)⟩
theorem cI_ne {w : Wd} {src sp dst dp n a : Nat} (h : a ≠ dst) : (cI w src sp dst dp n).1 a = w.1 a := by
  show (if a = dst then va_cpy (w.1 src) (w.1 dst) sp dp n else w.1 a) = w.1 a
  rw [if_neg h]
theorem sc_copy_17_13 {x : Wd} {z : Sc} (h : ScX x 13 z) : ∃ x', Sc_copy_17_13 x = some x' ∧ ScX x' 17 z ∧ ∀ c, c < 17 ∨ 20 < c → x'.1 c = x.1 c := by
  obtain ⟨dy, he, aw, ca, rd, tk, sk, sn, my, wy, lt⟩ := z
  obtain ⟨c1, c2, c3, c4, c5, c6, c7, c8, c9, c10, c11⟩ := h
  unfold Sc_copy_17_13
  rw [if_pos (by show x.1 13 3 &&& 1 = x.1 13 3; rw [c3]; exact bi_and1 _), if_pos (by show x.1 13 4 &&& 1 = x.1 13 4; rw [c4]; exact bi_and1 _)]
  refine ⟨_, rfl, ⟨c1, c2, c3, c4, c5, fun k hk => ?_, fun k hk => ?_, fun k hk => ?_, c9, c10, c11⟩, fun c hc => ?_⟩
  · show va_cpy (x.1 14) (x.1 18) 0 0 3 k = _
    rw [pk_cpy_in (by omega) (by omega), Nat.zero_add, Nat.sub_zero]
    exact c6 k hk
  · show va_cpy (x.1 15) (x.1 19) 0 0 2 k = _
    rw [pk_cpy_in (by omega) (by omega), Nat.zero_add, Nat.sub_zero]
    exact c7 k hk
  · show va_cpy (x.1 16) (x.1 20) 0 0 2 k = _
    rw [pk_cpy_in (by omega) (by omega), Nat.zero_add, Nat.sub_zero]
    exact c8 k hk
  · rw [sI_ne (by omega), sI_ne (by omega), sI_ne (by omega), cI_ne (by omega), cI_ne (by omega), cI_ne (by omega), sI_ne (by omega), sI_ne (by omega), sI_ne (by omega), sI_ne (by omega), sI_ne (by omega)]
theorem sc_copy_21_13 {x : Wd} {z : Sc} (h : ScX x 13 z) : ∃ x', Sc_copy_21_13 x = some x' ∧ ScX x' 21 z ∧ ∀ c, c < 21 ∨ 24 < c → x'.1 c = x.1 c := by
  obtain ⟨dy, he, aw, ca, rd, tk, sk, sn, my, wy, lt⟩ := z
  obtain ⟨c1, c2, c3, c4, c5, c6, c7, c8, c9, c10, c11⟩ := h
  unfold Sc_copy_21_13
  rw [if_pos (by show x.1 13 3 &&& 1 = x.1 13 3; rw [c3]; exact bi_and1 _), if_pos (by show x.1 13 4 &&& 1 = x.1 13 4; rw [c4]; exact bi_and1 _)]
  refine ⟨_, rfl, ⟨c1, c2, c3, c4, c5, fun k hk => ?_, fun k hk => ?_, fun k hk => ?_, c9, c10, c11⟩, fun c hc => ?_⟩
  · show va_cpy (x.1 14) (x.1 22) 0 0 3 k = _
    rw [pk_cpy_in (by omega) (by omega), Nat.zero_add, Nat.sub_zero]
    exact c6 k hk
  · show va_cpy (x.1 15) (x.1 23) 0 0 2 k = _
    rw [pk_cpy_in (by omega) (by omega), Nat.zero_add, Nat.sub_zero]
    exact c7 k hk
  · show va_cpy (x.1 16) (x.1 24) 0 0 2 k = _
    rw [pk_cpy_in (by omega) (by omega), Nat.zero_add, Nat.sub_zero]
    exact c8 k hk
  · rw [sI_ne (by omega), sI_ne (by omega), sI_ne (by omega), cI_ne (by omega), cI_ne (by omega), cI_ne (by omega), sI_ne (by omega), sI_ne (by omega), sI_ne (by omega), sI_ne (by omega), sI_ne (by omega)]
theorem sc_copy_13_17 {x : Wd} {z : Sc} (h : ScX x 17 z) : ∃ x', Sc_copy_13_17 x = some x' ∧ ScX x' 13 z ∧ ∀ c, c < 13 ∨ 16 < c → x'.1 c = x.1 c := by
  obtain ⟨dy, he, aw, ca, rd, tk, sk, sn, my, wy, lt⟩ := z
  obtain ⟨c1, c2, c3, c4, c5, c6, c7, c8, c9, c10, c11⟩ := h
  unfold Sc_copy_13_17
  rw [if_pos (by show x.1 17 3 &&& 1 = x.1 17 3; rw [c3]; exact bi_and1 _), if_pos (by show x.1 17 4 &&& 1 = x.1 17 4; rw [c4]; exact bi_and1 _)]
  refine ⟨_, rfl, ⟨c1, c2, c3, c4, c5, fun k hk => ?_, fun k hk => ?_, fun k hk => ?_, c9, c10, c11⟩, fun c hc => ?_⟩
  · show va_cpy (x.1 18) (x.1 14) 0 0 3 k = _
    rw [pk_cpy_in (by omega) (by omega), Nat.zero_add, Nat.sub_zero]
    exact c6 k hk
  · show va_cpy (x.1 19) (x.1 15) 0 0 2 k = _
    rw [pk_cpy_in (by omega) (by omega), Nat.zero_add, Nat.sub_zero]
    exact c7 k hk
  · show va_cpy (x.1 20) (x.1 16) 0 0 2 k = _
    rw [pk_cpy_in (by omega) (by omega), Nat.zero_add, Nat.sub_zero]
    exact c8 k hk
  · rw [sI_ne (by omega), sI_ne (by omega), sI_ne (by omega), cI_ne (by omega), cI_ne (by omega), cI_ne (by omega), sI_ne (by omega), sI_ne (by omega), sI_ne (by omega), sI_ne (by omega), sI_ne (by omega)]
theorem sc_copy_13_21 {x : Wd} {z : Sc} (h : ScX x 21 z) : ∃ x', Sc_copy_13_21 x = some x' ∧ ScX x' 13 z ∧ ∀ c, c < 13 ∨ 16 < c → x'.1 c = x.1 c := by
  obtain ⟨dy, he, aw, ca, rd, tk, sk, sn, my, wy, lt⟩ := z
  obtain ⟨c1, c2, c3, c4, c5, c6, c7, c8, c9, c10, c11⟩ := h
  unfold Sc_copy_13_21
  rw [if_pos (by show x.1 21 3 &&& 1 = x.1 21 3; rw [c3]; exact bi_and1 _), if_pos (by show x.1 21 4 &&& 1 = x.1 21 4; rw [c4]; exact bi_and1 _)]
  refine ⟨_, rfl, ⟨c1, c2, c3, c4, c5, fun k hk => ?_, fun k hk => ?_, fun k hk => ?_, c9, c10, c11⟩, fun c hc => ?_⟩
  · show va_cpy (x.1 22) (x.1 14) 0 0 3 k = _
    rw [pk_cpy_in (by omega) (by omega), Nat.zero_add, Nat.sub_zero]
    exact c6 k hk
  · show va_cpy (x.1 23) (x.1 15) 0 0 2 k = _
    rw [pk_cpy_in (by omega) (by omega), Nat.zero_add, Nat.sub_zero]
    exact c7 k hk
  · show va_cpy (x.1 24) (x.1 16) 0 0 2 k = _
    rw [pk_cpy_in (by omega) (by omega), Nat.zero_add, Nat.sub_zero]
    exact c8 k hk
  · rw [sI_ne (by omega), sI_ne (by omega), sI_ne (by omega), cI_ne (by omega), cI_ne (by omega), cI_ne (by omega), sI_ne (by omega), sI_ne (by omega), sI_ne (by omega), sI_ne (by omega), sI_ne (by omega)]
theorem ScM.moved {m m' : Wd} {o o' : Nat} {z : Sc} (h : ScM m o z) (h0 : ∀ q, q < 15 → m'.1 38 (o' + q) = m.1 38 (o + q)) : ScM m' o' z := by
  obtain ⟨dy, he, aw, ca, rd, tk, sk, sn, my, wy, lt⟩ := z
  obtain ⟨c1, c2, c3, c4, c5, c6, c7, c8, c9, c10, c11⟩ := h
  exact ⟨(h0 0 (by decide)).trans c1, (h0 1 (by decide)).trans c2, (h0 2 (by decide)).trans c3, (h0 3 (by decide)).trans c4, (h0 7 (by decide)).trans c5, fun k hk => by rw [Nat.add_assoc, h0 _ (by omega), ← Nat.add_assoc]; exact c6 k hk, fun k hk => by rw [Nat.add_assoc, h0 _ (by omega), ← Nat.add_assoc]; exact c7 k hk, fun k hk => by rw [Nat.add_assoc, h0 _ (by omega), ← Nat.add_assoc]; exact c8 k hk, (h0 12 (by decide)).trans c9, (h0 13 (by decide)).trans c10, (h0 14 (by decide)).trans c11⟩
theorem r_keep (h : Rel x m) (a : Int32) : ∃ r x' m', Nt_keep x a = some (r, x') ∧ Mo_keep m a = some (r, m') ∧ Rel x' m' := by
  have h0 := h
  obtain ⟨S, T, s0, sh, tr, tk, sk, tn, tx, ln, lg, kb, z, hT, hL, hTx, hLg, hK, hZ, hZ', hO⟩ := h
  unfold Nt_keep Mo_keep
  rw [show Mo_in m a.toInt64 (0 : Int64) (1 : Int64) = Nt_within x a 0 1 from mo_within x m a 0 1]
  rcases wi_cases x a (n := 1) (by decide) with e | ⟨e, i, hi, rfl⟩
  · rw [show Nt_within x a 0 1 = 0 from e]; exact ⟨_, _, _, rfl, rfl, h0⟩
  rw [show Nt_within x (nI i) 0 1 = 1 from e, if_neg one_ne, if_neg one_ne, show (1 : Int32) + nI i = nI (1 + i) from nI_add 1 i]
  obtain ⟨m', e1, e2, e3, e4, e5⟩ := mo_copy (a := 0) (b := 1 + i) (by decide) (by omega) (by omega) m
  rw [show Mo_copy m 0 (nI (1 + i)) = some m' from e1, Option.bind_some, if_pos (ib_nI (by omega) (by decide)), nI_clamp (by omega), show vp_nar .boolean (1 : Int32) = 1 from rfl]
  have kb9 := hK.1
  have fin : ∀ x' : Wd, ScX x' (17 + 4 * i) z → (∀ c, c < 17 + 4 * i ∨ 20 + 4 * i < c → x'.1 c = x.1 c) → ∃ r x'' m'', some (((sI x' 0 9 ((x'.1 0 9) ||| ((1 : Int32) <<< (nI i &&& (31 : Int32))))).1 13 1), (sI x' 0 9 ((x'.1 0 9) ||| ((1 : Int32) <<< (nI i &&& (31 : Int32)))))) = some (r, x'') ∧ some ((sI m' 39 i (1 : Int32)).1 38 0, sI m' 39 i (1 : Int32)) = some (r, m'') ∧ Rel x'' m'' := by
    intro x' hz hc
    have hs : ∀ q, q < 15 → m'.1 38 q = m.1 38 q := fun q hq => e5 q (by omega)
    refine ⟨_, _, sI m' 39 i (1 : Int32), rfl, ?_, ?_⟩
    · have g1 : (sI x' 0 9 ((x'.1 0 9) ||| ((1 : Int32) <<< (nI i &&& (31 : Int32))))).1 13 1 = x.1 13 1 := by rw [sI_ne (by decide), hc 13 (by omega)]
      have g2 : (sI m' 39 i (1 : Int32)).1 38 0 = m.1 38 0 := by rw [sI_ne (by decide), hs 0 (by decide)]
      rw [g1, g2]
      obtain ⟨dy, he, aw, ca, rd, tk', sk', sn, my, wy, lt⟩ := z
      rw [show x.1 13 1 = dy from hZ.1, show m.1 38 0 = dy from hZ'.1]
    · have hz13 : ∀ c, c < 17 → 0 < c → (sI x' 0 9 ((x'.1 0 9) ||| ((1 : Int32) <<< (nI i &&& (31 : Int32))))).1 c = x.1 c := fun c h1 h2 => by rw [sI_ne (by omega), hc c (by omega)]
      have hz32 : ∀ c, 24 < c → (sI x' 0 9 ((x'.1 0 9) ||| ((1 : Int32) <<< (nI i &&& (31 : Int32))))).1 c = x.1 c := fun c h1 => by rw [sI_ne (by omega), hc c (by omega)]
      have hm : ∀ c, c ≠ 38 → c ≠ 39 → (sI m' 39 i (1 : Int32)).1 c = m.1 c := fun c h1 h2 => by rw [sI_ne h2, e2 c h1]
      refine ⟨S, T, s0, sh, tr, tk, sk, tn, tx, ln, lg, fun j => if j = i then true else kb j, z, hT, ?_, ?_, ?_, ?_, ?_, ?_, hO⟩
      · unfold LdR TX TM at hL ⊢
        rw [hz13 3 (by decide) (by decide), hz13 4 (by decide) (by decide), hz13 5 (by decide) (by decide), hz13 6 (by decide) (by decide), hm 37 (by decide) (by decide), hm 42 (by decide) (by decide), hm 43 (by decide) (by decide), hm 44 (by decide) (by decide)]
        exact hL
      · unfold TxR at hTx ⊢
        rw [hz13 1 (by decide) (by decide), hz13 2 (by decide) (by decide), hm 37 (by decide) (by decide), hm 40 (by decide) (by decide)]
        exact hTx
      · unfold LgR at hLg ⊢
        rw [hz32 32 (by decide), hz32 33 (by decide), hm 37 (by decide) (by decide), hm 46 (by decide) (by decide)]
        exact hLg
      · refine ⟨?_, fun j hj => ⟨?_, fun hk => ?_⟩⟩
        · rw [sI_at, hc 0 (by omega), kb9, shl1_nI (by omega), fa_or]
          congr 1
          match i, hi with
          | 0, _ =>
            show _ = (if true = true then 1 else 0) + (if kb 1 = true then 2 else 0)
            cases kb 0 <;> cases kb 1 <;> decide
          | 1, _ =>
            show _ = (if kb 0 = true then 1 else 0) + (if true = true then 2 else 0)
            cases kb 0 <;> cases kb 1 <;> decide
        · by_cases h : j = i
          · subst h; dsimp only; rw [if_pos rfl, sI_at]; rfl
          · dsimp only; rw [if_neg h, sI_nk h, e2 39 (by decide)]; exact (hK.2 j hj).1
        · by_cases h : j = i
          · subst h
            refine ⟨z, hz.eq (sI_ne (by omega)) (sI_ne (by omega)) (sI_ne (by omega)) (sI_ne (by omega)), (hZ'.moved (o' := 15 + 15 * j) fun q hq => ?_).eq (sI_ne (by decide)), hO⟩
            rw [show 15 + 15 * j + q = 15 * (1 + j) + q by omega, e4 q hq]
          · dsimp only at hk
            rw [if_neg h] at hk
            obtain ⟨z', b1, b2, b3⟩ := (hK.2 j hj).2 hk
            refine ⟨z', b1.eq ?_ ?_ ?_ ?_, (b2.moved (o' := 15 + 15 * j) fun q hq => ?_).eq (sI_ne (by decide)), b3⟩
            · rw [sI_ne (by omega), hc _ (by omega)]
            · rw [sI_ne (by omega), hc _ (by omega)]
            · rw [sI_ne (by omega), hc _ (by omega)]
            · rw [sI_ne (by omega), hc _ (by omega)]
            · exact e5 _ (by omega)
      · exact hZ.eq (hz13 _ (by decide) (by decide)) (hz13 _ (by decide) (by decide)) (hz13 _ (by decide) (by decide)) (hz13 _ (by decide) (by decide))
      · exact (hZ'.moved (o' := 0) fun q hq => by rw [Nat.zero_add]; exact hs q hq).eq (sI_ne (by decide))
  match i, hi with
  | 0, _ =>
    obtain ⟨x', f1, f2, f3⟩ := sc_copy_17_13 hZ
    rw [if_pos (show nI 0 = 0 from rfl), f1, Option.bind_some]
    exact fin x' f2 f3
  | 1, _ =>
    obtain ⟨x', f1, f2, f3⟩ := sc_copy_21_13 hZ
    rw [if_neg (show ¬ nI 1 = 0 by decide), f1, Option.bind_some]
    exact fin x' f2 f3
theorem r_back (h : Rel x m) (a : Int32) : ∃ r x' m', Nt_back x a = some (r, x') ∧ Mo_back m a = some (r, m') ∧ Rel x' m' := by
  have h0 := h
  obtain ⟨S, T, s0, sh, tr, tk, sk, tn, tx, ln, lg, kb, z, hT, hL, hTx, hLg, hK, hZ, hZ', hO⟩ := h
  unfold Nt_back Mo_back
  rw [show Mo_in m a.toInt64 (0 : Int64) (1 : Int64) = Nt_within x a 0 1 from mo_within x m a 0 1]
  rcases wi_cases x a (n := 1) (by decide) with e | ⟨e, i, hi, rfl⟩
  · rw [show Nt_within x a 0 1 = 0 from e]; exact ⟨_, _, _, rfl, rfl, h0⟩
  rw [show Nt_within x (nI i) 0 1 = 1 from e, if_neg one_ne, if_neg one_ne, show (1 : Int32) + nI i = nI (1 + i) from nI_add 1 i, hK.1, bit_nI (by cases kb 0 <;> cases kb 1 <;> decide) (by omega), if_pos (ib_nI (by omega) (by decide)), nI_clamp (by omega), (hK.2 i (by omega)).1]
  have eb : Nat.testBit ((if kb 0 then 1 else 0) + (if kb 1 then 2 else 0)) i = kb i := by
    match i, hi with
    | 0, _ => cases kb 0 <;> cases kb 1 <;> decide
    | 1, _ => cases kb 0 <;> cases kb 1 <;> decide
  rw [eb]
  cases hk : kb i with
  | false => rw [bi_f, if_pos rfl, if_pos rfl]; exact ⟨_, _, _, rfl, rfl, h0⟩
  | true =>
    rw [bi_t, if_neg one_ne, if_neg one_ne]
    obtain ⟨z', b1, b2, b3⟩ := (hK.2 i (by omega)).2 hk
    obtain ⟨m', e1, e2, e3, e4, e5⟩ := mo_copy (a := 1 + i) (b := 0) (by omega) (by decide) (by omega) m
    rw [show Mo_copy m (nI (1 + i)) 0 = some m' from e1, Option.bind_some]
    have hm : MEqS m m' := by
      refine ⟨by rw [e2 37 (by decide)], by rw [e2 37 (by decide)], by rw [e2 37 (by decide)], by rw [e2 37 (by decide)], by rw [e2 37 (by decide)], by rw [e2 37 (by decide)], fun j hj => e5 j (by omega), e2 _ (by decide), e2 _ (by decide), e2 _ (by decide), e2 _ (by decide), e2 _ (by decide), e2 _ (by decide)⟩
    have fin : ∀ x' : Wd, ScX x' 13 z' → (∀ c, c < 13 ∨ 13 + 3 < c → x'.1 c = x.1 c) → ∃ r x'' m'', some (x'.1 13 1, x') = some (r, x'') ∧ some (m'.1 38 0, m') = some (r, m'') ∧ Rel x'' m'' := by
      intro x' hz hc
      have hx : XEqS x x' := ⟨by rw [hc 0 (by omega)], by rw [hc 1 (by omega)], hc 2 (by omega), fun k _ => by rw [hc 3 (by omega)], hc 4 (by omega), hc 5 (by omega), hc 6 (by omega), fun c h1 h2 => hc c (by omega), by rw [hc 32 (by omega)], hc 33 (by omega)⟩
      have hz' : ScM m' 0 z' := b2.moved (o' := 0) fun q hq => by
        rw [show 15 + 15 * i + q = 15 * (1 + i) + q by omega, ← e4 q hq]
      refine ⟨_, _, m', rfl, ?_, S, T, s0, sh, tr, tk, sk, tn, tx, ln, lg, kb, z', hT, hL.eq hx hm, hTx.eq hx hm, hLg.eq hx hm, hK.eq hx hm, hz, hz', b3⟩
      obtain ⟨dy, he, aw, ca, rd, tk', sk', sn, my, wy, lt⟩ := z'
      rw [show x'.1 13 1 = dy from hz.1, show m'.1 38 0 = dy from hz'.1]
    match i, hi, b1 with
    | 0, _, b1 =>
      obtain ⟨x', f1, f2, f3⟩ := sc_copy_13_17 (x := x) (z := z') b1
      rw [if_pos (show nI 0 = 0 from rfl), f1, Option.bind_some]
      exact fin x' f2 f3
    | 1, _, b1 =>
      obtain ⟨x', f1, f2, f3⟩ := sc_copy_13_21 (x := x) (z := z') b1
      rw [if_neg (show ¬ nI 1 = 0 by decide), f1, Option.bind_some]
      exact fin x' f2 f3
end Easy2
