/-! HIDES and SHUT -/
def pc (m : Nat) : Nat := m % 2 + m / 2 % 2 + m / 4 % 2 + m / 8 % 2 + m / 16 % 2 + m / 32 % 2 + m / 64 % 2
theorem pc_le (m : Nat) : pc m ≤ 7 := by unfold pc; omega
theorem jd_all : ∀ m, m < 128 → Jd_bitCount ((fun _ _ => 0), (fun _ _ => 0)) (nI m) = nI (pc m) := by decide +kernel
theorem jd_bits (w : Wd) {m : Nat} (h : m < 128) : Jd_bitCount w (nI m) = nI (pc m) := jd_all m h
theorem mo_bits (w : Wd) {m : Nat} (h : m < 128) : Mo_bits w (nI m) = some (nI (pc m)) := by
  have st : ∀ k, k < 32 → (nI m >>> (nI k &&& (31 : Int32))) &&& (1 : Int32) = nI (m / 2 ^ k % 2) := fun k hk => by
    rw [shr_nI (by omega) hk, and1_nI _ (Nat.lt_of_le_of_lt (Nat.div_le_self _ _) (by omega))]
  have step : ∀ (k n a : Nat), k < 7 → Mo_bits_L4 w (Mo_bits_B24 w) (n + 1) (nI m) (nI a) (nI k) = Mo_bits_L4 w (Mo_bits_B24 w) n (nI m) (nI (a + m / 2 ^ k % 2)) (nI (k + 1)) := by
    intro k n a hk
    rw [Mo_bits_L4, if_neg (show ¬ (7 : Int32) ≤ nI k from nI_ge (b := 7) hk (by decide)), st k (by omega), nI_add, nI_1]
  unfold Mo_bits
  have := (step 0 1999 0 (by decide)).trans ((step 1 1998 _ (by decide)).trans ((step 2 1997 _ (by decide)).trans ((step 3 1996 _ (by decide)).trans ((step 4 1995 _ (by decide)).trans ((step 5 1994 _ (by decide)).trans (step 6 1993 _ (by decide)))))))
  have e : Mo_bits_L4 w (Mo_bits_B24 w) FU (nI m) 0 0 = _ := this
  rw [e, show 1993 = 1992 + 1 from rfl, Mo_bits_L4, if_pos (by decide)]
  unfold Mo_bits_B24 pc
  congr 2
  omega
section Hides
variable {S T : Nat} {tr : Tr}
/-- the best train and how many, by his trains hh and the numbers v -/
def hF (hh : Nat) (v : Nat → Nat) : Nat → Nat → Int32 → Int32 → Int32 × Int32
  | 0, _, be, mo => (be, mo)
  | d + 1, j, be, mo => hF hh v d (j + 1) (if hh.testBit j then (if nI (v j) ≤ mo then be else nI j) else be) (if hh.testBit j then (if nI (v j) ≤ mo then mo else nI (v j)) else mo)
def vh (T : Nat) (tr : Tr) (my : Nat) (dy : Int32) (t : Nat) : Nat := pc (lay T tr my dy (tr t 5) 1) + pc (lay T tr my dy (tr t 5) 2)
theorem lay_128 (hT : TOK S T tr) (my : Nat) (dy : Int32) (kd ni : Nat) : lay T tr my dy kd ni < 128 := by
  rw [lay_rch]
  exact Nat.lt_of_lt_of_le (rch_lt hT _ _ _ _) (Nat.pow_le_pow_right (n := 2) (by decide) hT.2.1)
theorem fs_hide_L (hT : TOK S T tr) {hh my : Nat} (hhl : hh < 2 ^ 31) (h31 : my < 2 ^ 31) {dy : Int32} (k : Wd → Option Wd) : ∀ (d j n : Nat) (w : Wd) (be mo : Int32), TX w T tr → w.1 13 9 = nI my → w.1 13 1 = dy → w.1 25 2 = mo → w.1 25 5 = be → j + d = T → d < n → ∃ w', Fs_hide_L20 k n w (nI hh) (nI j) = k w' ∧ XEq w w' ∧ w'.1 25 5 = (hF hh (vh T tr my dy) d j be mo).1 ∧ w'.1 25 2 = (hF hh (vh T tr my dy) d j be mo).2 := by
  have h12 := hT.2.2.1
  intro d
  induction d with
  | zero =>
    intro j n w be mo h h9 h1 h2 h5 hj hn
    obtain ⟨n, rfl⟩ : ∃ q, n = q + 1 := ⟨n - 1, by omega⟩
    rw [Fs_hide_L20, h.1, if_pos (nI_le (by omega) (by omega))]
    exact ⟨w, rfl, XEq.rf w, h5, h2⟩
  | succ d ih =>
    intro j n w be mo h h9 h1 h2 h5 hj hn
    obtain ⟨n, rfl⟩ : ∃ q, n = q + 1 := ⟨n - 1, by omega⟩
    have hjT : j < T := by omega
    obtain ⟨-, -, -, -, -, -, a5⟩ := hT.2.2.2 j hjT
    have hp : 2 ^ tr j 5 < 2 ^ 31 := Nat.pow_lt_pow_right (by decide) (by omega)
    have hv : Fs_leftBy w (nI (2 ^ tr j 5)) = some (nI (vh T tr my dy j)) := by
      unfold Fs_leftBy
      rw [h9, h1, show (1 : Int32) = nI 1 from rfl, show (2 : Int32) = nI 2 from rfl, la_reached h hT h31 hp (by decide), Option.bind_some, la_reached h hT h31 hp (by decide), Option.bind_some, ← lay_rch, ← lay_rch, jd_bits w (lay_128 hT _ _ _ _), jd_bits w (lay_128 hT _ _ _ _), nI_add]
      rfl
    rw [Fs_hide_L20, h.1, if_neg (nI_ge hjT (by omega)), la_p5 h hT hjT, Option.bind_some, shl1_nI (by omega), hv, Option.bind_some, nt_hasBit hhl (by omega), h2, nI_1, hF]
    cases hb : hh.testBit j with
    | false =>
      rw [bi_f, if_pos rfl]
      exact ih (j + 1) n w be mo h h9 h1 h2 h5 (by omega) (by omega)
    | true =>
      rw [bi_t, if_neg one_ne, if_pos rfl, if_pos rfl]
      by_cases hle : nI (vh T tr my dy j) ≤ mo
      · rw [if_pos hle, if_pos hle, if_pos hle]
        exact ih (j + 1) n w be mo h h9 h1 h2 h5 (by omega) (by omega)
      · rw [if_neg hle, if_neg hle, if_neg hle]
        have hq : XEq w (sI (sI w 25 2 (nI (vh T tr my dy j))) 25 5 (nI j)) := (xe_sI w 2 _ (by omega)).tr (xe_sI _ 5 _ (by omega))
        obtain ⟨w', f1, f2, f3, f4⟩ := ih (j + 1) n _ (nI j) (nI (vh T tr my dy j)) (h.eq hq.S) h9 h1 rfl rfl (by omega) (by omega)
        exact ⟨w', f1, hq.tr f2, f3, f4⟩
theorem mo_hide_L (hT : TOK S T tr) {z : Sc} (hO : ScOK S T tr z) (v1 : Int32) (k : Wd → Int32 → Int32 → Int32 → Option (Int32 × Wd)) : ∀ (d j n : Nat) (w : Wd) (be mo : Int32), TM w T tr → ScM w 0 z → j + d = T → d < n → ∃ w', Mo_hides_L43 k n w v1 be mo (nI j) = k w' v1 (hF (his T tr z) (vh T tr z.2.2.2.2.2.2.2.2.1 z.1) d j be mo).1 (hF (his T tr z) (vh T tr z.2.2.2.2.2.2.2.2.1 z.1) d j be mo).2 ∧ MEq w w' := by
  have h12 := hT.2.2.1
  have h7 := hT.2.1
  have hlt : his T tr z < 2 ^ 31 := Nat.lt_of_lt_of_le (his_lt (z := z) hT) (Nat.pow_le_pow_right (by decide) (by omega))
  intro d
  induction d with
  | zero =>
    intro j n w be mo h hz hj hn
    obtain ⟨n, rfl⟩ : ∃ q, n = q + 1 := ⟨n - 1, by omega⟩
    rw [Mo_hides_L43, h.1, if_pos (nI_le (by omega) (by omega))]
    exact ⟨w, rfl, MEq.rf w⟩
  | succ d ih =>
    intro j n w be mo h hz hj hn
    obtain ⟨n, rfl⟩ : ∃ q, n = q + 1 := ⟨n - 1, by omega⟩
    have hjT : j < T := by omega
    obtain ⟨-, -, -, -, -, -, a5⟩ := hT.2.2.2 j hjT
    have hmy : w.1 38 12 = nI z.2.2.2.2.2.2.2.2.1 := by obtain ⟨dy, he, aw, ca, rd, tk', sk', sn, my, wy, lt⟩ := z; exact hz.2.2.2.2.2.2.2.2.1
    have hdy : w.1 38 0 = z.1 := by obtain ⟨dy, he, aw, ca, rd, tk', sk', sn, my, wy, lt⟩ := z; exact hz.1
    have hml : z.2.2.2.2.2.2.2.2.1 < 2 ^ 31 := by
      obtain ⟨dy, he, aw, ca, rd, tk', sk', sn, my, wy, lt⟩ := z
      exact Nat.lt_of_lt_of_le hO.2.2.2.2.2.1 (Nat.pow_le_pow_right (by decide) (by omega))
    rw [Mo_hides_L43, h.1, if_neg (nI_ge hjT (by omega)), mo_his h hT hz hO, Option.bind_some, mo_has hlt (by omega), nI_1, hF]
    cases hb : (his T tr z).testBit j with
    | false =>
      rw [bi_f, if_pos rfl]
      exact ih (j + 1) n w be mo h hz (by omega) (by omega)
    | true =>
      rw [bi_t, if_neg one_ne, if_pos (mo_5 h hT hjT).1, (mo_5 h hT hjT).2]
      obtain ⟨w2, g1, g2, g3, g4⟩ := mo_layBy h hT (kind := tr j 5) (my := z.2.2.2.2.2.2.2.2.1) (by omega) hml hmy
      rw [hdy] at g3 g4
      rw [g1, Option.bind_some, g3, g4, mo_bits w2 (lay_128 hT _ _ _ _), Option.bind_some, mo_bits w2 (lay_128 hT _ _ _ _), Option.bind_some, nI_add]
      unfold Mo_hides_B109
      rw [nI_1, if_pos rfl, if_pos rfl]
      obtain ⟨w', f1, f2⟩ := ih (j + 1) n w2 (if nI (vh T tr z.2.2.2.2.2.2.2.2.1 z.1 j) ≤ mo then be else nI j) (if nI (vh T tr z.2.2.2.2.2.2.2.2.1 z.1 j) ≤ mo then mo else nI (vh T tr z.2.2.2.2.2.2.2.2.1 z.1 j)) (h.eq g2.S) (hz.eq g2.2.2.2.2.2.2.1) (by omega) (by omega)
      exact ⟨w', f1, g2.tr f2⟩
theorem r_hides {x m : Wd} (h : Rel x m) (a : Int32) : ∃ r x' m', Nt_hides x a = some (r, x') ∧ Mo_hides m a = some (r, m') ∧ Rel x' m' := by
  have h0 := h
  obtain ⟨S, T, s0, sh, tr, tk, sk, tn, tx, ln, lg, kb, z, hT, hL, hTx, hLg, hK, hZ, hZ', hO⟩ := h
  have h12 := hT.2.2.1
  have h7 := hT.2.1
  have hlt : his T tr z < 2 ^ 31 := Nat.lt_of_lt_of_le (his_lt (z := z) hT) (Nat.pow_le_pow_right (by decide) (by omega))
  have hr := sc_rideable hL.1 hT hZ hO
  have c3 : x.1 13 3 = bi z.2.2.1 := by obtain ⟨dy, he, aw, ca, rd, tk', sk', sn, my, wy, lt⟩ := z; exact hZ.2.2.1
  have c4 : x.1 13 4 = bi z.2.2.2.1 := by obtain ⟨dy, he, aw, ca, rd, tk', sk', sn, my, wy, lt⟩ := z; exact hZ.2.2.2.1
  have d3 : m.1 38 2 = bi z.2.2.1 := by obtain ⟨dy, he, aw, ca, rd, tk', sk', sn, my, wy, lt⟩ := z; exact hZ'.2.2.1
  have d4 : m.1 38 3 = bi z.2.2.2.1 := by obtain ⟨dy, he, aw, ca, rd, tk', sk', sn, my, wy, lt⟩ := z; exact hZ'.2.2.2.1
  unfold Nt_hides Mo_hides
  rw [show Mo_in m a.toInt64 (0 : Int64) (1 : Int64) = Nt_within x a 0 1 from mo_within x m a 0 1]
  by_cases hw : Nt_within x a 0 1 = 0
  · rw [hw]; exact ⟨_, _, _, rfl, rfl, h0⟩
  rw [if_neg hw, if_neg hw, c3, c4, d3, d4]
  cases hca : z.2.2.2.1 with
  | true => rw [bi_t, if_neg one_ne, if_pos rfl]; exact ⟨_, _, _, rfl, rfl, h0⟩
  | false =>
    rw [bi_f, if_pos rfl, if_neg (show ¬ (0 : Int32) = 1 by decide)]
    cases haw : z.2.2.1 with
    | true => rw [bi_t, if_neg one_ne, if_pos rfl]; exact ⟨_, _, _, rfl, rfl, h0⟩
    | false =>
      rw [bi_f, if_pos rfl, if_neg (show ¬ (0 : Int32) = 1 by decide)]
      unfold Fs_hide
      rw [hr, Option.bind_some]
      have hq : XEq x (sI (sI x 25 2 (-1)) 25 5 (-1)) := (xe_sI x 2 _ (by omega)).tr (xe_sI _ 5 _ (by omega))
      have c9 : x.1 13 9 = nI z.2.2.2.2.2.2.2.2.1 := by obtain ⟨dy, he, aw, ca, rd, tk', sk', sn, my, wy, lt⟩ := z; exact hZ.2.2.2.2.2.2.2.2.1
      have c1 : x.1 13 1 = z.1 := by obtain ⟨dy, he, aw, ca, rd, tk', sk', sn, my, wy, lt⟩ := z; exact hZ.1
      have hml : z.2.2.2.2.2.2.2.2.1 < 2 ^ 31 := by
        obtain ⟨dy, he, aw, ca, rd, tk', sk', sn, my, wy, lt⟩ := z
        exact Nat.lt_of_lt_of_le hO.2.2.2.2.2.1 (Nat.pow_le_pow_right (by decide) (by omega))
      obtain ⟨x', f1, f2, f3, f4⟩ := fs_hide_L hT hlt hml Fs_hide_B79 T 0 FU (sI (sI x 25 2 (-1)) 25 5 (-1)) (-1) (-1) (hL.1.eq hq.S) c9 c1 rfl rfl (by omega) (by unfold FU; omega)
      obtain ⟨m', g1, g2⟩ := mo_hide_L hT hO a Mo_hides_B129 T 0 FU m (-1) (-1) hL.2.1 hZ' (by omega) (by unfold FU; omega)
      rw [show Fs_hide_L20 Fs_hide_B79 FU (sI (sI x 25 2 (-1)) 25 5 (-1)) (nI (his T tr z)) 0 = some x' from f1, Option.bind_some, show Mo_hides_L43 Mo_hides_B129 FU m a (-1) (-1) 0 = _ from g1]
      unfold Mo_hides_B129
      rw [f3, f4]
      have hR := h0.eq (hq.tr f2) g2
      by_cases ha : a = 0
      · rw [if_pos ha, if_pos ha]; exact ⟨_, _, _, rfl, rfl, hR⟩
      · rw [if_neg ha, if_neg ha]; exact ⟨_, _, _, rfl, rfl, hR⟩
end Hides
