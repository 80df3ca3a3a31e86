/-! THE LAW, from its entry -/
set_option maxHeartbeats 4000000 in
set_option maxRecDepth 100000 in
theorem whole_start {p : Program} {e : Env} {s : State} {m : MethodId} {below : List Frame} {meth : Method} {c : Code} (l : Launch) (hflags : l.flags = flags0) {b L : Nat} {xs : Nat → Int32} (hL : L ≤ 2048) (C0 : lw_At p s m meth c b L xs) : W p l e room_1 s m #[Value.ref b] below meth c s.heap [] 0 0 (lw_Z below #[Value.ref b] s) (entryFrame m ([Value.ref b] : List Value).toArray 4) := by
  obtain ⟨hx, hb, hr, hml, hown, hts, hX, hbl, hlocks, hgv⟩ := id C0
  have htb := tbw hts
  have hN := nst_start hts
  obtain ⟨adK, adV, hSK0⟩ := sk_start hts hgv
  obtain ⟨D, ids, hK0⟩ := k_start htb
  obtain ⟨g, hg⟩ : ∃ g : GG, g = (D, ids, (fun _ => 0), adK, adV) := ⟨_, rfl⟩
  have hK : va_K (gD g) vwCl (tyl g) s := by rw [hg]; exact hK0 _
  have hSK : SKa g (fun q : Nat => s.heap.size ≤ q) s s.heap := by rw [hg]; exact hSK0 _ _ _
  have hA : ∀ q : Nat, s.heap.size ≤ q → (fun q : Nat => s.heap.size ≤ q) q := fun _ h => h
  have hown : s.vm.findClass RL = some m.cls := hown
  have hb : c.code = cL_law := hb
  have hS : va_S (fun q : Nat => s.heap.size ≤ q) s.heap s.heap [] := va_S.rf
  have hP : va_P (gD g) vwCl [] s.heap := fun k q h => by simp at h
  have hD : va_D (fun q : Nat => s.heap.size ≤ q) [] := ⟨fun i j p q h => by simp at h, fun k q h => by simp at h⟩
  have hl := lv_entry ([.ref b]) (n := 4) (Nat.le_of_ble_eq_true rfl)
  rw [lg_entry_eq]
  generalize (lg_sl ([.ref b]) ++ List.replicate (4 - (lg_sl ([.ref b])).length) Slot.unset).toArray = ls at hl ⊢
  have hl : lv_has ls 4 [(0, .ref b)] := hl
  refine va_new (ci := 7) (fs := [.null, .null, .null, .null, .null, .null, .null, .null, .null, .int 0]) (C := RX7) (T := TX7) (N := 10) (own := RL) hx hb htb ck_7.2.1 tyX7 ck_7.2.2.1 hown (htb _ nw_L7.1) (htb _ nw_L7.2.1) (htb _ nw_L7.2.2) hK hP hD hS hA ck_7.1 (fun j hj => by rcases (show j = 0 ∨ j = 1 ∨ j = 2 ∨ j = 3 ∨ j = 4 ∨ j = 5 ∨ j = 6 ∨ j = 7 ∨ j = 8 ∨ j = 9 by omega) with rfl | rfl | rfl | rfl | rfl | rfl | rfl | rfl | rfl | rfl <;> rfl) (Nat.le_of_ble_eq_true rfl) (Nat.le_of_ble_eq_true rfl) dL_law_0 (fun q0 H hP hD hS => ?_)
  refine lv_dup hx hb dL_law_3 rfl ?_
  refine lw_call hx hb hml hown htb hK hN hSK cb_L7 lc_L9 rfl (c_Nt l g q0) [0] [] rfl (wr := []) rfl rfl rfl (by decide) (Nat.le_of_ble_eq_true rfl) ⟨Nat.le_of_ble_eq_true rfl, Nat.le_of_ble_eq_true rfl⟩ ⟨Nat.le_of_ble_eq_true rfl, Nat.le_of_ble_eq_true rfl⟩ dL_law_4 hP hD hS hl (fun w1 H locs hw hP hD hS => ?_)
  obtain ⟨f1, x, o1, rfl, rfl, hsx⟩ := hw
  refine lv_astore_n (lv' := [(1, .ref (f1 0)), (0, .ref b)]) hx hb dL_law_7 rfl hl (by decide) rfl (fun ls hl => ?_)
  refine va_new (ci := 8) (fs := [.null, .null, .null, .int 0, .null, .int 0, .int 0, .null, .int 0, .int 0, .null, .int 0, .null, .int 0, .int 0, .int 0, .int 0, .int 0, .int 0, .int 0, .null, .null, .int 0, .null, .null, .null]) (C := RX8) (T := TX8) (N := 26) (own := RL) hx hb htb ck_8.2.1 tyX8 ck_8.2.2.1 hown (htb _ nw_L10.1) (htb _ nw_L10.2.1) (htb _ nw_L10.2.2) hK hP hD hS hA ck_8.1 (fun j hj => by rcases (show j = 0 ∨ j = 1 ∨ j = 2 ∨ j = 3 ∨ j = 4 ∨ j = 5 ∨ j = 6 ∨ j = 7 ∨ j = 8 ∨ j = 9 ∨ j = 10 ∨ j = 11 ∨ j = 12 ∨ j = 13 ∨ j = 14 ∨ j = 15 ∨ j = 16 ∨ j = 17 ∨ j = 18 ∨ j = 19 ∨ j = 20 ∨ j = 21 ∨ j = 22 ∨ j = 23 ∨ j = 24 ∨ j = 25 by omega) with rfl | rfl | rfl | rfl | rfl | rfl | rfl | rfl | rfl | rfl | rfl | rfl | rfl | rfl | rfl | rfl | rfl | rfl | rfl | rfl | rfl | rfl | rfl | rfl | rfl | rfl <;> rfl) (Nat.le_of_ble_eq_true rfl) (Nat.le_of_ble_eq_true rfl) dL_law_8 (fun q1 H hP hD hS => ?_)
  refine lv_dup hx hb dL_law_11 rfl ?_
  refine lw_call hx hb hml hown htb hK hN hSK cb_L8 lc_L12 rfl (c_Mo l g q1) [37] (0 :: 1 :: 2 :: 3 :: 4 :: 5 :: 6 :: 7 :: 8 :: 9 :: 10 :: 11 :: 12 :: 13 :: 14 :: 15 :: 16 :: 17 :: 18 :: 19 :: 20 :: 21 :: 22 :: 23 :: 24 :: 25 :: 26 :: 27 :: 28 :: 29 :: 30 :: 31 :: 32 :: 33 :: 34 :: 35 :: 36 :: []) rfl (wr := EE (gW g f1) (k_L0, true, o1) x) rfl rfl rfl (by decide) (Nat.le_of_ble_eq_true rfl) ⟨Nat.le_of_ble_eq_true rfl, Nat.le_of_ble_eq_true rfl⟩ ⟨Nat.le_of_ble_eq_true rfl, Nat.le_of_ble_eq_true rfl⟩ dL_law_12 hP hD hS hl (fun w1 H locs hw hP hD hS => ?_)
  obtain ⟨f2, m', o2, rfl, rfl, hsm⟩ := hw
  refine lv_astore_n (lv' := [(2, .ref (f2 37)), (1, .ref (f1 0)), (0, .ref b)]) hx hb dL_law_15 rfl hl (by decide) rfl (fun ls hl => ?_)
  refine lv_iconst (v := 0) hx hb dL_law_16 (by decide) ?_
  refine lv_istore_n (lv' := [(3, .int 0), (2, .ref (f2 37)), (1, .ref (f1 0)), (0, .ref b)]) hx hb dL_law_17 rfl hl (by decide) rfl (fun ls hl => ?_)
  have hE : EE (gW g (fun c => if c < 37 then f1 c else f2 c)) (k_LL, true, m') x = EE (gW g f1) (k_L0, true, o1) x ++ EE (gW g f2) (k_L37, false, o2) m' := rfl
  rw [← hE] at hP hD
  have hok : OKl (gW g (fun c => if c < 37 then f1 c else f2 c)) := okg_D (σ := (k_LL, true, m')) (show k_LL.Nodup by decide) hD
  have hAd : ∀ c ∈ k_LL, s.heap.size ≤ gA (gW g (fun c => if c < 37 then f1 c else f2 c)) c := by
    intro c hc
    obtain ⟨k, hk⟩ := List.getElem?_of_mem hc
    exact hD.2 k _ (by unfold EE; rw [List.getElem?_map]; dsimp only; rw [hk]; rfl)
  refine W.widen (k := 50) (n := 9110) (Nat.le_of_ble_eq_true rfl) (Nat.le_of_ble_eq_true rfl) ?_
  exact lw_loop (K := (p, l, e, s, m, below, meth, c, b, L, xs, gW g (fun c => if c < 37 then f1 c else f2 c))) ⟨C0, hL, htb, hK, hN, hSK, hok, hAd⟩ (L + 1) 0 x m' (rel_start hsx hsm) (show L < 0 + (L + 1) by omega) (by decide) H locs ls hP hS (lv_sub hl [3, 2, 1, 0] rfl)
