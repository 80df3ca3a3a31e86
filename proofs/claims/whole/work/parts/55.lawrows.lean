/-! THE CLAIM OUT OF ONE WALK OF THE LAW'S BODY. Your part is whole_start (and what it stands on); all else here is the same for every law, but numbers. -/
def R_law : String := "NoonTrainsLaw"
def lw_P (b : Addr) (xs : List Int32) (args : Array Value) (s : State) : Prop := args = #[.ref b] ∧ s.IntsAt b xs ∧ xs.length ≤ 2048 ∧ (Jvm.Cond.and given_1 narrow_1).before args s = true
def lw_Q (_ : Array Value) (s : State) (o : Outcome) (t : State) : Prop := o = .returned (some (.int 1)) ∧ Framed s o t [] 50 9110
def lw_Z (below : List Frame) (a : Array Value) (s : State) : State → Prop := fun t => ∃ o, t.status = .running ∧ Ended t below o ∧ lw_Q a s o t
/-- the law's own end, with 1 on the stack, nothing written that was there before, its room as the claim has it -/
theorem lw_ret {p : Program} {l : Launch} {e : Env} {s : State} {m : MethodId} {below : List Frame} {meth : Method} {c : Code} {b : Nat} (hx : p.tables.exec = Jvm.exec) (hb : c.code = code) (hr : meth.sig.returnType = ret) (hlocks : meth.locks = false) {pc : Nat} {H : Heap} {ls : Array Slot} (hdg : decode code pc = .ok (.ireturn, 1)) : W p l e room_1 s m #[Value.ref b] below meth c H [] 50 9110 (lw_Z below #[Value.ref b] s) (F0 m pc ls [.int 1]) := by
  intro T hT X
  obtain ⟨fs, hret, hrun, hended, hW, hframe⟩ := X.leave (v := some (.int 1)) (hlocks := hlocks) (fun h => by rw [hr] at h; cases h)
  have hmeth' : T.vm.method? m = some meth := X.method'
  refine ⟨T.setFrames fs, ?_, .returned (some (.int 1)), hrun, hended, rfl, ⟨_, rfl⟩, hW, hframe⟩
  jvm_step X.here [X.here.top, hx, hb, hdg, hmeth', hr, ret, narrow_b1]
  (try refine ⟨rfl, ?_⟩); (try refine ⟨rfl, ?_⟩)
  first | (intro acts; rw [hret _ acts rfl rfl rfl]) | rw [hret _ _ rfl rfl rfl]
  exact Steps.refl _
/-- what holds at the law's entry: the machine, the code, the tables' words (any of lw_tbl by 'hts w (by decide +kernel)'), the script of L ints xs at the cell b, what the Statement gives of the start (any of its parts by flat_of_before) -/
def lw_At (p : Program) (s : State) (m : MethodId) (meth : Method) (c : Code) (b L : Nat) (xs : Nat → Int32) : Prop :=
  p.tables.exec = Jvm.exec ∧ c.code = code ∧ meth.sig.returnType = ret ∧ c.maxLocals = 4 ∧ s.vm.findClass R_law = some m.cls ∧ (∀ w ∈ lw_tbl, w.before #[Value.ref b] s = true) ∧ va_X b L xs s s.heap ∧ b < s.heap.size ∧ meth.locks = false ∧ (Jvm.Cond.and given_1 narrow_1).before #[Value.ref b] s = true
/-! The law: a row an instruction -/
def k_LL : List Nat := 0 :: 1 :: 2 :: 3 :: 4 :: 5 :: 6 :: 7 :: 8 :: 9 :: 10 :: 11 :: 12 :: 13 :: 14 :: 15 :: 16 :: 17 :: 18 :: 19 :: 20 :: 21 :: 22 :: 23 :: 24 :: 25 :: 26 :: 27 :: 28 :: 29 :: 30 :: 31 :: 32 :: 33 :: 34 :: 35 :: 36 :: 37 :: 38 :: 39 :: 40 :: 41 :: 42 :: 43 :: 44 :: 45 :: 46 :: 47 :: 48 :: 49 :: []
def OKl (g : GG) : Prop := k_LL.Nodup ∧ ∀ i, i ∈ k_LL → ∀ j, j ∈ k_LL → gA g i = gA g j → i = j
theorem k_all {nd : List Nat} (h : nd.all (fun c => k_LL.contains c) = true := by decide) : ∀ c ∈ nd, c ∈ k_LL := fun c hc => by
  have := List.all_eq_true.mp h c hc
  simpa using this
abbrev CtxL : Type := Program × Launch × Env × State × MethodId × List Frame × Method × Code × Nat × Nat × (Nat → Int32) × GG
abbrev k_lch (K : CtxL) : Launch := K.2.1
abbrev kb (K : CtxL) : Nat := K.2.2.2.2.2.2.2.2.1
abbrev kL (K : CtxL) : Nat := K.2.2.2.2.2.2.2.2.2.1
abbrev kx (K : CtxL) : Nat → Int32 := K.2.2.2.2.2.2.2.2.2.2.1
abbrev kg (K : CtxL) : GG := K.2.2.2.2.2.2.2.2.2.2.2
def ljJ (K : CtxL) (x m : Wd) (i : Int32) (pc : Nat) (st : List Value) : Prop :=
  match K with
  | (p, l, e, s, mi, below, meth, c, b, _, _, g) => ∀ (H : Heap) (locs : List Loc) (ls : Array Slot), va_P (gD g) vwCl (EE g (k_LL, true, m) x) H → va_S (fun q : Nat => s.heap.size ≤ q) s.heap H locs → lv_has ls 4 [(0, .ref b), (1, .ref (gA g 0)), (2, .ref (gA g 37)), (3, .int i)] → W p l e room_1 s mi #[Value.ref b] below meth c H locs 50 9110 (lw_Z below #[Value.ref b] s) (F0 mi pc ls st)
def ljF (K : CtxL) : Prop :=
  match K with
  | (p, _, _, s, mi, _, meth, c, b, L, xs, g) => lw_At p s mi meth c b L xs ∧ L ≤ 2048 ∧ (∀ w ∈ TB, w.before #[Value.ref b] s = true) ∧ va_K (gD g) vwCl (tyl g) s ∧ Nst s ∧ SKa g (fun q : Nat => s.heap.size ≤ q) s s.heap ∧ OKl g ∧ ∀ c ∈ k_LL, s.heap.size ≤ gA g c
theorem lj_ok {K : CtxL} (F : ljF K) : OKl (kg K) := by
  obtain ⟨p, l, e, s, mi, below, meth, c, b, L, xs, g⟩ := K
  exact F.2.2.2.2.2.2.1
theorem EE_swap (g : GG) (x m : Wd) : EE g (k_LL, false, x) m = EE g (k_LL, true, m) x := by
  unfold EE
  refine List.map_congr_left (fun c _ => ?_)
  dsimp only
  by_cases h : c < 37
  · rw [decide_eq_true h, if_neg (by decide), if_pos rfl]
  · rw [decide_eq_false h, if_pos rfl, if_neg (by decide)]
section LRows
variable {K : CtxL} {x m : Wd} {i : Int32} {pc : Nat} {st : List Value}
theorem lj_a0 (F : ljF K) (hd : decode cL_law pc = .ok (.aload_n 0, 1)) (kk : ljJ K x m i (pc + 1) (.ref (kb K) :: st)) : ljJ K x m i pc st := by
  obtain ⟨p, l, e, s, mi, below, meth, c, b, L, xs, g⟩ := K
  obtain ⟨⟨hx, hb, -⟩, -⟩ := F
  exact fun H locs ls hP hS hl => lv_aload_n hx hb hd rfl (lv_at hl 0 rfl) (kk H locs ls hP hS hl)
theorem lj_a1 (F : ljF K) (hd : decode cL_law pc = .ok (.aload_n 1, 1)) (kk : ljJ K x m i (pc + 1) (.ref (gA (kg K) 0) :: st)) : ljJ K x m i pc st := by
  obtain ⟨p, l, e, s, mi, below, meth, c, b, L, xs, g⟩ := K
  obtain ⟨⟨hx, hb, -⟩, -⟩ := F
  exact fun H locs ls hP hS hl => lv_aload_n hx hb hd rfl (lv_at hl 1 rfl) (kk H locs ls hP hS hl)
theorem lj_a2 (F : ljF K) (hd : decode cL_law pc = .ok (.aload_n 2, 1)) (kk : ljJ K x m i (pc + 1) (.ref (gA (kg K) 37) :: st)) : ljJ K x m i pc st := by
  obtain ⟨p, l, e, s, mi, below, meth, c, b, L, xs, g⟩ := K
  obtain ⟨⟨hx, hb, -⟩, -⟩ := F
  exact fun H locs ls hP hS hl => lv_aload_n hx hb hd rfl (lv_at hl 2 rfl) (kk H locs ls hP hS hl)
theorem lj_i3 (F : ljF K) (hd : decode cL_law pc = .ok (.iload_n 3, 1)) (kk : ljJ K x m i (pc + 1) (.int i :: st)) : ljJ K x m i pc st := by
  obtain ⟨p, l, e, s, mi, below, meth, c, b, L, xs, g⟩ := K
  obtain ⟨⟨hx, hb, -⟩, -⟩ := F
  exact fun H locs ls hP hS hl => lv_iload_n hx hb hd rfl (lv_at hl 3 rfl) (kk H locs ls hP hS hl)
theorem lj_iconst (F : ljF K) {n : Int} (v : Int32) (hd : decode cL_law pc = .ok (.iconst n, 1)) (hv : Int32.ofInt n = v) (kk : ljJ K x m i (pc + 1) (.int v :: st)) : ljJ K x m i pc st := by
  obtain ⟨p, l, e, s, mi, below, meth, c, b, L, xs, g⟩ := K
  obtain ⟨⟨hx, hb, -⟩, -⟩ := F
  exact fun H locs ls hP hS hl => lv_iconst hx hb hd hv (kk H locs ls hP hS hl)
theorem lj_bipush (F : ljF K) {n : Int} (v : Int32) (hd : decode cL_law pc = .ok (.bipush n, 2)) (hv : (Int8.ofInt n).toInt32 = v) (kk : ljJ K x m i (pc + 2) (.int v :: st)) : ljJ K x m i pc st := by
  obtain ⟨p, l, e, s, mi, below, meth, c, b, L, xs, g⟩ := K
  obtain ⟨⟨hx, hb, -⟩, -⟩ := F
  exact fun H locs ls hP hS hl => lv_bipush hx hb hd hv (kk H locs ls hP hS hl)
theorem lj_iadd (F : ljF K) {u v : Int32} (hd : decode cL_law pc = .ok (.iadd, 1)) (kk : ljJ K x m i (pc + 1) (.int (u + v) :: st)) : ljJ K x m i pc (.int v :: .int u :: st) := by
  obtain ⟨p, l, e, s, mi, below, meth, c, b, L, xs, g⟩ := K
  obtain ⟨⟨hx, hb, -⟩, -⟩ := F
  exact fun H locs ls hP hS hl => lv_iadd hx hb hd (kk H locs ls hP hS hl)
theorem lj_isub (F : ljF K) {u v : Int32} (hd : decode cL_law pc = .ok (.isub, 1)) (kk : ljJ K x m i (pc + 1) (.int (u - v) :: st)) : ljJ K x m i pc (.int v :: .int u :: st) := by
  obtain ⟨p, l, e, s, mi, below, meth, c, b, L, xs, g⟩ := K
  obtain ⟨⟨hx, hb, -⟩, -⟩ := F
  exact fun H locs ls hP hS hl => lv_isub hx hb hd (kk H locs ls hP hS hl)
theorem lj_iand (F : ljF K) {u v : Int32} (hd : decode cL_law pc = .ok (.iand, 1)) (kk : ljJ K x m i (pc + 1) (.int (u &&& v) :: st)) : ljJ K x m i pc (.int v :: .int u :: st) := by
  obtain ⟨p, l, e, s, mi, below, meth, c, b, L, xs, g⟩ := K
  obtain ⟨⟨hx, hb, -⟩, -⟩ := F
  exact fun H locs ls hP hS hl => lv_iand hx hb hd (kk H locs ls hP hS hl)
theorem lj_i2l (F : ljF K) {u : Int32} (hd : decode cL_law pc = .ok (.i2l, 1)) (kk : ljJ K x m i (pc + 1) (.long u.toInt64 :: st)) : ljJ K x m i pc (.int u :: st) := by
  obtain ⟨p, l, e, s, mi, below, meth, c, b, L, xs, g⟩ := K
  obtain ⟨⟨hx, hb, -⟩, -⟩ := F
  exact fun H locs ls hP hS hl => lv_i2l hx hb hd rfl (kk H locs ls hP hS hl)
theorem lj_lshl (F : ljF K) {u : Int64} {v : Int32} (hd : decode cL_law pc = .ok (.lshl, 1)) (kk : ljJ K x m i (pc + 1) (.long (u <<< (v.toInt64 &&& 63)) :: st)) : ljJ K x m i pc (.int v :: .long u :: st) := by
  obtain ⟨p, l, e, s, mi, below, meth, c, b, L, xs, g⟩ := K
  obtain ⟨⟨hx, hb, -⟩, -⟩ := F
  exact fun H locs ls hP hS hl => lv_lshl hx hb hd rfl (kk H locs ls hP hS hl)
theorem lj_land (F : ljF K) {u v : Int64} (hd : decode cL_law pc = .ok (.land, 1)) (kk : ljJ K x m i (pc + 1) (.long (u &&& v) :: st)) : ljJ K x m i pc (.long v :: .long u :: st) := by
  obtain ⟨p, l, e, s, mi, below, meth, c, b, L, xs, g⟩ := K
  obtain ⟨⟨hx, hb, -⟩, -⟩ := F
  exact fun H locs ls hP hS hl => lv_land hx hb hd (kk H locs ls hP hS hl)
theorem lj_lor (F : ljF K) {u v : Int64} (hd : decode cL_law pc = .ok (.lor, 1)) (kk : ljJ K x m i (pc + 1) (.long (u ||| v) :: st)) : ljJ K x m i pc (.long v :: .long u :: st) := by
  obtain ⟨p, l, e, s, mi, below, meth, c, b, L, xs, g⟩ := K
  obtain ⟨⟨hx, hb, -⟩, -⟩ := F
  exact fun H locs ls hP hS hl => lv_lor hx hb hd (kk H locs ls hP hS hl)
theorem lj_ldc2 (F : ljF K) {index : Nat} (v : Int64) (hd : decode cL_law pc = .ok (.ldc2_w index, 3)) (hc : Cond.constantLong RL index v ∈ TB) (kk : ljJ K x m i (pc + 3) (.long v :: st)) : ljJ K x m i pc st := by
  obtain ⟨p, l, e, s, mi, below, meth, c, b, L, xs, g⟩ := K
  obtain ⟨⟨hx, hb, hr, hml, hown, -⟩, -, hts, -⟩ := F
  exact fun H locs ls hP hS hl => lv_ldc2 (own := RL) hx hb hown (hts _ hc) hd (kk H locs ls hP hS hl)
theorem lj_goto (F : ljF K) {off : Int} (tgt : Nat) (hd : decode cL_law pc = .ok (.goto off, 3)) (ht : (pc : Int) + off = (tgt : Int)) (kk : ljJ K x m i tgt st) : ljJ K x m i pc st := by
  obtain ⟨p, l, e, s, mi, below, meth, c, b, L, xs, g⟩ := K
  obtain ⟨⟨hx, hb, -⟩, -⟩ := F
  exact fun H locs ls hP hS hl => lv_goto hx hb hd ht (kk H locs ls hP hS hl)
theorem lj_len (F : ljF K) (hd : decode cL_law pc = .ok (.arraylength, 1)) (kk : ljJ K x m i (pc + 1) (.int (nI (kL K)) :: st)) : ljJ K x m i pc (.ref (kb K) :: st) := by
  obtain ⟨p, l, e, s, mi, below, meth, c, b, L, xs, g⟩ := K
  obtain ⟨⟨hx, hb, hr, hml, hown, -, hX, hbl, -⟩, -⟩ := F
  exact fun H locs ls hP hS hl => va_slen hx hb hX hbl (Nat.not_le.mpr hbl) hS hd (kk H locs ls hP hS hl)
theorem lj_ld (F : ljF K) {v : Int32} (hv : vp_in v (kL K)) (hd : decode cL_law pc = .ok (.iaload, 1)) (kk : ljJ K x m i (pc + 1) (.int (kx K v.toNatClampNeg) :: st)) : ljJ K x m i pc (.int v :: .ref (kb K) :: st) := by
  obtain ⟨p, l, e, s, mi, below, meth, c, b, L, xs, g⟩ := K
  obtain ⟨⟨hx, hb, hr, hml, hown, -, hX, hbl, -⟩, -⟩ := F
  exact fun H locs ls hP hS hl => va_sld hx hb hX hbl (Nat.not_le.mpr hbl) hS hv hd (kk H locs ls hP hS hl)
theorem lj_L (F : ljF K) : kL K ≤ 2048 := by
  obtain ⟨p, l, e, s, mi, below, meth, c, b, L, xs, g⟩ := K
  exact F.2.1
/-- an int of the script -/
theorem lj_arg (F : ljF K) {j n : Nat} (hi : i = nI j) (hn : j + n < kL K) {v : Int} (h1 : decode cL_law pc = .ok (.aload_n 0, 1)) (h2 : decode cL_law (pc + 1) = .ok (.iload_n 3, 1)) (h3 : decode cL_law (pc + 1 + 1) = .ok (.iconst v, 1)) (hv : Int32.ofInt v = nI n) (h4 : decode cL_law (pc + 1 + 1 + 1) = .ok (.iadd, 1)) (h5 : decode cL_law (pc + 1 + 1 + 1 + 1) = .ok (.iaload, 1)) (kk : ljJ K x m i (pc + 5) (.int (kx K (j + n)) :: st)) : ljJ K x m i pc st := by
  have hL := lj_L F
  refine lj_a0 F h1 ?_
  refine lj_i3 F h2 ?_
  refine lj_iconst F (nI n) h3 hv ?_
  refine lj_iadd F h4 ?_
  rw [hi, nI_add]
  subst hi
  refine lj_ld F (ib_in (ib_nI hn (by omega))) h5 ?_
  rw [nI_clamp (by omega)]
  exact kk
theorem lj_run (F : ljF K) {y : MethodName} {r : Option Value} {w' : Wd} {bb : Bool} {o w : Wd} {stk : List Value} {av : Array Value}
    (hE : EE (kg K) (k_LL, bb, o) w = EE (kg K) (k_LL, true, m) x)
    (hrun : ∀ (H : Heap) (locs : List Loc) (ls : Array Slot), va_P (gD (kg K)) vwCl (EE (kg K) (k_LL, bb, o) w) H → va_S (fun q : Nat => K.2.2.2.1.heap.size ≤ q) K.2.2.2.1.heap H locs → lv_has ls 4 [(0, .ref (kb K)), (1, .ref (gA (kg K) 0)), (2, .ref (gA (kg K) 37)), (3, .int i)] → va_Run K.1 (k_lch K) K.2.2.1 room_1 K.2.2.2.1 K.2.2.2.2.1 #[Value.ref (kb K)] K.2.2.2.2.2.1 K.2.2.2.2.2.2.1 K.2.2.2.2.2.2.2.1 H locs 50 9110 0 0 (F0 K.2.2.2.2.1 pc ls stk) st (QQ (kg K) (k_LL, bb, o) r w' av) (AD (kg K) (k_LL, bb, o)))
    {x' m' : Wd} (hE' : EE (kg K) (k_LL, bb, o) w' = EE (kg K) (k_LL, true, m') x') (kk : ljJ K x' m' i (pc + 3) (r.toList ++ st)) : ljJ K x m i pc stk := by
  obtain ⟨p, l, e, s, mi, below, meth, c, b, L, xs, g⟩ := K
  obtain ⟨-, -, hts, hK, hN, hSK, hok, hA⟩ := F
  intro H locs ls hP hS hl T hT X
  obtain ⟨v, st₀, t, T', L2, h0, X', hL, e1, e2, ⟨hv, hP1, hz, hk⟩, hst⟩ := hrun H locs ls (by dsimp only [kg] at hE ⊢; rw [hE]; exact hP) hS hl T hT X
  cases hv
  rw [h0] at hz hk
  have hAD : ∀ q, AD g (k_LL, bb, o) q → s.heap.size ≤ q := fun q h => by
    obtain ⟨c, hc, rfl⟩ := h
    exact hA c hc
  obtain ⟨t2, a1, b1⟩ := kk T'.heap (locs ++ L2) ls (by dsimp only [kg] at hE'; rw [e1, ← hE']; exact hP1)
    ⟨Nat.le_trans hS.1 (by rw [e1]; exact hz), fun q h1 h2 => by rw [e1, hk q (Nat.lt_of_lt_of_le h1 hS.1) (fun h => h2 (hAD q h))]; exact hS.2.1 q h1 h2, fun q hq => by
      rcases List.mem_append.mp hq with h | h
      · exact hS.2.2 q h
      · exact hAD _ (hL q h)⟩ hl T' rfl X'
  exact ⟨t2, hst t2 a1, b1⟩
theorem lj_hd (F : ljF K) {bb : Bool} {o w : Wd} {H : Heap} {locs : List Loc} (hP : va_P (gD (kg K)) vwCl (EE (kg K) (k_LL, bb, o) w) H) (hS : va_S (fun q : Nat => K.2.2.2.1.heap.size ≤ q) K.2.2.2.1.heap H locs) (U : State) (hU : U.heap = H) (hW : K.2.2.2.1.WarmedH U.vm) : HD (kg K) (k_LL, bb, o) w U := by
  obtain ⟨p, l, e, s, mi, below, meth, c, b, L, xs, g⟩ := K
  obtain ⟨-, -, hts, hK, hN, hSK, hok, hA⟩ := F
  refine ⟨by rw [hU]; exact hP, va_K.moved hW.alike hK, hN.warm hW, ?_⟩
  rw [hU]
  exact ((hSK.warm hW).kept hS.2.1).narrow (fun q h => by
    obtain ⟨c, hc, rfl⟩ := h
    exact hA c hc)
/-- a call of the class -/
theorem lj_callX (F : ljF K) {y : MethodName} {c2 : ByteArray} {nL2 : Nat} {ret2 : Option FieldType} {fr2 lo2 idx n : Nat} {As : List Value} {r : Value} {x' : Wd} {stk : List Value} (hB : CwB y c2 nL2 ret2 n) (hL : Cond.methodLink RL idx y ∈ TB ∧ Cond.instanceMethod y ∈ TB ∧ Cond.selects y.cls y y ∈ TB) (hC : ∃ T N, vwCl[7]? = some (y.cls, T, N))
    (M : CT (k_lch K) (kg K) (k_LL, true, m) y c2 nL2 ret2 fr2 lo2 (.ref (gA (kg K) 0) :: As) x (some r) x') (hn : As.length = n) (hstk : stk = As.reverse ++ .ref (gA (kg K) 0) :: st) (hst : (st.map fun v => v.category).sum ≤ 8) (hroom : fr2 + 1 ≤ 12 ∧ 8 + (nL2 + 11) + lo2 ≤ 426) (hd : decode cL_law pc = .ok (.invokevirtual idx, 3)) (kk : ljJ K x' m i (pc + 3) (r :: st)) : ljJ K x m i pc stk := by
  refine lj_run F (y := y) (bb := true) (o := m) (w := x) (w' := x') (r := some r) (av := (Value.ref (gA (kg K) 0) :: As).toArray) rfl (fun H locs ls hP hS hl => ?_) rfl kk
  have hU := fun U hU hW => lj_hd F hP hS U hU hW
  obtain ⟨p, l, e, s, mi, below, meth, c, b, L, xs, g⟩ := K
  obtain ⟨⟨hx, hb, hr, hml, hown, -⟩, -, hts, hK, hN, hSK, hok, hA⟩ := F
  obtain ⟨T, N, hC⟩ := hC
  exact va_runV (C := y.cls) (own := RL) (Ts := TB) ⟨hx, hb, hml, hown, hts⟩ M ⟨callB_of n hts (tb_code hB.1) rfl rfl rfl (hts _ hB.2.1) (hts _ hL.1) hB.2.2 hroom, hts _ hL.2.1, hts _ hL.2.2⟩ ⟨HD_blind, va_recv hK hP (ci := 7) (q0 := 0) hC rfl, fun U h1 h2 => ⟨rfl, hU U h1 h2⟩⟩ rfl hn hl.1 hstk (lv_room hst) hd ⟨Nat.le_of_ble_eq_true rfl, Nat.le_of_ble_eq_true rfl⟩
/-- a call of the reference -/
theorem lj_callM (F : ljF K) {y : MethodName} {c2 : ByteArray} {nL2 : Nat} {ret2 : Option FieldType} {fr2 lo2 idx n : Nat} {As : List Value} {r : Value} {m' : Wd} {stk : List Value} (hB : CwB y c2 nL2 ret2 n) (hL : Cond.methodLink RL idx y ∈ TB ∧ Cond.instanceMethod y ∈ TB ∧ Cond.selects y.cls y y ∈ TB) (hC : ∃ T N, vwCl[8]? = some (y.cls, T, N))
    (M : CT (k_lch K) (kg K) (k_LL, false, x) y c2 nL2 ret2 fr2 lo2 (.ref (gA (kg K) 37) :: As) m (some r) m') (hn : As.length = n) (hstk : stk = As.reverse ++ .ref (gA (kg K) 37) :: st) (hst : (st.map fun v => v.category).sum ≤ 8) (hroom : fr2 + 1 ≤ 12 ∧ 8 + (nL2 + 11) + lo2 ≤ 426) (hd : decode cL_law pc = .ok (.invokevirtual idx, 3)) (kk : ljJ K x m' i (pc + 3) (r :: st)) : ljJ K x m i pc stk := by
  refine lj_run F (y := y) (bb := false) (o := x) (w := m) (w' := m') (r := some r) (av := (Value.ref (gA (kg K) 37) :: As).toArray) (EE_swap _ _ _) (fun H locs ls hP hS hl => ?_) (EE_swap _ _ _) kk
  have hU := fun U hU hW => lj_hd F hP hS U hU hW
  obtain ⟨p, l, e, s, mi, below, meth, c, b, L, xs, g⟩ := K
  obtain ⟨⟨hx, hb, hr, hml, hown, -⟩, -, hts, hK, hN, hSK, hok, hA⟩ := F
  obtain ⟨T, N, hC⟩ := hC
  exact va_runV (C := y.cls) (own := RL) (Ts := TB) ⟨hx, hb, hml, hown, hts⟩ M ⟨callB_of n hts (tb_code hB.1) rfl rfl rfl (hts _ hB.2.1) (hts _ hL.1) hB.2.2 hroom, hts _ hL.2.1, hts _ hL.2.2⟩ ⟨HD_blind, va_recv hK hP (ci := 8) (q0 := 37) hC rfl, fun U h1 h2 => ⟨rfl, hU U h1 h2⟩⟩ rfl hn hl.1 hstk (lv_room hst) hd ⟨Nat.le_of_ble_eq_true rfl, Nat.le_of_ble_eq_true rfl⟩
/-- two answers alike -/
theorem lj_cmp (F : ljF K) {r : Int32} {off : Int} (hd : decode cL_law pc = .ok (.if_icmp .eq off, 3)) (ht : (pc : Int) + off = ((768 : Nat) : Int)) (kk : ljJ K x m i 768 st) : ljJ K x m i pc (.int r :: .int r :: st) := by
  obtain ⟨p, l, e, s, mi, below, meth, c, b, L, xs, g⟩ := K
  obtain ⟨⟨hx, hb, -⟩, -⟩ := F
  exact fun H locs ls hP hS hl => lv_icmp_eq hx hb hd ht (fun _ => kk H locs ls hP hS hl) (fun h => absurd rfl h)
theorem lg_cmp_self (r : Int64) : lg_cmp r r = 0 := by
  unfold lg_cmp
  simp
theorem lj_lcmp (F : ljF K) {r : Int64} {off : Int} (hd : decode cL_law pc = .ok (.lcmp, 1)) (hd2 : decode cL_law (pc + 1) = .ok (.ifCond .eq off, 3)) (ht : ((pc + 1 : Nat) : Int) + off = ((768 : Nat) : Int)) (kk : ljJ K x m i 768 st) : ljJ K x m i pc (.long r :: .long r :: st) := by
  obtain ⟨p, l, e, s, mi, below, meth, c, b, L, xs, g⟩ := K
  obtain ⟨⟨hx, hb, -⟩, -⟩ := F
  exact fun H locs ls hP hS hl => W.lcmp hx hb hd (by
    rw [lg_cmp_self]
    exact lv_if_eq hx hb hd2 ht (fun _ => kk H locs ls hP hS hl) (fun h => absurd rfl h))
end LRows
