def FU : Nat := 2000
def ib (i : Int32) (n : Nat) : Bool := decide (¬ (i < 0 ∨ n ≤ i.toNatClampNeg))
theorem ib_in {i : Int32} {n : Nat} (h : ib i n = true) : vp_in i n := of_decide_eq_true (p := ¬ (i < 0 ∨ n ≤ i.toNatClampNeg)) h
theorem ib_c {i : Int32} {n : Nat} (h : ib i n = true) : vp_in i n := ib_in h
theorem bz_n {v : Int32} (h : v &&& (1 : Int32) = v) : narrow .boolean (.int v) = .int v := by
  show Value.int (v &&& 1) = .int v
  rw [h]
theorem bz_01 {v : Int32} (h : v &&& (1 : Int32) = v) : v = 0 ∨ v = 1 := by
  obtain ⟨j, hj, e⟩ := pk_andE v (m := 1) 1 (by decide)
  rw [h] at e
  match j, hj, e with
  | 0, _, e => exact Or.inl e
  | 1, _, e => exact Or.inr e
theorem bz_f {v : Int32} (h : v &&& (1 : Int32) = v) : fits .boolean (.int v) = true := by
  rcases bz_01 h with e | e <;> rw [e] <;> decide
def rtI : Int32 × Wd → Option Value × Wd := fun q => (some (.int q.1), q.2)
def rtJ : Int64 × Wd → Option Value × Wd := fun q => (some (.long q.1), q.2)
def rtV : Wd → Option Value × Wd := fun q => (none, q)
def rtP (w : Wd) : Int32 → Option Value × Wd := fun r => (some (.int r), w)
def rtQ (w : Wd) : Int64 → Option Value × Wd := fun r => (some (.long r), w)
theorem fx_ok {K : Ctx} {cc : ByteArray} {nL : Nat} {own : String} {ret : Option FieldType} {fr lo : Nat} {b : Bool} {nd : List Nat} (F : Fx K cc nL own ret fr lo b nd) : OKg (cg K) K.2.2.2.2.2.2.2.2.2.2.2 := by
  obtain ⟨p, l, e, R, s, m, args, below, meth, c, g, σ⟩ := K
  exact F.2.2.2.2.2.2.2.2.1
theorem fx_sd {K : Ctx} {cc : ByteArray} {nL : Nat} {own : String} {ret : Option FieldType} {fr lo : Nat} {b : Bool} {nd : List Nat} (F : Fx K cc nL own ret fr lo b nd) : K.2.2.2.2.2.2.2.2.2.2.2.2.1 = b := by
  obtain ⟨p, l, e, R, s, m, args, below, meth, c, g, σ⟩ := K
  exact F.2.2.2.2.2.2.2.2.2.2.2.2.1
theorem fx_ix {K : Ctx} {cc : ByteArray} {nL : Nat} {own : String} {ret : Option FieldType} {fr lo : Nat} {b : Bool} {nd nd' : List Nat} (F : Fx K cc nL own ret fr lo b nd) (h : nd'.all (fun c => nd.contains c) = true) : ∀ c ∈ nd', c ∈ K.2.2.2.2.2.2.2.2.2.2.2.1 := by
  obtain ⟨p, l, e, R, s, m, args, below, meth, c, g, σ⟩ := K
  exact fun c hc => F.2.2.2.2.2.2.2.2.2.2.2.2.2 c (by have := List.all_eq_true.mp h c hc; simpa using this)
theorem n_callVi {K : Ctx} {cc : ByteArray} {nL : Nat} {own : String} {ret : Option FieldType} {fr lo : Nat} {b : Bool} {nd : List Nat} {ρ : Type} {rt : ρ → Option Value × Wd} {res : Option ρ} {w : Wd} {pc : Nat} {lv : List (Nat × Value)} {st : List Value} (F : Fx K cc nL own ret fr lo b nd) {y : MethodName} {c2 : ByteArray} {nL2 : Nat} {ret2 : Option FieldType} {fr2 lo2 idx n : Nat} {As : List Value} {w' : Wd} {stk : List Value} {v : Int32} {a ci : Nat} (hB : CwB y c2 nL2 ret2 n) (hL : Cond.methodLink own idx y ∈ TB ∧ Cond.instanceMethod y ∈ TB ∧ Cond.selects y.cls y y ∈ TB) (G : True ∧ decide (a < 37) = b ∧ ∀ (g : GG) (w : Wd), ∃ fs, cellE g w a = .inr (ci, fs)) (hm : a ∈ nd) (hC : ∃ T N, vwCl[ci]? = some (y.cls, T, N))
    (M : CT K.2.1 (cg K) K.2.2.2.2.2.2.2.2.2.2.2 y c2 nL2 ret2 fr2 lo2 (.ref (gA (cg K) a) :: As) w (some (.int v)) w') (hn : As.length = n) (hstk : stk = As.reverse ++ .ref (gA (cg K) a) :: st) (hst : (st.map fun v => v.category).sum ≤ 8) (hroom : fr2 + 1 ≤ fr ∧ 8 + (nL2 + 11) + lo2 ≤ lo) (hd : decode cc pc = .ok (.invokevirtual idx, 3)) (k : N K rt res w' (pc + 3) lv (.int v :: st)) : N K rt res w pc lv stk := n_callV F hB hL G hm hC M hn hstk hst hroom hd k
theorem n_callVl {K : Ctx} {cc : ByteArray} {nL : Nat} {own : String} {ret : Option FieldType} {fr lo : Nat} {b : Bool} {nd : List Nat} {ρ : Type} {rt : ρ → Option Value × Wd} {res : Option ρ} {w : Wd} {pc : Nat} {lv : List (Nat × Value)} {st : List Value} (F : Fx K cc nL own ret fr lo b nd) {y : MethodName} {c2 : ByteArray} {nL2 : Nat} {ret2 : Option FieldType} {fr2 lo2 idx n : Nat} {As : List Value} {w' : Wd} {stk : List Value} {v : Int64} {a ci : Nat} (hB : CwB y c2 nL2 ret2 n) (hL : Cond.methodLink own idx y ∈ TB ∧ Cond.instanceMethod y ∈ TB ∧ Cond.selects y.cls y y ∈ TB) (G : True ∧ decide (a < 37) = b ∧ ∀ (g : GG) (w : Wd), ∃ fs, cellE g w a = .inr (ci, fs)) (hm : a ∈ nd) (hC : ∃ T N, vwCl[ci]? = some (y.cls, T, N))
    (M : CT K.2.1 (cg K) K.2.2.2.2.2.2.2.2.2.2.2 y c2 nL2 ret2 fr2 lo2 (.ref (gA (cg K) a) :: As) w (some (.long v)) w') (hn : As.length = n) (hstk : stk = As.reverse ++ .ref (gA (cg K) a) :: st) (hst : (st.map fun v => v.category).sum ≤ 8) (hroom : fr2 + 1 ≤ fr ∧ 8 + (nL2 + 11) + lo2 ≤ lo) (hd : decode cc pc = .ok (.invokevirtual idx, 3)) (k : N K rt res w' (pc + 3) lv (.long v :: st)) : N K rt res w pc lv stk := n_callV F hB hL G hm hC M hn hstk hst hroom hd k
theorem n_callVv {K : Ctx} {cc : ByteArray} {nL : Nat} {own : String} {ret : Option FieldType} {fr lo : Nat} {b : Bool} {nd : List Nat} {ρ : Type} {rt : ρ → Option Value × Wd} {res : Option ρ} {w : Wd} {pc : Nat} {lv : List (Nat × Value)} {st : List Value} (F : Fx K cc nL own ret fr lo b nd) {y : MethodName} {c2 : ByteArray} {nL2 : Nat} {ret2 : Option FieldType} {fr2 lo2 idx n : Nat} {As : List Value} {w' : Wd} {stk : List Value}  {a ci : Nat} (hB : CwB y c2 nL2 ret2 n) (hL : Cond.methodLink own idx y ∈ TB ∧ Cond.instanceMethod y ∈ TB ∧ Cond.selects y.cls y y ∈ TB) (G : True ∧ decide (a < 37) = b ∧ ∀ (g : GG) (w : Wd), ∃ fs, cellE g w a = .inr (ci, fs)) (hm : a ∈ nd) (hC : ∃ T N, vwCl[ci]? = some (y.cls, T, N))
    (M : CT K.2.1 (cg K) K.2.2.2.2.2.2.2.2.2.2.2 y c2 nL2 ret2 fr2 lo2 (.ref (gA (cg K) a) :: As) w none w') (hn : As.length = n) (hstk : stk = As.reverse ++ .ref (gA (cg K) a) :: st) (hst : (st.map fun v => v.category).sum ≤ 8) (hroom : fr2 + 1 ≤ fr ∧ 8 + (nL2 + 11) + lo2 ≤ lo) (hd : decode cc pc = .ok (.invokevirtual idx, 3)) (k : N K rt res w' (pc + 3) lv st) : N K rt res w pc lv stk := n_callV F hB hL G hm hC M hn hstk hst hroom hd k
theorem n_callVa {K : Ctx} {cc : ByteArray} {nL : Nat} {own : String} {ret : Option FieldType} {fr lo : Nat} {b : Bool} {nd : List Nat} {ρ : Type} {rt : ρ → Option Value × Wd} {res : Option ρ} {w : Wd} {pc : Nat} {lv : List (Nat × Value)} {st : List Value} (F : Fx K cc nL own ret fr lo b nd) {y : MethodName} {c2 : ByteArray} {nL2 : Nat} {ret2 : Option FieldType} {fr2 lo2 idx n : Nat} {As : List Value} {w' : Wd} {stk : List Value} {v : Nat} {a ci : Nat} (hB : CwB y c2 nL2 ret2 n) (hL : Cond.methodLink own idx y ∈ TB ∧ Cond.instanceMethod y ∈ TB ∧ Cond.selects y.cls y y ∈ TB) (G : True ∧ decide (a < 37) = b ∧ ∀ (g : GG) (w : Wd), ∃ fs, cellE g w a = .inr (ci, fs)) (hm : a ∈ nd) (hC : ∃ T N, vwCl[ci]? = some (y.cls, T, N))
    (M : CT K.2.1 (cg K) K.2.2.2.2.2.2.2.2.2.2.2 y c2 nL2 ret2 fr2 lo2 (.ref (gA (cg K) a) :: As) w (some (.ref v)) w') (hn : As.length = n) (hstk : stk = As.reverse ++ .ref (gA (cg K) a) :: st) (hst : (st.map fun v => v.category).sum ≤ 8) (hroom : fr2 + 1 ≤ fr ∧ 8 + (nL2 + 11) + lo2 ≤ lo) (hd : decode cc pc = .ok (.invokevirtual idx, 3)) (k : N K rt res w' (pc + 3) lv (.ref v :: st)) : N K rt res w pc lv stk := n_callV F hB hL G hm hC M hn hstk hst hroom hd k
theorem n_callSi {K : Ctx} {cc : ByteArray} {nL : Nat} {own : String} {ret : Option FieldType} {fr lo : Nat} {b : Bool} {nd : List Nat} {ρ : Type} {rt : ρ → Option Value × Wd} {res : Option ρ} {w : Wd} {pc : Nat} {lv : List (Nat × Value)} {st : List Value} (F : Fx K cc nL own ret fr lo b nd) {y : MethodName} {c2 : ByteArray} {nL2 : Nat} {ret2 : Option FieldType} {fr2 lo2 idx n : Nat} {As : List Value} {w' : Wd} {stk : List Value} {v : Int32} (hB : CwB y c2 nL2 ret2 n) (hL : Cond.methodLink own idx y ∈ TB ∧ Cond.static y ∈ TB)
    (M : CT K.2.1 (cg K) K.2.2.2.2.2.2.2.2.2.2.2 y c2 nL2 ret2 fr2 lo2 As w (some (.int v)) w') (hn : As.length = n) (hstk : stk = As.reverse ++ st) (hst : (st.map fun v => v.category).sum ≤ 8) (hroom : fr2 + 1 ≤ fr ∧ 8 + (nL2 + 11) + lo2 ≤ lo) (hd : decode cc pc = .ok (.invokestatic idx, 3)) (k : N K rt res w' (pc + 3) lv (.int v :: st)) : N K rt res w pc lv stk := n_callS F hB hL M hn hstk hst hroom hd k
theorem n_callSl {K : Ctx} {cc : ByteArray} {nL : Nat} {own : String} {ret : Option FieldType} {fr lo : Nat} {b : Bool} {nd : List Nat} {ρ : Type} {rt : ρ → Option Value × Wd} {res : Option ρ} {w : Wd} {pc : Nat} {lv : List (Nat × Value)} {st : List Value} (F : Fx K cc nL own ret fr lo b nd) {y : MethodName} {c2 : ByteArray} {nL2 : Nat} {ret2 : Option FieldType} {fr2 lo2 idx n : Nat} {As : List Value} {w' : Wd} {stk : List Value} {v : Int64} (hB : CwB y c2 nL2 ret2 n) (hL : Cond.methodLink own idx y ∈ TB ∧ Cond.static y ∈ TB)
    (M : CT K.2.1 (cg K) K.2.2.2.2.2.2.2.2.2.2.2 y c2 nL2 ret2 fr2 lo2 As w (some (.long v)) w') (hn : As.length = n) (hstk : stk = As.reverse ++ st) (hst : (st.map fun v => v.category).sum ≤ 8) (hroom : fr2 + 1 ≤ fr ∧ 8 + (nL2 + 11) + lo2 ≤ lo) (hd : decode cc pc = .ok (.invokestatic idx, 3)) (k : N K rt res w' (pc + 3) lv (.long v :: st)) : N K rt res w pc lv stk := n_callS F hB hL M hn hstk hst hroom hd k
theorem n_callSv {K : Ctx} {cc : ByteArray} {nL : Nat} {own : String} {ret : Option FieldType} {fr lo : Nat} {b : Bool} {nd : List Nat} {ρ : Type} {rt : ρ → Option Value × Wd} {res : Option ρ} {w : Wd} {pc : Nat} {lv : List (Nat × Value)} {st : List Value} (F : Fx K cc nL own ret fr lo b nd) {y : MethodName} {c2 : ByteArray} {nL2 : Nat} {ret2 : Option FieldType} {fr2 lo2 idx n : Nat} {As : List Value} {w' : Wd} {stk : List Value}  (hB : CwB y c2 nL2 ret2 n) (hL : Cond.methodLink own idx y ∈ TB ∧ Cond.static y ∈ TB)
    (M : CT K.2.1 (cg K) K.2.2.2.2.2.2.2.2.2.2.2 y c2 nL2 ret2 fr2 lo2 As w none w') (hn : As.length = n) (hstk : stk = As.reverse ++ st) (hst : (st.map fun v => v.category).sum ≤ 8) (hroom : fr2 + 1 ≤ fr ∧ 8 + (nL2 + 11) + lo2 ≤ lo) (hd : decode cc pc = .ok (.invokestatic idx, 3)) (k : N K rt res w' (pc + 3) lv st) : N K rt res w pc lv stk := n_callS F hB hL M hn hstk hst hroom hd k
theorem n_callSa {K : Ctx} {cc : ByteArray} {nL : Nat} {own : String} {ret : Option FieldType} {fr lo : Nat} {b : Bool} {nd : List Nat} {ρ : Type} {rt : ρ → Option Value × Wd} {res : Option ρ} {w : Wd} {pc : Nat} {lv : List (Nat × Value)} {st : List Value} (F : Fx K cc nL own ret fr lo b nd) {y : MethodName} {c2 : ByteArray} {nL2 : Nat} {ret2 : Option FieldType} {fr2 lo2 idx n : Nat} {As : List Value} {w' : Wd} {stk : List Value} {v : Nat} (hB : CwB y c2 nL2 ret2 n) (hL : Cond.methodLink own idx y ∈ TB ∧ Cond.static y ∈ TB)
    (M : CT K.2.1 (cg K) K.2.2.2.2.2.2.2.2.2.2.2 y c2 nL2 ret2 fr2 lo2 As w (some (.ref v)) w') (hn : As.length = n) (hstk : stk = As.reverse ++ st) (hst : (st.map fun v => v.category).sum ≤ 8) (hroom : fr2 + 1 ≤ fr ∧ 8 + (nL2 + 11) + lo2 ≤ lo) (hd : decode cc pc = .ok (.invokestatic idx, 3)) (k : N K rt res w' (pc + 3) lv (.ref v :: st)) : N K rt res w pc lv stk := n_callS F hB hL M hn hstk hst hroom hd k
theorem n_callSNi {K : Ctx} {cc : ByteArray} {nL : Nat} {own : String} {ret : Option FieldType} {fr lo : Nat} {b : Bool} {nd : List Nat} {ρ : Type} {rt : ρ → Option Value × Wd} {res : Option ρ} {w : Wd} {pc : Nat} {lv : List (Nat × Value)} {st : List Value} (F : Fx K cc nL own ret fr lo b nd) {y : MethodName} {c2 : ByteArray} {nL2 : Nat} {ret2 : Option FieldType} {fr2 lo2 idx n : Nat} {As : List Value} {w' : Wd} {stk : List Value} {v : Int32} (hB : CwB y c2 nL2 ret2 n) (hL : (own, idx, y) ∈ nstM ∧ Cond.static y ∈ TB)
    (M : CT K.2.1 (cg K) K.2.2.2.2.2.2.2.2.2.2.2 y c2 nL2 ret2 fr2 lo2 As w (some (.int v)) w') (hn : As.length = n) (hstk : stk = As.reverse ++ st) (hst : (st.map fun v => v.category).sum ≤ 8) (hroom : fr2 + 1 ≤ fr ∧ 8 + (nL2 + 11) + lo2 ≤ lo) (hd : decode cc pc = .ok (.invokestatic idx, 3)) (k : N K rt res w' (pc + 3) lv (.int v :: st)) : N K rt res w pc lv stk := n_callSN F hB hL M hn hstk hst hroom hd k
theorem n_callSNl {K : Ctx} {cc : ByteArray} {nL : Nat} {own : String} {ret : Option FieldType} {fr lo : Nat} {b : Bool} {nd : List Nat} {ρ : Type} {rt : ρ → Option Value × Wd} {res : Option ρ} {w : Wd} {pc : Nat} {lv : List (Nat × Value)} {st : List Value} (F : Fx K cc nL own ret fr lo b nd) {y : MethodName} {c2 : ByteArray} {nL2 : Nat} {ret2 : Option FieldType} {fr2 lo2 idx n : Nat} {As : List Value} {w' : Wd} {stk : List Value} {v : Int64} (hB : CwB y c2 nL2 ret2 n) (hL : (own, idx, y) ∈ nstM ∧ Cond.static y ∈ TB)
    (M : CT K.2.1 (cg K) K.2.2.2.2.2.2.2.2.2.2.2 y c2 nL2 ret2 fr2 lo2 As w (some (.long v)) w') (hn : As.length = n) (hstk : stk = As.reverse ++ st) (hst : (st.map fun v => v.category).sum ≤ 8) (hroom : fr2 + 1 ≤ fr ∧ 8 + (nL2 + 11) + lo2 ≤ lo) (hd : decode cc pc = .ok (.invokestatic idx, 3)) (k : N K rt res w' (pc + 3) lv (.long v :: st)) : N K rt res w pc lv stk := n_callSN F hB hL M hn hstk hst hroom hd k
theorem n_callSNv {K : Ctx} {cc : ByteArray} {nL : Nat} {own : String} {ret : Option FieldType} {fr lo : Nat} {b : Bool} {nd : List Nat} {ρ : Type} {rt : ρ → Option Value × Wd} {res : Option ρ} {w : Wd} {pc : Nat} {lv : List (Nat × Value)} {st : List Value} (F : Fx K cc nL own ret fr lo b nd) {y : MethodName} {c2 : ByteArray} {nL2 : Nat} {ret2 : Option FieldType} {fr2 lo2 idx n : Nat} {As : List Value} {w' : Wd} {stk : List Value}  (hB : CwB y c2 nL2 ret2 n) (hL : (own, idx, y) ∈ nstM ∧ Cond.static y ∈ TB)
    (M : CT K.2.1 (cg K) K.2.2.2.2.2.2.2.2.2.2.2 y c2 nL2 ret2 fr2 lo2 As w none w') (hn : As.length = n) (hstk : stk = As.reverse ++ st) (hst : (st.map fun v => v.category).sum ≤ 8) (hroom : fr2 + 1 ≤ fr ∧ 8 + (nL2 + 11) + lo2 ≤ lo) (hd : decode cc pc = .ok (.invokestatic idx, 3)) (k : N K rt res w' (pc + 3) lv st) : N K rt res w pc lv stk := n_callSN F hB hL M hn hstk hst hroom hd k
theorem n_callSNa {K : Ctx} {cc : ByteArray} {nL : Nat} {own : String} {ret : Option FieldType} {fr lo : Nat} {b : Bool} {nd : List Nat} {ρ : Type} {rt : ρ → Option Value × Wd} {res : Option ρ} {w : Wd} {pc : Nat} {lv : List (Nat × Value)} {st : List Value} (F : Fx K cc nL own ret fr lo b nd) {y : MethodName} {c2 : ByteArray} {nL2 : Nat} {ret2 : Option FieldType} {fr2 lo2 idx n : Nat} {As : List Value} {w' : Wd} {stk : List Value} {v : Nat} (hB : CwB y c2 nL2 ret2 n) (hL : (own, idx, y) ∈ nstM ∧ Cond.static y ∈ TB)
    (M : CT K.2.1 (cg K) K.2.2.2.2.2.2.2.2.2.2.2 y c2 nL2 ret2 fr2 lo2 As w (some (.ref v)) w') (hn : As.length = n) (hstk : stk = As.reverse ++ st) (hst : (st.map fun v => v.category).sum ≤ 8) (hroom : fr2 + 1 ≤ fr ∧ 8 + (nL2 + 11) + lo2 ≤ lo) (hd : decode cc pc = .ok (.invokestatic idx, 3)) (k : N K rt res w' (pc + 3) lv (.ref v :: st)) : N K rt res w pc lv stk := n_callSN F hB hL M hn hstk hst hroom hd k
theorem n_ldcw {K : Ctx} {cc : ByteArray} {nL : Nat} {own : String} {ret : Option FieldType} {fr lo : Nat} {b : Bool} {nd : List Nat} {ρ : Type} {rt : ρ → Option Value × Wd} {res : Option ρ} {w : Wd} {pc : Nat} {lv : List (Nat × Value)} {st : List Value} (F : Fx K cc nL own ret fr lo b nd) {index : Nat} (v : Int32) (hd : decode cc pc = .ok (.ldc_w index, 3)) (hc : Cond.constant own index v ∈ TB) (k : N K rt res w (pc + 3) lv (.int v :: st)) : N K rt res w pc lv st := by
  obtain ⟨p, l, e, R, s, m, args, below, meth, c, g, σ⟩ := K
  obtain ⟨hx, hb, hml, hown, hts, hK, hN, hSK, hg, hlk, hrt, hR, hσ⟩ := F
  exact fun q hq H locs ls hP hS hl => lv_ldcw hx hb hown (hts _ hc) hd (k q hq H locs ls hP hS hl)
theorem lf_RX0_15 : Cond.fieldLink RX0 15 (TX0 1).1 (TX0 1).2.1 (TX0 1).2.2.1 ∈ TB := tb_of 254 (by decide +kernel) rfl
theorem ck_0 : ClsOK 0 RX0 TX0 6 tyX0 := ⟨rfl, fun w hw => (by decide +kernel : ∀ w ∈ u_ws RX0 TX0 6, w ∈ TB) w hw, tyX0_ok, nmX0⟩
theorem fg_25_1 : FldG true 25 0 1 (fun g w => .ref (gA g 13)) := ⟨trivial, rfl, fun _ _ => ⟨_, rfl, rfl⟩⟩
theorem lf_RX5_9 : Cond.fieldLink RX5 9 (TX5 6).1 (TX5 6).2.1 (TX5 6).2.2.1 ∈ TB := tb_of 208 (by decide +kernel) rfl
theorem ck_5 : ClsOK 5 RX5 TX5 12 tyX5 := ⟨rfl, fun w hw => (by decide +kernel : ∀ w ∈ u_ws RX5 TX5 12, w ∈ TB) w hw, tyX5_ok, nmX5⟩
theorem fg_13_6 : FldG true 13 5 6 (fun g w => .ref (gA g 14)) := ⟨trivial, rfl, fun _ _ => ⟨_, rfl, rfl⟩⟩
theorem ar_14 : ArrI true 14 3 := ⟨trivial, rfl, fun _ _ => rfl⟩
theorem cb_X5_kindsLeft : CwB yX5_kindsLeft cX5_kindsLeft 3 (some .int) 0 := ⟨tb_of 599 (by decide +kernel) rfl, tb_of 57 (by decide +kernel) rfl, by decide +kernel⟩
theorem lm_RX5_88 : Cond.methodLink RX5 88 yX5_kindsLeft ∈ TB ∧ Cond.instanceMethod yX5_kindsLeft ∈ TB ∧ Cond.selects yX5_kindsLeft.cls yX5_kindsLeft yX5_kindsLeft ∈ TB := ⟨tb_of 596 (by decide +kernel) rfl, tb_of 597 (by decide +kernel) rfl, tb_of 598 (by decide +kernel) rfl⟩
theorem ob_13 : True ∧ decide (13 < 37) = true ∧ ∀ (g : GG) (w : Wd), ∃ fs, cellE g w 13 = .inr (5, fs) := ⟨trivial, rfl, fun _ _ => ⟨_, rfl⟩⟩
theorem lf_RX5_21 : Cond.fieldLink RX5 21 (TX5 0).1 (TX5 0).2.1 (TX5 0).2.2.1 ∈ TB := tb_of 194 (by decide +kernel) rfl
theorem fg_13_0 : FldG true 13 5 0 (fun g w => .ref (gA g 3)) := ⟨trivial, rfl, fun _ _ => ⟨_, rfl, rfl⟩⟩
theorem lf_RX5_62 : Cond.fieldLink RX5 62 (TX5 9).1 (TX5 9).2.1 (TX5 9).2.2.1 ∈ TB := tb_of 215 (by decide +kernel) rfl
theorem fg_13_9 : FldG true 13 5 9 (fun g w => .int (w.1 13 9)) := ⟨trivial, rfl, fun _ _ => ⟨_, rfl, rfl⟩⟩
theorem lf_RX5_28 : Cond.fieldLink RX5 28 (TX5 1).1 (TX5 1).2.1 (TX5 1).2.2.1 ∈ TB := tb_of 195 (by decide +kernel) rfl
theorem fg_13_1 : FldG true 13 5 1 (fun g w => .int (w.1 13 1)) := ⟨trivial, rfl, fun _ _ => ⟨_, rfl, rfl⟩⟩
theorem lf_RX1_15 : Cond.fieldLink RX1 15 (TX1 1).1 (TX1 1).2.1 (TX1 1).2.2.1 ∈ TB := tb_of 102 (by decide +kernel) rfl
theorem ck_1 : ClsOK 1 RX1 TX1 7 tyX1 := ⟨rfl, fun w hw => (by decide +kernel : ∀ w ∈ u_ws RX1 TX1 7, w ∈ TB) w hw, tyX1_ok, nmX1⟩
theorem fg_3_1 : FldG true 3 1 1 (fun g w => .int (w.1 3 1)) := ⟨trivial, rfl, fun _ _ => ⟨_, rfl, rfl⟩⟩
theorem lf_RX1_24 : Cond.fieldLink RX1 24 (TX1 4).1 (TX1 4).2.1 (TX1 4).2.2.1 ∈ TB := tb_of 116 (by decide +kernel) rfl
theorem fg_3_4 : FldG true 3 1 4 (fun g w => .ref (gA g 4)) := ⟨trivial, rfl, fun _ _ => ⟨_, rfl, rfl⟩⟩
theorem ar_4 : ArrI true 4 72 := ⟨trivial, rfl, fun _ _ => rfl⟩
theorem cb_X1_part : CwB yX1_part cX1_part 4 (some .int) 2 := ⟨tb_of 553 (by decide +kernel) rfl, tb_of 55 (by decide +kernel) rfl, by decide +kernel⟩
theorem lm_RX1_54 : Cond.methodLink RX1 54 yX1_part ∈ TB ∧ Cond.instanceMethod yX1_part ∈ TB ∧ Cond.selects yX1_part.cls yX1_part yX1_part ∈ TB := ⟨tb_of 567 (by decide +kernel) rfl, tb_of 551 (by decide +kernel) rfl, tb_of 552 (by decide +kernel) rfl⟩
theorem ob_3 : True ∧ decide (3 < 37) = true ∧ ∀ (g : GG) (w : Wd), ∃ fs, cellE g w 3 = .inr (1, fs) := ⟨trivial, rfl, fun _ _ => ⟨_, rfl⟩⟩
theorem cb_X7_hasBit : CwB yX7_hasBit cX7_hasBit 2 (some .boolean) 2 := ⟨tb_of 574 (by decide +kernel) rfl, tb_of 53 (by decide +kernel) rfl, by decide +kernel⟩
theorem lm_RX1_65 : (RX1, 65, yX7_hasBit) ∈ nstM ∧ Cond.static yX7_hasBit ∈ TB := ⟨by decide +kernel, tb_of 573 (by decide +kernel) rfl⟩
theorem cb_X1_runsOn : CwB yX1_runsOn cX1_runsOn 4 (some .boolean) 2 := ⟨tb_of 571 (by decide +kernel) rfl, tb_of 55 (by decide +kernel) rfl, by decide +kernel⟩
theorem lm_RX1_58 : Cond.methodLink RX1 58 yX1_runsOn ∈ TB ∧ Cond.instanceMethod yX1_runsOn ∈ TB ∧ Cond.selects yX1_runsOn.cls yX1_runsOn yX1_runsOn ∈ TB := ⟨tb_of 568 (by decide +kernel) rfl, tb_of 569 (by decide +kernel) rfl, tb_of 570 (by decide +kernel) rfl⟩
theorem cb_X1_reached : CwB yX1_reached cX1_reached 7 (some .int) 4 := ⟨tb_of 632 (by decide +kernel) rfl, tb_of 55 (by decide +kernel) rfl, by decide +kernel⟩
theorem lm_RX5_106 : Cond.methodLink RX5 106 yX1_reached ∈ TB ∧ Cond.instanceMethod yX1_reached ∈ TB ∧ Cond.selects yX1_reached.cls yX1_reached yX1_reached ∈ TB := ⟨tb_of 629 (by decide +kernel) rfl, tb_of 630 (by decide +kernel) rfl, tb_of 631 (by decide +kernel) rfl⟩
theorem cb_X1_stuck : CwB yX1_stuck cX1_stuck 6 (some .int) 3 := ⟨tb_of 636 (by decide +kernel) rfl, tb_of 55 (by decide +kernel) rfl, by decide +kernel⟩
theorem lm_RX5_110 : Cond.methodLink RX5 110 yX1_stuck ∈ TB ∧ Cond.instanceMethod yX1_stuck ∈ TB ∧ Cond.selects yX1_stuck.cls yX1_stuck yX1_stuck ∈ TB := ⟨tb_of 633 (by decide +kernel) rfl, tb_of 634 (by decide +kernel) rfl, tb_of 635 (by decide +kernel) rfl⟩
theorem lf_RX5_65 : Cond.fieldLink RX5 65 (TX5 10).1 (TX5 10).2.1 (TX5 10).2.2.1 ∈ TB := tb_of 218 (by decide +kernel) rfl
theorem fg_13_10 : FldG true 13 5 10 (fun g w => .int (w.1 13 10)) := ⟨trivial, rfl, fun _ _ => ⟨_, rfl, rfl⟩⟩
theorem cb_X5_nextBits : CwB yX5_nextBits cX5_nextBits 2 (some .int) 0 := ⟨tb_of 628 (by decide +kernel) rfl, tb_of 57 (by decide +kernel) rfl, by decide +kernel⟩
theorem lm_RX0_19 : Cond.methodLink RX0 19 yX5_nextBits ∈ TB ∧ Cond.instanceMethod yX5_nextBits ∈ TB ∧ Cond.selects yX5_nextBits.cls yX5_nextBits yX5_nextBits ∈ TB := ⟨tb_of 683 (by decide +kernel) rfl, tb_of 626 (by decide +kernel) rfl, tb_of 627 (by decide +kernel) rfl⟩
theorem lf_RX0_25 : Cond.fieldLink RX0 25 (TX5 7).1 (TX5 7).2.1 (TX5 7).2.2.1 ∈ TB := tb_of 210 (by decide +kernel) rfl
theorem fg_13_7 : FldG true 13 5 7 (fun g w => .ref (gA g 15)) := ⟨trivial, rfl, fun _ _ => ⟨_, rfl, rfl⟩⟩
theorem ar_15 : ArrI true 15 2 := ⟨trivial, rfl, fun _ _ => rfl⟩
theorem lf_RX0_9 : Cond.fieldLink RX0 9 (TX0 0).1 (TX0 0).2.1 (TX0 0).2.2.1 ∈ TB := tb_of 253 (by decide +kernel) rfl
theorem fg_25_0 : FldG true 25 0 0 (fun g w => .ref (gA g 3)) := ⟨trivial, rfl, fun _ _ => ⟨_, rfl, rfl⟩⟩
theorem lf_RX0_52 : Cond.fieldLink RX0 52 (TX5 1).1 (TX5 1).2.1 (TX5 1).2.2.1 ∈ TB := tb_of 196 (by decide +kernel) rfl
theorem lm_RX0_55 : Cond.methodLink RX0 55 yX1_reached ∈ TB ∧ Cond.instanceMethod yX1_reached ∈ TB ∧ Cond.selects yX1_reached.cls yX1_reached yX1_reached ∈ TB := ⟨tb_of 688 (by decide +kernel) rfl, tb_of 630 (by decide +kernel) rfl, tb_of 631 (by decide +kernel) rfl⟩
theorem cb_X0_choices : CwB yX0_choices cX0_choices 3 (some .int) 1 := ⟨tb_of 687 (by decide +kernel) rfl, tb_of 60 (by decide +kernel) rfl, by decide +kernel⟩
theorem lm_RX0_29 : Cond.methodLink RX0 29 yX0_choices ∈ TB ∧ Cond.instanceMethod yX0_choices ∈ TB ∧ Cond.selects yX0_choices.cls yX0_choices yX0_choices ∈ TB := ⟨tb_of 684 (by decide +kernel) rfl, tb_of 686 (by decide +kernel) rfl, tb_of 16 (by decide +kernel) rfl⟩
theorem ob_25 : True ∧ decide (25 < 37) = true ∧ ∀ (g : GG) (w : Wd), ∃ fs, cellE g w 25 = .inr (0, fs) := ⟨trivial, rfl, fun _ _ => ⟨_, rfl⟩⟩
theorem lf_RX0_33 : Cond.fieldLink RX0 33 (TX0 2).1 (TX0 2).2.1 (TX0 2).2.2.1 ∈ TB := tb_of 255 (by decide +kernel) rfl
theorem fp_25_2 : FldP true 25 0 2 := ⟨trivial, rfl, fun _ _ _ => ⟨_, rfl, Nat.le_of_ble_eq_true rfl, rfl⟩⟩
theorem kc_RJ6_265 : Cond.constant RJ6 265 (1431655765 : Int32) ∈ TB := tb_of 692 (by decide +kernel) rfl
theorem kc_RJ6_266 : Cond.constant RJ6 266 (858993459 : Int32) ∈ TB := tb_of 693 (by decide +kernel) rfl
theorem kc_RJ6_267 : Cond.constant RJ6 267 (252645135 : Int32) ∈ TB := tb_of 694 (by decide +kernel) rfl
theorem cb_J6_bitCount_0f7a4 : CwB yJ6_bitCount_0f7a4 cJ6_bitCount_0f7a4 1 (some .int) 1 := ⟨tb_of 691 (by decide +kernel) rfl, tb_of 68 (by decide +kernel) rfl, by decide +kernel⟩
theorem lm_RX0_37 : Cond.methodLink RX0 37 yJ6_bitCount_0f7a4 ∈ TB ∧ Cond.static yJ6_bitCount_0f7a4 ∈ TB := ⟨tb_of 689 (by decide +kernel) rfl, tb_of 690 (by decide +kernel) rfl⟩
theorem lm_RX0_42 : (RX0, 42, yX7_hasBit) ∈ nstM ∧ Cond.static yX7_hasBit ∈ TB := ⟨by decide +kernel, tb_of 573 (by decide +kernel) rfl⟩
theorem fg_25_2 : FldG true 25 0 2 (fun g w => .int (w.1 25 2)) := ⟨trivial, rfl, fun _ _ => ⟨_, rfl, rfl⟩⟩
theorem lf_RX0_46 : Cond.fieldLink RX0 46 (TX0 3).1 (TX0 3).2.1 (TX0 3).2.2.1 ∈ TB := tb_of 257 (by decide +kernel) rfl
theorem fp_25_3 : FldP true 25 0 3 := ⟨trivial, rfl, fun _ _ _ => ⟨_, rfl, Nat.le_of_ble_eq_true rfl, rfl⟩⟩
theorem lf_RX0_49 : Cond.fieldLink RX0 49 (TX0 4).1 (TX0 4).2.1 (TX0 4).2.2.1 ∈ TB := tb_of 259 (by decide +kernel) rfl
theorem fp_25_4 : FldP true 25 0 4 := ⟨trivial, rfl, fun _ _ _ => ⟨_, rfl, Nat.le_of_ble_eq_true rfl, rfl⟩⟩
theorem lf_RX5_40 : Cond.fieldLink RX5 40 (TX5 3).1 (TX5 3).2.1 (TX5 3).2.2.1 ∈ TB := tb_of 202 (by decide +kernel) rfl
theorem fg_13_3 : FldG true 13 5 3 (fun g w => .int (w.1 13 3)) := ⟨trivial, rfl, fun _ _ => ⟨_, rfl, rfl⟩⟩
theorem lf_RX5_59 : Cond.fieldLink RX5 59 (TX5 4).1 (TX5 4).2.1 (TX5 4).2.2.1 ∈ TB := tb_of 204 (by decide +kernel) rfl
theorem fg_13_4 : FldG true 13 5 4 (fun g w => .int (w.1 13 4)) := ⟨trivial, rfl, fun _ _ => ⟨_, rfl, rfl⟩⟩
theorem lf_RX5_37 : Cond.fieldLink RX5 37 (TX5 2).1 (TX5 2).2.1 (TX5 2).2.2.1 ∈ TB := tb_of 199 (by decide +kernel) rfl
theorem fg_13_2 : FldG true 13 5 2 (fun g w => .int (w.1 13 2)) := ⟨trivial, rfl, fun _ _ => ⟨_, rfl, rfl⟩⟩
theorem cb_X1_leaves : CwB yX1_leaves cX1_leaves 4 (some .boolean) 3 := ⟨tb_of 566 (by decide +kernel) rfl, tb_of 55 (by decide +kernel) rfl, by decide +kernel⟩
theorem lm_RX1_62 : Cond.methodLink RX1 62 yX1_leaves ∈ TB ∧ Cond.instanceMethod yX1_leaves ∈ TB ∧ Cond.selects yX1_leaves.cls yX1_leaves yX1_leaves ∈ TB := ⟨tb_of 563 (by decide +kernel) rfl, tb_of 564 (by decide +kernel) rfl, tb_of 565 (by decide +kernel) rfl⟩
theorem cb_X1_rideable : CwB yX1_rideable cX1_rideable 6 (some .int) 3 := ⟨tb_of 562 (by decide +kernel) rfl, tb_of 55 (by decide +kernel) rfl, by decide +kernel⟩
theorem lm_RX5_91 : Cond.methodLink RX5 91 yX1_rideable ∈ TB ∧ Cond.instanceMethod yX1_rideable ∈ TB ∧ Cond.selects yX1_rideable.cls yX1_rideable yX1_rideable ∈ TB := ⟨tb_of 600 (by decide +kernel) rfl, tb_of 560 (by decide +kernel) rfl, tb_of 561 (by decide +kernel) rfl⟩
theorem cb_X5_rideable : CwB yX5_rideable cX5_rideable 1 (some .int) 0 := ⟨tb_of 595 (by decide +kernel) rfl, tb_of 57 (by decide +kernel) rfl, by decide +kernel⟩
theorem lm_RX0_61 : Cond.methodLink RX0 61 yX5_rideable ∈ TB ∧ Cond.instanceMethod yX5_rideable ∈ TB ∧ Cond.selects yX5_rideable.cls yX5_rideable yX5_rideable ∈ TB := ⟨tb_of 704 (by decide +kernel) rfl, tb_of 593 (by decide +kernel) rfl, tb_of 594 (by decide +kernel) rfl⟩
theorem lf_RX0_64 : Cond.fieldLink RX0 64 (TX0 5).1 (TX0 5).2.1 (TX0 5).2.2.1 ∈ TB := tb_of 261 (by decide +kernel) rfl
theorem fp_25_5 : FldP true 25 0 5 := ⟨trivial, rfl, fun _ _ _ => ⟨_, rfl, Nat.le_of_ble_eq_true rfl, rfl⟩⟩
theorem lf_RX0_67 : Cond.fieldLink RX0 67 (TX1 1).1 (TX1 1).2.1 (TX1 1).2.2.1 ∈ TB := tb_of 104 (by decide +kernel) rfl
theorem lm_RX0_70 : Cond.methodLink RX0 70 yX1_part ∈ TB ∧ Cond.instanceMethod yX1_part ∈ TB ∧ Cond.selects yX1_part.cls yX1_part yX1_part ∈ TB := ⟨tb_of 705 (by decide +kernel) rfl, tb_of 551 (by decide +kernel) rfl, tb_of 552 (by decide +kernel) rfl⟩
theorem lf_RX0_77 : Cond.fieldLink RX0 77 (TX5 9).1 (TX5 9).2.1 (TX5 9).2.2.1 ∈ TB := tb_of 216 (by decide +kernel) rfl
theorem cb_X0_leftBy : CwB yX0_leftBy cX0_leftBy 2 (some .int) 1 := ⟨tb_of 709 (by decide +kernel) rfl, tb_of 60 (by decide +kernel) rfl, by decide +kernel⟩
theorem lm_RX0_74 : Cond.methodLink RX0 74 yX0_leftBy ∈ TB ∧ Cond.instanceMethod yX0_leftBy ∈ TB ∧ Cond.selects yX0_leftBy.cls yX0_leftBy yX0_leftBy ∈ TB := ⟨tb_of 706 (by decide +kernel) rfl, tb_of 708 (by decide +kernel) rfl, tb_of 17 (by decide +kernel) rfl⟩
theorem lf_RX1_9 : Cond.fieldLink RX1 9 (TX1 0).1 (TX1 0).2.1 (TX1 0).2.2.1 ∈ TB := tb_of 100 (by decide +kernel) rfl
theorem fg_8_0 : FldG true 8 1 0 (fun g w => .int (w.1 8 0)) := ⟨trivial, rfl, fun _ _ => ⟨_, rfl, rfl⟩⟩
theorem fp_3_0 : FldP true 3 1 0 := ⟨trivial, rfl, fun _ _ _ => ⟨_, rfl, Nat.le_of_ble_eq_true rfl, rfl⟩⟩
theorem fg_8_1 : FldG true 8 1 1 (fun g w => .int (w.1 8 1)) := ⟨trivial, rfl, fun _ _ => ⟨_, rfl, rfl⟩⟩
theorem fp_3_1 : FldP true 3 1 1 := ⟨trivial, rfl, fun _ _ _ => ⟨_, rfl, Nat.le_of_ble_eq_true rfl, rfl⟩⟩
theorem lf_RX1_18 : Cond.fieldLink RX1 18 (TX1 2).1 (TX1 2).2.1 (TX1 2).2.2.1 ∈ TB := tb_of 107 (by decide +kernel) rfl
theorem fg_8_2 : FldG true 8 1 2 (fun g w => .int (w.1 8 2)) := ⟨trivial, rfl, fun _ _ => ⟨_, rfl, rfl⟩⟩
theorem fp_3_2 : FldP true 3 1 2 := ⟨trivial, rfl, fun _ _ _ => ⟨_, rfl, Nat.le_of_ble_eq_true rfl, rfl⟩⟩
theorem lf_RX1_21 : Cond.fieldLink RX1 21 (TX1 3).1 (TX1 3).2.1 (TX1 3).2.2.1 ∈ TB := tb_of 112 (by decide +kernel) rfl
theorem fg_8_3 : FldG true 8 1 3 (fun g w => .int (w.1 8 3)) := ⟨trivial, rfl, fun _ _ => ⟨_, rfl, rfl⟩⟩
theorem fp_3_3 : FldP true 3 1 3 := ⟨trivial, rfl, fun _ _ _ => ⟨_, rfl, Nat.le_of_ble_eq_true rfl, rfl⟩⟩
theorem fg_8_4 : FldG true 8 1 4 (fun g w => .ref (gA g 9)) := ⟨trivial, rfl, fun _ _ => ⟨_, rfl, rfl⟩⟩
theorem la_RX1_34 : Cond.methodLink RX1 34 arraycopyName ∈ TB ∧ Cond.native arraycopyName ∈ TB ∧ Cond.static arraycopyName ∈ TB ∧ Cond.initialized "java/lang/System" ∈ TB := ⟨tb_of 402 (by decide +kernel) rfl, tb_of 182 (by decide +kernel) rfl, tb_of 181 (by decide +kernel) rfl, tb_of 58 (by decide +kernel) rfl⟩
theorem ar_9 : ArrI true 9 72 := ⟨trivial, rfl, fun _ _ => rfl⟩
theorem lf_RX1_28 : Cond.fieldLink RX1 28 (TX1 5).1 (TX1 5).2.1 (TX1 5).2.2.1 ∈ TB := tb_of 117 (by decide +kernel) rfl
theorem fg_8_5 : FldG true 8 1 5 (fun g w => .ref (gA g 10)) := ⟨trivial, rfl, fun _ _ => ⟨_, rfl, rfl⟩⟩
theorem fg_3_5 : FldG true 3 1 5 (fun g w => .ref (gA g 5)) := ⟨trivial, rfl, fun _ _ => ⟨_, rfl, rfl⟩⟩
theorem ar_10 : ArrI true 10 3 := ⟨trivial, rfl, fun _ _ => rfl⟩
theorem ar_5 : ArrI true 5 3 := ⟨trivial, rfl, fun _ _ => rfl⟩
theorem lf_RX1_31 : Cond.fieldLink RX1 31 (TX1 6).1 (TX1 6).2.1 (TX1 6).2.2.1 ∈ TB := tb_of 120 (by decide +kernel) rfl
theorem fg_8_6 : FldG true 8 1 6 (fun g w => .ref (gA g 11)) := ⟨trivial, rfl, fun _ _ => ⟨_, rfl, rfl⟩⟩
theorem fg_3_6 : FldG true 3 1 6 (fun g w => .ref (gA g 6)) := ⟨trivial, rfl, fun _ _ => ⟨_, rfl, rfl⟩⟩
theorem ar_11 : ArrI true 11 2 := ⟨trivial, rfl, fun _ _ => rfl⟩
theorem ar_6 : ArrI true 6 2 := ⟨trivial, rfl, fun _ _ => rfl⟩
theorem fg_3_0 : FldG true 3 1 0 (fun g w => .int (w.1 3 0)) := ⟨trivial, rfl, fun _ _ => ⟨_, rfl, rfl⟩⟩
theorem fp_8_0 : FldP true 8 1 0 := ⟨trivial, rfl, fun _ _ _ => ⟨_, rfl, Nat.le_of_ble_eq_true rfl, rfl⟩⟩
theorem fp_8_1 : FldP true 8 1 1 := ⟨trivial, rfl, fun _ _ _ => ⟨_, rfl, Nat.le_of_ble_eq_true rfl, rfl⟩⟩
theorem fg_3_2 : FldG true 3 1 2 (fun g w => .int (w.1 3 2)) := ⟨trivial, rfl, fun _ _ => ⟨_, rfl, rfl⟩⟩
theorem fp_8_2 : FldP true 8 1 2 := ⟨trivial, rfl, fun _ _ _ => ⟨_, rfl, Nat.le_of_ble_eq_true rfl, rfl⟩⟩
theorem fg_3_3 : FldG true 3 1 3 (fun g w => .int (w.1 3 3)) := ⟨trivial, rfl, fun _ _ => ⟨_, rfl, rfl⟩⟩
theorem fp_8_3 : FldP true 8 1 3 := ⟨trivial, rfl, fun _ _ _ => ⟨_, rfl, Nat.le_of_ble_eq_true rfl, rfl⟩⟩
theorem cb_J7_fill_53178 : CwB yJ7_fill_53178 cJ7_fill_53178 4 none 2 := ⟨tb_of 189 (by decide +kernel) rfl, tb_of 59 (by decide +kernel) rfl, by decide +kernel⟩
theorem lm_RX1_40 : Cond.methodLink RX1 40 yJ7_fill_53178 ∈ TB ∧ Cond.static yJ7_fill_53178 ∈ TB := ⟨tb_of 516 (by decide +kernel) rfl, tb_of 188 (by decide +kernel) rfl⟩
theorem cb_X7_within : CwB yX7_within cX7_within 3 (some .boolean) 3 := ⟨tb_of 379 (by decide +kernel) rfl, tb_of 53 (by decide +kernel) rfl, by decide +kernel⟩
theorem lm_RX1_46 : (RX1, 46, yX7_within) ∈ nstM ∧ Cond.static yX7_within ∈ TB := ⟨by decide +kernel, tb_of 378 (by decide +kernel) rfl⟩
theorem lm_RX7_74 : Cond.methodLink RX7 74 yX7_within ∈ TB ∧ Cond.static yX7_within ∈ TB := ⟨tb_of 377 (by decide +kernel) rfl, tb_of 378 (by decide +kernel) rfl⟩
theorem cb_X7_isSeeker : CwB yX7_isSeeker cX7_isSeeker 1 (some .boolean) 1 := ⟨tb_of 507 (by decide +kernel) rfl, tb_of 53 (by decide +kernel) rfl, by decide +kernel⟩
theorem lm_RX1_50 : (RX1, 50, yX7_isSeeker) ∈ nstM ∧ Cond.static yX7_isSeeker ∈ TB := ⟨by decide +kernel, tb_of 506 (by decide +kernel) rfl⟩
theorem lf_RX2_31 : Cond.fieldLink RX2 31 (TX2 8).1 (TX2 8).2.1 (TX2 8).2.2.1 ∈ TB := tb_of 290 (by decide +kernel) rfl
theorem ck_2 : ClsOK 2 RX2 TX2 10 tyX2 := ⟨rfl, fun w hw => (by decide +kernel : ∀ w ∈ u_ws RX2 TX2 10, w ∈ TB) w hw, tyX2_ok, nmX2⟩
theorem fp_26_8 : FldP true 26 2 8 := ⟨trivial, rfl, fun _ _ _ => ⟨_, rfl, Nat.le_of_ble_eq_true rfl, rfl⟩⟩
theorem lf_RX2_34 : Cond.fieldLink RX2 34 (TX2 9).1 (TX2 9).2.1 (TX2 9).2.2.1 ∈ TB := tb_of 292 (by decide +kernel) rfl
theorem fp_26_9 : FldP true 26 2 9 := ⟨trivial, rfl, fun _ _ _ => ⟨_, rfl, Nat.le_of_ble_eq_true rfl, rfl⟩⟩
theorem lf_RX2_37 : Cond.fieldLink RX2 37 (TX2 0).1 (TX2 0).2.1 (TX2 0).2.2.1 ∈ TB := tb_of 282 (by decide +kernel) rfl
theorem fg_26_0 : FldG true 26 2 0 (fun g w => .ref (gA g 3)) := ⟨trivial, rfl, fun _ _ => ⟨_, rfl, rfl⟩⟩
theorem lf_RX2_45 : Cond.fieldLink RX2 45 (TX1 1).1 (TX1 1).2.1 (TX1 1).2.2.1 ∈ TB := tb_of 103 (by decide +kernel) rfl
theorem fg_26_9 : FldG true 26 2 9 (fun g w => .int (w.1 26 9)) := ⟨trivial, rfl, fun _ _ => ⟨_, rfl, rfl⟩⟩
theorem lf_RX2_11 : Cond.fieldLink RX2 11 (TX2 2).1 (TX2 2).2.1 (TX2 2).2.2.1 ∈ TB := tb_of 284 (by decide +kernel) rfl
theorem fg_26_2 : FldG true 26 2 2 (fun g w => .ref (gA g 27)) := ⟨trivial, rfl, fun _ _ => ⟨_, rfl, rfl⟩⟩
theorem ar_27 : ArrI true 27 448 := ⟨trivial, rfl, fun _ _ => rfl⟩
theorem lm_RX2_54 : Cond.methodLink RX2 54 yJ7_fill_53178 ∈ TB ∧ Cond.static yJ7_fill_53178 ∈ TB := ⟨tb_of 726 (by decide +kernel) rfl, tb_of 188 (by decide +kernel) rfl⟩
theorem cb_X2_markCaught : CwB yX2_markCaught cX2_markCaught 4 none 0 := ⟨tb_of 730 (by decide +kernel) rfl, tb_of 61 (by decide +kernel) rfl, by decide +kernel⟩
theorem lm_RX2_60 : Cond.methodLink RX2 60 yX2_markCaught ∈ TB ∧ Cond.instanceMethod yX2_markCaught ∈ TB ∧ Cond.selects yX2_markCaught.cls yX2_markCaught yX2_markCaught ∈ TB := ⟨tb_of 727 (by decide +kernel) rfl, tb_of 729 (by decide +kernel) rfl, tb_of 18 (by decide +kernel) rfl⟩
theorem ob_26 : True ∧ decide (26 < 37) = true ∧ ∀ (g : GG) (w : Wd), ∃ fs, cellE g w 26 = .inr (2, fs) := ⟨trivial, rfl, fun _ _ => ⟨_, rfl⟩⟩
theorem lx_RX2_63 : Cond.methodLink RX2 63 Lib.Math.min.name ∈ TB ∧ Cond.static Lib.Math.min.name ∈ TB ∧ Cond.initialized "java/lang/Math" ∈ TB ∧ Cond.code Lib.Math.min.name Lib.Math.min.code 2 (some .int) ∈ TB := ⟨tb_of 731 (by decide +kernel) rfl, tb_of 732 (by decide +kernel) rfl, tb_of 69 (by decide +kernel) rfl, tb_of 733 (by decide +kernel) rfl⟩
theorem lf_RX2_41 : Cond.fieldLink RX2 41 (TX2 1).1 (TX2 1).2.1 (TX2 1).2.2.1 ∈ TB := tb_of 283 (by decide +kernel) rfl
theorem fg_26_1 : FldG true 26 2 1 (fun g w => .ref (gA g 13)) := ⟨trivial, rfl, fun _ _ => ⟨_, rfl, rfl⟩⟩
theorem lf_RX2_68 : Cond.fieldLink RX2 68 (TX5 1).1 (TX5 1).2.1 (TX5 1).2.2.1 ∈ TB := tb_of 197 (by decide +kernel) rfl
theorem lf_RX2_27 : Cond.fieldLink RX2 27 (TX2 7).1 (TX2 7).2.1 (TX2 7).2.2.1 ∈ TB := tb_of 289 (by decide +kernel) rfl
theorem fp_26_7 : FldP true 26 2 7 := ⟨trivial, rfl, fun _ _ _ => ⟨_, rfl, Nat.le_of_ble_eq_true rfl, rfl⟩⟩
theorem lm_RX2_100 : Cond.methodLink RX2 100 yX1_part ∈ TB ∧ Cond.instanceMethod yX1_part ∈ TB ∧ Cond.selects yX1_part.cls yX1_part yX1_part ∈ TB := ⟨tb_of 738 (by decide +kernel) rfl, tb_of 551 (by decide +kernel) rfl, tb_of 552 (by decide +kernel) rfl⟩
theorem lm_RX2_96 : (RX2, 96, yX7_within) ∈ nstM ∧ Cond.static yX7_within ∈ TB := ⟨by decide +kernel, tb_of 378 (by decide +kernel) rfl⟩
theorem cb_X2_isStation : CwB yX2_isStation cX2_isStation 1 (some .boolean) 1 := ⟨tb_of 742 (by decide +kernel) rfl, tb_of 61 (by decide +kernel) rfl, by decide +kernel⟩
theorem lm_RX2_107 : Cond.methodLink RX2 107 yX2_isStation ∈ TB ∧ Cond.static yX2_isStation ∈ TB := ⟨tb_of 740 (by decide +kernel) rfl, tb_of 741 (by decide +kernel) rfl⟩
theorem fg_26_7 : FldG true 26 2 7 (fun g w => .int (w.1 26 7)) := ⟨trivial, rfl, fun _ _ => ⟨_, rfl, rfl⟩⟩
theorem lf_RX2_21 : Cond.fieldLink RX2 21 (TX2 5).1 (TX2 5).2.1 (TX2 5).2.2.1 ∈ TB := tb_of 287 (by decide +kernel) rfl
theorem fg_26_5 : FldG true 26 2 5 (fun g w => .ref (gA g 30)) := ⟨trivial, rfl, fun _ _ => ⟨_, rfl, rfl⟩⟩
theorem ar_30 : ArrI true 30 12 := ⟨trivial, rfl, fun _ _ => rfl⟩
theorem lf_RX2_24 : Cond.fieldLink RX2 24 (TX2 6).1 (TX2 6).2.1 (TX2 6).2.2.1 ∈ TB := tb_of 288 (by decide +kernel) rfl
theorem fg_26_6 : FldG true 26 2 6 (fun g w => .ref (gA g 31)) := ⟨trivial, rfl, fun _ _ => ⟨_, rfl, rfl⟩⟩
theorem ar_31 : ArrI true 31 12 := ⟨trivial, rfl, fun _ _ => rfl⟩
theorem lm_RX2_103 : Cond.methodLink RX2 103 yX1_runsOn ∈ TB ∧ Cond.instanceMethod yX1_runsOn ∈ TB ∧ Cond.selects yX1_runsOn.cls yX1_runsOn yX1_runsOn ∈ TB := ⟨tb_of 739 (by decide +kernel) rfl, tb_of 569 (by decide +kernel) rfl, tb_of 570 (by decide +kernel) rfl⟩
theorem cb_X2_gather : CwB yX2_gather cX2_gather 7 none 2 := ⟨tb_of 737 (by decide +kernel) rfl, tb_of 61 (by decide +kernel) rfl, by decide +kernel⟩
theorem lm_RX2_73 : Cond.methodLink RX2 73 yX2_gather ∈ TB ∧ Cond.instanceMethod yX2_gather ∈ TB ∧ Cond.selects yX2_gather.cls yX2_gather yX2_gather ∈ TB := ⟨tb_of 734 (by decide +kernel) rfl, tb_of 736 (by decide +kernel) rfl, tb_of 19 (by decide +kernel) rfl⟩
theorem lf_RX2_15 : Cond.fieldLink RX2 15 (TX2 3).1 (TX2 3).2.1 (TX2 3).2.2.1 ∈ TB := tb_of 285 (by decide +kernel) rfl
theorem fg_26_3 : FldG true 26 2 3 (fun g w => .ref (gA g 28)) := ⟨trivial, rfl, fun _ _ => ⟨_, rfl, rfl⟩⟩
theorem la_RX2_111 : Cond.methodLink RX2 111 arraycopyName ∈ TB ∧ Cond.native arraycopyName ∈ TB ∧ Cond.static arraycopyName ∈ TB ∧ Cond.initialized "java/lang/System" ∈ TB := ⟨tb_of 748 (by decide +kernel) rfl, tb_of 182 (by decide +kernel) rfl, tb_of 181 (by decide +kernel) rfl, tb_of 58 (by decide +kernel) rfl⟩
theorem ar_28 : ArrI true 28 448 := ⟨trivial, rfl, fun _ _ => rfl⟩
theorem lx_RX2_117 : Cond.methodLink RX2 117 Lib.Math.max.name ∈ TB ∧ Cond.static Lib.Math.max.name ∈ TB ∧ Cond.initialized "java/lang/Math" ∈ TB ∧ Cond.code Lib.Math.max.name Lib.Math.max.code 2 (some .int) ∈ TB := ⟨tb_of 749 (by decide +kernel) rfl, tb_of 750 (by decide +kernel) rfl, tb_of 69 (by decide +kernel) rfl, tb_of 751 (by decide +kernel) rfl⟩
theorem cb_X2_foldHim : CwB yX2_foldHim cX2_foldHim 5 none 0 := ⟨tb_of 747 (by decide +kernel) rfl, tb_of 61 (by decide +kernel) rfl, by decide +kernel⟩
theorem lm_RX2_77 : Cond.methodLink RX2 77 yX2_foldHim ∈ TB ∧ Cond.instanceMethod yX2_foldHim ∈ TB ∧ Cond.selects yX2_foldHim.cls yX2_foldHim yX2_foldHim ∈ TB := ⟨tb_of 744 (by decide +kernel) rfl, tb_of 746 (by decide +kernel) rfl, tb_of 20 (by decide +kernel) rfl⟩
theorem lf_RX2_18 : Cond.fieldLink RX2 18 (TX2 4).1 (TX2 4).2.1 (TX2 4).2.2.1 ∈ TB := tb_of 286 (by decide +kernel) rfl
theorem fg_26_4 : FldG true 26 2 4 (fun g w => .ref (gA g 29)) := ⟨trivial, rfl, fun _ _ => ⟨_, rfl, rfl⟩⟩
theorem ar_29 : ArrI true 29 448 := ⟨trivial, rfl, fun _ _ => rfl⟩
theorem cb_X2_foldZero : CwB yX2_foldZero cX2_foldZero 6 none 0 := ⟨tb_of 755 (by decide +kernel) rfl, tb_of 61 (by decide +kernel) rfl, by decide +kernel⟩
theorem lm_RX2_80 : Cond.methodLink RX2 80 yX2_foldZero ∈ TB ∧ Cond.instanceMethod yX2_foldZero ∈ TB ∧ Cond.selects yX2_foldZero.cls yX2_foldZero yX2_foldZero ∈ TB := ⟨tb_of 752 (by decide +kernel) rfl, tb_of 754 (by decide +kernel) rfl, tb_of 21 (by decide +kernel) rfl⟩
theorem cb_X2_foldOne : CwB yX2_foldOne cX2_foldOne 3 none 0 := ⟨tb_of 759 (by decide +kernel) rfl, tb_of 61 (by decide +kernel) rfl, by decide +kernel⟩
theorem lm_RX2_83 : Cond.methodLink RX2 83 yX2_foldOne ∈ TB ∧ Cond.instanceMethod yX2_foldOne ∈ TB ∧ Cond.selects yX2_foldOne.cls yX2_foldOne yX2_foldOne ∈ TB := ⟨tb_of 756 (by decide +kernel) rfl, tb_of 758 (by decide +kernel) rfl, tb_of 22 (by decide +kernel) rfl⟩
theorem lf_RX2_86 : Cond.fieldLink RX2 86 (TX5 2).1 (TX5 2).2.1 (TX5 2).2.2.1 ∈ TB := tb_of 200 (by decide +kernel) rfl
theorem lf_RX2_89 : Cond.fieldLink RX2 89 (TX5 7).1 (TX5 7).2.1 (TX5 7).2.2.1 ∈ TB := tb_of 211 (by decide +kernel) rfl
theorem cb_X2_placeOf : CwB yX2_placeOf cX2_placeOf 1 (some .int) 1 := ⟨tb_of 762 (by decide +kernel) rfl, tb_of 61 (by decide +kernel) rfl, by decide +kernel⟩
theorem lm_RX2_92 : Cond.methodLink RX2 92 yX2_placeOf ∈ TB ∧ Cond.static yX2_placeOf ∈ TB := ⟨tb_of 760 (by decide +kernel) rfl, tb_of 761 (by decide +kernel) rfl⟩
theorem cb_X2_fewestDays : CwB yX2_fewestDays cX2_fewestDays 4 (some .int) 2 := ⟨tb_of 725 (by decide +kernel) rfl, tb_of 61 (by decide +kernel) rfl, by decide +kernel⟩
theorem lm_RX2_50 : Cond.methodLink RX2 50 yX2_fewestDays ∈ TB ∧ Cond.instanceMethod yX2_fewestDays ∈ TB ∧ Cond.selects yX2_fewestDays.cls yX2_fewestDays yX2_fewestDays ∈ TB := ⟨tb_of 774 (by decide +kernel) rfl, tb_of 723 (by decide +kernel) rfl, tb_of 724 (by decide +kernel) rfl⟩
theorem lf_RX3_12 : Cond.fieldLink RX3 12 (TX3 1).1 (TX3 1).2.1 (TX3 1).2.2.1 ∈ TB := tb_of 147 (by decide +kernel) rfl
theorem ck_3 : ClsOK 3 RX3 TX3 7 tyX3 := ⟨rfl, fun w hw => (by decide +kernel : ∀ w ∈ u_ws RX3 TX3 7, w ∈ TB) w hw, tyX3_ok, nmX3⟩
theorem fg_7_1 : FldG true 7 3 1 (fun g w => .ref (gA g 8)) := ⟨trivial, rfl, fun _ _ => ⟨_, rfl, rfl⟩⟩
theorem cb_X1_copy : CwB yX1_copy cX1_copy 2 none 1 := ⟨tb_of 401 (by decide +kernel) rfl, tb_of 55 (by decide +kernel) rfl, by decide +kernel⟩
theorem lm_RX3_39 : Cond.methodLink RX3 39 yX1_copy ∈ TB ∧ Cond.instanceMethod yX1_copy ∈ TB ∧ Cond.selects yX1_copy.cls yX1_copy yX1_copy ∈ TB := ⟨tb_of 398 (by decide +kernel) rfl, tb_of 399 (by decide +kernel) rfl, tb_of 400 (by decide +kernel) rfl⟩
theorem ob_8 : True ∧ decide (8 < 37) = true ∧ ∀ (g : GG) (w : Wd), ∃ fs, cellE g w 8 = .inr (1, fs) := ⟨trivial, rfl, fun _ _ => ⟨_, rfl⟩⟩
theorem lf_RX3_18 : Cond.fieldLink RX3 18 (TX3 2).1 (TX3 2).2.1 (TX3 2).2.2.1 ∈ TB := tb_of 149 (by decide +kernel) rfl
theorem fp_7_2 : FldP true 7 3 2 := ⟨trivial, rfl, fun _ _ _ => ⟨_, rfl, Nat.le_of_ble_eq_true rfl, rfl⟩⟩
theorem lf_RX3_32 : Cond.fieldLink RX3 32 (TX3 6).1 (TX3 6).2.1 (TX3 6).2.2.1 ∈ TB := tb_of 154 (by decide +kernel) rfl
theorem fp_7_6 : FldP true 7 3 6 := ⟨trivial, rfl, fun _ _ _ => ⟨_, rfl, Nat.le_of_ble_eq_true rfl, rfl⟩⟩
theorem fg_7_6 : FldG true 7 3 6 (fun g w => .int (w.1 7 6)) := ⟨trivial, rfl, fun _ _ => ⟨_, rfl, rfl⟩⟩
theorem lf_RX3_35 : Cond.fieldLink RX3 35 (TX3 0).1 (TX3 0).2.1 (TX3 0).2.2.1 ∈ TB := tb_of 146 (by decide +kernel) rfl
theorem fg_7_0 : FldG true 7 3 0 (fun g w => .ref (gA g 1)) := ⟨trivial, rfl, fun _ _ => ⟨_, rfl, rfl⟩⟩
theorem lf_RX3_77 : Cond.fieldLink RX3 77 (TX6 1).1 (TX6 1).2.1 (TX6 1).2.2.1 ∈ TB := tb_of 87 (by decide +kernel) rfl
theorem ck_6 : ClsOK 6 RX6 TX6 2 tyX6 := ⟨rfl, fun w hw => (by decide +kernel : ∀ w ∈ u_ws RX6 TX6 2, w ∈ TB) w hw, tyX6_ok, nmX6⟩
theorem fg_1_1 : FldG true 1 6 1 (fun g w => .int (w.1 1 1)) := ⟨trivial, rfl, fun _ _ => ⟨_, rfl, rfl⟩⟩
theorem lf_RX6_15 : Cond.fieldLink RX6 15 (TX6 1).1 (TX6 1).2.1 (TX6 1).2.2.1 ∈ TB := tb_of 85 (by decide +kernel) rfl
theorem lf_RX6_9 : Cond.fieldLink RX6 9 (TX6 0).1 (TX6 0).2.1 (TX6 0).2.2.1 ∈ TB := tb_of 84 (by decide +kernel) rfl
theorem fg_1_0 : FldG true 1 6 0 (fun g w => .ref (gA g 2)) := ⟨trivial, rfl, fun _ _ => ⟨_, rfl, rfl⟩⟩
theorem ar_2 : ArrC true 2 200 := ⟨trivial, rfl, fun _ _ => rfl⟩
theorem cb_X6_byteAt : CwB yX6_byteAt cX6_byteAt 2 (some .int) 1 := ⟨tb_of 414 (by decide +kernel) rfl, tb_of 54 (by decide +kernel) rfl, by decide +kernel⟩
theorem lm_RX3_50 : Cond.methodLink RX3 50 yX6_byteAt ∈ TB ∧ Cond.instanceMethod yX6_byteAt ∈ TB ∧ Cond.selects yX6_byteAt.cls yX6_byteAt yX6_byteAt ∈ TB := ⟨tb_of 411 (by decide +kernel) rfl, tb_of 412 (by decide +kernel) rfl, tb_of 413 (by decide +kernel) rfl⟩
theorem ob_1 : True ∧ decide (1 < 37) = true ∧ ∀ (g : GG) (w : Wd), ∃ fs, cellE g w 1 = .inr (6, fs) := ⟨trivial, rfl, fun _ _ => ⟨_, rfl⟩⟩
theorem lf_RX3_29 : Cond.fieldLink RX3 29 (TX3 5).1 (TX3 5).2.1 (TX3 5).2.2.1 ∈ TB := tb_of 153 (by decide +kernel) rfl
theorem fp_7_5 : FldP true 7 3 5 := ⟨trivial, rfl, fun _ _ _ => ⟨_, rfl, Nat.le_of_ble_eq_true rfl, rfl⟩⟩
theorem lm_RX3_83 : (RX3, 83, yX7_within) ∈ nstM ∧ Cond.static yX7_within ∈ TB := ⟨by decide +kernel, tb_of 378 (by decide +kernel) rfl⟩
theorem cb_X3_sortAt : CwB yX3_sortAt cX3_sortAt 3 (some .int) 1 := ⟨tb_of 418 (by decide +kernel) rfl, tb_of 56 (by decide +kernel) rfl, by decide +kernel⟩
theorem lm_RX3_80 : Cond.methodLink RX3 80 yX3_sortAt ∈ TB ∧ Cond.instanceMethod yX3_sortAt ∈ TB ∧ Cond.selects yX3_sortAt.cls yX3_sortAt yX3_sortAt ∈ TB := ⟨tb_of 415 (by decide +kernel) rfl, tb_of 417 (by decide +kernel) rfl, tb_of 4 (by decide +kernel) rfl⟩
theorem ob_7 : True ∧ decide (7 < 37) = true ∧ ∀ (g : GG) (w : Wd), ∃ fs, cellE g w 7 = .inr (3, fs) := ⟨trivial, rfl, fun _ _ => ⟨_, rfl⟩⟩
theorem lf_RX3_26 : Cond.fieldLink RX3 26 (TX3 4).1 (TX3 4).2.1 (TX3 4).2.2.1 ∈ TB := tb_of 152 (by decide +kernel) rfl
theorem fp_7_4 : FldP true 7 3 4 := ⟨trivial, rfl, fun _ _ _ => ⟨_, rfl, Nat.le_of_ble_eq_true rfl, rfl⟩⟩
theorem fg_7_4 : FldG true 7 3 4 (fun g w => .int (w.1 7 4)) := ⟨trivial, rfl, fun _ _ => ⟨_, rfl, rfl⟩⟩
theorem cb_X3_step : CwB yX3_step cX3_step 2 none 0 := ⟨tb_of 410 (by decide +kernel) rfl, tb_of 56 (by decide +kernel) rfl, by decide +kernel⟩
theorem lm_RX3_47 : Cond.methodLink RX3 47 yX3_step ∈ TB ∧ Cond.instanceMethod yX3_step ∈ TB ∧ Cond.selects yX3_step.cls yX3_step yX3_step ∈ TB := ⟨tb_of 407 (by decide +kernel) rfl, tb_of 409 (by decide +kernel) rfl, tb_of 3 (by decide +kernel) rfl⟩
theorem fg_7_5 : FldG true 7 3 5 (fun g w => .int (w.1 7 5)) := ⟨trivial, rfl, fun _ _ => ⟨_, rfl, rfl⟩⟩
theorem cb_X3_spells : CwB yX3_spells cX3_spells 3 (some .boolean) 1 := ⟨tb_of 428 (by decide +kernel) rfl, tb_of 56 (by decide +kernel) rfl, by decide +kernel⟩
theorem lm_RX3_88 : Cond.methodLink RX3 88 yX3_spells ∈ TB ∧ Cond.instanceMethod yX3_spells ∈ TB ∧ Cond.selects yX3_spells.cls yX3_spells yX3_spells ∈ TB := ⟨tb_of 425 (by decide +kernel) rfl, tb_of 427 (by decide +kernel) rfl, tb_of 6 (by decide +kernel) rfl⟩
theorem cb_X3_lineOfWord : CwB yX3_lineOfWord cX3_lineOfWord 1 (some .int) 0 := ⟨tb_of 423 (by decide +kernel) rfl, tb_of 56 (by decide +kernel) rfl, by decide +kernel⟩
theorem lm_RX3_56 : Cond.methodLink RX3 56 yX3_lineOfWord ∈ TB ∧ Cond.instanceMethod yX3_lineOfWord ∈ TB ∧ Cond.selects yX3_lineOfWord.cls yX3_lineOfWord yX3_lineOfWord ∈ TB := ⟨tb_of 420 (by decide +kernel) rfl, tb_of 422 (by decide +kernel) rfl, tb_of 5 (by decide +kernel) rfl⟩
theorem cb_X3_fieldsOf : CwB yX3_fieldsOf cX3_fieldsOf 1 (some .int) 1 := ⟨tb_of 488 (by decide +kernel) rfl, tb_of 56 (by decide +kernel) rfl, by decide +kernel⟩
theorem lm_RX3_63 : Cond.methodLink RX3 63 yX3_fieldsOf ∈ TB ∧ Cond.static yX3_fieldsOf ∈ TB := ⟨tb_of 486 (by decide +kernel) rfl, tb_of 487 (by decide +kernel) rfl⟩
theorem cb_X3_tokenValue : CwB yX3_tokenValue cX3_tokenValue 3 (some .int) 0 := ⟨tb_of 492 (by decide +kernel) rfl, tb_of 56 (by decide +kernel) rfl, by decide +kernel⟩
theorem lm_RX3_66 : Cond.methodLink RX3 66 yX3_tokenValue ∈ TB ∧ Cond.instanceMethod yX3_tokenValue ∈ TB ∧ Cond.selects yX3_tokenValue.cls yX3_tokenValue yX3_tokenValue ∈ TB := ⟨tb_of 489 (by decide +kernel) rfl, tb_of 491 (by decide +kernel) rfl, tb_of 7 (by decide +kernel) rfl⟩
theorem cb_X1_hasStation : CwB yX1_hasStation cX1_hasStation 2 (some .boolean) 1 := ⟨tb_of 504 (by decide +kernel) rfl, tb_of 55 (by decide +kernel) rfl, by decide +kernel⟩
theorem lm_RX3_114 : Cond.methodLink RX3 114 yX1_hasStation ∈ TB ∧ Cond.instanceMethod yX1_hasStation ∈ TB ∧ Cond.selects yX1_hasStation.cls yX1_hasStation yX1_hasStation ∈ TB := ⟨tb_of 501 (by decide +kernel) rfl, tb_of 502 (by decide +kernel) rfl, tb_of 503 (by decide +kernel) rfl⟩
theorem lf_RX3_22 : Cond.fieldLink RX3 22 (TX3 3).1 (TX3 3).2.1 (TX3 3).2.2.1 ∈ TB := tb_of 151 (by decide +kernel) rfl
theorem fg_7_3 : FldG true 7 3 3 (fun g w => .ref (gA g 12)) := ⟨trivial, rfl, fun _ _ => ⟨_, rfl, rfl⟩⟩
theorem ar_12 : ArrI true 12 6 := ⟨trivial, rfl, fun _ _ => rfl⟩
theorem cb_X3_fitsTrain : CwB yX3_fitsTrain cX3_fitsTrain 3 (some .boolean) 2 := ⟨tb_of 500 (by decide +kernel) rfl, tb_of 56 (by decide +kernel) rfl, by decide +kernel⟩
theorem lm_RX3_110 : Cond.methodLink RX3 110 yX3_fitsTrain ∈ TB ∧ Cond.instanceMethod yX3_fitsTrain ∈ TB ∧ Cond.selects yX3_fitsTrain.cls yX3_fitsTrain yX3_fitsTrain ∈ TB := ⟨tb_of 497 (by decide +kernel) rfl, tb_of 499 (by decide +kernel) rfl, tb_of 9 (by decide +kernel) rfl⟩
theorem lm_RX3_118 : (RX3, 118, yX7_isSeeker) ∈ nstM ∧ Cond.static yX7_isSeeker ∈ TB := ⟨by decide +kernel, tb_of 506 (by decide +kernel) rfl⟩
theorem cb_X3_fits : CwB yX3_fits cX3_fits 4 (some .boolean) 3 := ⟨tb_of 496 (by decide +kernel) rfl, tb_of 56 (by decide +kernel) rfl, by decide +kernel⟩
theorem lm_RX3_69 : Cond.methodLink RX3 69 yX3_fits ∈ TB ∧ Cond.instanceMethod yX3_fits ∈ TB ∧ Cond.selects yX3_fits.cls yX3_fits yX3_fits ∈ TB := ⟨tb_of 493 (by decide +kernel) rfl, tb_of 495 (by decide +kernel) rfl, tb_of 8 (by decide +kernel) rfl⟩
theorem cb_X1_clear : CwB yX1_clear cX1_clear 2 none 1 := ⟨tb_of 515 (by decide +kernel) rfl, tb_of 55 (by decide +kernel) rfl, by decide +kernel⟩
theorem lm_RX3_121 : Cond.methodLink RX3 121 yX1_clear ∈ TB ∧ Cond.instanceMethod yX1_clear ∈ TB ∧ Cond.selects yX1_clear.cls yX1_clear yX1_clear ∈ TB := ⟨tb_of 512 (by decide +kernel) rfl, tb_of 513 (by decide +kernel) rfl, tb_of 514 (by decide +kernel) rfl⟩
theorem lf_RX3_138 : Cond.fieldLink RX3 138 (TX1 1).1 (TX1 1).2.1 (TX1 1).2.2.1 ∈ TB := tb_of 105 (by decide +kernel) rfl
theorem cb_X1_setPart : CwB yX1_setPart cX1_setPart 4 none 3 := ⟨tb_of 524 (by decide +kernel) rfl, tb_of 55 (by decide +kernel) rfl, by decide +kernel⟩
theorem lm_RX3_141 : Cond.methodLink RX3 141 yX1_setPart ∈ TB ∧ Cond.instanceMethod yX1_setPart ∈ TB ∧ Cond.selects yX1_setPart.cls yX1_setPart yX1_setPart ∈ TB := ⟨tb_of 521 (by decide +kernel) rfl, tb_of 522 (by decide +kernel) rfl, tb_of 523 (by decide +kernel) rfl⟩
theorem cb_X3_drawTrain : CwB yX3_drawTrain cX3_drawTrain 2 none 0 := ⟨tb_of 520 (by decide +kernel) rfl, tb_of 56 (by decide +kernel) rfl, by decide +kernel⟩
theorem lm_RX3_124 : Cond.methodLink RX3 124 yX3_drawTrain ∈ TB ∧ Cond.instanceMethod yX3_drawTrain ∈ TB ∧ Cond.selects yX3_drawTrain.cls yX3_drawTrain yX3_drawTrain ∈ TB := ⟨tb_of 517 (by decide +kernel) rfl, tb_of 519 (by decide +kernel) rfl, tb_of 11 (by decide +kernel) rfl⟩
theorem lf_RX3_127 : Cond.fieldLink RX3 127 (TX1 2).1 (TX1 2).2.1 (TX1 2).2.2.1 ∈ TB := tb_of 110 (by decide +kernel) rfl
theorem cb_X1_setTickets : CwB yX1_setTickets cX1_setTickets 3 none 2 := ⟨tb_of 529 (by decide +kernel) rfl, tb_of 55 (by decide +kernel) rfl, by decide +kernel⟩
theorem lm_RX3_129 : Cond.methodLink RX3 129 yX1_setTickets ∈ TB ∧ Cond.instanceMethod yX1_setTickets ∈ TB ∧ Cond.selects yX1_setTickets.cls yX1_setTickets yX1_setTickets ∈ TB := ⟨tb_of 526 (by decide +kernel) rfl, tb_of 527 (by decide +kernel) rfl, tb_of 528 (by decide +kernel) rfl⟩
theorem lf_RX3_133 : Cond.fieldLink RX3 133 (TX1 3).1 (TX1 3).2.1 (TX1 3).2.2.1 ∈ TB := tb_of 113 (by decide +kernel) rfl
theorem cb_X1_setSeeker : CwB yX1_setSeeker cX1_setSeeker 3 none 2 := ⟨tb_of 533 (by decide +kernel) rfl, tb_of 55 (by decide +kernel) rfl, by decide +kernel⟩
theorem lm_RX3_135 : Cond.methodLink RX3 135 yX1_setSeeker ∈ TB ∧ Cond.instanceMethod yX1_setSeeker ∈ TB ∧ Cond.selects yX1_setSeeker.cls yX1_setSeeker yX1_setSeeker ∈ TB := ⟨tb_of 530 (by decide +kernel) rfl, tb_of 531 (by decide +kernel) rfl, tb_of 532 (by decide +kernel) rfl⟩
theorem cb_X3_draw : CwB yX3_draw cX3_draw 3 none 1 := ⟨tb_of 511 (by decide +kernel) rfl, tb_of 56 (by decide +kernel) rfl, by decide +kernel⟩
theorem lm_RX3_73 : Cond.methodLink RX3 73 yX3_draw ∈ TB ∧ Cond.instanceMethod yX3_draw ∈ TB ∧ Cond.selects yX3_draw.cls yX3_draw yX3_draw ∈ TB := ⟨tb_of 508 (by decide +kernel) rfl, tb_of 510 (by decide +kernel) rfl, tb_of 10 (by decide +kernel) rfl⟩
theorem cb_X1_isFull : CwB yX1_isFull cX1_isFull 1 (some .boolean) 0 := ⟨tb_of 485 (by decide +kernel) rfl, tb_of 55 (by decide +kernel) rfl, by decide +kernel⟩
theorem lm_RX3_60 : Cond.methodLink RX3 60 yX1_isFull ∈ TB ∧ Cond.instanceMethod yX1_isFull ∈ TB ∧ Cond.selects yX1_isFull.cls yX1_isFull yX1_isFull ∈ TB := ⟨tb_of 482 (by decide +kernel) rfl, tb_of 483 (by decide +kernel) rfl, tb_of 484 (by decide +kernel) rfl⟩
theorem cb_X3_readLine : CwB yX3_readLine cX3_readLine 4 (some .boolean) 0 := ⟨tb_of 406 (by decide +kernel) rfl, tb_of 56 (by decide +kernel) rfl, by decide +kernel⟩
theorem lm_RX3_43 : Cond.methodLink RX3 43 yX3_readLine ∈ TB ∧ Cond.instanceMethod yX3_readLine ∈ TB ∧ Cond.selects yX3_readLine.cls yX3_readLine yX3_readLine ∈ TB := ⟨tb_of 403 (by decide +kernel) rfl, tb_of 405 (by decide +kernel) rfl, tb_of 2 (by decide +kernel) rfl⟩
theorem lf_RX4_15 : Cond.fieldLink RX4 15 (TX4 2).1 (TX4 2).2.1 (TX4 2).2.2.1 ∈ TB := tb_of 323 (by decide +kernel) rfl
theorem ck_4 : ClsOK 4 RX4 TX4 6 tyX4 := ⟨rfl, fun w hw => (by decide +kernel : ∀ w ∈ u_ws RX4 TX4 6, w ∈ TB) w hw, tyX4_ok, nmX4⟩
theorem fg_32_2 : FldG true 32 4 2 (fun g w => .int (w.1 32 2)) := ⟨trivial, rfl, fun _ _ => ⟨_, rfl, rfl⟩⟩
theorem lm_RX4_33 : (RX4, 33, yX7_within) ∈ nstM ∧ Cond.static yX7_within ∈ TB := ⟨by decide +kernel, tb_of 378 (by decide +kernel) rfl⟩
theorem lf_RX4_9 : Cond.fieldLink RX4 9 (TX4 1).1 (TX4 1).2.1 (TX4 1).2.2.1 ∈ TB := tb_of 322 (by decide +kernel) rfl
theorem fg_32_1 : FldG true 32 4 1 (fun g w => .ref (gA g 33)) := ⟨trivial, rfl, fun _ _ => ⟨_, rfl, rfl⟩⟩
theorem ar_33 : ArrI true 33 12 := ⟨trivial, rfl, fun _ _ => rfl⟩
theorem fp_32_2 : FldP true 32 4 2 := ⟨trivial, rfl, fun _ _ _ => ⟨_, rfl, Nat.le_of_ble_eq_true rfl, rfl⟩⟩
theorem lf_RX4_29 : Cond.fieldLink RX4 29 (TX4 0).1 (TX4 0).2.1 (TX4 0).2.2.1 ∈ TB := tb_of 321 (by decide +kernel) rfl
theorem fg_32_0 : FldG true 32 4 0 (fun g w => .ref (gA g 3)) := ⟨trivial, rfl, fun _ _ => ⟨_, rfl, rfl⟩⟩
theorem lf_RX4_37 : (RX4, 37, (TX1 5).1, (TX1 5).2.1, (TX1 5).2.2.1) ∈ nstF := by decide +kernel
theorem lf_RX4_19 : Cond.fieldLink RX4 19 (TX4 3).1 (TX4 3).2.1 (TX4 3).2.2.1 ∈ TB := tb_of 325 (by decide +kernel) rfl
theorem fg_32_3 : FldG true 32 4 3 (fun g w => .ref (gA g 34)) := ⟨trivial, rfl, fun _ _ => ⟨_, rfl, rfl⟩⟩
theorem la_RX4_42 : Cond.methodLink RX4 42 arraycopyName ∈ TB ∧ Cond.native arraycopyName ∈ TB ∧ Cond.static arraycopyName ∈ TB ∧ Cond.initialized "java/lang/System" ∈ TB := ⟨tb_of 796 (by decide +kernel) rfl, tb_of 182 (by decide +kernel) rfl, tb_of 181 (by decide +kernel) rfl, tb_of 58 (by decide +kernel) rfl⟩
theorem ar_34 : ArrI true 34 3 := ⟨trivial, rfl, fun _ _ => rfl⟩
theorem lf_RX4_48 : Cond.fieldLink RX4 48 (TX1 2).1 (TX1 2).2.1 (TX1 2).2.2.1 ∈ TB := tb_of 109 (by decide +kernel) rfl
theorem lm_RX4_51 : Cond.methodLink RX4 51 yX1_leaves ∈ TB ∧ Cond.instanceMethod yX1_leaves ∈ TB ∧ Cond.selects yX1_leaves.cls yX1_leaves yX1_leaves ∈ TB := ⟨tb_of 797 (by decide +kernel) rfl, tb_of 564 (by decide +kernel) rfl, tb_of 565 (by decide +kernel) rfl⟩
theorem lm_RX4_54 : Cond.methodLink RX4 54 yX1_part ∈ TB ∧ Cond.instanceMethod yX1_part ∈ TB ∧ Cond.selects yX1_part.cls yX1_part yX1_part ∈ TB := ⟨tb_of 798 (by decide +kernel) rfl, tb_of 551 (by decide +kernel) rfl, tb_of 552 (by decide +kernel) rfl⟩
theorem cb_X4_spend : CwB yX4_spend cX4_spend 2 (some .boolean) 1 := ⟨tb_of 802 (by decide +kernel) rfl, tb_of 62 (by decide +kernel) rfl, by decide +kernel⟩
theorem lm_RX4_58 : Cond.methodLink RX4 58 yX4_spend ∈ TB ∧ Cond.instanceMethod yX4_spend ∈ TB ∧ Cond.selects yX4_spend.cls yX4_spend yX4_spend ∈ TB := ⟨tb_of 799 (by decide +kernel) rfl, tb_of 801 (by decide +kernel) rfl, tb_of 23 (by decide +kernel) rfl⟩
theorem ob_32 : True ∧ decide (32 < 37) = true ∧ ∀ (g : GG) (w : Wd), ∃ fs, cellE g w 32 = .inr (4, fs) := ⟨trivial, rfl, fun _ _ => ⟨_, rfl⟩⟩
theorem lf_RX4_22 : Cond.fieldLink RX4 22 (TX4 4).1 (TX4 4).2.1 (TX4 4).2.2.1 ∈ TB := tb_of 326 (by decide +kernel) rfl
theorem fg_32_4 : FldG true 32 4 4 (fun g w => .ref (gA g 35)) := ⟨trivial, rfl, fun _ _ => ⟨_, rfl, rfl⟩⟩
theorem ar_35 : ArrJ true 35 41 := ⟨trivial, rfl, fun _ _ => rfl⟩
theorem cb_J7_fill_d0a16 : CwB yJ7_fill_d0a16 cJ7_fill_d0a16 5 none 2 := ⟨tb_of 814 (by decide +kernel) rfl, tb_of 59 (by decide +kernel) rfl, by decide +kernel⟩
theorem lm_RX4_62 : Cond.methodLink RX4 62 yJ7_fill_d0a16 ∈ TB ∧ Cond.static yJ7_fill_d0a16 ∈ TB := ⟨tb_of 812 (by decide +kernel) rfl, tb_of 813 (by decide +kernel) rfl⟩
theorem lf_RX4_26 : Cond.fieldLink RX4 26 (TX4 5).1 (TX4 5).2.1 (TX4 5).2.2.1 ∈ TB := tb_of 327 (by decide +kernel) rfl
theorem fg_32_5 : FldG true 32 4 5 (fun g w => .ref (gA g 36)) := ⟨trivial, rfl, fun _ _ => ⟨_, rfl, rfl⟩⟩
theorem ar_36 : ArrJ true 36 41 := ⟨trivial, rfl, fun _ _ => rfl⟩
theorem lm_RX4_74 : Cond.methodLink RX4 74 yX1_runsOn ∈ TB ∧ Cond.instanceMethod yX1_runsOn ∈ TB ∧ Cond.selects yX1_runsOn.cls yX1_runsOn yX1_runsOn ∈ TB := ⟨tb_of 819 (by decide +kernel) rfl, tb_of 569 (by decide +kernel) rfl, tb_of 570 (by decide +kernel) rfl⟩
theorem cb_X4_arrive : CwB yX4_arrive cX4_arrive 4 none 2 := ⟨tb_of 823 (by decide +kernel) rfl, tb_of 62 (by decide +kernel) rfl, by decide +kernel⟩
theorem lm_RX4_78 : Cond.methodLink RX4 78 yX4_arrive ∈ TB ∧ Cond.instanceMethod yX4_arrive ∈ TB ∧ Cond.selects yX4_arrive.cls yX4_arrive yX4_arrive ∈ TB := ⟨tb_of 820 (by decide +kernel) rfl, tb_of 822 (by decide +kernel) rfl, tb_of 25 (by decide +kernel) rfl⟩
theorem cb_X4_rideOn : CwB yX4_rideOn cX4_rideOn 5 none 2 := ⟨tb_of 818 (by decide +kernel) rfl, tb_of 62 (by decide +kernel) rfl, by decide +kernel⟩
theorem lm_RX4_68 : Cond.methodLink RX4 68 yX4_rideOn ∈ TB ∧ Cond.instanceMethod yX4_rideOn ∈ TB ∧ Cond.selects yX4_rideOn.cls yX4_rideOn yX4_rideOn ∈ TB := ⟨tb_of 815 (by decide +kernel) rfl, tb_of 817 (by decide +kernel) rfl, tb_of 24 (by decide +kernel) rfl⟩
theorem kc_RX4_72 : Cond.constantLong RX4 72 (10 : Int64) ∈ TB := tb_of 828 (by decide +kernel) rfl
theorem fp_13_1 : FldP true 13 5 1 := ⟨trivial, rfl, fun _ _ _ => ⟨_, rfl, Nat.le_of_ble_eq_true rfl, rfl⟩⟩
theorem lf_RX5_32 : Cond.fieldLink RX5 32 (TX1 2).1 (TX1 2).2.1 (TX1 2).2.2.1 ∈ TB := tb_of 108 (by decide +kernel) rfl
theorem fp_13_2 : FldP true 13 5 2 := ⟨trivial, rfl, fun _ _ _ => ⟨_, rfl, Nat.le_of_ble_eq_true rfl, rfl⟩⟩
theorem fp_13_3 : FldP true 13 5 3 := ⟨trivial, rfl, fun _ _ _ => ⟨_, rfl, Nat.le_of_ble_eq_true rfl, rfl⟩⟩
theorem lf_RX5_44 : (RX5, 44, (TX1 5).1, (TX1 5).2.1, (TX1 5).2.2.1) ∈ nstF := by decide +kernel
theorem la_RX5_45 : Cond.methodLink RX5 45 arraycopyName ∈ TB ∧ Cond.native arraycopyName ∈ TB ∧ Cond.static arraycopyName ∈ TB ∧ Cond.initialized "java/lang/System" ∈ TB := ⟨tb_of 180 (by decide +kernel) rfl, tb_of 182 (by decide +kernel) rfl, tb_of 181 (by decide +kernel) rfl, tb_of 58 (by decide +kernel) rfl⟩
theorem lf_RX5_51 : (RX5, 51, (TX1 6).1, (TX1 6).2.1, (TX1 6).2.2.1) ∈ nstF := by decide +kernel
theorem lf_RX5_15 : Cond.fieldLink RX5 15 (TX5 7).1 (TX5 7).2.1 (TX5 7).2.2.1 ∈ TB := tb_of 209 (by decide +kernel) rfl
theorem lf_RX5_71 : Cond.fieldLink RX5 71 (TX5 5).1 (TX5 5).2.1 (TX5 5).2.2.1 ∈ TB := tb_of 206 (by decide +kernel) rfl
theorem fp_13_5 : FldP true 13 5 5 := ⟨trivial, rfl, fun _ _ _ => ⟨_, rfl, Nat.le_of_ble_eq_true rfl, rfl⟩⟩
theorem lf_RX5_18 : Cond.fieldLink RX5 18 (TX5 8).1 (TX5 8).2.1 (TX5 8).2.2.1 ∈ TB := tb_of 213 (by decide +kernel) rfl
theorem fg_13_8 : FldG true 13 5 8 (fun g w => .ref (gA g 16)) := ⟨trivial, rfl, fun _ _ => ⟨_, rfl, rfl⟩⟩
theorem ar_16 : ArrI true 16 2 := ⟨trivial, rfl, fun _ _ => rfl⟩
theorem lm_RX5_74 : Cond.methodLink RX5 74 yJ7_fill_53178 ∈ TB ∧ Cond.static yJ7_fill_53178 ∈ TB := ⟨tb_of 187 (by decide +kernel) rfl, tb_of 188 (by decide +kernel) rfl⟩
theorem cb_X5_forgetToday : CwB yX5_forgetToday cX5_forgetToday 1 none 0 := ⟨tb_of 186 (by decide +kernel) rfl, tb_of 57 (by decide +kernel) rfl, by decide +kernel⟩
theorem lm_RX5_52 : Cond.methodLink RX5 52 yX5_forgetToday ∈ TB ∧ Cond.instanceMethod yX5_forgetToday ∈ TB ∧ Cond.selects yX5_forgetToday.cls yX5_forgetToday yX5_forgetToday ∈ TB := ⟨tb_of 183 (by decide +kernel) rfl, tb_of 185 (by decide +kernel) rfl, tb_of 0 (by decide +kernel) rfl⟩
theorem cb_X5_isWithSeeker : CwB yX5_isWithSeeker cX5_isWithSeeker 3 (some .boolean) 0 := ⟨tb_of 193 (by decide +kernel) rfl, tb_of 57 (by decide +kernel) rfl, by decide +kernel⟩
theorem lm_RX5_55 : Cond.methodLink RX5 55 yX5_isWithSeeker ∈ TB ∧ Cond.instanceMethod yX5_isWithSeeker ∈ TB ∧ Cond.selects yX5_isWithSeeker.cls yX5_isWithSeeker yX5_isWithSeeker ∈ TB := ⟨tb_of 190 (by decide +kernel) rfl, tb_of 192 (by decide +kernel) rfl, tb_of 1 (by decide +kernel) rfl⟩
theorem fp_13_4 : FldP true 13 5 4 := ⟨trivial, rfl, fun _ _ _ => ⟨_, rfl, Nat.le_of_ble_eq_true rfl, rfl⟩⟩
theorem fp_13_9 : FldP true 13 5 9 := ⟨trivial, rfl, fun _ _ _ => ⟨_, rfl, Nat.le_of_ble_eq_true rfl, rfl⟩⟩
theorem fp_13_10 : FldP true 13 5 10 := ⟨trivial, rfl, fun _ _ _ => ⟨_, rfl, Nat.le_of_ble_eq_true rfl, rfl⟩⟩
theorem lf_RX5_68 : Cond.fieldLink RX5 68 (TX5 11).1 (TX5 11).2.1 (TX5 11).2.2.1 ∈ TB := tb_of 220 (by decide +kernel) rfl
theorem fp_13_11 : FldP true 13 5 11 := ⟨trivial, rfl, fun _ _ _ => ⟨_, rfl, Nat.le_of_ble_eq_true rfl, rfl⟩⟩
theorem fp_17_1 : FldP true 17 5 1 := ⟨trivial, rfl, fun _ _ _ => ⟨_, rfl, Nat.le_of_ble_eq_true rfl, rfl⟩⟩
theorem fp_17_2 : FldP true 17 5 2 := ⟨trivial, rfl, fun _ _ _ => ⟨_, rfl, Nat.le_of_ble_eq_true rfl, rfl⟩⟩
theorem fp_17_3 : FldP true 17 5 3 := ⟨trivial, rfl, fun _ _ _ => ⟨_, rfl, Nat.le_of_ble_eq_true rfl, rfl⟩⟩
theorem fp_17_4 : FldP true 17 5 4 := ⟨trivial, rfl, fun _ _ _ => ⟨_, rfl, Nat.le_of_ble_eq_true rfl, rfl⟩⟩
theorem fg_13_5 : FldG true 13 5 5 (fun g w => .int (w.1 13 5)) := ⟨trivial, rfl, fun _ _ => ⟨_, rfl, rfl⟩⟩
theorem fp_17_5 : FldP true 17 5 5 := ⟨trivial, rfl, fun _ _ _ => ⟨_, rfl, Nat.le_of_ble_eq_true rfl, rfl⟩⟩
theorem fg_17_6 : FldG true 17 5 6 (fun g w => .ref (gA g 18)) := ⟨trivial, rfl, fun _ _ => ⟨_, rfl, rfl⟩⟩
theorem ar_18 : ArrI true 18 3 := ⟨trivial, rfl, fun _ _ => rfl⟩
theorem fg_17_7 : FldG true 17 5 7 (fun g w => .ref (gA g 19)) := ⟨trivial, rfl, fun _ _ => ⟨_, rfl, rfl⟩⟩
theorem ar_19 : ArrI true 19 2 := ⟨trivial, rfl, fun _ _ => rfl⟩
theorem fg_17_8 : FldG true 17 5 8 (fun g w => .ref (gA g 20)) := ⟨trivial, rfl, fun _ _ => ⟨_, rfl, rfl⟩⟩
theorem ar_20 : ArrI true 20 2 := ⟨trivial, rfl, fun _ _ => rfl⟩
theorem fp_17_9 : FldP true 17 5 9 := ⟨trivial, rfl, fun _ _ _ => ⟨_, rfl, Nat.le_of_ble_eq_true rfl, rfl⟩⟩
theorem fp_17_10 : FldP true 17 5 10 := ⟨trivial, rfl, fun _ _ _ => ⟨_, rfl, Nat.le_of_ble_eq_true rfl, rfl⟩⟩
theorem fg_13_11 : FldG true 13 5 11 (fun g w => .int (w.1 13 11)) := ⟨trivial, rfl, fun _ _ => ⟨_, rfl, rfl⟩⟩
theorem fp_17_11 : FldP true 17 5 11 := ⟨trivial, rfl, fun _ _ _ => ⟨_, rfl, Nat.le_of_ble_eq_true rfl, rfl⟩⟩
theorem fp_21_1 : FldP true 21 5 1 := ⟨trivial, rfl, fun _ _ _ => ⟨_, rfl, Nat.le_of_ble_eq_true rfl, rfl⟩⟩
theorem fp_21_2 : FldP true 21 5 2 := ⟨trivial, rfl, fun _ _ _ => ⟨_, rfl, Nat.le_of_ble_eq_true rfl, rfl⟩⟩
theorem fp_21_3 : FldP true 21 5 3 := ⟨trivial, rfl, fun _ _ _ => ⟨_, rfl, Nat.le_of_ble_eq_true rfl, rfl⟩⟩
theorem fp_21_4 : FldP true 21 5 4 := ⟨trivial, rfl, fun _ _ _ => ⟨_, rfl, Nat.le_of_ble_eq_true rfl, rfl⟩⟩
theorem fp_21_5 : FldP true 21 5 5 := ⟨trivial, rfl, fun _ _ _ => ⟨_, rfl, Nat.le_of_ble_eq_true rfl, rfl⟩⟩
theorem fg_21_6 : FldG true 21 5 6 (fun g w => .ref (gA g 22)) := ⟨trivial, rfl, fun _ _ => ⟨_, rfl, rfl⟩⟩
theorem ar_22 : ArrI true 22 3 := ⟨trivial, rfl, fun _ _ => rfl⟩
theorem fg_21_7 : FldG true 21 5 7 (fun g w => .ref (gA g 23)) := ⟨trivial, rfl, fun _ _ => ⟨_, rfl, rfl⟩⟩
theorem ar_23 : ArrI true 23 2 := ⟨trivial, rfl, fun _ _ => rfl⟩
theorem fg_21_8 : FldG true 21 5 8 (fun g w => .ref (gA g 24)) := ⟨trivial, rfl, fun _ _ => ⟨_, rfl, rfl⟩⟩
theorem ar_24 : ArrI true 24 2 := ⟨trivial, rfl, fun _ _ => rfl⟩
theorem fp_21_9 : FldP true 21 5 9 := ⟨trivial, rfl, fun _ _ _ => ⟨_, rfl, Nat.le_of_ble_eq_true rfl, rfl⟩⟩
theorem fp_21_10 : FldP true 21 5 10 := ⟨trivial, rfl, fun _ _ _ => ⟨_, rfl, Nat.le_of_ble_eq_true rfl, rfl⟩⟩
theorem fp_21_11 : FldP true 21 5 11 := ⟨trivial, rfl, fun _ _ _ => ⟨_, rfl, Nat.le_of_ble_eq_true rfl, rfl⟩⟩
theorem fg_17_1 : FldG true 17 5 1 (fun g w => .int (w.1 17 1)) := ⟨trivial, rfl, fun _ _ => ⟨_, rfl, rfl⟩⟩
theorem fg_17_2 : FldG true 17 5 2 (fun g w => .int (w.1 17 2)) := ⟨trivial, rfl, fun _ _ => ⟨_, rfl, rfl⟩⟩
theorem fg_17_3 : FldG true 17 5 3 (fun g w => .int (w.1 17 3)) := ⟨trivial, rfl, fun _ _ => ⟨_, rfl, rfl⟩⟩
theorem fg_17_4 : FldG true 17 5 4 (fun g w => .int (w.1 17 4)) := ⟨trivial, rfl, fun _ _ => ⟨_, rfl, rfl⟩⟩
theorem fg_17_5 : FldG true 17 5 5 (fun g w => .int (w.1 17 5)) := ⟨trivial, rfl, fun _ _ => ⟨_, rfl, rfl⟩⟩
theorem fg_17_9 : FldG true 17 5 9 (fun g w => .int (w.1 17 9)) := ⟨trivial, rfl, fun _ _ => ⟨_, rfl, rfl⟩⟩
theorem fg_17_10 : FldG true 17 5 10 (fun g w => .int (w.1 17 10)) := ⟨trivial, rfl, fun _ _ => ⟨_, rfl, rfl⟩⟩
theorem fg_17_11 : FldG true 17 5 11 (fun g w => .int (w.1 17 11)) := ⟨trivial, rfl, fun _ _ => ⟨_, rfl, rfl⟩⟩
theorem fg_21_1 : FldG true 21 5 1 (fun g w => .int (w.1 21 1)) := ⟨trivial, rfl, fun _ _ => ⟨_, rfl, rfl⟩⟩
theorem fg_21_2 : FldG true 21 5 2 (fun g w => .int (w.1 21 2)) := ⟨trivial, rfl, fun _ _ => ⟨_, rfl, rfl⟩⟩
theorem fg_21_3 : FldG true 21 5 3 (fun g w => .int (w.1 21 3)) := ⟨trivial, rfl, fun _ _ => ⟨_, rfl, rfl⟩⟩
theorem fg_21_4 : FldG true 21 5 4 (fun g w => .int (w.1 21 4)) := ⟨trivial, rfl, fun _ _ => ⟨_, rfl, rfl⟩⟩
theorem fg_21_5 : FldG true 21 5 5 (fun g w => .int (w.1 21 5)) := ⟨trivial, rfl, fun _ _ => ⟨_, rfl, rfl⟩⟩
theorem fg_21_9 : FldG true 21 5 9 (fun g w => .int (w.1 21 9)) := ⟨trivial, rfl, fun _ _ => ⟨_, rfl, rfl⟩⟩
theorem fg_21_10 : FldG true 21 5 10 (fun g w => .int (w.1 21 10)) := ⟨trivial, rfl, fun _ _ => ⟨_, rfl, rfl⟩⟩
theorem fg_21_11 : FldG true 21 5 11 (fun g w => .int (w.1 21 11)) := ⟨trivial, rfl, fun _ _ => ⟨_, rfl, rfl⟩⟩
theorem lm_RX5_80 : (RX5, 80, yX7_within) ∈ nstM ∧ Cond.static yX7_within ∈ TB := ⟨by decide +kernel, tb_of 378 (by decide +kernel) rfl⟩
theorem cb_X5_seekingBits : CwB yX5_seekingBits cX5_seekingBits 3 (some .int) 0 := ⟨tb_of 721 (by decide +kernel) rfl, tb_of 57 (by decide +kernel) rfl, by decide +kernel⟩
theorem lm_RX5_84 : Cond.methodLink RX5 84 yX5_seekingBits ∈ TB ∧ Cond.instanceMethod yX5_seekingBits ∈ TB ∧ Cond.selects yX5_seekingBits.cls yX5_seekingBits yX5_seekingBits ∈ TB := ⟨tb_of 718 (by decide +kernel) rfl, tb_of 719 (by decide +kernel) rfl, tb_of 720 (by decide +kernel) rfl⟩
theorem lm_RX5_95 : (RX5, 95, yX7_isSeeker) ∈ nstM ∧ Cond.static yX7_isSeeker ∈ TB := ⟨by decide +kernel, tb_of 506 (by decide +kernel) rfl⟩
theorem lm_RX5_99 : Cond.methodLink RX5 99 yX1_leaves ∈ TB ∧ Cond.instanceMethod yX1_leaves ∈ TB ∧ Cond.selects yX1_leaves.cls yX1_leaves yX1_leaves ∈ TB := ⟨tb_of 611 (by decide +kernel) rfl, tb_of 564 (by decide +kernel) rfl, tb_of 565 (by decide +kernel) rfl⟩
theorem lm_RX5_102 : Cond.methodLink RX5 102 yX1_part ∈ TB ∧ Cond.instanceMethod yX1_part ∈ TB ∧ Cond.selects yX1_part.cls yX1_part yX1_part ∈ TB := ⟨tb_of 612 (by decide +kernel) rfl, tb_of 551 (by decide +kernel) rfl, tb_of 552 (by decide +kernel) rfl⟩
theorem lm_RX5_113 : Cond.methodLink RX5 113 yX5_nextBits ∈ TB ∧ Cond.instanceMethod yX5_nextBits ∈ TB ∧ Cond.selects yX5_nextBits.cls yX5_nextBits yX5_nextBits ∈ TB := ⟨tb_of 625 (by decide +kernel) rfl, tb_of 626 (by decide +kernel) rfl, tb_of 627 (by decide +kernel) rfl⟩
theorem cb_X5_learnTicket : CwB yX5_learnTicket cX5_learnTicket 2 none 0 := ⟨tb_of 640 (by decide +kernel) rfl, tb_of 57 (by decide +kernel) rfl, by decide +kernel⟩
theorem lm_RX5_116 : Cond.methodLink RX5 116 yX5_learnTicket ∈ TB ∧ Cond.instanceMethod yX5_learnTicket ∈ TB ∧ Cond.selects yX5_learnTicket.cls yX5_learnTicket yX5_learnTicket ∈ TB := ⟨tb_of 637 (by decide +kernel) rfl, tb_of 639 (by decide +kernel) rfl, tb_of 13 (by decide +kernel) rfl⟩
theorem cb_X5_moveHim : CwB yX5_moveHim cX5_moveHim 2 none 0 := ⟨tb_of 644 (by decide +kernel) rfl, tb_of 57 (by decide +kernel) rfl, by decide +kernel⟩
theorem lm_RX5_119 : Cond.methodLink RX5 119 yX5_moveHim ∈ TB ∧ Cond.instanceMethod yX5_moveHim ∈ TB ∧ Cond.selects yX5_moveHim.cls yX5_moveHim yX5_moveHim ∈ TB := ⟨tb_of 641 (by decide +kernel) rfl, tb_of 643 (by decide +kernel) rfl, tb_of 14 (by decide +kernel) rfl⟩
theorem cb_X5_placeBehind : CwB yX5_placeBehind cX5_placeBehind 2 (some .int) 1 := ⟨tb_of 616 (by decide +kernel) rfl, tb_of 57 (by decide +kernel) rfl, by decide +kernel⟩
theorem lm_RX5_122 : Cond.methodLink RX5 122 yX5_placeBehind ∈ TB ∧ Cond.instanceMethod yX5_placeBehind ∈ TB ∧ Cond.selects yX5_placeBehind.cls yX5_placeBehind yX5_placeBehind ∈ TB := ⟨tb_of 645 (by decide +kernel) rfl, tb_of 614 (by decide +kernel) rfl, tb_of 615 (by decide +kernel) rfl⟩
theorem lf_RX5_129 : Cond.fieldLink RX5 129 (TX1 3).1 (TX1 3).2.1 (TX1 3).2.2.1 ∈ TB := tb_of 114 (by decide +kernel) rfl
theorem cb_X5_learnPlaces : CwB yX5_learnPlaces cX5_learnPlaces 3 none 0 := ⟨tb_of 649 (by decide +kernel) rfl, tb_of 57 (by decide +kernel) rfl, by decide +kernel⟩
theorem lm_RX5_126 : Cond.methodLink RX5 126 yX5_learnPlaces ∈ TB ∧ Cond.instanceMethod yX5_learnPlaces ∈ TB ∧ Cond.selects yX5_learnPlaces.cls yX5_learnPlaces yX5_learnPlaces ∈ TB := ⟨tb_of 646 (by decide +kernel) rfl, tb_of 648 (by decide +kernel) rfl, tb_of 15 (by decide +kernel) rfl⟩
theorem lm_RX6_19 : (RX6, 19, yX7_within) ∈ nstM ∧ Cond.static yX7_within ∈ TB := ⟨by decide +kernel, tb_of 378 (by decide +kernel) rfl⟩
theorem fp_1_1 : FldP true 1 6 1 := ⟨trivial, rfl, fun _ _ _ => ⟨_, rfl, Nat.le_of_ble_eq_true rfl, rfl⟩⟩
theorem lf_RX7_12 : Cond.fieldLink RX7 12 (TX7 0).1 (TX7 0).2.1 (TX7 0).2.2.1 ∈ TB := tb_of 342 (by decide +kernel) rfl
theorem ck_7 : ClsOK 7 RX7 TX7 10 tyX7 := ⟨rfl, fun w hw => (by decide +kernel : ∀ w ∈ u_ws RX7 TX7 10, w ∈ TB) w hw, tyX7_ok, nmX7⟩
theorem fg_0_0 : FldG true 0 7 0 (fun g w => .ref (gA g 1)) := ⟨trivial, rfl, fun _ _ => ⟨_, rfl, rfl⟩⟩
theorem lf_RX7_78 : Cond.fieldLink RX7 78 (TX6 1).1 (TX6 1).2.1 (TX6 1).2.2.1 ∈ TB := tb_of 86 (by decide +kernel) rfl
theorem kc_RX7_81 : Cond.constantLong RX7 81 (255 : Int64) ∈ TB := tb_of 380 (by decide +kernel) rfl
theorem cb_X6_append : CwB yX6_append cX6_append 2 none 1 := ⟨tb_of 384 (by decide +kernel) rfl, tb_of 54 (by decide +kernel) rfl, by decide +kernel⟩
theorem lm_RX7_83 : Cond.methodLink RX7 83 yX6_append ∈ TB ∧ Cond.instanceMethod yX6_append ∈ TB ∧ Cond.selects yX6_append.cls yX6_append yX6_append ∈ TB := ⟨tb_of 381 (by decide +kernel) rfl, tb_of 382 (by decide +kernel) rfl, tb_of 383 (by decide +kernel) rfl⟩
theorem lf_RX7_28 : Cond.fieldLink RX7 28 (TX7 2).1 (TX7 2).2.1 (TX7 2).2.2.1 ∈ TB := tb_of 344 (by decide +kernel) rfl
theorem fg_0_2 : FldG true 0 7 2 (fun g w => .ref (gA g 7)) := ⟨trivial, rfl, fun _ _ => ⟨_, rfl, rfl⟩⟩
theorem lf_RX7_19 : Cond.fieldLink RX7 19 (TX7 1).1 (TX7 1).2.1 (TX7 1).2.2.1 ∈ TB := tb_of 343 (by decide +kernel) rfl
theorem fg_0_1 : FldG true 0 7 1 (fun g w => .ref (gA g 3)) := ⟨trivial, rfl, fun _ _ => ⟨_, rfl, rfl⟩⟩
theorem cb_X3_firstFault : CwB yX3_firstFault cX3_firstFault 3 (some .int) 1 := ⟨tb_of 397 (by decide +kernel) rfl, tb_of 56 (by decide +kernel) rfl, by decide +kernel⟩
theorem lm_RX7_87 : Cond.methodLink RX7 87 yX3_firstFault ∈ TB ∧ Cond.instanceMethod yX3_firstFault ∈ TB ∧ Cond.selects yX3_firstFault.cls yX3_firstFault yX3_firstFault ∈ TB := ⟨tb_of 394 (by decide +kernel) rfl, tb_of 395 (by decide +kernel) rfl, tb_of 396 (by decide +kernel) rfl⟩
theorem lf_RX7_91 : Cond.fieldLink RX7 91 (TX3 1).1 (TX3 1).2.1 (TX3 1).2.2.1 ∈ TB := tb_of 148 (by decide +kernel) rfl
theorem lm_RX7_94 : Cond.methodLink RX7 94 yX1_copy ∈ TB ∧ Cond.instanceMethod yX1_copy ∈ TB ∧ Cond.selects yX1_copy.cls yX1_copy yX1_copy ∈ TB := ⟨tb_of 540 (by decide +kernel) rfl, tb_of 399 (by decide +kernel) rfl, tb_of 400 (by decide +kernel) rfl⟩
theorem lf_RX7_37 : Cond.fieldLink RX7 37 (TX7 3).1 (TX7 3).2.1 (TX7 3).2.2.1 ∈ TB := tb_of 345 (by decide +kernel) rfl
theorem fg_0_3 : FldG true 0 7 3 (fun g w => .ref (gA g 13)) := ⟨trivial, rfl, fun _ _ => ⟨_, rfl, rfl⟩⟩
theorem cb_X5_begin : CwB yX5_begin cX5_begin 1 none 0 := ⟨tb_of 179 (by decide +kernel) rfl, tb_of 57 (by decide +kernel) rfl, by decide +kernel⟩
theorem lm_RX7_97 : Cond.methodLink RX7 97 yX5_begin ∈ TB ∧ Cond.instanceMethod yX5_begin ∈ TB ∧ Cond.selects yX5_begin.cls yX5_begin yX5_begin ∈ TB := ⟨tb_of 541 (by decide +kernel) rfl, tb_of 177 (by decide +kernel) rfl, tb_of 178 (by decide +kernel) rfl⟩
theorem lf_RX7_66 : Cond.fieldLink RX7 66 (TX7 8).1 (TX7 8).2.1 (TX7 8).2.2.1 ∈ TB := tb_of 350 (by decide +kernel) rfl
theorem fg_0_8 : FldG true 0 7 8 (fun g w => .ref (gA g 32)) := ⟨trivial, rfl, fun _ _ => ⟨_, rfl, rfl⟩⟩
theorem lf_RX7_100 : Cond.fieldLink RX7 100 (TX4 2).1 (TX4 2).2.1 (TX4 2).2.2.1 ∈ TB := tb_of 324 (by decide +kernel) rfl
theorem lf_RX7_70 : Cond.fieldLink RX7 70 (TX7 9).1 (TX7 9).2.1 (TX7 9).2.2.1 ∈ TB := tb_of 351 (by decide +kernel) rfl
theorem fp_0_9 : FldP true 0 7 9 := ⟨trivial, rfl, fun _ _ _ => ⟨_, rfl, Nat.le_of_ble_eq_true rfl, rfl⟩⟩
theorem lf_RX7_101 : Cond.fieldLink RX7 101 (TX3 2).1 (TX3 2).2.1 (TX3 2).2.2.1 ∈ TB := tb_of 150 (by decide +kernel) rfl
theorem fg_7_2 : FldG true 7 3 2 (fun g w => .int (w.1 7 2)) := ⟨trivial, rfl, fun _ _ => ⟨_, rfl, rfl⟩⟩
theorem cb_X1_hasTrain : CwB yX1_hasTrain cX1_hasTrain 2 (some .boolean) 1 := ⟨tb_of 549 (by decide +kernel) rfl, tb_of 55 (by decide +kernel) rfl, by decide +kernel⟩
theorem lm_RX7_104 : Cond.methodLink RX7 104 yX1_hasTrain ∈ TB ∧ Cond.instanceMethod yX1_hasTrain ∈ TB ∧ Cond.selects yX1_hasTrain.cls yX1_hasTrain yX1_hasTrain ∈ TB := ⟨tb_of 546 (by decide +kernel) rfl, tb_of 547 (by decide +kernel) rfl, tb_of 548 (by decide +kernel) rfl⟩
theorem lm_RX7_108 : Cond.methodLink RX7 108 yX1_part ∈ TB ∧ Cond.instanceMethod yX1_part ∈ TB ∧ Cond.selects yX1_part.cls yX1_part yX1_part ∈ TB := ⟨tb_of 550 (by decide +kernel) rfl, tb_of 551 (by decide +kernel) rfl, tb_of 552 (by decide +kernel) rfl⟩
theorem lm_RX7_112 : Cond.methodLink RX7 112 yX1_hasStation ∈ TB ∧ Cond.instanceMethod yX1_hasStation ∈ TB ∧ Cond.selects yX1_hasStation.cls yX1_hasStation yX1_hasStation ∈ TB := ⟨tb_of 558 (by decide +kernel) rfl, tb_of 502 (by decide +kernel) rfl, tb_of 503 (by decide +kernel) rfl⟩
theorem lm_RX7_115 : Cond.methodLink RX7 115 yX1_rideable ∈ TB ∧ Cond.instanceMethod yX1_rideable ∈ TB ∧ Cond.selects yX1_rideable.cls yX1_rideable yX1_rideable ∈ TB := ⟨tb_of 559 (by decide +kernel) rfl, tb_of 560 (by decide +kernel) rfl, tb_of 561 (by decide +kernel) rfl⟩
theorem cb_X5_ticketsOf : CwB yX5_ticketsOf cX5_ticketsOf 2 (some .int) 1 := ⟨tb_of 586 (by decide +kernel) rfl, tb_of 57 (by decide +kernel) rfl, by decide +kernel⟩
theorem lm_RX7_123 : Cond.methodLink RX7 123 yX5_ticketsOf ∈ TB ∧ Cond.instanceMethod yX5_ticketsOf ∈ TB ∧ Cond.selects yX5_ticketsOf.cls yX5_ticketsOf yX5_ticketsOf ∈ TB := ⟨tb_of 583 (by decide +kernel) rfl, tb_of 584 (by decide +kernel) rfl, tb_of 585 (by decide +kernel) rfl⟩
theorem cb_X7_isSuch : CwB yX7_isSuch cX7_isSuch 3 (some .boolean) 2 := ⟨tb_of 582 (by decide +kernel) rfl, tb_of 53 (by decide +kernel) rfl, by decide +kernel⟩
theorem lm_RX7_119 : Cond.methodLink RX7 119 yX7_isSuch ∈ TB ∧ Cond.instanceMethod yX7_isSuch ∈ TB ∧ Cond.selects yX7_isSuch.cls yX7_isSuch yX7_isSuch ∈ TB := ⟨tb_of 579 (by decide +kernel) rfl, tb_of 581 (by decide +kernel) rfl, tb_of 12 (by decide +kernel) rfl⟩
theorem ob_0 : True ∧ decide (0 < 37) = true ∧ ∀ (g : GG) (w : Wd), ∃ fs, cellE g w 0 = .inr (7, fs) := ⟨trivial, rfl, fun _ _ => ⟨_, rfl⟩⟩
theorem lm_RX7_127 : Cond.methodLink RX7 127 yX5_rideable ∈ TB ∧ Cond.instanceMethod yX5_rideable ∈ TB ∧ Cond.selects yX5_rideable.cls yX5_rideable yX5_rideable ∈ TB := ⟨tb_of 592 (by decide +kernel) rfl, tb_of 593 (by decide +kernel) rfl, tb_of 594 (by decide +kernel) rfl⟩
theorem lf_RX7_130 : Cond.fieldLink RX7 130 (TX5 5).1 (TX5 5).2.1 (TX5 5).2.2.1 ∈ TB := tb_of 207 (by decide +kernel) rfl
theorem lm_RX7_133 : Cond.methodLink RX7 133 yX7_isSeeker ∈ TB ∧ Cond.static yX7_isSeeker ∈ TB := ⟨tb_of 605 (by decide +kernel) rfl, tb_of 506 (by decide +kernel) rfl⟩
theorem lf_RX7_136 : Cond.fieldLink RX7 136 (TX5 4).1 (TX5 4).2.1 (TX5 4).2.2.1 ∈ TB := tb_of 205 (by decide +kernel) rfl
theorem cb_X5_canSend : CwB yX5_canSend cX5_canSend 3 (some .boolean) 2 := ⟨tb_of 609 (by decide +kernel) rfl, tb_of 57 (by decide +kernel) rfl, by decide +kernel⟩
theorem lm_RX7_140 : Cond.methodLink RX7 140 yX5_canSend ∈ TB ∧ Cond.instanceMethod yX5_canSend ∈ TB ∧ Cond.selects yX5_canSend.cls yX5_canSend yX5_canSend ∈ TB := ⟨tb_of 606 (by decide +kernel) rfl, tb_of 607 (by decide +kernel) rfl, tb_of 608 (by decide +kernel) rfl⟩
theorem lf_RX7_143 : Cond.fieldLink RX7 143 (TX5 8).1 (TX5 8).2.1 (TX5 8).2.2.1 ∈ TB := tb_of 214 (by decide +kernel) rfl
theorem lm_RX7_147 : Cond.methodLink RX7 147 yX5_placeBehind ∈ TB ∧ Cond.instanceMethod yX5_placeBehind ∈ TB ∧ Cond.selects yX5_placeBehind.cls yX5_placeBehind yX5_placeBehind ∈ TB := ⟨tb_of 613 (by decide +kernel) rfl, tb_of 614 (by decide +kernel) rfl, tb_of 615 (by decide +kernel) rfl⟩
theorem cb_X5_advance : CwB yX5_advance cX5_advance 2 none 0 := ⟨tb_of 624 (by decide +kernel) rfl, tb_of 57 (by decide +kernel) rfl, by decide +kernel⟩
theorem lm_RX7_150 : Cond.methodLink RX7 150 yX5_advance ∈ TB ∧ Cond.instanceMethod yX5_advance ∈ TB ∧ Cond.selects yX5_advance.cls yX5_advance yX5_advance ∈ TB := ⟨tb_of 621 (by decide +kernel) rfl, tb_of 622 (by decide +kernel) rfl, tb_of 623 (by decide +kernel) rfl⟩
theorem lf_RX7_153 : Cond.fieldLink RX7 153 (TX5 2).1 (TX5 2).2.1 (TX5 2).2.2.1 ∈ TB := tb_of 201 (by decide +kernel) rfl
theorem lf_RX7_156 : Cond.fieldLink RX7 156 (TX5 3).1 (TX5 3).2.1 (TX5 3).2.2.1 ∈ TB := tb_of 203 (by decide +kernel) rfl
theorem lf_RX7_159 : Cond.fieldLink RX7 159 (TX5 7).1 (TX5 7).2.1 (TX5 7).2.2.1 ∈ TB := tb_of 212 (by decide +kernel) rfl
theorem lf_RX7_162 : Cond.fieldLink RX7 162 (TX5 9).1 (TX5 9).2.1 (TX5 9).2.2.1 ∈ TB := tb_of 217 (by decide +kernel) rfl
theorem lf_RX7_165 : Cond.fieldLink RX7 165 (TX5 10).1 (TX5 10).2.1 (TX5 10).2.2.1 ∈ TB := tb_of 219 (by decide +kernel) rfl
theorem lm_RX7_168 : Cond.methodLink RX7 168 yX5_nextBits ∈ TB ∧ Cond.instanceMethod yX5_nextBits ∈ TB ∧ Cond.selects yX5_nextBits.cls yX5_nextBits yX5_nextBits ∈ TB := ⟨tb_of 670 (by decide +kernel) rfl, tb_of 626 (by decide +kernel) rfl, tb_of 627 (by decide +kernel) rfl⟩
theorem lf_RX7_171 : Cond.fieldLink RX7 171 (TX5 11).1 (TX5 11).2.1 (TX5 11).2.2.1 ∈ TB := tb_of 221 (by decide +kernel) rfl
theorem lf_RX7_52 : Cond.fieldLink RX7 52 (TX7 6).1 (TX7 6).2.1 (TX7 6).2.2.1 ∈ TB := tb_of 348 (by decide +kernel) rfl
theorem fg_0_6 : FldG true 0 7 6 (fun g w => .ref (gA g 25)) := ⟨trivial, rfl, fun _ _ => ⟨_, rfl, rfl⟩⟩
theorem cb_X0_stand : CwB yX0_stand cX0_stand 7 none 0 := ⟨tb_of 682 (by decide +kernel) rfl, tb_of 60 (by decide +kernel) rfl, by decide +kernel⟩
theorem lm_RX7_174 : Cond.methodLink RX7 174 yX0_stand ∈ TB ∧ Cond.instanceMethod yX0_stand ∈ TB ∧ Cond.selects yX0_stand.cls yX0_stand yX0_stand ∈ TB := ⟨tb_of 679 (by decide +kernel) rfl, tb_of 680 (by decide +kernel) rfl, tb_of 681 (by decide +kernel) rfl⟩
theorem lf_RX7_183 : Cond.fieldLink RX7 183 (TX0 4).1 (TX0 4).2.1 (TX0 4).2.2.1 ∈ TB := tb_of 260 (by decide +kernel) rfl
theorem fg_25_4 : FldG true 25 0 4 (fun g w => .int (w.1 25 4)) := ⟨trivial, rfl, fun _ _ => ⟨_, rfl, rfl⟩⟩
theorem lf_RX7_180 : Cond.fieldLink RX7 180 (TX0 3).1 (TX0 3).2.1 (TX0 3).2.2.1 ∈ TB := tb_of 258 (by decide +kernel) rfl
theorem fg_25_3 : FldG true 25 0 3 (fun g w => .int (w.1 25 3)) := ⟨trivial, rfl, fun _ _ => ⟨_, rfl, rfl⟩⟩
theorem lf_RX7_177 : Cond.fieldLink RX7 177 (TX0 2).1 (TX0 2).2.1 (TX0 2).2.2.1 ∈ TB := tb_of 256 (by decide +kernel) rfl
theorem cb_X0_hide : CwB yX0_hide cX0_hide 4 none 0 := ⟨tb_of 703 (by decide +kernel) rfl, tb_of 60 (by decide +kernel) rfl, by decide +kernel⟩
theorem lm_RX7_186 : Cond.methodLink RX7 186 yX0_hide ∈ TB ∧ Cond.instanceMethod yX0_hide ∈ TB ∧ Cond.selects yX0_hide.cls yX0_hide yX0_hide ∈ TB := ⟨tb_of 700 (by decide +kernel) rfl, tb_of 701 (by decide +kernel) rfl, tb_of 702 (by decide +kernel) rfl⟩
theorem lf_RX7_189 : Cond.fieldLink RX7 189 (TX0 5).1 (TX0 5).2.1 (TX0 5).2.2.1 ∈ TB := tb_of 262 (by decide +kernel) rfl
theorem fg_25_5 : FldG true 25 0 5 (fun g w => .int (w.1 25 5)) := ⟨trivial, rfl, fun _ _ => ⟨_, rfl, rfl⟩⟩
theorem cb_X5_anySeeks : CwB yX5_anySeeks cX5_anySeeks 1 (some .boolean) 0 := ⟨tb_of 717 (by decide +kernel) rfl, tb_of 57 (by decide +kernel) rfl, by decide +kernel⟩
theorem lm_RX7_192 : Cond.methodLink RX7 192 yX5_anySeeks ∈ TB ∧ Cond.instanceMethod yX5_anySeeks ∈ TB ∧ Cond.selects yX5_anySeeks.cls yX5_anySeeks yX5_anySeeks ∈ TB := ⟨tb_of 714 (by decide +kernel) rfl, tb_of 715 (by decide +kernel) rfl, tb_of 716 (by decide +kernel) rfl⟩
theorem lf_RX7_59 : Cond.fieldLink RX7 59 (TX7 7).1 (TX7 7).2.1 (TX7 7).2.2.1 ∈ TB := tb_of 349 (by decide +kernel) rfl
theorem fg_0_7 : FldG true 0 7 7 (fun g w => .ref (gA g 26)) := ⟨trivial, rfl, fun _ _ => ⟨_, rfl, rfl⟩⟩
theorem lm_RX7_196 : Cond.methodLink RX7 196 yX2_fewestDays ∈ TB ∧ Cond.instanceMethod yX2_fewestDays ∈ TB ∧ Cond.selects yX2_fewestDays.cls yX2_fewestDays yX2_fewestDays ∈ TB := ⟨tb_of 722 (by decide +kernel) rfl, tb_of 723 (by decide +kernel) rfl, tb_of 724 (by decide +kernel) rfl⟩
theorem cb_X7_daysOrNone : CwB yX7_daysOrNone cX7_daysOrNone 1 (some .int) 1 := ⟨tb_of 765 (by decide +kernel) rfl, tb_of 53 (by decide +kernel) rfl, by decide +kernel⟩
theorem lm_RX7_199 : Cond.methodLink RX7 199 yX7_daysOrNone ∈ TB ∧ Cond.static yX7_daysOrNone ∈ TB := ⟨tb_of 763 (by decide +kernel) rfl, tb_of 764 (by decide +kernel) rfl⟩
theorem lf_RX7_202 : Cond.fieldLink RX7 202 (TX1 1).1 (TX1 1).2.1 (TX1 1).2.2.1 ∈ TB := tb_of 106 (by decide +kernel) rfl
theorem cb_X2_close : CwB yX2_close cX2_close 3 none 0 := ⟨tb_of 773 (by decide +kernel) rfl, tb_of 61 (by decide +kernel) rfl, by decide +kernel⟩
theorem lm_RX7_205 : Cond.methodLink RX7 205 yX2_close ∈ TB ∧ Cond.instanceMethod yX2_close ∈ TB ∧ Cond.selects yX2_close.cls yX2_close yX2_close ∈ TB := ⟨tb_of 770 (by decide +kernel) rfl, tb_of 771 (by decide +kernel) rfl, tb_of 772 (by decide +kernel) rfl⟩
theorem lf_RX7_211 : Cond.fieldLink RX7 211 (TX2 9).1 (TX2 9).2.1 (TX2 9).2.2.1 ∈ TB := tb_of 293 (by decide +kernel) rfl
theorem lf_RX7_208 : Cond.fieldLink RX7 208 (TX2 8).1 (TX2 8).2.1 (TX2 8).2.2.1 ∈ TB := tb_of 291 (by decide +kernel) rfl
theorem fg_26_8 : FldG true 26 2 8 (fun g w => .int (w.1 26 8)) := ⟨trivial, rfl, fun _ _ => ⟨_, rfl, rfl⟩⟩
theorem cb_X4_append : CwB yX4_append cX4_append 2 (some .boolean) 1 := ⟨tb_of 782 (by decide +kernel) rfl, tb_of 62 (by decide +kernel) rfl, by decide +kernel⟩
theorem lm_RX7_214 : Cond.methodLink RX7 214 yX4_append ∈ TB ∧ Cond.instanceMethod yX4_append ∈ TB ∧ Cond.selects yX4_append.cls yX4_append yX4_append ∈ TB := ⟨tb_of 779 (by decide +kernel) rfl, tb_of 780 (by decide +kernel) rfl, tb_of 781 (by decide +kernel) rfl⟩
theorem cb_X4_firstImpossible : CwB yX4_firstImpossible cX4_firstImpossible 5 (some .int) 0 := ⟨tb_of 795 (by decide +kernel) rfl, tb_of 62 (by decide +kernel) rfl, by decide +kernel⟩
theorem lm_RX7_216 : Cond.methodLink RX7 216 yX4_firstImpossible ∈ TB ∧ Cond.instanceMethod yX4_firstImpossible ∈ TB ∧ Cond.selects yX4_firstImpossible.cls yX4_firstImpossible yX4_firstImpossible ∈ TB := ⟨tb_of 792 (by decide +kernel) rfl, tb_of 793 (by decide +kernel) rfl, tb_of 794 (by decide +kernel) rfl⟩
theorem kc_RX7_219 : Cond.constantLong RX7 219 (-3 : Int64) ∈ TB := tb_of 807 (by decide +kernel) rfl
theorem cb_X4_waysInTime : CwB yX4_waysInTime cX4_waysInTime 7 (some .long) 2 := ⟨tb_of 811 (by decide +kernel) rfl, tb_of 62 (by decide +kernel) rfl, by decide +kernel⟩
theorem lm_RX7_221 : Cond.methodLink RX7 221 yX4_waysInTime ∈ TB ∧ Cond.instanceMethod yX4_waysInTime ∈ TB ∧ Cond.selects yX4_waysInTime.cls yX4_waysInTime yX4_waysInTime ∈ TB := ⟨tb_of 808 (by decide +kernel) rfl, tb_of 809 (by decide +kernel) rfl, tb_of 810 (by decide +kernel) rfl⟩
theorem cb_X4_waysInAll : CwB yX4_waysInAll cX4_waysInAll 4 (some .long) 0 := ⟨tb_of 827 (by decide +kernel) rfl, tb_of 62 (by decide +kernel) rfl, by decide +kernel⟩
theorem lm_RX7_225 : Cond.methodLink RX7 225 yX4_waysInAll ∈ TB ∧ Cond.instanceMethod yX4_waysInAll ∈ TB ∧ Cond.selects yX4_waysInAll.cls yX4_waysInAll yX4_waysInAll ∈ TB := ⟨tb_of 824 (by decide +kernel) rfl, tb_of 825 (by decide +kernel) rfl, tb_of 826 (by decide +kernel) rfl⟩
theorem cb_X7_commonDivisor : CwB yX7_commonDivisor cX7_commonDivisor 11 (some .long) 2 := ⟨tb_of 831 (by decide +kernel) rfl, tb_of 53 (by decide +kernel) rfl, by decide +kernel⟩
theorem lm_RX7_229 : Cond.methodLink RX7 229 yX7_commonDivisor ∈ TB ∧ Cond.static yX7_commonDivisor ∈ TB := ⟨tb_of 829 (by decide +kernel) rfl, tb_of 830 (by decide +kernel) rfl⟩
theorem cb_X7_image : CwB yX7_image cX7_image 2 (some (.object "NoonTrains$Scene")) 1 := ⟨tb_of 839 (by decide +kernel) rfl, tb_of 53 (by decide +kernel) rfl, by decide +kernel⟩
theorem lm_RX7_233 : Cond.methodLink RX7 233 yX7_image ∈ TB ∧ Cond.instanceMethod yX7_image ∈ TB ∧ Cond.selects yX7_image.cls yX7_image yX7_image ∈ TB := ⟨tb_of 836 (by decide +kernel) rfl, tb_of 838 (by decide +kernel) rfl, tb_of 26 (by decide +kernel) rfl⟩
theorem cb_X5_copy : CwB yX5_copy cX5_copy 2 none 1 := ⟨tb_of 843 (by decide +kernel) rfl, tb_of 57 (by decide +kernel) rfl, by decide +kernel⟩
theorem lm_RX7_237 : Cond.methodLink RX7 237 yX5_copy ∈ TB ∧ Cond.instanceMethod yX5_copy ∈ TB ∧ Cond.selects yX5_copy.cls yX5_copy yX5_copy ∈ TB := ⟨tb_of 840 (by decide +kernel) rfl, tb_of 841 (by decide +kernel) rfl, tb_of 842 (by decide +kernel) rfl⟩
theorem ob_17 : True ∧ decide (17 < 37) = true ∧ ∀ (g : GG) (w : Wd), ∃ fs, cellE g w 17 = .inr (5, fs) := ⟨trivial, rfl, fun _ _ => ⟨_, rfl⟩⟩
theorem fg_0_9 : FldG true 0 7 9 (fun g w => .int (w.1 0 9)) := ⟨trivial, rfl, fun _ _ => ⟨_, rfl, rfl⟩⟩
theorem lf_RX7_240 : Cond.fieldLink RX7 240 (TX5 1).1 (TX5 1).2.1 (TX5 1).2.2.1 ∈ TB := tb_of 198 (by decide +kernel) rfl
theorem ob_21 : True ∧ decide (21 < 37) = true ∧ ∀ (g : GG) (w : Wd), ∃ fs, cellE g w 21 = .inr (5, fs) := ⟨trivial, rfl, fun _ _ => ⟨_, rfl⟩⟩
theorem lf_RX7_243 : Cond.fieldLink RX7 243 (TX1 0).1 (TX1 0).2.1 (TX1 0).2.2.1 ∈ TB := tb_of 101 (by decide +kernel) rfl
theorem lf_RX7_246 : Cond.fieldLink RX7 246 (TX1 2).1 (TX1 2).2.1 (TX1 2).2.2.1 ∈ TB := tb_of 111 (by decide +kernel) rfl
theorem lf_RX7_249 : Cond.fieldLink RX7 249 (TX1 3).1 (TX1 3).2.1 (TX1 3).2.2.1 ∈ TB := tb_of 115 (by decide +kernel) rfl
theorem lm_RX7_252 : Cond.methodLink RX7 252 yX5_seekingBits ∈ TB ∧ Cond.instanceMethod yX5_seekingBits ∈ TB ∧ Cond.selects yX5_seekingBits.cls yX5_seekingBits yX5_seekingBits ∈ TB := ⟨tb_of 852 (by decide +kernel) rfl, tb_of 719 (by decide +kernel) rfl, tb_of 720 (by decide +kernel) rfl⟩
theorem lf_RX8_7 : Cond.fieldLink RX8 7 (TX8 0).1 (TX8 0).2.1 (TX8 0).2.2.1 ∈ TB := tb_of 863 (by decide +kernel) rfl
theorem ck_8 : ClsOK 8 RX8 TX8 26 tyX8 := ⟨rfl, fun w hw => (by decide +kernel : ∀ w ∈ u_ws RX8 TX8 26, w ∈ TB) w hw, tyX8_ok, nmX8⟩
theorem fg_37_0 : FldG false 37 8 0 (fun g w => .ref (gA g 38)) := ⟨trivial, rfl, fun _ _ => ⟨_, rfl, rfl⟩⟩
theorem ar_38 : ArrI false 38 45 := ⟨trivial, rfl, fun _ _ => rfl⟩
theorem lf_RX8_58 : Cond.fieldLink RX8 58 (TX8 9).1 (TX8 9).2.1 (TX8 9).2.2.1 ∈ TB := tb_of 872 (by decide +kernel) rfl
theorem fg_37_9 : FldG false 37 8 9 (fun g w => .int (w.1 37 9)) := ⟨trivial, rfl, fun _ _ => ⟨_, rfl, rfl⟩⟩
theorem lf_RX8_36 : Cond.fieldLink RX8 36 (TX8 12).1 (TX8 12).2.1 (TX8 12).2.2.1 ∈ TB := tb_of 875 (by decide +kernel) rfl
theorem fg_37_12 : FldG false 37 8 12 (fun g w => .ref (gA g 44)) := ⟨trivial, rfl, fun _ _ => ⟨_, rfl, rfl⟩⟩
theorem ar_44 : ArrI false 44 2 := ⟨trivial, rfl, fun _ _ => rfl⟩
theorem lf_RX8_30 : Cond.fieldLink RX8 30 (TX8 10).1 (TX8 10).2.1 (TX8 10).2.2.1 ∈ TB := tb_of 873 (by decide +kernel) rfl
theorem fg_37_10 : FldG false 37 8 10 (fun g w => .ref (gA g 43)) := ⟨trivial, rfl, fun _ _ => ⟨_, rfl, rfl⟩⟩
theorem ar_43 : ArrI false 43 3 := ⟨trivial, rfl, fun _ _ => rfl⟩
theorem kc_RX8_61 : Cond.constantLong RX8 61 (8 : Int64) ∈ TB := tb_of 947 (by decide +kernel) rfl
theorem cb_X8_in : CwB yX8_in cX8_in 6 (some .boolean) 3 := ⟨tb_of 950 (by decide +kernel) rfl, tb_of 63 (by decide +kernel) rfl, by decide +kernel⟩
theorem lm_RX8_63 : Cond.methodLink RX8 63 yX8_in ∈ TB ∧ Cond.static yX8_in ∈ TB := ⟨tb_of 948 (by decide +kernel) rfl, tb_of 949 (by decide +kernel) rfl⟩
theorem lf_RX8_67 : Cond.fieldLink RX8 67 (TX8 3).1 (TX8 3).2.1 (TX8 3).2.2.1 ∈ TB := tb_of 866 (by decide +kernel) rfl
theorem fg_37_3 : FldG false 37 8 3 (fun g w => .int (w.1 37 3)) := ⟨trivial, rfl, fun _ _ => ⟨_, rfl, rfl⟩⟩
theorem lf_RX8_17 : Cond.fieldLink RX8 17 (TX8 2).1 (TX8 2).2.1 (TX8 2).2.2.1 ∈ TB := tb_of 865 (by decide +kernel) rfl
theorem fg_37_2 : FldG false 37 8 2 (fun g w => .ref (gA g 40)) := ⟨trivial, rfl, fun _ _ => ⟨_, rfl, rfl⟩⟩
theorem kc_RX8_70 : Cond.constantLong RX8 70 (255 : Int64) ∈ TB := tb_of 951 (by decide +kernel) rfl
theorem ar_40 : ArrI false 40 200 := ⟨trivial, rfl, fun _ _ => rfl⟩
theorem fp_37_3 : FldP false 37 8 3 := ⟨trivial, rfl, fun _ _ _ => ⟨_, rfl, Nat.le_of_ble_eq_true rfl, rfl⟩⟩
theorem lf_RX8_72 : Cond.fieldLink RX8 72 (TX8 13).1 (TX8 13).2.1 (TX8 13).2.2.1 ∈ TB := tb_of 876 (by decide +kernel) rfl
theorem fg_37_13 : FldG false 37 8 13 (fun g w => .int (w.1 37 13)) := ⟨trivial, rfl, fun _ _ => ⟨_, rfl, rfl⟩⟩
theorem fp_37_13 : FldP false 37 8 13 := ⟨trivial, rfl, fun _ _ _ => ⟨_, rfl, Nat.le_of_ble_eq_true rfl, rfl⟩⟩
theorem lf_RX8_75 : Cond.fieldLink RX8 75 (TX8 14).1 (TX8 14).2.1 (TX8 14).2.2.1 ∈ TB := tb_of 877 (by decide +kernel) rfl
theorem fp_37_14 : FldP false 37 8 14 := ⟨trivial, rfl, fun _ _ _ => ⟨_, rfl, Nat.le_of_ble_eq_true rfl, rfl⟩⟩
theorem fg_37_14 : FldG false 37 8 14 (fun g w => .int (w.1 37 14)) := ⟨trivial, rfl, fun _ _ => ⟨_, rfl, rfl⟩⟩
theorem cb_X8_sort : CwB yX8_sort cX8_sort 1 (some .int) 1 := ⟨tb_of 966 (by decide +kernel) rfl, tb_of 63 (by decide +kernel) rfl, by decide +kernel⟩
theorem lm_RX8_78 : Cond.methodLink RX8 78 yX8_sort ∈ TB ∧ Cond.static yX8_sort ∈ TB := ⟨tb_of 964 (by decide +kernel) rfl, tb_of 965 (by decide +kernel) rfl⟩
theorem lf_RX8_82 : Cond.fieldLink RX8 82 (TX8 15).1 (TX8 15).2.1 (TX8 15).2.2.1 ∈ TB := tb_of 878 (by decide +kernel) rfl
theorem fp_37_15 : FldP false 37 8 15 := ⟨trivial, rfl, fun _ _ _ => ⟨_, rfl, Nat.le_of_ble_eq_true rfl, rfl⟩⟩
theorem fg_37_15 : FldG false 37 8 15 (fun g w => .int (w.1 37 15)) := ⟨trivial, rfl, fun _ _ => ⟨_, rfl, rfl⟩⟩
theorem kc_RX8_85 : Cond.constantLong RX8 85 (31 : Int64) ∈ TB := tb_of 980 (by decide +kernel) rfl
theorem kc_RX8_87 : Cond.constantLong RX8 87 (145452 : Int64) ∈ TB := tb_of 975 (by decide +kernel) rfl
theorem cb_X8_isWord : CwB yX8_isWord cX8_isWord 6 (some .boolean) 2 := ⟨tb_of 979 (by decide +kernel) rfl, tb_of 63 (by decide +kernel) rfl, by decide +kernel⟩
theorem lm_RX8_89 : Cond.methodLink RX8 89 yX8_isWord ∈ TB ∧ Cond.instanceMethod yX8_isWord ∈ TB ∧ Cond.selects yX8_isWord.cls yX8_isWord yX8_isWord ∈ TB := ⟨tb_of 976 (by decide +kernel) rfl, tb_of 978 (by decide +kernel) rfl, tb_of 31 (by decide +kernel) rfl⟩
theorem ob_37 : True ∧ decide (37 < 37) = false ∧ ∀ (g : GG) (w : Wd), ∃ fs, cellE g w 37 = .inr (8, fs) := ⟨trivial, rfl, fun _ _ => ⟨_, rfl⟩⟩
theorem kc_RX8_93 : Cond.constantLong RX8 93 (14976596 : Int64) ∈ TB := tb_of 981 (by decide +kernel) rfl
theorem kc_RX8_95 : Cond.constantLong RX8 95 (21563027 : Int64) ∈ TB := tb_of 982 (by decide +kernel) rfl
theorem kc_RX8_97 : Cond.constantLong RX8 97 (21077790004 : Int64) ∈ TB := tb_of 983 (by decide +kernel) rfl
theorem kc_RX8_99 : Cond.constantLong RX8 99 (769299 : Int64) ∈ TB := tb_of 984 (by decide +kernel) rfl
theorem kc_RX8_101 : Cond.constantLong RX8 101 (609588403 : Int64) ∈ TB := tb_of 985 (by decide +kernel) rfl
theorem lf_RX8_20 : Cond.fieldLink RX8 20 (TX8 4).1 (TX8 4).2.1 (TX8 4).2.2.1 ∈ TB := tb_of 867 (by decide +kernel) rfl
theorem fg_37_4 : FldG false 37 8 4 (fun g w => .ref (gA g 41)) := ⟨trivial, rfl, fun _ _ => ⟨_, rfl, rfl⟩⟩
theorem lf_RX8_103 : Cond.fieldLink RX8 103 (TX8 5).1 (TX8 5).2.1 (TX8 5).2.2.1 ∈ TB := tb_of 868 (by decide +kernel) rfl
theorem fg_37_5 : FldG false 37 8 5 (fun g w => .int (w.1 37 5)) := ⟨trivial, rfl, fun _ _ => ⟨_, rfl, rfl⟩⟩
theorem ar_41 : ArrI false 41 70 := ⟨trivial, rfl, fun _ _ => rfl⟩
theorem cb_X8_token : CwB yX8_token cX8_token 1 none 0 := ⟨tb_of 963 (by decide +kernel) rfl, tb_of 63 (by decide +kernel) rfl, by decide +kernel⟩
theorem lm_RX8_106 : Cond.methodLink RX8 106 yX8_token ∈ TB ∧ Cond.instanceMethod yX8_token ∈ TB ∧ Cond.selects yX8_token.cls yX8_token yX8_token ∈ TB := ⟨tb_of 960 (by decide +kernel) rfl, tb_of 962 (by decide +kernel) rfl, tb_of 28 (by decide +kernel) rfl⟩
theorem lf_RX8_109 : Cond.fieldLink RX8 109 (TX8 16).1 (TX8 16).2.1 (TX8 16).2.2.1 ∈ TB := tb_of 879 (by decide +kernel) rfl
theorem fg_37_16 : FldG false 37 8 16 (fun g w => .int (w.1 37 16)) := ⟨trivial, rfl, fun _ _ => ⟨_, rfl, rfl⟩⟩
theorem cb_X8_reads : CwB yX8_reads cX8_reads 7 (some .boolean) 4 := ⟨tb_of 993 (by decide +kernel) rfl, tb_of 63 (by decide +kernel) rfl, by decide +kernel⟩
theorem lm_RX8_112 : Cond.methodLink RX8 112 yX8_reads ∈ TB ∧ Cond.instanceMethod yX8_reads ∈ TB ∧ Cond.selects yX8_reads.cls yX8_reads yX8_reads ∈ TB := ⟨tb_of 990 (by decide +kernel) rfl, tb_of 992 (by decide +kernel) rfl, tb_of 33 (by decide +kernel) rfl⟩
theorem cb_X8_readsTrain : CwB yX8_readsTrain cX8_readsTrain 3 (some .boolean) 0 := ⟨tb_of 997 (by decide +kernel) rfl, tb_of 63 (by decide +kernel) rfl, by decide +kernel⟩
theorem lm_RX8_116 : Cond.methodLink RX8 116 yX8_readsTrain ∈ TB ∧ Cond.instanceMethod yX8_readsTrain ∈ TB ∧ Cond.selects yX8_readsTrain.cls yX8_readsTrain yX8_readsTrain ∈ TB := ⟨tb_of 994 (by decide +kernel) rfl, tb_of 996 (by decide +kernel) rfl, tb_of 34 (by decide +kernel) rfl⟩
theorem cb_X8_wordOf : CwB yX8_wordOf cX8_wordOf 1 (some .int) 0 := ⟨tb_of 974 (by decide +kernel) rfl, tb_of 63 (by decide +kernel) rfl, by decide +kernel⟩
theorem lm_RX8_120 : Cond.methodLink RX8 120 yX8_wordOf ∈ TB ∧ Cond.instanceMethod yX8_wordOf ∈ TB ∧ Cond.selects yX8_wordOf.cls yX8_wordOf yX8_wordOf ∈ TB := ⟨tb_of 971 (by decide +kernel) rfl, tb_of 973 (by decide +kernel) rfl, tb_of 30 (by decide +kernel) rfl⟩
theorem cb_X8_readsRest : CwB yX8_readsRest cX8_readsRest 2 (some .boolean) 1 := ⟨tb_of 989 (by decide +kernel) rfl, tb_of 63 (by decide +kernel) rfl, by decide +kernel⟩
theorem lm_RX8_127 : Cond.methodLink RX8 127 yX8_readsRest ∈ TB ∧ Cond.instanceMethod yX8_readsRest ∈ TB ∧ Cond.selects yX8_readsRest.cls yX8_readsRest yX8_readsRest ∈ TB := ⟨tb_of 986 (by decide +kernel) rfl, tb_of 988 (by decide +kernel) rfl, tb_of 32 (by decide +kernel) rfl⟩
theorem lf_RX8_124 : Cond.fieldLink RX8 124 (TX8 17).1 (TX8 17).2.1 (TX8 17).2.2.1 ∈ TB := tb_of 880 (by decide +kernel) rfl
theorem fg_37_17 : FldG false 37 8 17 (fun g w => .int (w.1 37 17)) := ⟨trivial, rfl, fun _ _ => ⟨_, rfl, rfl⟩⟩
theorem fp_37_17 : FldP false 37 8 17 := ⟨trivial, rfl, fun _ _ _ => ⟨_, rfl, Nat.le_of_ble_eq_true rfl, rfl⟩⟩
theorem fp_37_5 : FldP false 37 8 5 := ⟨trivial, rfl, fun _ _ _ => ⟨_, rfl, Nat.le_of_ble_eq_true rfl, rfl⟩⟩
theorem fp_37_16 : FldP false 37 8 16 := ⟨trivial, rfl, fun _ _ _ => ⟨_, rfl, Nat.le_of_ble_eq_true rfl, rfl⟩⟩
theorem lf_RX8_23 : Cond.fieldLink RX8 23 (TX8 6).1 (TX8 6).2.1 (TX8 6).2.2.1 ∈ TB := tb_of 869 (by decide +kernel) rfl
theorem fg_37_6 : FldG false 37 8 6 (fun g w => .int (w.1 37 6)) := ⟨trivial, rfl, fun _ _ => ⟨_, rfl, rfl⟩⟩
theorem lf_RX8_131 : Cond.fieldLink RX8 131 (TX8 8).1 (TX8 8).2.1 (TX8 8).2.2.1 ∈ TB := tb_of 871 (by decide +kernel) rfl
theorem fg_37_8 : FldG false 37 8 8 (fun g w => .int (w.1 37 8)) := ⟨trivial, rfl, fun _ _ => ⟨_, rfl, rfl⟩⟩
theorem cb_X8_readsLine : CwB yX8_readsLine cX8_readsLine 2 (some .boolean) 0 := ⟨tb_of 970 (by decide +kernel) rfl, tb_of 63 (by decide +kernel) rfl, by decide +kernel⟩
theorem lm_RX8_134 : Cond.methodLink RX8 134 yX8_readsLine ∈ TB ∧ Cond.instanceMethod yX8_readsLine ∈ TB ∧ Cond.selects yX8_readsLine.cls yX8_readsLine yX8_readsLine ∈ TB := ⟨tb_of 967 (by decide +kernel) rfl, tb_of 969 (by decide +kernel) rfl, tb_of 29 (by decide +kernel) rfl⟩
theorem fp_37_6 : FldP false 37 8 6 := ⟨trivial, rfl, fun _ _ _ => ⟨_, rfl, Nat.le_of_ble_eq_true rfl, rfl⟩⟩
theorem fp_37_8 : FldP false 37 8 8 := ⟨trivial, rfl, fun _ _ _ => ⟨_, rfl, Nat.le_of_ble_eq_true rfl, rfl⟩⟩
theorem fp_37_9 : FldP false 37 8 9 := ⟨trivial, rfl, fun _ _ _ => ⟨_, rfl, Nat.le_of_ble_eq_true rfl, rfl⟩⟩
theorem lf_RX8_27 : Cond.fieldLink RX8 27 (TX8 7).1 (TX8 7).2.1 (TX8 7).2.2.1 ∈ TB := tb_of 870 (by decide +kernel) rfl
theorem fg_37_7 : FldG false 37 8 7 (fun g w => .ref (gA g 42)) := ⟨trivial, rfl, fun _ _ => ⟨_, rfl, rfl⟩⟩
theorem ar_42 : ArrI false 42 72 := ⟨trivial, rfl, fun _ _ => rfl⟩
theorem lf_RX8_33 : Cond.fieldLink RX8 33 (TX8 11).1 (TX8 11).2.1 (TX8 11).2.2.1 ∈ TB := tb_of 874 (by decide +kernel) rfl
theorem fp_37_11 : FldP false 37 8 11 := ⟨trivial, rfl, fun _ _ _ => ⟨_, rfl, Nat.le_of_ble_eq_true rfl, rfl⟩⟩
theorem cb_X8_fault : CwB yX8_fault cX8_fault 2 (some .int) 0 := ⟨tb_of 959 (by decide +kernel) rfl, tb_of 63 (by decide +kernel) rfl, by decide +kernel⟩
theorem lm_RX8_137 : Cond.methodLink RX8 137 yX8_fault ∈ TB ∧ Cond.instanceMethod yX8_fault ∈ TB ∧ Cond.selects yX8_fault.cls yX8_fault yX8_fault ∈ TB := ⟨tb_of 1002 (by decide +kernel) rfl, tb_of 957 (by decide +kernel) rfl, tb_of 958 (by decide +kernel) rfl⟩
theorem cb_X8_tell : CwB yX8_tell cX8_tell 4 none 1 := ⟨tb_of 1006 (by decide +kernel) rfl, tb_of 63 (by decide +kernel) rfl, by decide +kernel⟩
theorem lm_RX8_140 : Cond.methodLink RX8 140 yX8_tell ∈ TB ∧ Cond.instanceMethod yX8_tell ∈ TB ∧ Cond.selects yX8_tell.cls yX8_tell yX8_tell ∈ TB := ⟨tb_of 1003 (by decide +kernel) rfl, tb_of 1005 (by decide +kernel) rfl, tb_of 35 (by decide +kernel) rfl⟩
theorem cb_X8_begin : CwB yX8_begin cX8_begin 2 none 0 := ⟨tb_of 862 (by decide +kernel) rfl, tb_of 63 (by decide +kernel) rfl, by decide +kernel⟩
theorem lm_RX8_55 : Cond.methodLink RX8 55 yX8_begin ∈ TB ∧ Cond.instanceMethod yX8_begin ∈ TB ∧ Cond.selects yX8_begin.cls yX8_begin yX8_begin ∈ TB := ⟨tb_of 859 (by decide +kernel) rfl, tb_of 861 (by decide +kernel) rfl, tb_of 27 (by decide +kernel) rfl⟩
theorem lf_RX8_144 : Cond.fieldLink RX8 144 (TX8 22).1 (TX8 22).2.1 (TX8 22).2.2.1 ∈ TB := tb_of 885 (by decide +kernel) rfl
theorem fp_37_22 : FldP false 37 8 22 := ⟨trivial, rfl, fun _ _ _ => ⟨_, rfl, Nat.le_of_ble_eq_true rfl, rfl⟩⟩
theorem lf_RX8_13 : Cond.fieldLink RX8 13 (TX8 1).1 (TX8 1).2.1 (TX8 1).2.2.1 ∈ TB := tb_of 864 (by decide +kernel) rfl
theorem fg_37_1 : FldG false 37 8 1 (fun g w => .ref (gA g 39)) := ⟨trivial, rfl, fun _ _ => ⟨_, rfl, rfl⟩⟩
theorem ar_39 : ArrZ false 39 2 := ⟨trivial, rfl, fun _ _ => rfl⟩
theorem cb_X8_isTrain : CwB yX8_isTrain cX8_isTrain 2 (some .boolean) 1 := ⟨tb_of 1014 (by decide +kernel) rfl, tb_of 63 (by decide +kernel) rfl, by decide +kernel⟩
theorem lm_RX8_147 : Cond.methodLink RX8 147 yX8_isTrain ∈ TB ∧ Cond.instanceMethod yX8_isTrain ∈ TB ∧ Cond.selects yX8_isTrain.cls yX8_isTrain yX8_isTrain ∈ TB := ⟨tb_of 1011 (by decide +kernel) rfl, tb_of 1013 (by decide +kernel) rfl, tb_of 36 (by decide +kernel) rfl⟩
theorem kc_RX8_150 : Cond.constantLong RX8 150 (5 : Int64) ∈ TB := tb_of 1015 (by decide +kernel) rfl
theorem cb_X8_leaves : CwB yX8_leaves cX8_leaves 4 (some .boolean) 3 := ⟨tb_of 1023 (by decide +kernel) rfl, tb_of 63 (by decide +kernel) rfl, by decide +kernel⟩
theorem lm_RX8_152 : Cond.methodLink RX8 152 yX8_leaves ∈ TB ∧ Cond.instanceMethod yX8_leaves ∈ TB ∧ Cond.selects yX8_leaves.cls yX8_leaves yX8_leaves ∈ TB := ⟨tb_of 1020 (by decide +kernel) rfl, tb_of 1022 (by decide +kernel) rfl, tb_of 37 (by decide +kernel) rfl⟩
theorem kc_RX8_156 : Cond.constantLong RX8 156 (3 : Int64) ∈ TB := tb_of 1028 (by decide +kernel) rfl
theorem cb_X8_ridable : CwB yX8_ridable cX8_ridable 4 (some .int) 1 := ⟨tb_of 1040 (by decide +kernel) rfl, tb_of 63 (by decide +kernel) rfl, by decide +kernel⟩
theorem lm_RX8_158 : Cond.methodLink RX8 158 yX8_ridable ∈ TB ∧ Cond.instanceMethod yX8_ridable ∈ TB ∧ Cond.selects yX8_ridable.cls yX8_ridable yX8_ridable ∈ TB := ⟨tb_of 1037 (by decide +kernel) rfl, tb_of 1039 (by decide +kernel) rfl, tb_of 39 (by decide +kernel) rfl⟩
theorem cb_X8_hisTrains : CwB yX8_hisTrains cX8_hisTrains 1 (some .int) 0 := ⟨tb_of 1036 (by decide +kernel) rfl, tb_of 63 (by decide +kernel) rfl, by decide +kernel⟩
theorem lm_RX8_161 : Cond.methodLink RX8 161 yX8_hisTrains ∈ TB ∧ Cond.instanceMethod yX8_hisTrains ∈ TB ∧ Cond.selects yX8_hisTrains.cls yX8_hisTrains yX8_hisTrains ∈ TB := ⟨tb_of 1033 (by decide +kernel) rfl, tb_of 1035 (by decide +kernel) rfl, tb_of 38 (by decide +kernel) rfl⟩
theorem cb_X8_has : CwB yX8_has cX8_has 2 (some .boolean) 2 := ⟨tb_of 1043 (by decide +kernel) rfl, tb_of 63 (by decide +kernel) rfl, by decide +kernel⟩
theorem lm_RX8_164 : Cond.methodLink RX8 164 yX8_has ∈ TB ∧ Cond.static yX8_has ∈ TB := ⟨tb_of 1041 (by decide +kernel) rfl, tb_of 1042 (by decide +kernel) rfl⟩
theorem cb_X8_isSeeker : CwB yX8_isSeeker cX8_isSeeker 1 (some .boolean) 1 := ⟨tb_of 1050 (by decide +kernel) rfl, tb_of 63 (by decide +kernel) rfl, by decide +kernel⟩
theorem lm_RX8_168 : Cond.methodLink RX8 168 yX8_isSeeker ∈ TB ∧ Cond.static yX8_isSeeker ∈ TB := ⟨tb_of 1048 (by decide +kernel) rfl, tb_of 1049 (by decide +kernel) rfl⟩
theorem lf_RX8_171 : Cond.fieldLink RX8 171 (TX8 18).1 (TX8 18).2.1 (TX8 18).2.2.1 ∈ TB := tb_of 881 (by decide +kernel) rfl
theorem fp_37_18 : FldP false 37 8 18 := ⟨trivial, rfl, fun _ _ _ => ⟨_, rfl, Nat.le_of_ble_eq_true rfl, rfl⟩⟩
theorem lf_RX8_174 : Cond.fieldLink RX8 174 (TX8 19).1 (TX8 19).2.1 (TX8 19).2.2.1 ∈ TB := tb_of 882 (by decide +kernel) rfl
theorem fp_37_19 : FldP false 37 8 19 := ⟨trivial, rfl, fun _ _ _ => ⟨_, rfl, Nat.le_of_ble_eq_true rfl, rfl⟩⟩
theorem fg_37_18 : FldG false 37 8 18 (fun g w => .int (w.1 37 18)) := ⟨trivial, rfl, fun _ _ => ⟨_, rfl, rfl⟩⟩
theorem fg_37_19 : FldG false 37 8 19 (fun g w => .int (w.1 37 19)) := ⟨trivial, rfl, fun _ _ => ⟨_, rfl, rfl⟩⟩
theorem cb_X8_layByNone : CwB yX8_layByNone cX8_layByNone 2 none 0 := ⟨tb_of 1062 (by decide +kernel) rfl, tb_of 63 (by decide +kernel) rfl, by decide +kernel⟩
theorem lm_RX8_177 : Cond.methodLink RX8 177 yX8_layByNone ∈ TB ∧ Cond.instanceMethod yX8_layByNone ∈ TB ∧ Cond.selects yX8_layByNone.cls yX8_layByNone yX8_layByNone ∈ TB := ⟨tb_of 1059 (by decide +kernel) rfl, tb_of 1061 (by decide +kernel) rfl, tb_of 41 (by decide +kernel) rfl⟩
theorem cb_X8_layBy : CwB yX8_layBy cX8_layBy 6 none 1 := ⟨tb_of 1066 (by decide +kernel) rfl, tb_of 63 (by decide +kernel) rfl, by decide +kernel⟩
theorem lm_RX8_180 : Cond.methodLink RX8 180 yX8_layBy ∈ TB ∧ Cond.instanceMethod yX8_layBy ∈ TB ∧ Cond.selects yX8_layBy.cls yX8_layBy yX8_layBy ∈ TB := ⟨tb_of 1063 (by decide +kernel) rfl, tb_of 1065 (by decide +kernel) rfl, tb_of 42 (by decide +kernel) rfl⟩
theorem cb_X8_nextOf : CwB yX8_nextOf cX8_nextOf 3 (some .int) 0 := ⟨tb_of 1058 (by decide +kernel) rfl, tb_of 63 (by decide +kernel) rfl, by decide +kernel⟩
theorem lm_RX8_183 : Cond.methodLink RX8 183 yX8_nextOf ∈ TB ∧ Cond.instanceMethod yX8_nextOf ∈ TB ∧ Cond.selects yX8_nextOf.cls yX8_nextOf yX8_nextOf ∈ TB := ⟨tb_of 1055 (by decide +kernel) rfl, tb_of 1057 (by decide +kernel) rfl, tb_of 40 (by decide +kernel) rfl⟩
theorem fg_37_11 : FldG false 37 8 11 (fun g w => .int (w.1 37 11)) := ⟨trivial, rfl, fun _ _ => ⟨_, rfl, rfl⟩⟩
theorem cb_X8_nightsFrom : CwB yX8_nightsFrom cX8_nightsFrom 6 (some .int) 3 := ⟨tb_of 1102 (by decide +kernel) rfl, tb_of 63 (by decide +kernel) rfl, by decide +kernel⟩
theorem lm_RX8_186 : Cond.methodLink RX8 186 yX8_nightsFrom ∈ TB ∧ Cond.instanceMethod yX8_nightsFrom ∈ TB ∧ Cond.selects yX8_nightsFrom.cls yX8_nightsFrom yX8_nightsFrom ∈ TB := ⟨tb_of 1099 (by decide +kernel) rfl, tb_of 1101 (by decide +kernel) rfl, tb_of 44 (by decide +kernel) rfl⟩
theorem cb_X8_reach : CwB yX8_reach cX8_reach 4 (some .int) 3 := ⟨tb_of 1098 (by decide +kernel) rfl, tb_of 63 (by decide +kernel) rfl, by decide +kernel⟩
theorem lm_RX8_190 : Cond.methodLink RX8 190 yX8_reach ∈ TB ∧ Cond.instanceMethod yX8_reach ∈ TB ∧ Cond.selects yX8_reach.cls yX8_reach yX8_reach ∈ TB := ⟨tb_of 1095 (by decide +kernel) rfl, tb_of 1097 (by decide +kernel) rfl, tb_of 43 (by decide +kernel) rfl⟩
theorem cb_X8_bits : CwB yX8_bits cX8_bits 3 (some .int) 1 := ⟨tb_of 1105 (by decide +kernel) rfl, tb_of 63 (by decide +kernel) rfl, by decide +kernel⟩
theorem lm_RX8_193 : Cond.methodLink RX8 193 yX8_bits ∈ TB ∧ Cond.static yX8_bits ∈ TB := ⟨tb_of 1103 (by decide +kernel) rfl, tb_of 1104 (by decide +kernel) rfl⟩
theorem lf_RX8_39 : Cond.fieldLink RX8 39 (TX8 20).1 (TX8 20).2.1 (TX8 20).2.2.1 ∈ TB := tb_of 883 (by decide +kernel) rfl
theorem fg_37_20 : FldG false 37 8 20 (fun g w => .ref (gA g 45)) := ⟨trivial, rfl, fun _ _ => ⟨_, rfl, rfl⟩⟩
theorem cb_X8_placeOf : CwB yX8_placeOf cX8_placeOf 4 (some .int) 4 := ⟨tb_of 1132 (by decide +kernel) rfl, tb_of 63 (by decide +kernel) rfl, by decide +kernel⟩
theorem lm_RX8_196 : Cond.methodLink RX8 196 yX8_placeOf ∈ TB ∧ Cond.static yX8_placeOf ∈ TB := ⟨tb_of 1130 (by decide +kernel) rfl, tb_of 1131 (by decide +kernel) rfl⟩
theorem ar_45 : ArrI false 45 6656 := ⟨trivial, rfl, fun _ _ => rfl⟩
theorem cb_X8_worst : CwB yX8_worst cX8_worst 8 (some .int) 4 := ⟨tb_of 1129 (by decide +kernel) rfl, tb_of 63 (by decide +kernel) rfl, by decide +kernel⟩
theorem lm_RX8_200 : Cond.methodLink RX8 200 yX8_worst ∈ TB ∧ Cond.instanceMethod yX8_worst ∈ TB ∧ Cond.selects yX8_worst.cls yX8_worst yX8_worst ∈ TB := ⟨tb_of 1126 (by decide +kernel) rfl, tb_of 1128 (by decide +kernel) rfl, tb_of 48 (by decide +kernel) rfl⟩
theorem cb_X8_bestFrom : CwB yX8_bestFrom cX8_bestFrom 13 (some .int) 5 := ⟨tb_of 1125 (by decide +kernel) rfl, tb_of 63 (by decide +kernel) rfl, by decide +kernel⟩
theorem lm_RX8_203 : Cond.methodLink RX8 203 yX8_bestFrom ∈ TB ∧ Cond.instanceMethod yX8_bestFrom ∈ TB ∧ Cond.selects yX8_bestFrom.cls yX8_bestFrom yX8_bestFrom ∈ TB := ⟨tb_of 1122 (by decide +kernel) rfl, tb_of 1124 (by decide +kernel) rfl, tb_of 47 (by decide +kernel) rfl⟩
theorem cb_X8_isNoChase : CwB yX8_isNoChase cX8_isNoChase 1 (some .boolean) 0 := ⟨tb_of 1117 (by decide +kernel) rfl, tb_of 63 (by decide +kernel) rfl, by decide +kernel⟩
theorem lm_RX8_207 : Cond.methodLink RX8 207 yX8_isNoChase ∈ TB ∧ Cond.instanceMethod yX8_isNoChase ∈ TB ∧ Cond.selects yX8_isNoChase.cls yX8_isNoChase yX8_isNoChase ∈ TB := ⟨tb_of 1114 (by decide +kernel) rfl, tb_of 1116 (by decide +kernel) rfl, tb_of 45 (by decide +kernel) rfl⟩
theorem cb_X8_chaseBy : CwB yX8_chaseBy cX8_chaseBy 5 (some .int) 1 := ⟨tb_of 1121 (by decide +kernel) rfl, tb_of 63 (by decide +kernel) rfl, by decide +kernel⟩
theorem lm_RX8_210 : Cond.methodLink RX8 210 yX8_chaseBy ∈ TB ∧ Cond.instanceMethod yX8_chaseBy ∈ TB ∧ Cond.selects yX8_chaseBy.cls yX8_chaseBy yX8_chaseBy ∈ TB := ⟨tb_of 1118 (by decide +kernel) rfl, tb_of 1120 (by decide +kernel) rfl, tb_of 46 (by decide +kernel) rfl⟩
theorem fg_37_22 : FldG false 37 8 22 (fun g w => .int (w.1 37 22)) := ⟨trivial, rfl, fun _ _ => ⟨_, rfl, rfl⟩⟩
theorem lf_RX8_42 : Cond.fieldLink RX8 42 (TX8 21).1 (TX8 21).2.1 (TX8 21).2.2.1 ∈ TB := tb_of 884 (by decide +kernel) rfl
theorem fg_37_21 : FldG false 37 8 21 (fun g w => .ref (gA g 46)) := ⟨trivial, rfl, fun _ _ => ⟨_, rfl, rfl⟩⟩
theorem ar_46 : ArrI false 46 12 := ⟨trivial, rfl, fun _ _ => rfl⟩
theorem lf_RX8_45 : Cond.fieldLink RX8 45 (TX8 23).1 (TX8 23).2.1 (TX8 23).2.2.1 ∈ TB := tb_of 886 (by decide +kernel) rfl
theorem fg_37_23 : FldG false 37 8 23 (fun g w => .ref (gA g 47)) := ⟨trivial, rfl, fun _ _ => ⟨_, rfl, rfl⟩⟩
theorem ar_47 : ArrI false 47 3 := ⟨trivial, rfl, fun _ _ => rfl⟩
theorem lf_RX8_52 : Cond.fieldLink RX8 52 (TX8 25).1 (TX8 25).2.1 (TX8 25).2.2.1 ∈ TB := tb_of 888 (by decide +kernel) rfl
theorem fg_37_25 : FldG false 37 8 25 (fun g w => .ref (gA g 49)) := ⟨trivial, rfl, fun _ _ => ⟨_, rfl, rfl⟩⟩
theorem ar_49 : ArrJ false 49 41 := ⟨trivial, rfl, fun _ _ => rfl⟩
theorem lf_RX8_48 : Cond.fieldLink RX8 48 (TX8 24).1 (TX8 24).2.1 (TX8 24).2.2.1 ∈ TB := tb_of 887 (by decide +kernel) rfl
theorem fg_37_24 : FldG false 37 8 24 (fun g w => .ref (gA g 48)) := ⟨trivial, rfl, fun _ _ => ⟨_, rfl, rfl⟩⟩
theorem ar_48 : ArrJ false 48 41 := ⟨trivial, rfl, fun _ _ => rfl⟩
theorem cb_X8_addThen : CwB yX8_addThen cX8_addThen 4 none 2 := ⟨tb_of 1163 (by decide +kernel) rfl, tb_of 63 (by decide +kernel) rfl, by decide +kernel⟩
theorem lm_RX8_213 : Cond.methodLink RX8 213 yX8_addThen ∈ TB ∧ Cond.instanceMethod yX8_addThen ∈ TB ∧ Cond.selects yX8_addThen.cls yX8_addThen yX8_addThen ∈ TB := ⟨tb_of 1160 (by decide +kernel) rfl, tb_of 1162 (by decide +kernel) rfl, tb_of 50 (by decide +kernel) rfl⟩
theorem kc_RX8_217 : Cond.constantLong RX8 217 (10 : Int64) ∈ TB := tb_of 1153 (by decide +kernel) rfl
theorem kc_RX8_221 : Cond.constantLong RX8 221 (-3 : Int64) ∈ TB := tb_of 1155 (by decide +kernel) rfl
theorem kc_RX8_219 : Cond.constantLong RX8 219 (40 : Int64) ∈ TB := tb_of 1154 (by decide +kernel) rfl
theorem cb_X8_rideLate : CwB yX8_rideLate cX8_rideLate 6 none 2 := ⟨tb_of 1159 (by decide +kernel) rfl, tb_of 63 (by decide +kernel) rfl, by decide +kernel⟩
theorem lm_RX8_223 : Cond.methodLink RX8 223 yX8_rideLate ∈ TB ∧ Cond.instanceMethod yX8_rideLate ∈ TB ∧ Cond.selects yX8_rideLate.cls yX8_rideLate yX8_rideLate ∈ TB := ⟨tb_of 1156 (by decide +kernel) rfl, tb_of 1158 (by decide +kernel) rfl, tb_of 49 (by decide +kernel) rfl⟩
theorem cb_X8_divisor : CwB yX8_divisor cX8_divisor 10 (some .long) 2 := ⟨tb_of 1166 (by decide +kernel) rfl, tb_of 63 (by decide +kernel) rfl, by decide +kernel⟩
theorem lm_RX8_227 : Cond.methodLink RX8 227 yX8_divisor ∈ TB ∧ Cond.static yX8_divisor ∈ TB := ⟨tb_of 1164 (by decide +kernel) rfl, tb_of 1165 (by decide +kernel) rfl⟩
theorem cb_X8_copy : CwB yX8_copy cX8_copy 4 none 2 := ⟨tb_of 1174 (by decide +kernel) rfl, tb_of 63 (by decide +kernel) rfl, by decide +kernel⟩
theorem lm_RX8_231 : Cond.methodLink RX8 231 yX8_copy ∈ TB ∧ Cond.instanceMethod yX8_copy ∈ TB ∧ Cond.selects yX8_copy.cls yX8_copy yX8_copy ∈ TB := ⟨tb_of 1171 (by decide +kernel) rfl, tb_of 1173 (by decide +kernel) rfl, tb_of 51 (by decide +kernel) rfl⟩
theorem lf_RX7_41 : Cond.fieldLink RX7 41 (TX7 4).1 (TX7 4).2.1 (TX7 4).2.2.1 ∈ TB := tb_of 346 (by decide +kernel) rfl
theorem lf_RX7_44 : Cond.fieldLink RX7 44 (TX7 5).1 (TX7 5).2.1 (TX7 5).2.2.1 ∈ TB := tb_of 347 (by decide +kernel) rfl
theorem fg_0_4 : FldG true 0 7 4 (fun g w => .ref (gA g 17)) := ⟨trivial, rfl, fun _ _ => ⟨_, rfl, rfl⟩⟩
theorem fg_0_5 : FldG true 0 7 5 (fun g w => .ref (gA g 21)) := ⟨trivial, rfl, fun _ _ => ⟨_, rfl, rfl⟩⟩
