/-! Constructors: a judgement over worlds told cell by cell; they make cells -/
def SKa (g : GG) (A : Nat → Prop) (U : State) (H : Heap) : Prop := vk_S 6 sLen sByt (gK g) (gV g) A U H ∧ (∀ i, i < 6 → vk_R RX3 (sIdx.getD i 0) (sTxt.getD i "") (gK g i) U) ∧ va_Z "java/lang/String" "COMPACT_STRINGS" "Z" (.int 1) A U H ∧ va_Zq "jdk/internal/util/Preconditions" "SIOOBE_FORMATTER" "Ljava/util/function/BiFunction;" A U H
theorem SKa.warm {g : GG} {A : Nat → Prop} {s U : State} {H : Heap} (hW : s.WarmedH U.vm) (h : SKa g A s H) : SKa g A U H := ⟨h.1.moved hW.alike, fun i hi => (h.2.1 i hi).warm hW, h.2.2.1.moved hW.alike, h.2.2.2.moved hW.alike⟩
theorem SKa.same {g : GG} {A : Nat → Prop} {u U : State} {H : Heap} (hv : U.vm = u.vm) (h : SKa g A u H) : SKa g A U H := ⟨h.1.moved (by rw [hv]; exact Vm.Alike.refl _), fun i hi => (h.2.1 i hi).same hv, h.2.2.1.moved (by rw [hv]; exact Vm.Alike.refl _), h.2.2.2.moved (by rw [hv]; exact Vm.Alike.refl _)⟩
theorem SKa.kept {g : GG} {A : Nat → Prop} {U : State} {H H1 : Heap} (h : SKa g A U H) (hq : ∀ a : Nat, a < H.size → ¬ A a → H1[a]? = H[a]?) : SKa g A U H1 := ⟨h.1.kept hq, h.2.1, h.2.2.1.kept hq, h.2.2.2.kept hq⟩
theorem SKa.narrow {g : GG} {A B : Nat → Prop} {U : State} {H : Heap} (h : SKa g A U H) (hAB : ∀ q, B q → A q) : SKa g B U H := ⟨h.1.narrow hAB, h.2.1, h.2.2.1.narrow hAB, h.2.2.2.narrow hAB⟩
/-- the same tables, other addresses of the cells -/
def gW (g : GG) (f : Nat → Nat) : GG := (g.1, g.2.1, f, g.2.2.2)
abbrev CtxC : Type := Program × Launch × Env × Room × State × MethodId × Array Value × List Frame × Method × Code × GG × (Nat → Prop)
def ncQ (g : GG) (A : Nat → Prop) (Post : va_W → Prop) : Array Value → State → Outcome → State → Prop := va_Qv Post (fun ws' t => va_P (gD g) vwCl ws' t.heap ∧ va_D A ws') A
def ncJ (K : CtxC) (mc ms : Nat) (Post : va_W → Prop) (ce sl : Nat) (ws : va_W) (pc : Nat) (lv : List (Nat × Value)) (st : List Value) : Prop :=
  match K with
  | (p, l, e, R, s, m, args, below, meth, c, g, A) => ∀ (H : Heap) (locs : List Loc) (ls : Array Slot), va_P (gD g) vwCl ws H → va_D A ws → va_S A s.heap H locs → lv_has ls c.maxLocals lv → W p l e R s m args below meth c H locs ce sl (MQ below (ncQ g A Post) args s mc ms A) (F0 m pc ls st)
def ncF (K : CtxC) (cc : ByteArray) (nL : Nat) (own : String) (fr lo mc ms : Nat) : Prop :=
  match K with
  | (p, _, _, R, s, m, args, _, meth, c, g, A) => p.tables.exec = Jvm.exec ∧ c.code = cc ∧ c.maxLocals = nL ∧ s.vm.findClass own = some m.cls ∧ (∀ w ∈ TB, w.before args s = true) ∧ va_K (gD g) vwCl (tyl g) s ∧ Nst s ∧ SKa g A s s.heap ∧ meth.locks = false ∧ meth.sig.returnType = none ∧ R = { frames := fr, cells := mc, slots := ms, locals := lo } ∧ (∀ q : Nat, s.heap.size ≤ q → A q) ∧ meth.name = "<init>"
def ncP (g : GG) (ws : va_W) (sz : Nat) (U : State) : Prop := U.heap.size = sz ∧ va_P (gD g) vwCl ws U.heap ∧ va_K (gD g) vwCl (tyl g) U ∧ va_D (fun _ => True) ws ∧ Nst U ∧ SKa g (va_A ws sz) U U.heap
/-- a constructor's contract -/
def ncC (l : Launch) (g : GG) (y : MethodName) (cc : ByteArray) (nL fr lo mc ms : Nat) (av : List Value) (ws : va_W) (Post : va_W → Prop) : Prop :=
  ∀ sz : Nat, Met l y (.code y cc nL none :: TB) { frames := fr, cells := mc, slots := ms, locals := lo } (va_Pc av (fun U => ncP g ws sz U)) (ncQ g (va_A ws sz) Post) mc ms (va_A ws sz)
theorem nc_of {l : Launch} {g : GG} {y : MethodName} {cc : ByteArray} {nL fr lo mc ms : Nat} {av : List Value} {ws : va_W} {Post : va_W → Prop} {own : String} (hy : plainName y.cls = true) (ho : y.cls = own) (hi : y.name = "<init>") (hn : (lg_sl av).length ≤ nL)
    (body : ∀ K : CtxC, K.2.2.2.2.2.2.2.2.2.2.1 = g → K.2.1 = l → ncF K cc nL own fr lo mc ms → ncJ K mc ms Post 0 0 ws 0 (lv_args 0 av) []) : ncC l g y cc nL fr lo mc ms av ws Post := by
  intro sz
  refine Met.ofW (cc := cc) (maxL := nL) (ret := none) hy rfl ?_
  intro p e s m args below meth c s₁ B hml hv
  obtain ⟨rfl, hsz, hP, hK, hD0, hN, hS⟩ := hv
  subst hsz
  have hts := atoms_spec (ws := Cond.code y cc nL none :: TB) B.pre
  have hown : s.vm.findClass own = some m.cls := ho ▸ findClass_of_methodNamed B.named
  have hl := lv_entry av (n := nL) hn
  have hin : meth.name = "<init>" := (name_of_methodNamed B.named B.method).1.trans hi
  rw [lg_entry_eq]
  exact body (p, l, e, _, s, m, _, below, meth, c, g, va_A ws s.heap.size) rfl rfl ⟨B.exec, B.bytes, hml, hown, fun w hw => hts w (List.mem_cons_of_mem _ hw), hK, hN, hS, B.notSynchronized, B.returns, rfl, fun q h => Or.inr h, hin⟩ s.heap [] _ hP hD0.self va_S.rf (by rw [hml]; exact hl)
theorem nc_blind {g : GG} {ws : va_W} {sz : Nat} {av : List Value} : FrameBlind (va_Pc av (fun U => ncP g ws sz U)) := by
  intro a U f mk h
  obtain ⟨h0, hz, hP, hK, hD, hN, hS⟩ := h
  exact ⟨h0, hz, hP, va_K.moved (u := U) (U := U.calling f mk a) (Vm.Alike.refl U.vm) hK, hD, hN.same rfl, SKa.same (u := U) (U := U.calling f mk a) rfl hS⟩
theorem sub_at {ws w : va_W} {is : List Nat} (hs : is.map (fun i => ws[i]?) = w.map some) (k : Nat) (q : Nat × va_E) (hq : w[k]? = some q) : ∃ i, is[k]? = some i ∧ ws[i]? = some q := by
  have h1 : (is.map (fun i => ws[i]?))[k]? = some (some q) := by rw [hs, List.getElem?_map, hq]; rfl
  rw [List.getElem?_map] at h1
  cases hi : is[k]? with
  | none => rw [hi] at h1; cases h1
  | some i => rw [hi] at h1; exact ⟨i, rfl, Option.some.inj h1⟩
theorem sub_P {D : va_G} {cl : List vw_C} {ws w : va_W} {H : Heap} (h : va_P D cl ws H) {is : List Nat} (hs : is.map (fun i => ws[i]?) = w.map some) : va_P D cl w H := fun k q hq => by
  obtain ⟨i, -, hi⟩ := sub_at hs k q hq
  exact h i q hi
section CRows
variable {K : CtxC} {cc : ByteArray} {nL : Nat} {own : String} {fr lo mc ms : Nat} {Post : va_W → Prop} {ce sl : Nat} {ws : va_W} {pc : Nat} {lv : List (Nat × Value)} {st : List Value}
theorem nc_aload_n (F : ncF K cc nL own fr lo mc ms) {k : Fin 4} {i x : Nat} (hd : decode cc pc = .ok (.aload_n k, 1)) (hi : (k : Nat) = i) (j : Nat) (hj : lv[j]? = some (i, .ref x)) (kk : ncJ K mc ms Post ce sl ws (pc + 1) lv (.ref x :: st)) : ncJ K mc ms Post ce sl ws pc lv st := by
  obtain ⟨p, l, e, R, s, m, args, below, meth, c, g, A⟩ := K
  obtain ⟨hx, hb, hml, hown, hts, hK, hN, hSK, hlk, hrt, hR, hA, hin⟩ := F
  exact fun H locs ls hP hD hS hl => lv_aload_n hx hb hd hi (lv_at hl j hj) (kk H locs ls hP hD hS hl)
theorem nc_iconst (F : ncF K cc nL own fr lo mc ms) {n : Int} (v : Int32) (hd : decode cc pc = .ok (.iconst n, 1)) (hv : Int32.ofInt n = v) (kk : ncJ K mc ms Post ce sl ws (pc + 1) lv (.int v :: st)) : ncJ K mc ms Post ce sl ws pc lv st := by
  obtain ⟨p, l, e, R, s, m, args, below, meth, c, g, A⟩ := K
  obtain ⟨hx, hb, hml, hown, hts, hK, hN, hSK, hlk, hrt, hR, hA, hin⟩ := F
  exact fun H locs ls hP hD hS hl => lv_iconst hx hb hd hv (kk H locs ls hP hD hS hl)
theorem nc_bipush (F : ncF K cc nL own fr lo mc ms) {n : Int} (v : Int32) (hd : decode cc pc = .ok (.bipush n, 2)) (hv : (Int8.ofInt n).toInt32 = v) (kk : ncJ K mc ms Post ce sl ws (pc + 2) lv (.int v :: st)) : ncJ K mc ms Post ce sl ws pc lv st := by
  obtain ⟨p, l, e, R, s, m, args, below, meth, c, g, A⟩ := K
  obtain ⟨hx, hb, hml, hown, hts, hK, hN, hSK, hlk, hrt, hR, hA, hin⟩ := F
  exact fun H locs ls hP hD hS hl => lv_bipush hx hb hd hv (kk H locs ls hP hD hS hl)
theorem nc_sipush (F : ncF K cc nL own fr lo mc ms) {n : Int} (v : Int32) (hd : decode cc pc = .ok (.sipush n, 3)) (hv : (Int16.ofInt n).toInt32 = v) (kk : ncJ K mc ms Post ce sl ws (pc + 3) lv (.int v :: st)) : ncJ K mc ms Post ce sl ws pc lv st := by
  obtain ⟨p, l, e, R, s, m, args, below, meth, c, g, A⟩ := K
  obtain ⟨hx, hb, hml, hown, hts, hK, hN, hSK, hlk, hrt, hR, hA, hin⟩ := F
  exact fun H locs ls hP hD hS hl => lv_sipush hx hb hd hv (kk H locs ls hP hD hS hl)
theorem nc_dup (F : ncF K cc nL own fr lo mc ms) {v : Value} (hd : decode cc pc = .ok (.dup, 1)) (hv : v.category = 1) (kk : ncJ K mc ms Post ce sl ws (pc + 1) lv (v :: v :: st)) : ncJ K mc ms Post ce sl ws pc lv (v :: st) := by
  obtain ⟨p, l, e, R, s, m, args, below, meth, c, g, A⟩ := K
  obtain ⟨hx, hb, hml, hown, hts, hK, hN, hSK, hlk, hrt, hR, hA, hin⟩ := F
  exact fun H locs ls hP hD hS hl => lv_dup hx hb hd hv (kk H locs ls hP hD hS hl)
theorem nc_obj (F : ncF K cc nL own fr lo mc ms) {idx a : Nat} (hL : Cond.methodLink own idx objectInit ∈ TB) (hI : Cond.instanceMethod objectInit ∈ TB) (hC : Cond.code objectInit ⟨#[0xb1]⟩ 1 none ∈ TB) (hfr : 1 ≤ fr) (hlo : 12 ≤ lo) (hd : decode cc pc = .ok (.invokespecial idx, 3)) (kk : ncJ K mc ms Post ce sl ws (pc + 3) lv []) : ncJ K mc ms Post ce sl ws pc lv [.ref a] := by
  obtain ⟨p, l, e, R, s, m, args, below, meth, c, g, A⟩ := K
  obtain ⟨hx, hb, hml, hown, hts, hK, hN, hSK, hlk, hrt, hR, hA, hin⟩ := F
  subst hR
  intro H locs ls hP hD hS hl
  refine W.objInit hx hb hown (hts _ hL) (hts _ hI) (hts _ hC) rfl (by exact hl.1) rfl hd hfr (by exact hlo) ?_
  exact W.eq (g2 := F0 m (pc + 3) ls []) rfl (kk H locs ls hP hD hS hl)
theorem nc_put (F : ncF K cc nL own fr lo mc ms) {ci k index a n : Nat} {C : String} {T : u_T} {ty : Nat → FieldType} {fs : List Value} {v : Value} (O : ClsOK ci C T n ty) (L : Cond.fieldLink own index (T k).1 (T k).2.1 (T k).2.2.1 ∈ TB) (hk : k < n) (hf : (T k).2.2.2 = false) (hn : narrow (ty k) v = v) (hfit : fits (ty k) v = true) (q0 : Nat) (e0 : ws[q0]? = some (a, .inr (ci, fs))) (hl : k < fs.length) (hd : decode cc pc = .ok (.putfield index, 3)) (kk : ncJ K mc ms Post ce sl (ws.set q0 (a, .inr (ci, fs.set k v))) (pc + 3) lv st) : ncJ K mc ms Post ce sl ws pc lv (v :: .ref a :: st) := by
  obtain ⟨p, l, e, R, s, m, args, below, meth, c, g, A⟩ := K
  obtain ⟨hx, hb, hml, hown, hts, hK, hN, hSK, hlk, hrt, hR, hA, hin⟩ := F
  exact fun H locs ls hP hD hS hl' => va_put (D := gD g) (ci := ci) (C := C) (T := T) (N := n) hx hb hts O.2.1 ty O.2.2.1 O.2.2.2 hown hK hP hD hS q0 e0 O.1 k hk (hts _ L) (fun _ h9 => h9) hf (O.2.2.1 k hk) hn hfit hl hd (fun H1 locs1 hP1 hD1 hS1 => kk H1 locs1 ls hP1 hD1 hS1 hl')
theorem nc_putF (F : ncF K cc nL own fr lo mc ms) {ci k index a n : Nat} {C : String} {T : u_T} {ty : Nat → FieldType} {fs : List Value} {v : Value} (O : ClsOK ci C T n ty) (L : Cond.fieldLink own index (T k).1 (T k).2.1 (T k).2.2.1 ∈ TB) (hk : k < n) (hf : (T k).2.2.2 = true) (hc : (T k).1 = own) (hn : narrow (ty k) v = v) (hfit : fits (ty k) v = true) (q0 : Nat) (e0 : ws[q0]? = some (a, .inr (ci, fs))) (hl : k < fs.length) (hd : decode cc pc = .ok (.putfield index, 3)) (kk : ncJ K mc ms Post ce sl (ws.set q0 (a, .inr (ci, fs.set k v))) (pc + 3) lv st) : ncJ K mc ms Post ce sl ws pc lv (v :: .ref a :: st) := by
  obtain ⟨p, l, e, R, s, m, args, below, meth, c, g, A⟩ := K
  obtain ⟨hx, hb, hml, hown, hts, hK, hN, hSK, hlk, hrt, hR, hA, hin⟩ := F
  exact fun H locs ls hP hD hS hl' => va_putF (D := gD g) (ci := ci) (C := C) (T := T) (N := n) hx hb hts O.2.1 ty O.2.2.1 O.2.2.2 hown hK hP hD hS q0 e0 O.1 k hk (hts _ L) (fun _ h9 => h9) hf hin hc (O.2.2.1 k hk) hn hfit hl hd (fun H1 locs1 hP1 hD1 hS1 => kk H1 locs1 ls hP1 hD1 hS1 hl')
theorem nc_get (F : ncF K cc nL own fr lo mc ms) {ci k index a n : Nat} {C : String} {T : u_T} {ty : Nat → FieldType} {fs : List Value} {v : Value} (O : ClsOK ci C T n ty) (L : Cond.fieldLink own index (T k).1 (T k).2.1 (T k).2.2.1 ∈ TB) (hk : k < n) (q0 : Nat) (e0 : ws[q0]? = some (a, .inr (ci, fs))) (hv : fs[k]? = some v) (hd : decode cc pc = .ok (.getfield index, 3)) (kk : ncJ K mc ms Post ce sl ws (pc + 3) lv (v :: st)) : ncJ K mc ms Post ce sl ws pc lv (.ref a :: st) := by
  obtain ⟨p, l, e, R, s, m, args, below, meth, c, g, A⟩ := K
  obtain ⟨hx, hb, hml, hown, hts, hK, hN, hSK, hlk, hrt, hR, hA, hin⟩ := F
  exact fun H locs ls hP hD hS hl' => va_get (D := gD g) (ci := ci) (C := C) (T := T) (N := n) hx hb hts O.2.1 hown hK hP q0 e0 O.1 k hk (hts _ L) (fun _ h9 => h9) hv hd (kk H locs ls hP hD hS hl')
theorem nc_newa (F : ncF K cc nL own fr lo mc ms) {atype : ArrayType} {ty : FieldType} {N : Nat} {n : Int32} {a0 : vp_A} (t : Nat) {cI : ClassId} (harr : Cond.arrayClass (newarray.typeOf atype) ∈ TB) (hty : newarray.typeOf atype = ty) (ht : (tyl K.2.2.2.2.2.2.2.2.2.2.1)[t]? = some (cI, ty)) (hra : ∀ (U : State) (a b : ClassId), va_RA U a ty → va_RA U b ty → a = b) (ha : ∀ cA : ClassId, vp_cell cA a0 = arrV cA N (fun _ => defaultValue ty)) (hn : ¬ n < 0) (hN : n.toNatClampNeg = N) (hbytes : N * componentBytes ty ≤ 536870912) (hcells : ce + 1 ≤ mc) (hslots : sl + N ≤ ms) (hd : decode cc pc = .ok (.newarray atype, 2)) (kk : ∀ q : Nat, ncJ K mc ms Post (ce + 1) (sl + N) (ws ++ [(q, .inl (cI, a0))]) (pc + 2) lv (.ref q :: st)) : ncJ K mc ms Post ce sl ws pc lv (.int n :: st) := by
  obtain ⟨p, l, e, R, s, m, args, below, meth, c, g, A⟩ := K
  obtain ⟨hx, hb, hml, hown, hts, hK, hN', hSK, hlk, hrt, hR, hA, hin⟩ := F
  subst hR
  intro H locs ls hP hD hS hl'
  refine va_newa (atype := atype) hx hb (hts _ harr) hty hK hP hD hS hA ha hn hN hbytes hcells hslots hd (fun q cA H1 hK1 hP1 hD1 hS1 => ?_)
  have e : cA = cI := hra s cA cI (hK1.2 (tyl g).length (cA, ty) (List.getElem?_concat_length ..)).2 (hK.2 t _ ht).2
  subst e
  exact kk q H1 locs ls hP1 hD1 hS1 hl'
theorem nc_iast (F : ncF K cc nL own fr lo mc ms) {a n : Nat} {cI : ClassId} {f : Nat → Int32} {i x : Int32} (q0 : Nat) (e0 : ws[q0]? = some (a, .inl (cI, n, .inl f))) (ht : (tyl K.2.2.2.2.2.2.2.2.2.2.1)[0]? = some (cI, .int)) (hin' : vp_in i n) (hd : decode cc pc = .ok (.iastore, 1)) (kk : ncJ K mc ms Post ce sl (ws.set q0 (a, .inl (cI, n, .inl (upd f i.toNatClampNeg x)))) (pc + 1) lv st) : ncJ K mc ms Post ce sl ws pc lv (.int x :: .int i :: .ref a :: st) := by
  obtain ⟨p, l, e, R, s, m, args, below, meth, c, g, A⟩ := K
  obtain ⟨hx, hb, hml, hown, hts, hK, hN, hSK, hlk, hrt, hR, hA, hin⟩ := F
  exact fun H locs ls hP hD hS hl' => va_iast hx hb hK hP hD hS q0 0 e0 ht hin' hd (fun H1 locs1 hP1 hD1 hS1 => kk H1 locs1 ls hP1 hD1 hS1 hl')
theorem nc_new (F : ncF K cc nL own fr lo mc ms) {ci index n : Nat} {C : String} {T : u_T} {ty : Nat → FieldType} {fs : List Value} (O : ClsOK ci C T n ty) (hL : Cond.classLink own index C ∈ TB ∧ Cond.instantiable C n ∈ TB ∧ Cond.initialized C ∈ TB) (hfs : ∀ j, j < n → defaultValue (ty j) = vp_V fs j) (hcells : ce + 1 ≤ mc) (hslots : sl + n ≤ ms) (hd : decode cc pc = .ok (.new index, 3)) (kk : ∀ q : Nat, ncJ K mc ms Post (ce + 1) (sl + n) (ws ++ [(q, .inr (ci, fs))]) (pc + 3) lv (.ref q :: st)) : ncJ K mc ms Post ce sl ws pc lv st := by
  obtain ⟨p, l, e, R, s, m, args, below, meth, c, g, A⟩ := K
  obtain ⟨hx, hb, hml, hown, hts, hK, hN, hSK, hlk, hrt, hR, hA, hin⟩ := F
  subst hR
  exact fun H locs ls hP hD hS hl' => va_new (ci := ci) (fs := fs) (C := C) (T := T) (N := n) hx hb hts O.2.1 ty O.2.2.1 hown (hts _ hL.1) (hts _ hL.2.1) (hts _ hL.2.2) hK hP hD hS hA O.1 hfs hcells hslots hd (fun q H1 hP1 hD1 hS1 => kk q H1 locs ls hP1 hD1 hS1 hl')
theorem nc_call (F : ncF K cc nL own fr lo mc ms) {y : MethodName} {c2 : ByteArray} {nL2 fr2 lo2 mc2 ms2 idx n b : Nat} {As : List Value} {wc wr : va_W} {Post2 : va_W → Prop} {stk : List Value} (hB : CwB y c2 nL2 none n) (hL : Cond.methodLink own idx y ∈ TB ∧ Cond.instanceMethod y ∈ TB) (hy : y.name = "<init>") (M : ncC K.2.1 K.2.2.2.2.2.2.2.2.2.2.1 y c2 nL2 fr2 lo2 mc2 ms2 (.ref b :: As) wc Post2) (isC isR : List Nat) (hC : isC.map (fun i => ws[i]?) = wc.map some) (hR : isR.map (fun i => ws[i]?) = wr.map some) (hnC : va_nd isC = true) (hnR : va_nd isR = true) (hdis : ∀ i ∈ isR, i ∉ isC)
    (hn : As.length = n) (hstk : stk = As.reverse ++ .ref b :: st) (hst : (st.map fun v => v.category).sum ≤ 8) (hroom : fr2 + 1 ≤ fr ∧ 8 + (nL2 + 11) + lo2 ≤ lo) (hf : ce + mc2 ≤ mc ∧ sl + ms2 ≤ ms) (hd : decode cc pc = .ok (.invokespecial idx, 3)) (kk : ∀ w1, Post2 w1 → ncJ K mc ms Post (ce + mc2) (sl + ms2) (wr ++ w1) (pc + 3) lv st) : ncJ K mc ms Post ce sl ws pc lv stk := by
  obtain ⟨p, l, e, R, s, m, args, below, meth, c, g, A⟩ := K
  obtain ⟨hx, hb, hml, hown, hts, hK, hN, hSK, hlk, hrt, hR', hA, hin⟩ := F
  subst hR'
  intro H locs ls hP hD hS hl
  have hPc : va_P (gD g) vwCl wc H := sub_P hP hC
  have hDc := hD.sub isC hnC hC
  have hFc := va_free (wc := wc) hD hS hA isC hC
  refine va_callv (va_runI (As := As) (rest := st) (Ts := TB) ⟨hx, hb, rfl, hown, hts⟩ (M H.size) ⟨callB_of n hts (tb_code hB.1) rfl rfl rfl (hts _ hB.2.1) (hts _ hL.1) hB.2.2 hroom, hy, hts _ hL.2⟩ ⟨nc_blind, fun U hU hW => ⟨rfl, by rw [hU], by rw [hU]; exact hPc, va_K.moved hW.alike hK, hDc.weaken (fun _ _ _ _ => trivial), hN.warm hW, by rw [hU]; exact ((hSK.warm hW).kept hS.2.1).narrow hFc⟩⟩ rfl hn hl.1 hstk (lv_room hst) hd hf) hS (fun q _ h => hFc q h) hFc (fun w1 t H1 locs1 ht hvm hw hB1 hz1 hk1 hS1 => ?_)
  obtain ⟨hP1, hD1⟩ := hB1
  rw [ht] at hP1
  obtain ⟨hP2, hD2⟩ := va_join (wr := wr) (w1 := w1) hP hD isC isR hC hR hnR hdis hk1 hFc hP1 hD1
  exact kk w1 hw H1 locs1 ls hP2 hD2 hS1 hl
theorem nc_callN (F : ncF K cc nL own fr lo mc ms) {y : MethodName} {c2 : ByteArray} {nL2 fr2 lo2 mc2 ms2 idx n b : Nat} {As : List Value} {wc wr : va_W} {Post2 : va_W → Prop} {stk : List Value} (hB : CwB y c2 nL2 none n) (hL : (own, idx, y) ∈ nstM ∧ Cond.instanceMethod y ∈ TB) (hy : y.name = "<init>") (M : ncC K.2.1 K.2.2.2.2.2.2.2.2.2.2.1 y c2 nL2 fr2 lo2 mc2 ms2 (.ref b :: As) wc Post2) (isC isR : List Nat) (hC : isC.map (fun i => ws[i]?) = wc.map some) (hR : isR.map (fun i => ws[i]?) = wr.map some) (hnC : va_nd isC = true) (hnR : va_nd isR = true) (hdis : ∀ i ∈ isR, i ∉ isC)
    (hn : As.length = n) (hstk : stk = As.reverse ++ .ref b :: st) (hst : (st.map fun v => v.category).sum ≤ 8) (hroom : fr2 + 1 ≤ fr ∧ 8 + (nL2 + 11) + lo2 ≤ lo) (hf : ce + mc2 ≤ mc ∧ sl + ms2 ≤ ms) (hd : decode cc pc = .ok (.invokespecial idx, 3)) (kk : ∀ w1, Post2 w1 → ncJ K mc ms Post (ce + mc2) (sl + ms2) (wr ++ w1) (pc + 3) lv st) : ncJ K mc ms Post ce sl ws pc lv stk := by
  obtain ⟨p, l, e, R, s, m, args, below, meth, c, g, A⟩ := K
  obtain ⟨hx, hb, hml, hown, hts, hK, hN, hSK, hlk, hrt, hR', hA, hin⟩ := F
  subst hR'
  intro H locs ls hP hD hS hl
  have hPc : va_P (gD g) vwCl wc H := sub_P hP hC
  have hDc := hD.sub isC hnC hC
  have hFc := va_free (wc := wc) hD hS hA isC hC
  refine va_callv (va_runIN (As := As) (rest := st) (Ts := TB) ⟨hx, hb, rfl, hown, hts⟩ (M H.size) ⟨va_cnB n hts (tb_code hB.1) rfl rfl rfl (hN.2 _ hL.1) (hts _ hB.2.1) hB.2.2 hroom, hy, hts _ hL.2⟩ ⟨nc_blind, fun U hU hW => ⟨rfl, by rw [hU], by rw [hU]; exact hPc, va_K.moved hW.alike hK, hDc.weaken (fun _ _ _ _ => trivial), hN.warm hW, by rw [hU]; exact ((hSK.warm hW).kept hS.2.1).narrow hFc⟩⟩ rfl hn hl.1 hstk (lv_room hst) hd hf) hS (fun q _ h => hFc q h) hFc (fun w1 t H1 locs1 ht hvm hw hB1 hz1 hk1 hS1 => ?_)
  obtain ⟨hP1, hD1⟩ := hB1
  rw [ht] at hP1
  obtain ⟨hP2, hD2⟩ := va_join (wr := wr) (w1 := w1) hP hD isC isR hC hR hnR hdis hk1 hFc hP1 hD1
  exact kk w1 hw H1 locs1 ls hP2 hD2 hS1 hl
theorem okg_D {g : GG} {σ : Sd} {w : Wd} {A : Nat → Prop} (hn : σ.1.Nodup) (hD : va_D A (EE g σ w)) : OKg g σ := by
  refine ⟨hn, fun i hi j hj e => ?_⟩
  obtain ⟨a, ha⟩ := List.getElem?_of_mem hi
  obtain ⟨b, hb⟩ := List.getElem?_of_mem hj
  have h1 : (EE g σ w)[a]? = some (gA g i, if decide (i < 37) = σ.2.1 then cellE g w i else cellE g σ.2.2 i) := by unfold EE; rw [List.getElem?_map, ha]; rfl
  have h2 : (EE g σ w)[b]? = some (gA g j, if decide (j < 37) = σ.2.1 then cellE g w j else cellE g σ.2.2 j) := by unfold EE; rw [List.getElem?_map, hb]; rfl
  have := hD.1 a b _ _ h1 h2 e
  subst this
  exact Option.some.inj (ha.symm.trans hb)
theorem ad_A {g : GG} {σ : Sd} {w : Wd} {sz q : Nat} (h : AD g σ q) : va_A (EE g σ w) sz q := by
  obtain ⟨c, hc, rfl⟩ := h
  obtain ⟨a, ha⟩ := List.getElem?_of_mem hc
  exact Or.inl ⟨a, if decide (c < 37) = σ.2.1 then cellE g w c else cellE g σ.2.2 c, by unfold EE; rw [List.getElem?_map, ha]; rfl⟩
/-- a method of the made object is called -/
theorem nc_callB (F : ncF K cc nL own fr lo mc ms) {y : MethodName} {c2 : ByteArray} {nL2 fr2 lo2 idx a ci : Nat} {f : Nat → Nat} {σ : Sd} {w w' : Wd} {wr : va_W} {fs : List Value} (hB : CwB y c2 nL2 none 0) (hL : Cond.methodLink own idx y ∈ TB ∧ Cond.instanceMethod y ∈ TB ∧ Cond.selects y.cls y y ∈ TB) (hnd : σ.1.Nodup) (M : OKg (gW K.2.2.2.2.2.2.2.2.2.2.1 f) σ → CT K.2.1 (gW K.2.2.2.2.2.2.2.2.2.2.1 f) σ y c2 nL2 none fr2 lo2 [.ref a] w none w') (isC isR : List Nat) (hC : isC.map (fun i => ws[i]?) = (EE (gW K.2.2.2.2.2.2.2.2.2.2.1 f) σ w).map some) (hR : isR.map (fun i => ws[i]?) = wr.map some) (hnC : va_nd isC = true) (hnR : va_nd isR = true) (hdis : ∀ i ∈ isR, i ∉ isC) (q0 : Nat) (e0 : ws[q0]? = some (a, .inr (ci, fs))) (hcl : ∃ T N, vwCl[ci]? = some (y.cls, T, N))
    (hst : (st.map fun v => v.category).sum ≤ 8) (hroom : fr2 + 1 ≤ fr ∧ 8 + (nL2 + 11) + lo2 ≤ lo) (hf : ce ≤ mc ∧ sl ≤ ms) (hd : decode cc pc = .ok (.invokevirtual idx, 3)) (kk : ncJ K mc ms Post ce sl (wr ++ EE (gW K.2.2.2.2.2.2.2.2.2.2.1 f) σ w') (pc + 3) lv st) : ncJ K mc ms Post ce sl ws pc lv (.ref a :: st) := by
  obtain ⟨p, l, e, R, s, m, args, below, meth, c, g, A⟩ := K
  obtain ⟨hx, hb, hml, hown, hts, hK, hN, hSK, hlk, hrt, hR', hA, hin⟩ := F
  subst hR'
  intro H locs ls hP hD hS hl T0 hT X
  have hPc : va_P (gD g) vwCl (EE (gW g f) σ w) H := sub_P hP hC
  have hDc := hD.sub isC hnC hC
  have hFc := va_free (wc := EE (gW g f) σ w) hD hS hA isC hC
  have hg := okg_D hnd hDc
  obtain ⟨T, N, hcl⟩ := hcl
  obtain ⟨v, st₀, t, T', L, h0, X', hLf, e1, e2, ⟨hv, hP1, hz, hk⟩, hstp⟩ := va_runV (C := y.cls) (Ts := TB) (As := []) (rest := st) ⟨hx, hb, rfl, hown, hts⟩ (M hg) ⟨callB_of 0 hts (tb_code hB.1) rfl rfl rfl (hts _ hB.2.1) (hts _ hL.1) hB.2.2 hroom, hts _ hL.2.1, hts _ hL.2.2⟩ ⟨HD_blind, va_recv hK hP (ci := ci) (q0 := q0) hcl e0, fun U hU hW => ⟨rfl, by rw [hU]; exact hPc, va_K.moved hW.alike hK, hN.warm hW, by rw [hU]; exact ((hSK.warm hW).kept hS.2.1).narrow (fun q h => hFc q (ad_A h))⟩⟩ (g := F0 m pc ls (.ref a :: st)) rfl rfl hl.1 rfl (lv_room hst) hd hf T0 hT X
  cases hv
  rw [h0] at hz hk
  have hk' : ∀ q : Nat, q < H.size → ¬ va_A (EE (gW g f) σ w) H.size q → t.heap[q]? = H[q]? := fun q h1 h2 => hk q h1 (fun h => h2 (ad_A h))
  obtain ⟨hP2, hD2⟩ := va_join (wr := wr) (w1 := EE (gW g f) σ w') hP hD isC isR hC hR hnR hdis hk' hFc hP1 ((EE_D hg).weaken (fun _ _ _ h => ad_A h))
  obtain ⟨t2, a1, b1⟩ := kk T'.heap (locs ++ L) ls (by rw [e1]; exact hP2) hD2
    ⟨Nat.le_trans hS.1 (by rw [e1]; exact hz), fun q h1 h2 => by rw [e1, hk q (Nat.lt_of_lt_of_le h1 hS.1) (fun h => h2 (hFc q (ad_A h)))]; exact hS.2.1 q h1 h2, fun q hq => by
      rcases List.mem_append.mp hq with h | h
      · exact hS.2.2 q h
      · exact hFc _ (ad_A (hLf q h))⟩ hl T' rfl X'
  exact ⟨t2, hstp t2 a1, b1⟩
theorem nc_ret (F : ncF K cc nL own fr lo mc ms) (isR : List Nat) {wr : va_W} (hR : isR.map (fun i => ws[i]?) = wr.map some) (hnR : va_nd isR = true) (hp : Post wr) (hd : decode cc pc = .ok (.return_, 1)) : ncJ K mc ms Post mc ms ws pc lv [] := by
  obtain ⟨p, l, e, R, s, m, args, below, meth, c, g, A⟩ := K
  obtain ⟨hx, hb, hml, hown, hts, hK, hN, hSK, hlk, hrt, hR', hA, hin⟩ := F
  intro H locs ls hP hD hS hl
  have hP9 : va_P (gD g) vwCl wr H := sub_P hP hR
  have hD9 := hD.sub isR hnR hR
  exact W.vret hx hb hrt (fun t ht hW => ⟨⟨wr, rfl, hp, by rw [ht]; exact hP9, hD9⟩, hS.F ht⟩) hS.2.2 hd hlk
end CRows
theorem ra_int (U : State) (a b : ClassId) (h1 : va_RA U a .int) (h2 : va_RA U b .int) : a = b := Option.some.inj (Eq.trans (Eq.symm h1) h2)
theorem ra_char (U : State) (a b : ClassId) (h1 : va_RA U a .char) (h2 : va_RA U b .char) : a = b := Option.some.inj (Eq.trans (Eq.symm h1) h2)
theorem ra_long (U : State) (a b : ClassId) (h1 : va_RA U a .long) (h2 : va_RA U b .long) : a = b := Option.some.inj (Eq.trans (Eq.symm h1) h2)
theorem ra_bool (U : State) (a b : ClassId) (h1 : va_RA U a .boolean) (h2 : va_RA U b .boolean) : a = b := Option.some.inj (Eq.trans (Eq.symm h1) h2)
