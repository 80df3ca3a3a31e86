/-! The world: fifty cells at addresses gA g; numbers in w.1 (cell, slot or place), longs in w.2 -/
abbrev Wd : Type := (Nat → Nat → Int32) × (Nat → Nat → Int64)
/-- class ids and slots; array classes (int, char, long, boolean); addresses of the cells; of the string constants; of their bytes -/
abbrev GG : Type := va_G × (ClassId × ClassId × ClassId × ClassId) × (Nat → Nat) × (Nat → Nat) × (Nat → Nat)
def gD (g : GG) : va_G := g.1
def gA (g : GG) : Nat → Nat := g.2.2.1
def gK (g : GG) : Nat → Nat := g.2.2.2.1
def gV (g : GG) : Nat → Nat := g.2.2.2.2
def tyl (g : GG) : List (ClassId × FieldType) := [(g.2.1.1, .int), (g.2.1.2.1, .char), (g.2.1.2.2.1, .long), (g.2.1.2.2.2, .boolean)]
def cellE (g : GG) (w : Wd) : Nat → va_E
  | 0 => .inr (7, [.ref (gA g 1), .ref (gA g 3), .ref (gA g 7), .ref (gA g 13), .ref (gA g 17), .ref (gA g 21), .ref (gA g 25), .ref (gA g 26), .ref (gA g 32), .int (w.1 0 9)])
  | 1 => .inr (6, [.ref (gA g 2), .int (w.1 1 1)])
  | 2 => .inl (g.2.1.2.1, 200, .inl (w.1 2))
  | 3 => .inr (1, [.int (w.1 3 0), .int (w.1 3 1), .int (w.1 3 2), .int (w.1 3 3), .ref (gA g 4), .ref (gA g 5), .ref (gA g 6)])
  | 4 => .inl (g.2.1.1, 72, .inl (w.1 4))
  | 5 => .inl (g.2.1.1, 3, .inl (w.1 5))
  | 6 => .inl (g.2.1.1, 2, .inl (w.1 6))
  | 7 => .inr (3, [.ref (gA g 1), .ref (gA g 8), .int (w.1 7 2), .ref (gA g 12), .int (w.1 7 4), .int (w.1 7 5), .int (w.1 7 6)])
  | 8 => .inr (1, [.int (w.1 8 0), .int (w.1 8 1), .int (w.1 8 2), .int (w.1 8 3), .ref (gA g 9), .ref (gA g 10), .ref (gA g 11)])
  | 9 => .inl (g.2.1.1, 72, .inl (w.1 9))
  | 10 => .inl (g.2.1.1, 3, .inl (w.1 10))
  | 11 => .inl (g.2.1.1, 2, .inl (w.1 11))
  | 12 => .inl (g.2.1.1, 6, .inl (w.1 12))
  | 13 => .inr (5, [.ref (gA g 3), .int (w.1 13 1), .int (w.1 13 2), .int (w.1 13 3), .int (w.1 13 4), .int (w.1 13 5), .ref (gA g 14), .ref (gA g 15), .ref (gA g 16), .int (w.1 13 9), .int (w.1 13 10), .int (w.1 13 11)])
  | 14 => .inl (g.2.1.1, 3, .inl (w.1 14))
  | 15 => .inl (g.2.1.1, 2, .inl (w.1 15))
  | 16 => .inl (g.2.1.1, 2, .inl (w.1 16))
  | 17 => .inr (5, [.ref (gA g 3), .int (w.1 17 1), .int (w.1 17 2), .int (w.1 17 3), .int (w.1 17 4), .int (w.1 17 5), .ref (gA g 18), .ref (gA g 19), .ref (gA g 20), .int (w.1 17 9), .int (w.1 17 10), .int (w.1 17 11)])
  | 18 => .inl (g.2.1.1, 3, .inl (w.1 18))
  | 19 => .inl (g.2.1.1, 2, .inl (w.1 19))
  | 20 => .inl (g.2.1.1, 2, .inl (w.1 20))
  | 21 => .inr (5, [.ref (gA g 3), .int (w.1 21 1), .int (w.1 21 2), .int (w.1 21 3), .int (w.1 21 4), .int (w.1 21 5), .ref (gA g 22), .ref (gA g 23), .ref (gA g 24), .int (w.1 21 9), .int (w.1 21 10), .int (w.1 21 11)])
  | 22 => .inl (g.2.1.1, 3, .inl (w.1 22))
  | 23 => .inl (g.2.1.1, 2, .inl (w.1 23))
  | 24 => .inl (g.2.1.1, 2, .inl (w.1 24))
  | 25 => .inr (0, [.ref (gA g 3), .ref (gA g 13), .int (w.1 25 2), .int (w.1 25 3), .int (w.1 25 4), .int (w.1 25 5)])
  | 26 => .inr (2, [.ref (gA g 3), .ref (gA g 13), .ref (gA g 27), .ref (gA g 28), .ref (gA g 29), .ref (gA g 30), .ref (gA g 31), .int (w.1 26 7), .int (w.1 26 8), .int (w.1 26 9)])
  | 27 => .inl (g.2.1.1, 448, .inl (w.1 27))
  | 28 => .inl (g.2.1.1, 448, .inl (w.1 28))
  | 29 => .inl (g.2.1.1, 448, .inl (w.1 29))
  | 30 => .inl (g.2.1.1, 12, .inl (w.1 30))
  | 31 => .inl (g.2.1.1, 12, .inl (w.1 31))
  | 32 => .inr (4, [.ref (gA g 3), .ref (gA g 33), .int (w.1 32 2), .ref (gA g 34), .ref (gA g 35), .ref (gA g 36)])
  | 33 => .inl (g.2.1.1, 12, .inl (w.1 33))
  | 34 => .inl (g.2.1.1, 3, .inl (w.1 34))
  | 35 => .inl (g.2.1.2.2.1, 41, .inr (.inl (w.2 35)))
  | 36 => .inl (g.2.1.2.2.1, 41, .inr (.inl (w.2 36)))
  | 37 => .inr (8, [.ref (gA g 38), .ref (gA g 39), .ref (gA g 40), .int (w.1 37 3), .ref (gA g 41), .int (w.1 37 5), .int (w.1 37 6), .ref (gA g 42), .int (w.1 37 8), .int (w.1 37 9), .ref (gA g 43), .int (w.1 37 11), .ref (gA g 44), .int (w.1 37 13), .int (w.1 37 14), .int (w.1 37 15), .int (w.1 37 16), .int (w.1 37 17), .int (w.1 37 18), .int (w.1 37 19), .ref (gA g 45), .ref (gA g 46), .int (w.1 37 22), .ref (gA g 47), .ref (gA g 48), .ref (gA g 49)])
  | 38 => .inl (g.2.1.1, 45, .inl (w.1 38))
  | 39 => .inl (g.2.1.2.2.2, 2, .inl (w.1 39))
  | 40 => .inl (g.2.1.1, 200, .inl (w.1 40))
  | 41 => .inl (g.2.1.1, 70, .inl (w.1 41))
  | 42 => .inl (g.2.1.1, 72, .inl (w.1 42))
  | 43 => .inl (g.2.1.1, 3, .inl (w.1 43))
  | 44 => .inl (g.2.1.1, 2, .inl (w.1 44))
  | 45 => .inl (g.2.1.1, 6656, .inl (w.1 45))
  | 46 => .inl (g.2.1.1, 12, .inl (w.1 46))
  | 47 => .inl (g.2.1.1, 3, .inl (w.1 47))
  | 48 => .inl (g.2.1.2.2.1, 41, .inr (.inl (w.2 48)))
  | 49 => .inl (g.2.1.2.2.1, 41, .inr (.inl (w.2 49)))
  | _ => .inr (0, [])
/-- a number, a long set -/
def sI (w : Wd) (c k : Nat) (v : Int32) : Wd := (fun a => if a = c then upd (w.1 a) k v else w.1 a, w.2)
def sJ (w : Wd) (c k : Nat) (v : Int64) : Wd := (w.1, fun a => if a = c then vp_updL (w.2 a) k v else w.2 a)
def cI (w : Wd) (src sp dst dp n : Nat) : Wd := (fun a => if a = dst then va_cpy (w.1 src) (w.1 dst) sp dp n else w.1 a, w.2)
def cJ (w : Wd) (src sp dst dp n : Nat) : Wd := (w.1, fun a => if a = dst then va_cpy (w.2 src) (w.2 dst) sp dp n else w.2 a)
theorem sI_1 (w : Wd) (c k : Nat) (v : Int32) (a b : Nat) : (sI w c k v).1 a b = if a = c ∧ b = k then v else w.1 a b := by
  unfold sI
  by_cases h : a = c
  · by_cases h2 : b = k <;> simp [h, h2, upd]
  · simp [h]
theorem sI_2 (w : Wd) (c k : Nat) (v : Int32) : (sI w c k v).2 = w.2 := rfl
theorem sJ_1 (w : Wd) (c k : Nat) (v : Int64) : (sJ w c k v).1 = w.1 := rfl
theorem sJ_2 (w : Wd) (c k : Nat) (v : Int64) (a b : Nat) : (sJ w c k v).2 a b = if a = c ∧ b = k then v else w.2 a b := by
  unfold sJ
  by_cases h : a = c
  · by_cases h2 : b = k <;> simp [h, h2, vp_updL]
  · simp [h]
theorem cI_1 (w : Wd) (src sp dst dp n a b : Nat) : (cI w src sp dst dp n).1 a b = if a = dst ∧ dp ≤ b ∧ b < dp + n then w.1 src (sp + (b - dp)) else w.1 a b := by
  unfold cI
  by_cases h : a = dst
  · by_cases h2 : dp ≤ b ∧ b < dp + n <;> simp [h, h2, va_cpy]
  · simp [h]
theorem cI_2 (w : Wd) (src sp dst dp n : Nat) : (cI w src sp dst dp n).2 = w.2 := rfl
theorem cJ_1 (w : Wd) (src sp dst dp n : Nat) : (cJ w src sp dst dp n).1 = w.1 := rfl
theorem cJ_2 (w : Wd) (src sp dst dp n a b : Nat) : (cJ w src sp dst dp n).2 a b = if a = dst ∧ dp ≤ b ∧ b < dp + n then w.2 src (sp + (b - dp)) else w.2 a b := by
  unfold cJ
  by_cases h : a = dst
  · by_cases h2 : dp ≤ b ∧ b < dp + n <;> simp [h, h2, va_cpy]
  · simp [h]
theorem cellE_congr {g : GG} {w w' : Wd} {c : Nat} (h1 : w'.1 c = w.1 c) (h2 : w'.2 c = w.2 c) : cellE g w' c = cellE g w c := by
  unfold cellE
  split <;> simp_all
theorem cellE_sI {g : GG} {w : Wd} {c k a : Nat} {v : Int32} (h : a ≠ c) : cellE g (sI w c k v) a = cellE g w a := cellE_congr (if_neg h) rfl
theorem cellE_sJ {g : GG} {w : Wd} {c k a : Nat} {v : Int64} (h : a ≠ c) : cellE g (sJ w c k v) a = cellE g w a := cellE_congr rfl (if_neg h)
theorem cellE_cI {g : GG} {w : Wd} {src sp dst dp n a : Nat} (h : a ≠ dst) : cellE g (cI w src sp dst dp n) a = cellE g w a := cellE_congr (if_neg h) rfl
theorem cellE_cJ {g : GG} {w : Wd} {src sp dst dp n a : Nat} (h : a ≠ dst) : cellE g (cJ w src sp dst dp n) a = cellE g w a := cellE_congr rfl (if_neg h)
/-- which cells are there; the class's side (true) or the reference's; the other side's world -/
abbrev Sd : Type := List Nat × Bool × Wd
def EE (g : GG) (σ : Sd) (w : Wd) : va_W := σ.1.map (fun c => (gA g c, if decide (c < 37) = σ.2.1 then cellE g w c else cellE g σ.2.2 c))
def AD (g : GG) (σ : Sd) : Nat → Prop := fun q => ∃ c, c ∈ σ.1 ∧ q = gA g c
def OKg (g : GG) (σ : Sd) : Prop := σ.1.Nodup ∧ ∀ i, i ∈ σ.1 → ∀ j, j ∈ σ.1 → gA g i = gA g j → i = j
theorem EE_at {g : GG} {σ : Sd} {w : Wd} {k : Nat} {q : Nat × va_E} (h : (EE g σ w)[k]? = some q) : ∃ c, σ.1[k]? = some c ∧ q = (gA g c, if decide (c < 37) = σ.2.1 then cellE g w c else cellE g σ.2.2 c) := by
  unfold EE at h
  rw [List.getElem?_map] at h
  cases hc : σ.1[k]? with
  | none => rw [hc] at h; cases h
  | some c => rw [hc] at h; exact ⟨c, rfl, (Option.some.inj h).symm⟩
theorem nd_ix {l : List Nat} (h : l.Nodup) {i j c : Nat} (hi : l[i]? = some c) (hj : l[j]? = some c) : i = j := by
  have h1 := (List.getElem?_eq_some_iff.mp hi)
  have h2 := (List.getElem?_eq_some_iff.mp hj)
  obtain ⟨a1, b1⟩ := h1
  obtain ⟨a2, b2⟩ := h2
  exact (List.getElem_inj h).mp (b1.trans b2.symm)
theorem EE_get {g : GG} {σ : Sd} {w : Wd} {c : Nat} (hg : OKg g σ) (hc : c ∈ σ.1) (hs : decide (c < 37) = σ.2.1) : ∃ q0, (EE g σ w)[q0]? = some (gA g c, cellE g w c) ∧ ∀ w', (∀ a, a ≠ c → cellE g w' a = cellE g w a) → (EE g σ w).set q0 (gA g c, cellE g w' c) = EE g σ w' := by
  obtain ⟨q0, h0⟩ := List.getElem?_of_mem hc
  have hl : q0 < σ.1.length := (List.getElem?_eq_some_iff.mp h0).1
  refine ⟨q0, by unfold EE; rw [List.getElem?_map, h0]; simp [hs], fun w' h => ?_⟩
  apply List.ext_getElem?
  intro k
  by_cases hk : k = q0
  · subst hk
    rw [List.getElem?_set_self (by unfold EE; rw [List.length_map]; exact hl)]
    unfold EE
    rw [List.getElem?_map, h0]
    simp [hs]
  · rw [List.getElem?_set_ne (Ne.symm hk)]
    unfold EE
    rw [List.getElem?_map, List.getElem?_map]
    cases hd : σ.1[k]? with
    | none => rfl
    | some d =>
      have hne : d ≠ c := fun e => hk (nd_ix hg.1 (e ▸ hd) h0)
      simp [h d hne]
theorem EE_D {g : GG} {σ : Sd} (hg : OKg g σ) {w : Wd} : va_D (AD g σ) (EE g σ w) := by
  refine ⟨fun i j p q hi hj hpq => ?_, fun k q hk => ?_⟩
  · obtain ⟨c, h1, e1⟩ := EE_at hi
    obtain ⟨d, h2, e2⟩ := EE_at hj
    have hcd : c = d := hg.2 c (List.mem_of_getElem? h1) d (List.mem_of_getElem? h2) (by rw [e1, e2] at hpq; exact hpq)
    subst hcd
    exact nd_ix hg.1 h1 h2
  · obtain ⟨c, h1, e1⟩ := EE_at hk
    exact ⟨c, List.mem_of_getElem? h1, by rw [e1]⟩
/-- string constants of the reader, in their order -/
def sLen : List Nat := [4, 5, 5, 7, 4, 6]
def sByt : List (List Int32) := [[108, 97, 110, 100], [116, 114, 97, 105, 110], [115, 116, 97, 114, 116], [116, 105, 99, 107, 101, 116, 115], [115, 104, 111, 119], [115, 101, 101, 107, 101, 114]]
def sIdx : List Nat := [86, 92, 94, 96, 98, 100]
def sTxt : List String := ["land", "train", "start", "tickets", "show", "seeker"]
def SK (g : GG) (σ : Sd) (U : State) (H : Heap) : Prop := vk_S 6 sLen sByt (gK g) (gV g) (AD g σ) U H ∧ (∀ i, i < 6 → vk_R RX3 (sIdx.getD i 0) (sTxt.getD i "") (gK g i) U) ∧ va_Z "java/lang/String" "COMPACT_STRINGS" "Z" (.int 1) (AD g σ) U H ∧ va_Zq "jdk/internal/util/Preconditions" "SIOOBE_FORMATTER" "Ljava/util/function/BiFunction;" (AD g σ) U H
theorem SK.warm {g : GG} {σ : Sd} {s U : State} {H : Heap} (hW : s.WarmedH U.vm) (h : SK g σ s H) : SK g σ U H := ⟨h.1.moved hW.alike, fun i hi => (h.2.1 i hi).warm hW, h.2.2.1.moved hW.alike, h.2.2.2.moved hW.alike⟩
theorem SK.same {g : GG} {σ : Sd} {u U : State} {H : Heap} (hv : U.vm = u.vm) (h : SK g σ u H) : SK g σ U H := ⟨h.1.moved (by rw [hv]; exact Vm.Alike.refl _), fun i hi => (h.2.1 i hi).same hv, h.2.2.1.moved (by rw [hv]; exact Vm.Alike.refl _), h.2.2.2.moved (by rw [hv]; exact Vm.Alike.refl _)⟩
theorem SK.kept {g : GG} {σ : Sd} {U : State} {H H1 : Heap} (h : SK g σ U H) (hq : ∀ a : Nat, a < H.size → ¬ AD g σ a → H1[a]? = H[a]?) : SK g σ U H1 := ⟨h.1.kept hq, h.2.1, h.2.2.1.kept hq, h.2.2.2.kept hq⟩
/-- the words of nest mates -/
def nstF : List (String × Nat × String × String × String) := [(RX5, 44, RX1, "tickets", "[I"), (RX4, 37, RX1, "tickets", "[I"), (RX5, 51, RX1, "seekers", "[I")]
def nstM : List (String × Nat × MethodName) := [(RX7, 11, yX6_init), (RX7, 18, yX1_init), (RX3, 11, yX1_init), (RX0, 42, yX7_hasBit), (RX1, 46, yX7_within), (RX1, 50, yX7_isSeeker), (RX1, 65, yX7_hasBit), (RX2, 96, yX7_within), (RX3, 118, yX7_isSeeker), (RX3, 83, yX7_within), (RX4, 33, yX7_within), (RX5, 80, yX7_within), (RX5, 95, yX7_isSeeker), (RX6, 19, yX7_within)]
def Nst (U : State) : Prop := (∀ q ∈ nstF, va_Nw (.fieldLinkNest q.1 q.2.1 q.2.2.1 q.2.2.2.1 q.2.2.2.2 RX7) U) ∧ ∀ q ∈ nstM, va_Nw (.methodLinkNest q.1 q.2.1 q.2.2 RX7) U
theorem Nst.warm {s U : State} (hW : s.WarmedH U.vm) (h : Nst s) : Nst U := ⟨fun q hq => (h.1 q hq).warmF hW, fun q hq => (h.2 q hq).warmM hW⟩
theorem Nst.same {u U : State} (hv : u.vm = U.vm) (h : Nst u) : Nst U := ⟨fun q hq => (h.1 q hq).same rfl hv, fun q hq => (h.2 q hq).same rfl hv⟩
/-- the good words of the tables -/
def TB : List Cond := lw_tbl.filter goodWord
theorem tb_of {w : Cond} (i : Nat) (h : lw_tbl[i]? = some w) (hg : goodWord w = true) : w ∈ TB := List.mem_filter.mpr ⟨List.mem_of_getElem? h, hg⟩
theorem tb_good {ws : List Cond} (h : ∀ w ∈ ws, w ∈ TB) : GoodIn TB ws := fun w hw => ⟨h w hw, good_of_word (List.mem_filter.mp (h w hw)).2⟩
theorem tb_code {y : MethodName} {cc : ByteArray} {n : Nat} {r : Option FieldType} (h : Cond.code y cc n r ∈ TB) : GoodIn TB (.code y cc n r :: TB) := tb_good (fun w hw => (List.mem_cons.mp hw).elim (fun e => e ▸ h) id)
/-- what a state holds -/
def HD (g : GG) (σ : Sd) (w : Wd) (U : State) : Prop := va_P (gD g) vwCl (EE g σ w) U.heap ∧ va_K (gD g) vwCl (tyl g) U ∧ Nst U ∧ SK g σ U U.heap
def QQ (g : GG) (σ : Sd) (r : Option Value) (w' : Wd) : Array Value → State → Outcome → State → Prop := fun _ st o t => o = .returned r ∧ va_P (gD g) vwCl (EE g σ w') t.heap ∧ va_F (AD g σ) st t
/-- a contract: with these arguments, in this world, it answers r and leaves the world w' -/
def CT (l : Launch) (g : GG) (σ : Sd) (y : MethodName) (cc : ByteArray) (nL : Nat) (ret : Option FieldType) (fr lo : Nat) (av : List Value) (w : Wd) (r : Option Value) (w' : Wd) : Prop :=
  Met l y (.code y cc nL ret :: TB) { frames := fr, cells := 0, slots := 0, locals := lo } (va_Pc av (fun U => HD g σ w U)) (QQ g σ r w') 0 0 (AD g σ)
theorem HD_blind {g : GG} {σ : Sd} {w : Wd} {av : List Value} : FrameBlind (va_Pc av (fun U => HD g σ w U)) := by
  intro a U f mk h
  obtain ⟨h0, hP, hK, hN, hS⟩ := h
  exact ⟨h0, hP, va_K.moved (u := U) (U := U.calling f mk a) (Vm.Alike.refl U.vm) hK, hN.same rfl, SK.same (u := U) (U := U.calling f mk a) rfl hS⟩
abbrev Ctx : Type := Program × Launch × Env × Room × State × MethodId × Array Value × List Frame × Method × Code × GG × Sd
/-- at pc, with locals lv and stack st, in world w, the method goes on to what 'res' says (if it says something) -/
def N (K : Ctx) {ρ : Type} (rt : ρ → Option Value × Wd) (res : Option ρ) (w : Wd) (pc : Nat) (lv : List (Nat × Value)) (st : List Value) : Prop :=
  match K with
  | (p, l, e, R, s, m, args, below, meth, c, g, σ) => ∀ q, res = some q → ∀ (H : Heap) (locs : List Loc) (ls : Array Slot), va_P (gD g) vwCl (EE g σ w) H → va_S (AD g σ) s.heap H locs → lv_has ls c.maxLocals lv →
    W p l e R s m args below meth c H locs 0 0 (MQ below (QQ g σ (rt q).1 (rt q).2) args s 0 0 (AD g σ)) (F0 m pc ls st)
/-- what is fixed in a method's body -/
def Fx (K : Ctx) (cc : ByteArray) (nL : Nat) (own : String) (ret : Option FieldType) (fr lo : Nat) (b : Bool) (nd : List Nat) : Prop :=
  match K with
  | (p, _, _, R, s, m, args, _, meth, c, g, σ) => p.tables.exec = Jvm.exec ∧ c.code = cc ∧ c.maxLocals = nL ∧ s.vm.findClass own = some m.cls ∧ (∀ w ∈ TB, w.before args s = true) ∧ va_K (gD g) vwCl (tyl g) s ∧ Nst s ∧ SK g σ s s.heap ∧ OKg g σ ∧ meth.locks = false ∧ meth.sig.returnType = ret ∧ R = { frames := fr, cells := 0, slots := 0, locals := lo } ∧ σ.2.1 = b ∧ ∀ c ∈ nd, c ∈ σ.1
/-- a method's body gives its contract -/
theorem ct_of {l : Launch} {g : GG} {σ : Sd} {y : MethodName} {cc : ByteArray} {nL : Nat} {ret : Option FieldType} {fr lo : Nat} {av : List Value} {w : Wd} {ρ : Type} {rt : ρ → Option Value × Wd} {res : Option ρ} {q : ρ} {own : String} {b : Bool} {nd : List Nat} (hg : OKg g σ) (hb : σ.2.1 = b) (hi : ∀ c ∈ nd, c ∈ σ.1) (hy : plainName y.cls = true) (ho : y.cls = own) (hn : (lg_sl av).length ≤ nL) (hq : res = some q)
    (body : ∀ K : Ctx, K.2.2.2.2.2.2.2.2.2.2.1 = g → K.2.2.2.2.2.2.2.2.2.2.2 = σ → K.2.1 = l → Fx K cc nL own ret fr lo b nd → N K rt res w 0 (lv_args 0 av) []) : CT l g σ y cc nL ret fr lo av w (rt q).1 (rt q).2 := by
  refine Met.ofW (cc := cc) (maxL := nL) (ret := ret) hy rfl ?_
  intro p e s m args below meth c s₁ B hml hv
  obtain ⟨rfl, hP, hK, hN, hS⟩ := hv
  have hts := atoms_spec (ws := Cond.code y cc nL ret :: TB) B.pre
  have hown : s.vm.findClass own = some m.cls := ho ▸ findClass_of_methodNamed B.named
  have hl := lv_entry av (n := nL) hn
  rw [lg_entry_eq]
  exact body (p, l, e, _, s, m, _, below, meth, c, g, σ) rfl rfl rfl ⟨B.exec, B.bytes, hml, hown, fun w hw => hts w (List.mem_cons_of_mem _ hw), hK, hN, hS, hg, B.notSynchronized, B.returns, rfl, hb, hi⟩ q hq s.heap [] _ hP va_S.rf (by rw [hml]; exact hl)
