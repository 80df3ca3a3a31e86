theorem n_iadd {K : Ctx} {cc : ByteArray} {nL : Nat} {own : String} {ret : Option FieldType} {fr lo : Nat} {b : Bool} {nd : List Nat} {ρ : Type} {rt : ρ → Option Value × Wd} {res : Option ρ} {w : Wd} {pc : Nat} {lv : List (Nat × Value)} {st : List Value} (F : Fx K cc nL own ret fr lo b nd) {x y : Int32} (hd : decode cc pc = .ok (.iadd, 1)) (k : N K rt res w (pc + 1) lv (.int (x + y) :: st)) : N K rt res w pc lv (.int y :: .int x :: st) := by
  obtain ⟨p, l, e, R, s, m, args, below, meth, c, g, σ⟩ := K
  obtain ⟨hx, hb, hml, hown, hts, hK, hN, hSK, hg, hlk, hrt, hR, hσ, hix⟩ := F
  exact fun q hq H locs ls hP hS hl => lv_iadd hx hb hd (k q hq H locs ls hP hS hl)
theorem n_isub {K : Ctx} {cc : ByteArray} {nL : Nat} {own : String} {ret : Option FieldType} {fr lo : Nat} {b : Bool} {nd : List Nat} {ρ : Type} {rt : ρ → Option Value × Wd} {res : Option ρ} {w : Wd} {pc : Nat} {lv : List (Nat × Value)} {st : List Value} (F : Fx K cc nL own ret fr lo b nd) {x y : Int32} (hd : decode cc pc = .ok (.isub, 1)) (k : N K rt res w (pc + 1) lv (.int (x - y) :: st)) : N K rt res w pc lv (.int y :: .int x :: st) := by
  obtain ⟨p, l, e, R, s, m, args, below, meth, c, g, σ⟩ := K
  obtain ⟨hx, hb, hml, hown, hts, hK, hN, hSK, hg, hlk, hrt, hR, hσ, hix⟩ := F
  exact fun q hq H locs ls hP hS hl => lv_isub hx hb hd (k q hq H locs ls hP hS hl)
theorem n_imul {K : Ctx} {cc : ByteArray} {nL : Nat} {own : String} {ret : Option FieldType} {fr lo : Nat} {b : Bool} {nd : List Nat} {ρ : Type} {rt : ρ → Option Value × Wd} {res : Option ρ} {w : Wd} {pc : Nat} {lv : List (Nat × Value)} {st : List Value} (F : Fx K cc nL own ret fr lo b nd) {x y : Int32} (hd : decode cc pc = .ok (.imul, 1)) (k : N K rt res w (pc + 1) lv (.int (x * y) :: st)) : N K rt res w pc lv (.int y :: .int x :: st) := by
  obtain ⟨p, l, e, R, s, m, args, below, meth, c, g, σ⟩ := K
  obtain ⟨hx, hb, hml, hown, hts, hK, hN, hSK, hg, hlk, hrt, hR, hσ, hix⟩ := F
  exact fun q hq H locs ls hP hS hl => lv_imul hx hb hd (k q hq H locs ls hP hS hl)
theorem n_iand {K : Ctx} {cc : ByteArray} {nL : Nat} {own : String} {ret : Option FieldType} {fr lo : Nat} {b : Bool} {nd : List Nat} {ρ : Type} {rt : ρ → Option Value × Wd} {res : Option ρ} {w : Wd} {pc : Nat} {lv : List (Nat × Value)} {st : List Value} (F : Fx K cc nL own ret fr lo b nd) {x y : Int32} (hd : decode cc pc = .ok (.iand, 1)) (k : N K rt res w (pc + 1) lv (.int (x &&& y) :: st)) : N K rt res w pc lv (.int y :: .int x :: st) := by
  obtain ⟨p, l, e, R, s, m, args, below, meth, c, g, σ⟩ := K
  obtain ⟨hx, hb, hml, hown, hts, hK, hN, hSK, hg, hlk, hrt, hR, hσ, hix⟩ := F
  exact fun q hq H locs ls hP hS hl => lv_iand hx hb hd (k q hq H locs ls hP hS hl)
theorem n_ior {K : Ctx} {cc : ByteArray} {nL : Nat} {own : String} {ret : Option FieldType} {fr lo : Nat} {b : Bool} {nd : List Nat} {ρ : Type} {rt : ρ → Option Value × Wd} {res : Option ρ} {w : Wd} {pc : Nat} {lv : List (Nat × Value)} {st : List Value} (F : Fx K cc nL own ret fr lo b nd) {x y : Int32} (hd : decode cc pc = .ok (.ior, 1)) (k : N K rt res w (pc + 1) lv (.int (x ||| y) :: st)) : N K rt res w pc lv (.int y :: .int x :: st) := by
  obtain ⟨p, l, e, R, s, m, args, below, meth, c, g, σ⟩ := K
  obtain ⟨hx, hb, hml, hown, hts, hK, hN, hSK, hg, hlk, hrt, hR, hσ, hix⟩ := F
  exact fun q hq H locs ls hP hS hl => lv_ior hx hb hd (k q hq H locs ls hP hS hl)
theorem n_ixor {K : Ctx} {cc : ByteArray} {nL : Nat} {own : String} {ret : Option FieldType} {fr lo : Nat} {b : Bool} {nd : List Nat} {ρ : Type} {rt : ρ → Option Value × Wd} {res : Option ρ} {w : Wd} {pc : Nat} {lv : List (Nat × Value)} {st : List Value} (F : Fx K cc nL own ret fr lo b nd) {x y : Int32} (hd : decode cc pc = .ok (.ixor, 1)) (k : N K rt res w (pc + 1) lv (.int (x ^^^ y) :: st)) : N K rt res w pc lv (.int y :: .int x :: st) := by
  obtain ⟨p, l, e, R, s, m, args, below, meth, c, g, σ⟩ := K
  obtain ⟨hx, hb, hml, hown, hts, hK, hN, hSK, hg, hlk, hrt, hR, hσ, hix⟩ := F
  exact fun q hq H locs ls hP hS hl => lv_ixor hx hb hd (k q hq H locs ls hP hS hl)
theorem n_ishl {K : Ctx} {cc : ByteArray} {nL : Nat} {own : String} {ret : Option FieldType} {fr lo : Nat} {b : Bool} {nd : List Nat} {ρ : Type} {rt : ρ → Option Value × Wd} {res : Option ρ} {w : Wd} {pc : Nat} {lv : List (Nat × Value)} {st : List Value} (F : Fx K cc nL own ret fr lo b nd) {x y : Int32} (hd : decode cc pc = .ok (.ishl, 1)) (k : N K rt res w (pc + 1) lv (.int (x <<< (y &&& 31)) :: st)) : N K rt res w pc lv (.int y :: .int x :: st) := by
  obtain ⟨p, l, e, R, s, m, args, below, meth, c, g, σ⟩ := K
  obtain ⟨hx, hb, hml, hown, hts, hK, hN, hSK, hg, hlk, hrt, hR, hσ, hix⟩ := F
  exact fun q hq H locs ls hP hS hl => lv_ishl hx hb hd (k q hq H locs ls hP hS hl)
theorem n_ishr {K : Ctx} {cc : ByteArray} {nL : Nat} {own : String} {ret : Option FieldType} {fr lo : Nat} {b : Bool} {nd : List Nat} {ρ : Type} {rt : ρ → Option Value × Wd} {res : Option ρ} {w : Wd} {pc : Nat} {lv : List (Nat × Value)} {st : List Value} (F : Fx K cc nL own ret fr lo b nd) {x y : Int32} (hd : decode cc pc = .ok (.ishr, 1)) (k : N K rt res w (pc + 1) lv (.int (x >>> (y &&& 31)) :: st)) : N K rt res w pc lv (.int y :: .int x :: st) := by
  obtain ⟨p, l, e, R, s, m, args, below, meth, c, g, σ⟩ := K
  obtain ⟨hx, hb, hml, hown, hts, hK, hN, hSK, hg, hlk, hrt, hR, hσ, hix⟩ := F
  exact fun q hq H locs ls hP hS hl => lv_ishr hx hb hd (k q hq H locs ls hP hS hl)
theorem n_idiv {K : Ctx} {cc : ByteArray} {nL : Nat} {own : String} {ret : Option FieldType} {fr lo : Nat} {b : Bool} {nd : List Nat} {ρ : Type} {rt : ρ → Option Value × Wd} {res : Option ρ} {w : Wd} {pc : Nat} {lv : List (Nat × Value)} {st : List Value} (F : Fx K cc nL own ret fr lo b nd) {x y : Int32} (hd : decode cc pc = .ok (.idiv, 1)) (hne : ¬ y = 0) (k : N K rt res w (pc + 1) lv (.int (x / y) :: st)) : N K rt res w pc lv (.int y :: .int x :: st) := by
  obtain ⟨p, l, e, R, s, m, args, below, meth, c, g, σ⟩ := K
  obtain ⟨hx, hb, hml, hown, hts, hK, hN, hSK, hg, hlk, hrt, hR, hσ, hix⟩ := F
  exact fun q hq H locs ls hP hS hl => lv_idiv hx hb hd hne (k q hq H locs ls hP hS hl)
theorem n_irem {K : Ctx} {cc : ByteArray} {nL : Nat} {own : String} {ret : Option FieldType} {fr lo : Nat} {b : Bool} {nd : List Nat} {ρ : Type} {rt : ρ → Option Value × Wd} {res : Option ρ} {w : Wd} {pc : Nat} {lv : List (Nat × Value)} {st : List Value} (F : Fx K cc nL own ret fr lo b nd) {x y : Int32} (hd : decode cc pc = .ok (.irem, 1)) (hne : ¬ y = 0) (k : N K rt res w (pc + 1) lv (.int (x - x / y * y) :: st)) : N K rt res w pc lv (.int y :: .int x :: st) := by
  obtain ⟨p, l, e, R, s, m, args, below, meth, c, g, σ⟩ := K
  obtain ⟨hx, hb, hml, hown, hts, hK, hN, hSK, hg, hlk, hrt, hR, hσ, hix⟩ := F
  exact fun q hq H locs ls hP hS hl => lv_irem hx hb hd hne (k q hq H locs ls hP hS hl)
theorem n_ladd {K : Ctx} {cc : ByteArray} {nL : Nat} {own : String} {ret : Option FieldType} {fr lo : Nat} {b : Bool} {nd : List Nat} {ρ : Type} {rt : ρ → Option Value × Wd} {res : Option ρ} {w : Wd} {pc : Nat} {lv : List (Nat × Value)} {st : List Value} (F : Fx K cc nL own ret fr lo b nd) {x y : Int64} (hd : decode cc pc = .ok (.ladd, 1)) (k : N K rt res w (pc + 1) lv (.long (x + y) :: st)) : N K rt res w pc lv (.long y :: .long x :: st) := by
  obtain ⟨p, l, e, R, s, m, args, below, meth, c, g, σ⟩ := K
  obtain ⟨hx, hb, hml, hown, hts, hK, hN, hSK, hg, hlk, hrt, hR, hσ, hix⟩ := F
  exact fun q hq H locs ls hP hS hl => lv_ladd hx hb hd (k q hq H locs ls hP hS hl)
theorem n_lsub {K : Ctx} {cc : ByteArray} {nL : Nat} {own : String} {ret : Option FieldType} {fr lo : Nat} {b : Bool} {nd : List Nat} {ρ : Type} {rt : ρ → Option Value × Wd} {res : Option ρ} {w : Wd} {pc : Nat} {lv : List (Nat × Value)} {st : List Value} (F : Fx K cc nL own ret fr lo b nd) {x y : Int64} (hd : decode cc pc = .ok (.lsub, 1)) (k : N K rt res w (pc + 1) lv (.long (x - y) :: st)) : N K rt res w pc lv (.long y :: .long x :: st) := by
  obtain ⟨p, l, e, R, s, m, args, below, meth, c, g, σ⟩ := K
  obtain ⟨hx, hb, hml, hown, hts, hK, hN, hSK, hg, hlk, hrt, hR, hσ, hix⟩ := F
  exact fun q hq H locs ls hP hS hl => lv_lsub hx hb hd (k q hq H locs ls hP hS hl)
theorem n_lmul {K : Ctx} {cc : ByteArray} {nL : Nat} {own : String} {ret : Option FieldType} {fr lo : Nat} {b : Bool} {nd : List Nat} {ρ : Type} {rt : ρ → Option Value × Wd} {res : Option ρ} {w : Wd} {pc : Nat} {lv : List (Nat × Value)} {st : List Value} (F : Fx K cc nL own ret fr lo b nd) {x y : Int64} (hd : decode cc pc = .ok (.lmul, 1)) (k : N K rt res w (pc + 1) lv (.long (x * y) :: st)) : N K rt res w pc lv (.long y :: .long x :: st) := by
  obtain ⟨p, l, e, R, s, m, args, below, meth, c, g, σ⟩ := K
  obtain ⟨hx, hb, hml, hown, hts, hK, hN, hSK, hg, hlk, hrt, hR, hσ, hix⟩ := F
  exact fun q hq H locs ls hP hS hl => lv_lmul hx hb hd (k q hq H locs ls hP hS hl)
theorem n_land {K : Ctx} {cc : ByteArray} {nL : Nat} {own : String} {ret : Option FieldType} {fr lo : Nat} {b : Bool} {nd : List Nat} {ρ : Type} {rt : ρ → Option Value × Wd} {res : Option ρ} {w : Wd} {pc : Nat} {lv : List (Nat × Value)} {st : List Value} (F : Fx K cc nL own ret fr lo b nd) {x y : Int64} (hd : decode cc pc = .ok (.land, 1)) (k : N K rt res w (pc + 1) lv (.long (x &&& y) :: st)) : N K rt res w pc lv (.long y :: .long x :: st) := by
  obtain ⟨p, l, e, R, s, m, args, below, meth, c, g, σ⟩ := K
  obtain ⟨hx, hb, hml, hown, hts, hK, hN, hSK, hg, hlk, hrt, hR, hσ, hix⟩ := F
  exact fun q hq H locs ls hP hS hl => lv_land hx hb hd (k q hq H locs ls hP hS hl)
theorem n_lor {K : Ctx} {cc : ByteArray} {nL : Nat} {own : String} {ret : Option FieldType} {fr lo : Nat} {b : Bool} {nd : List Nat} {ρ : Type} {rt : ρ → Option Value × Wd} {res : Option ρ} {w : Wd} {pc : Nat} {lv : List (Nat × Value)} {st : List Value} (F : Fx K cc nL own ret fr lo b nd) {x y : Int64} (hd : decode cc pc = .ok (.lor, 1)) (k : N K rt res w (pc + 1) lv (.long (x ||| y) :: st)) : N K rt res w pc lv (.long y :: .long x :: st) := by
  obtain ⟨p, l, e, R, s, m, args, below, meth, c, g, σ⟩ := K
  obtain ⟨hx, hb, hml, hown, hts, hK, hN, hSK, hg, hlk, hrt, hR, hσ, hix⟩ := F
  exact fun q hq H locs ls hP hS hl => lv_lor hx hb hd (k q hq H locs ls hP hS hl)
theorem n_ldiv {K : Ctx} {cc : ByteArray} {nL : Nat} {own : String} {ret : Option FieldType} {fr lo : Nat} {b : Bool} {nd : List Nat} {ρ : Type} {rt : ρ → Option Value × Wd} {res : Option ρ} {w : Wd} {pc : Nat} {lv : List (Nat × Value)} {st : List Value} (F : Fx K cc nL own ret fr lo b nd) {x y : Int64} (hd : decode cc pc = .ok (.ldiv, 1)) (hne : ¬ y = 0) (k : N K rt res w (pc + 1) lv (.long (x / y) :: st)) : N K rt res w pc lv (.long y :: .long x :: st) := by
  obtain ⟨p, l, e, R, s, m, args, below, meth, c, g, σ⟩ := K
  obtain ⟨hx, hb, hml, hown, hts, hK, hN, hSK, hg, hlk, hrt, hR, hσ, hix⟩ := F
  exact fun q hq H locs ls hP hS hl => lv_ldiv hx hb hd hne (k q hq H locs ls hP hS hl)
theorem n_lrem {K : Ctx} {cc : ByteArray} {nL : Nat} {own : String} {ret : Option FieldType} {fr lo : Nat} {b : Bool} {nd : List Nat} {ρ : Type} {rt : ρ → Option Value × Wd} {res : Option ρ} {w : Wd} {pc : Nat} {lv : List (Nat × Value)} {st : List Value} (F : Fx K cc nL own ret fr lo b nd) {x y : Int64} (hd : decode cc pc = .ok (.lrem, 1)) (hne : ¬ y = 0) (k : N K rt res w (pc + 1) lv (.long (x - x / y * y) :: st)) : N K rt res w pc lv (.long y :: .long x :: st) := by
  obtain ⟨p, l, e, R, s, m, args, below, meth, c, g, σ⟩ := K
  obtain ⟨hx, hb, hml, hown, hts, hK, hN, hSK, hg, hlk, hrt, hR, hσ, hix⟩ := F
  exact fun q hq H locs ls hP hS hl => lv_lrem hx hb hd hne (k q hq H locs ls hP hS hl)
theorem n_lcmp {K : Ctx} {cc : ByteArray} {nL : Nat} {own : String} {ret : Option FieldType} {fr lo : Nat} {b : Bool} {nd : List Nat} {ρ : Type} {rt : ρ → Option Value × Wd} {res : Option ρ} {w : Wd} {pc : Nat} {lv : List (Nat × Value)} {st : List Value} (F : Fx K cc nL own ret fr lo b nd) {x y : Int64} (hd : decode cc pc = .ok (.lcmp, 1)) (k : N K rt res w (pc + 1) lv (.int (lg_cmp x y) :: st)) : N K rt res w pc lv (.long y :: .long x :: st) := by
  obtain ⟨p, l, e, R, s, m, args, below, meth, c, g, σ⟩ := K
  obtain ⟨hx, hb, hml, hown, hts, hK, hN, hSK, hg, hlk, hrt, hR, hσ, hix⟩ := F
  exact fun q hq H locs ls hP hS hl => W.lcmp hx hb hd (k q hq H locs ls hP hS hl)
theorem n_lshl {K : Ctx} {cc : ByteArray} {nL : Nat} {own : String} {ret : Option FieldType} {fr lo : Nat} {b : Bool} {nd : List Nat} {ρ : Type} {rt : ρ → Option Value × Wd} {res : Option ρ} {w : Wd} {pc : Nat} {lv : List (Nat × Value)} {st : List Value} (F : Fx K cc nL own ret fr lo b nd) {x : Int64} {y : Int32} (hd : decode cc pc = .ok (.lshl, 1)) (k : N K rt res w (pc + 1) lv (.long (x <<< (y.toInt64 &&& 63)) :: st)) : N K rt res w pc lv (.int y :: .long x :: st) := by
  obtain ⟨p, l, e, R, s, m, args, below, meth, c, g, σ⟩ := K
  obtain ⟨hx, hb, hml, hown, hts, hK, hN, hSK, hg, hlk, hrt, hR, hσ, hix⟩ := F
  exact fun q hq H locs ls hP hS hl => lv_lshl hx hb hd rfl (k q hq H locs ls hP hS hl)
theorem n_lshr {K : Ctx} {cc : ByteArray} {nL : Nat} {own : String} {ret : Option FieldType} {fr lo : Nat} {b : Bool} {nd : List Nat} {ρ : Type} {rt : ρ → Option Value × Wd} {res : Option ρ} {w : Wd} {pc : Nat} {lv : List (Nat × Value)} {st : List Value} (F : Fx K cc nL own ret fr lo b nd) {x : Int64} {y : Int32} (hd : decode cc pc = .ok (.lshr, 1)) (k : N K rt res w (pc + 1) lv (.long (x >>> (y.toInt64 &&& 63)) :: st)) : N K rt res w pc lv (.int y :: .long x :: st) := by
  obtain ⟨p, l, e, R, s, m, args, below, meth, c, g, σ⟩ := K
  obtain ⟨hx, hb, hml, hown, hts, hK, hN, hSK, hg, hlk, hrt, hR, hσ, hix⟩ := F
  exact fun q hq H locs ls hP hS hl => lv_lshr hx hb hd rfl (k q hq H locs ls hP hS hl)
theorem n_iushr {K : Ctx} {cc : ByteArray} {nL : Nat} {own : String} {ret : Option FieldType} {fr lo : Nat} {b : Bool} {nd : List Nat} {ρ : Type} {rt : ρ → Option Value × Wd} {res : Option ρ} {w : Wd} {pc : Nat} {lv : List (Nat × Value)} {st : List Value} (F : Fx K cc nL own ret fr lo b nd) {x y : Int32} (hd : decode cc pc = .ok (.iushr, 1)) (k : N K rt res w (pc + 1) lv (.int ((x.toUInt32 >>> (y.toUInt32 &&& Int32.toUInt32 31)).toInt32) :: st)) : N K rt res w pc lv (.int y :: .int x :: st) := by
  obtain ⟨p, l, e, R, s, m, args, below, meth, c, g, σ⟩ := K
  obtain ⟨hx, hb, hml, hown, hts, hK, hN, hSK, hg, hlk, hrt, hR, hσ, hix⟩ := F
  exact fun q hq H locs ls hP hS hl => lv_iushr hx hb hd rfl (k q hq H locs ls hP hS hl)
theorem n_i2l {K : Ctx} {cc : ByteArray} {nL : Nat} {own : String} {ret : Option FieldType} {fr lo : Nat} {b : Bool} {nd : List Nat} {ρ : Type} {rt : ρ → Option Value × Wd} {res : Option ρ} {w : Wd} {pc : Nat} {lv : List (Nat × Value)} {st : List Value} (F : Fx K cc nL own ret fr lo b nd) {x : Int32} (hd : decode cc pc = .ok (.i2l, 1)) (k : N K rt res w (pc + 1) lv (.long (x.toInt64) :: st)) : N K rt res w pc lv (.int x :: st) := by
  obtain ⟨p, l, e, R, s, m, args, below, meth, c, g, σ⟩ := K
  obtain ⟨hx, hb, hml, hown, hts, hK, hN, hSK, hg, hlk, hrt, hR, hσ, hix⟩ := F
  exact fun q hq H locs ls hP hS hl => lv_i2l hx hb hd rfl (k q hq H locs ls hP hS hl)
theorem n_l2i {K : Ctx} {cc : ByteArray} {nL : Nat} {own : String} {ret : Option FieldType} {fr lo : Nat} {b : Bool} {nd : List Nat} {ρ : Type} {rt : ρ → Option Value × Wd} {res : Option ρ} {w : Wd} {pc : Nat} {lv : List (Nat × Value)} {st : List Value} (F : Fx K cc nL own ret fr lo b nd) {x : Int64} (hd : decode cc pc = .ok (.l2i, 1)) (k : N K rt res w (pc + 1) lv (.int (x.toInt32) :: st)) : N K rt res w pc lv (.long x :: st) := by
  obtain ⟨p, l, e, R, s, m, args, below, meth, c, g, σ⟩ := K
  obtain ⟨hx, hb, hml, hown, hts, hK, hN, hSK, hg, hlk, hrt, hR, hσ, hix⟩ := F
  exact fun q hq H locs ls hP hS hl => lv_l2i hx hb hd rfl (k q hq H locs ls hP hS hl)
theorem n_i2c {K : Ctx} {cc : ByteArray} {nL : Nat} {own : String} {ret : Option FieldType} {fr lo : Nat} {b : Bool} {nd : List Nat} {ρ : Type} {rt : ρ → Option Value × Wd} {res : Option ρ} {w : Wd} {pc : Nat} {lv : List (Nat × Value)} {st : List Value} (F : Fx K cc nL own ret fr lo b nd) {x : Int32} (hd : decode cc pc = .ok (.i2c, 1)) (k : N K rt res w (pc + 1) lv (.int ((x.toUInt32 % 65536).toInt32) :: st)) : N K rt res w pc lv (.int x :: st) := by
  obtain ⟨p, l, e, R, s, m, args, below, meth, c, g, σ⟩ := K
  obtain ⟨hx, hb, hml, hown, hts, hK, hN, hSK, hg, hlk, hrt, hR, hσ, hix⟩ := F
  exact fun q hq H locs ls hP hS hl => lv_i2c hx hb hd rfl (k q hq H locs ls hP hS hl)
theorem n_dup {K : Ctx} {cc : ByteArray} {nL : Nat} {own : String} {ret : Option FieldType} {fr lo : Nat} {b : Bool} {nd : List Nat} {ρ : Type} {rt : ρ → Option Value × Wd} {res : Option ρ} {w : Wd} {pc : Nat} {lv : List (Nat × Value)} {st : List Value} (F : Fx K cc nL own ret fr lo b nd) {va : Value} (hd : decode cc pc = .ok (.dup, 1)) (hva : va.category = 1) (k : N K rt res w (pc + 1) lv (va :: va :: st)) : N K rt res w pc lv (va :: st) := by
  obtain ⟨p, l, e, R, s, m, args, below, meth, c, g, σ⟩ := K
  obtain ⟨hx, hb, hml, hown, hts, hK, hN, hSK, hg, hlk, hrt, hR, hσ, hix⟩ := F
  exact fun q hq H locs ls hP hS hl => lv_dup hx hb hd hva (k q hq H locs ls hP hS hl)
theorem n_dup2 {K : Ctx} {cc : ByteArray} {nL : Nat} {own : String} {ret : Option FieldType} {fr lo : Nat} {b : Bool} {nd : List Nat} {ρ : Type} {rt : ρ → Option Value × Wd} {res : Option ρ} {w : Wd} {pc : Nat} {lv : List (Nat × Value)} {st : List Value} (F : Fx K cc nL own ret fr lo b nd) {va vb : Value} (hd : decode cc pc = .ok (.dup2, 1)) (hva : va.category = 1) (hvb : vb.category = 1) (k : N K rt res w (pc + 1) lv (va :: vb :: va :: vb :: st)) : N K rt res w pc lv (va :: vb :: st) := by
  obtain ⟨p, l, e, R, s, m, args, below, meth, c, g, σ⟩ := K
  obtain ⟨hx, hb, hml, hown, hts, hK, hN, hSK, hg, hlk, hrt, hR, hσ, hix⟩ := F
  exact fun q hq H locs ls hP hS hl => lv_dup2_11 hx hb hd hva hvb (k q hq H locs ls hP hS hl)
theorem n_pop {K : Ctx} {cc : ByteArray} {nL : Nat} {own : String} {ret : Option FieldType} {fr lo : Nat} {b : Bool} {nd : List Nat} {ρ : Type} {rt : ρ → Option Value × Wd} {res : Option ρ} {w : Wd} {pc : Nat} {lv : List (Nat × Value)} {st : List Value} (F : Fx K cc nL own ret fr lo b nd) {va : Value} (hd : decode cc pc = .ok (.pop, 1)) (hva : va.category = 1) (k : N K rt res w (pc + 1) lv (st)) : N K rt res w pc lv (va :: st) := by
  obtain ⟨p, l, e, R, s, m, args, below, meth, c, g, σ⟩ := K
  obtain ⟨hx, hb, hml, hown, hts, hK, hN, hSK, hg, hlk, hrt, hR, hσ, hix⟩ := F
  exact fun q hq H locs ls hP hS hl => lv_pop hx hb hd hva (k q hq H locs ls hP hS hl)
theorem n_iconst {K : Ctx} {cc : ByteArray} {nL : Nat} {own : String} {ret : Option FieldType} {fr lo : Nat} {b : Bool} {nd : List Nat} {ρ : Type} {rt : ρ → Option Value × Wd} {res : Option ρ} {w : Wd} {pc : Nat} {lv : List (Nat × Value)} {st : List Value} (F : Fx K cc nL own ret fr lo b nd) {n : Int} (v : Int32) (hd : decode cc pc = .ok (.iconst n, 1)) (hv : Int32.ofInt n = v) (k : N K rt res w (pc + 1) lv (.int v :: st)) : N K rt res w pc lv (st) := by
  obtain ⟨p, l, e, R, s, m, args, below, meth, c, g, σ⟩ := K
  obtain ⟨hx, hb, hml, hown, hts, hK, hN, hSK, hg, hlk, hrt, hR, hσ, hix⟩ := F
  exact fun q hq H locs ls hP hS hl => lv_iconst hx hb hd hv (k q hq H locs ls hP hS hl)
theorem n_bipush {K : Ctx} {cc : ByteArray} {nL : Nat} {own : String} {ret : Option FieldType} {fr lo : Nat} {b : Bool} {nd : List Nat} {ρ : Type} {rt : ρ → Option Value × Wd} {res : Option ρ} {w : Wd} {pc : Nat} {lv : List (Nat × Value)} {st : List Value} (F : Fx K cc nL own ret fr lo b nd) {n : Int} (v : Int32) (hd : decode cc pc = .ok (.bipush n, 2)) (hv : (Int8.ofInt n).toInt32 = v) (k : N K rt res w (pc + 2) lv (.int v :: st)) : N K rt res w pc lv (st) := by
  obtain ⟨p, l, e, R, s, m, args, below, meth, c, g, σ⟩ := K
  obtain ⟨hx, hb, hml, hown, hts, hK, hN, hSK, hg, hlk, hrt, hR, hσ, hix⟩ := F
  exact fun q hq H locs ls hP hS hl => lv_bipush hx hb hd hv (k q hq H locs ls hP hS hl)
theorem n_sipush {K : Ctx} {cc : ByteArray} {nL : Nat} {own : String} {ret : Option FieldType} {fr lo : Nat} {b : Bool} {nd : List Nat} {ρ : Type} {rt : ρ → Option Value × Wd} {res : Option ρ} {w : Wd} {pc : Nat} {lv : List (Nat × Value)} {st : List Value} (F : Fx K cc nL own ret fr lo b nd) {n : Int} (v : Int32) (hd : decode cc pc = .ok (.sipush n, 3)) (hv : (Int16.ofInt n).toInt32 = v) (k : N K rt res w (pc + 3) lv (.int v :: st)) : N K rt res w pc lv (st) := by
  obtain ⟨p, l, e, R, s, m, args, below, meth, c, g, σ⟩ := K
  obtain ⟨hx, hb, hml, hown, hts, hK, hN, hSK, hg, hlk, hrt, hR, hσ, hix⟩ := F
  exact fun q hq H locs ls hP hS hl => lv_sipush hx hb hd hv (k q hq H locs ls hP hS hl)
theorem n_lconst {K : Ctx} {cc : ByteArray} {nL : Nat} {own : String} {ret : Option FieldType} {fr lo : Nat} {b : Bool} {nd : List Nat} {ρ : Type} {rt : ρ → Option Value × Wd} {res : Option ρ} {w : Wd} {pc : Nat} {lv : List (Nat × Value)} {st : List Value} (F : Fx K cc nL own ret fr lo b nd) {n : Fin 2} (v : Int64) (hd : decode cc pc = .ok (.lconst n, 1)) (hv : Int64.ofNat (n : Nat) = v) (k : N K rt res w (pc + 1) lv (.long v :: st)) : N K rt res w pc lv (st) := by
  obtain ⟨p, l, e, R, s, m, args, below, meth, c, g, σ⟩ := K
  obtain ⟨hx, hb, hml, hown, hts, hK, hN, hSK, hg, hlk, hrt, hR, hσ, hix⟩ := F
  exact fun q hq H locs ls hP hS hl => lv_lconst hx hb hd hv (k q hq H locs ls hP hS hl)
theorem n_iload_n {K : Ctx} {cc : ByteArray} {nL : Nat} {own : String} {ret : Option FieldType} {fr lo : Nat} {b : Bool} {nd : List Nat} {ρ : Type} {rt : ρ → Option Value × Wd} {res : Option ρ} {w : Wd} {pc : Nat} {lv : List (Nat × Value)} {st : List Value} (F : Fx K cc nL own ret fr lo b nd) {k0 : Fin 4} {i : Nat} {x : Int32} (hd : decode cc pc = .ok (.iload_n k0, 1)) (hi : (k0 : Nat) = i) (j : Nat) (hj : lv[j]? = some (i, .int x)) (k : N K rt res w (pc + 1) lv (.int x :: st)) : N K rt res w pc lv (st) := by
  obtain ⟨p, l, e, R, s, m, args, below, meth, c, g, σ⟩ := K
  obtain ⟨hx, hb, hml, hown, hts, hK, hN, hSK, hg, hlk, hrt, hR, hσ, hix⟩ := F
  exact fun q hq H locs ls hP hS hl => lv_iload_n hx hb hd hi (lv_at hl j hj) (k q hq H locs ls hP hS hl)
theorem n_iload {K : Ctx} {cc : ByteArray} {nL : Nat} {own : String} {ret : Option FieldType} {fr lo : Nat} {b : Bool} {nd : List Nat} {ρ : Type} {rt : ρ → Option Value × Wd} {res : Option ρ} {w : Wd} {pc : Nat} {lv : List (Nat × Value)} {st : List Value} (F : Fx K cc nL own ret fr lo b nd) {i : Nat} {x : Int32} (hd : decode cc pc = .ok (.iload i, 2)) (j : Nat) (hj : lv[j]? = some (i, .int x)) (k : N K rt res w (pc + 2) lv (.int x :: st)) : N K rt res w pc lv (st) := by
  obtain ⟨p, l, e, R, s, m, args, below, meth, c, g, σ⟩ := K
  obtain ⟨hx, hb, hml, hown, hts, hK, hN, hSK, hg, hlk, hrt, hR, hσ, hix⟩ := F
  exact fun q hq H locs ls hP hS hl => lv_iload hx hb hd (lv_at hl j hj) (k q hq H locs ls hP hS hl)
theorem n_istore_n {K : Ctx} {cc : ByteArray} {nL : Nat} {own : String} {ret : Option FieldType} {fr lo : Nat} {b : Bool} {nd : List Nat} {ρ : Type} {rt : ρ → Option Value × Wd} {res : Option ρ} {w : Wd} {pc : Nat} {lv : List (Nat × Value)} {st : List Value} (F : Fx K cc nL own ret fr lo b nd) {k0 : Fin 4} {i : Nat} {x : Int32} {lv' : List (Nat × Value)} (hd : decode cc pc = .ok (.istore_n k0, 1)) (hi : (k0 : Nat) = i) (hn : i < nL) (hl' : (i, Value.int x) :: lv.filter (fun q => !(q.1 == i) && !(q.1 + 1 == i && q.2.category == 2)) = lv') (k : N K rt res w (pc + 1) lv' st) : N K rt res w pc lv (.int x :: st) := by
  obtain ⟨p, l, e, R, s, m, args, below, meth, c, g, σ⟩ := K
  obtain ⟨hx, hb, hml, hown, hts, hK, hN, hSK, hg, hlk, hrt, hR, hσ, hix⟩ := F
  exact fun q hq H locs ls hP hS hl => lv_istore_n hx hb hd hi hl (by rw [hml]; exact hn) hl' (fun ls' hl2 => k q hq H locs ls' hP hS hl2)
theorem n_istore {K : Ctx} {cc : ByteArray} {nL : Nat} {own : String} {ret : Option FieldType} {fr lo : Nat} {b : Bool} {nd : List Nat} {ρ : Type} {rt : ρ → Option Value × Wd} {res : Option ρ} {w : Wd} {pc : Nat} {lv : List (Nat × Value)} {st : List Value} (F : Fx K cc nL own ret fr lo b nd) {i : Nat} {x : Int32} {lv' : List (Nat × Value)} (hd : decode cc pc = .ok (.istore i, 2)) (hn : i < nL) (hl' : (i, Value.int x) :: lv.filter (fun q => !(q.1 == i) && !(q.1 + 1 == i && q.2.category == 2)) = lv') (k : N K rt res w (pc + 2) lv' st) : N K rt res w pc lv (.int x :: st) := by
  obtain ⟨p, l, e, R, s, m, args, below, meth, c, g, σ⟩ := K
  obtain ⟨hx, hb, hml, hown, hts, hK, hN, hSK, hg, hlk, hrt, hR, hσ, hix⟩ := F
  exact fun q hq H locs ls hP hS hl => lv_istore hx hb hd hl (by rw [hml]; exact hn) hl' (fun ls' hl2 => k q hq H locs ls' hP hS hl2)
theorem n_lload_n {K : Ctx} {cc : ByteArray} {nL : Nat} {own : String} {ret : Option FieldType} {fr lo : Nat} {b : Bool} {nd : List Nat} {ρ : Type} {rt : ρ → Option Value × Wd} {res : Option ρ} {w : Wd} {pc : Nat} {lv : List (Nat × Value)} {st : List Value} (F : Fx K cc nL own ret fr lo b nd) {k0 : Fin 4} {i : Nat} {x : Int64} (hd : decode cc pc = .ok (.lload_n k0, 1)) (hi : (k0 : Nat) = i) (j : Nat) (hj : lv[j]? = some (i, .long x)) (k : N K rt res w (pc + 1) lv (.long x :: st)) : N K rt res w pc lv (st) := by
  obtain ⟨p, l, e, R, s, m, args, below, meth, c, g, σ⟩ := K
  obtain ⟨hx, hb, hml, hown, hts, hK, hN, hSK, hg, hlk, hrt, hR, hσ, hix⟩ := F
  exact fun q hq H locs ls hP hS hl => lv_lload_n hx hb hd hi (lv_at hl j hj) (k q hq H locs ls hP hS hl)
theorem n_lload {K : Ctx} {cc : ByteArray} {nL : Nat} {own : String} {ret : Option FieldType} {fr lo : Nat} {b : Bool} {nd : List Nat} {ρ : Type} {rt : ρ → Option Value × Wd} {res : Option ρ} {w : Wd} {pc : Nat} {lv : List (Nat × Value)} {st : List Value} (F : Fx K cc nL own ret fr lo b nd) {i : Nat} {x : Int64} (hd : decode cc pc = .ok (.lload i, 2)) (j : Nat) (hj : lv[j]? = some (i, .long x)) (k : N K rt res w (pc + 2) lv (.long x :: st)) : N K rt res w pc lv (st) := by
  obtain ⟨p, l, e, R, s, m, args, below, meth, c, g, σ⟩ := K
  obtain ⟨hx, hb, hml, hown, hts, hK, hN, hSK, hg, hlk, hrt, hR, hσ, hix⟩ := F
  exact fun q hq H locs ls hP hS hl => lv_lload hx hb hd (lv_at hl j hj) (k q hq H locs ls hP hS hl)
theorem n_lstore_n {K : Ctx} {cc : ByteArray} {nL : Nat} {own : String} {ret : Option FieldType} {fr lo : Nat} {b : Bool} {nd : List Nat} {ρ : Type} {rt : ρ → Option Value × Wd} {res : Option ρ} {w : Wd} {pc : Nat} {lv : List (Nat × Value)} {st : List Value} (F : Fx K cc nL own ret fr lo b nd) {k0 : Fin 4} {i : Nat} {x : Int64} {lv' : List (Nat × Value)} (hd : decode cc pc = .ok (.lstore_n k0, 1)) (hi : (k0 : Nat) = i) (hn : i + 1 < nL) (hl' : (i, Value.long x) :: lv.filter (fun q => !(q.1 == i) && (!(q.1 == i + 1) && !(q.1 + 1 == i && q.2.category == 2))) = lv') (k : N K rt res w (pc + 1) lv' st) : N K rt res w pc lv (.long x :: st) := by
  obtain ⟨p, l, e, R, s, m, args, below, meth, c, g, σ⟩ := K
  obtain ⟨hx, hb, hml, hown, hts, hK, hN, hSK, hg, hlk, hrt, hR, hσ, hix⟩ := F
  exact fun q hq H locs ls hP hS hl => lv_lstore_n hx hb hd hi hl (by rw [hml]; exact hn) hl' (fun ls' hl2 => k q hq H locs ls' hP hS hl2)
theorem n_lstore {K : Ctx} {cc : ByteArray} {nL : Nat} {own : String} {ret : Option FieldType} {fr lo : Nat} {b : Bool} {nd : List Nat} {ρ : Type} {rt : ρ → Option Value × Wd} {res : Option ρ} {w : Wd} {pc : Nat} {lv : List (Nat × Value)} {st : List Value} (F : Fx K cc nL own ret fr lo b nd) {i : Nat} {x : Int64} {lv' : List (Nat × Value)} (hd : decode cc pc = .ok (.lstore i, 2)) (hn : i + 1 < nL) (hl' : (i, Value.long x) :: lv.filter (fun q => !(q.1 == i) && (!(q.1 == i + 1) && !(q.1 + 1 == i && q.2.category == 2))) = lv') (k : N K rt res w (pc + 2) lv' st) : N K rt res w pc lv (.long x :: st) := by
  obtain ⟨p, l, e, R, s, m, args, below, meth, c, g, σ⟩ := K
  obtain ⟨hx, hb, hml, hown, hts, hK, hN, hSK, hg, hlk, hrt, hR, hσ, hix⟩ := F
  exact fun q hq H locs ls hP hS hl => lv_lstore hx hb hd hl (by rw [hml]; exact hn) hl' (fun ls' hl2 => k q hq H locs ls' hP hS hl2)
theorem n_aload_n {K : Ctx} {cc : ByteArray} {nL : Nat} {own : String} {ret : Option FieldType} {fr lo : Nat} {b : Bool} {nd : List Nat} {ρ : Type} {rt : ρ → Option Value × Wd} {res : Option ρ} {w : Wd} {pc : Nat} {lv : List (Nat × Value)} {st : List Value} (F : Fx K cc nL own ret fr lo b nd) {k0 : Fin 4} {i : Nat} {x : Nat} (hd : decode cc pc = .ok (.aload_n k0, 1)) (hi : (k0 : Nat) = i) (j : Nat) (hj : lv[j]? = some (i, .ref x)) (k : N K rt res w (pc + 1) lv (.ref x :: st)) : N K rt res w pc lv (st) := by
  obtain ⟨p, l, e, R, s, m, args, below, meth, c, g, σ⟩ := K
  obtain ⟨hx, hb, hml, hown, hts, hK, hN, hSK, hg, hlk, hrt, hR, hσ, hix⟩ := F
  exact fun q hq H locs ls hP hS hl => lv_aload_n hx hb hd hi (lv_at hl j hj) (k q hq H locs ls hP hS hl)
theorem n_aload {K : Ctx} {cc : ByteArray} {nL : Nat} {own : String} {ret : Option FieldType} {fr lo : Nat} {b : Bool} {nd : List Nat} {ρ : Type} {rt : ρ → Option Value × Wd} {res : Option ρ} {w : Wd} {pc : Nat} {lv : List (Nat × Value)} {st : List Value} (F : Fx K cc nL own ret fr lo b nd) {i : Nat} {x : Nat} (hd : decode cc pc = .ok (.aload i, 2)) (j : Nat) (hj : lv[j]? = some (i, .ref x)) (k : N K rt res w (pc + 2) lv (.ref x :: st)) : N K rt res w pc lv (st) := by
  obtain ⟨p, l, e, R, s, m, args, below, meth, c, g, σ⟩ := K
  obtain ⟨hx, hb, hml, hown, hts, hK, hN, hSK, hg, hlk, hrt, hR, hσ, hix⟩ := F
  exact fun q hq H locs ls hP hS hl => lv_aload hx hb hd (lv_at hl j hj) (k q hq H locs ls hP hS hl)
theorem n_astore_n {K : Ctx} {cc : ByteArray} {nL : Nat} {own : String} {ret : Option FieldType} {fr lo : Nat} {b : Bool} {nd : List Nat} {ρ : Type} {rt : ρ → Option Value × Wd} {res : Option ρ} {w : Wd} {pc : Nat} {lv : List (Nat × Value)} {st : List Value} (F : Fx K cc nL own ret fr lo b nd) {k0 : Fin 4} {i : Nat} {x : Nat} {lv' : List (Nat × Value)} (hd : decode cc pc = .ok (.astore_n k0, 1)) (hi : (k0 : Nat) = i) (hn : i < nL) (hl' : (i, Value.ref x) :: lv.filter (fun q => !(q.1 == i) && !(q.1 + 1 == i && q.2.category == 2)) = lv') (k : N K rt res w (pc + 1) lv' st) : N K rt res w pc lv (.ref x :: st) := by
  obtain ⟨p, l, e, R, s, m, args, below, meth, c, g, σ⟩ := K
  obtain ⟨hx, hb, hml, hown, hts, hK, hN, hSK, hg, hlk, hrt, hR, hσ, hix⟩ := F
  exact fun q hq H locs ls hP hS hl => lv_astore_n hx hb hd hi hl (by rw [hml]; exact hn) hl' (fun ls' hl2 => k q hq H locs ls' hP hS hl2)
theorem n_astore {K : Ctx} {cc : ByteArray} {nL : Nat} {own : String} {ret : Option FieldType} {fr lo : Nat} {b : Bool} {nd : List Nat} {ρ : Type} {rt : ρ → Option Value × Wd} {res : Option ρ} {w : Wd} {pc : Nat} {lv : List (Nat × Value)} {st : List Value} (F : Fx K cc nL own ret fr lo b nd) {i : Nat} {x : Nat} {lv' : List (Nat × Value)} (hd : decode cc pc = .ok (.astore i, 2)) (hn : i < nL) (hl' : (i, Value.ref x) :: lv.filter (fun q => !(q.1 == i) && !(q.1 + 1 == i && q.2.category == 2)) = lv') (k : N K rt res w (pc + 2) lv' st) : N K rt res w pc lv (.ref x :: st) := by
  obtain ⟨p, l, e, R, s, m, args, below, meth, c, g, σ⟩ := K
  obtain ⟨hx, hb, hml, hown, hts, hK, hN, hSK, hg, hlk, hrt, hR, hσ, hix⟩ := F
  exact fun q hq H locs ls hP hS hl => lv_astore hx hb hd hl (by rw [hml]; exact hn) hl' (fun ls' hl2 => k q hq H locs ls' hP hS hl2)
theorem n_iinc {K : Ctx} {cc : ByteArray} {nL : Nat} {own : String} {ret : Option FieldType} {fr lo : Nat} {b : Bool} {nd : List Nat} {ρ : Type} {rt : ρ → Option Value × Wd} {res : Option ρ} {w : Wd} {pc : Nat} {lv : List (Nat × Value)} {st : List Value} (F : Fx K cc nL own ret fr lo b nd) {i : Nat} {n : Int} {x : Int32} (v : Int32) {lv' : List (Nat × Value)} (hd : decode cc pc = .ok (.iinc i n, 3)) (j : Nat) (hj : lv[j]? = some (i, .int x)) (hv : x + Int32.ofInt n = v) (hn : i < nL) (hl' : (i, Value.int v) :: lv.filter (fun q => !(q.1 == i) && !(q.1 + 1 == i && q.2.category == 2)) = lv') (k : N K rt res w (pc + 3) lv' st) : N K rt res w pc lv st := by
  obtain ⟨p, l, e, R, s, m, args, below, meth, c, g, σ⟩ := K
  obtain ⟨hx, hb, hml, hown, hts, hK, hN, hSK, hg, hlk, hrt, hR, hσ, hix⟩ := F
  exact fun q hq H locs ls hP hS hl => lv_iinc hx hb hd hl hj hv (by rw [hml]; exact hn) hl' (fun ls' hl2 => k q hq H locs ls' hP hS hl2)
theorem n_goto {K : Ctx} {cc : ByteArray} {nL : Nat} {own : String} {ret : Option FieldType} {fr lo : Nat} {b : Bool} {nd : List Nat} {ρ : Type} {rt : ρ → Option Value × Wd} {res : Option ρ} {w : Wd} {pc : Nat} {lv : List (Nat × Value)} {st : List Value} (F : Fx K cc nL own ret fr lo b nd) {off : Int} (tgt : Nat) (hd : decode cc pc = .ok (.goto off, 3)) (ht : (pc : Int) + off = (tgt : Int)) (k : N K rt res w tgt lv st) : N K rt res w pc lv st := by
  obtain ⟨p, l, e, R, s, m, args, below, meth, c, g, σ⟩ := K
  obtain ⟨hx, hb, hml, hown, hts, hK, hN, hSK, hg, hlk, hrt, hR, hσ, hix⟩ := F
  exact fun q hq H locs ls hP hS hl => lv_goto hx hb hd ht (k q hq H locs ls hP hS hl)
theorem n_if_eq {K : Ctx} {cc : ByteArray} {nL : Nat} {own : String} {ret : Option FieldType} {fr lo : Nat} {b : Bool} {nd : List Nat} {ρ : Type} {rt : ρ → Option Value × Wd} {res : Option ρ} {w : Wd} {pc : Nat} {lv : List (Nat × Value)} {st : List Value} (F : Fx K cc nL own ret fr lo b nd) {x : Int32} {off : Int} (tgt : Nat) (hd : decode cc pc = .ok (.ifCond .eq off, 3)) (ht : (pc : Int) + off = (tgt : Int)) (kt : x = 0 → N K rt res w tgt lv st) (kf : ¬ x = 0 → N K rt res w (pc + 3) lv st) : N K rt res w pc lv (.int x :: st) := by
  obtain ⟨p, l, e, R, s, m, args, below, meth, c, g, σ⟩ := K
  obtain ⟨hx, hb, hml, hown, hts, hK, hN, hSK, hg, hlk, hrt, hR, hσ, hix⟩ := F
  exact fun q hq H locs ls hP hS hl => lv_if_eq hx hb hd ht (fun h => kt h q hq H locs ls hP hS hl) (fun h => kf h q hq H locs ls hP hS hl)
theorem n_if_ne {K : Ctx} {cc : ByteArray} {nL : Nat} {own : String} {ret : Option FieldType} {fr lo : Nat} {b : Bool} {nd : List Nat} {ρ : Type} {rt : ρ → Option Value × Wd} {res : Option ρ} {w : Wd} {pc : Nat} {lv : List (Nat × Value)} {st : List Value} (F : Fx K cc nL own ret fr lo b nd) {x : Int32} {off : Int} (tgt : Nat) (hd : decode cc pc = .ok (.ifCond .ne off, 3)) (ht : (pc : Int) + off = (tgt : Int)) (kt : ¬ x = 0 → N K rt res w tgt lv st) (kf : x = 0 → N K rt res w (pc + 3) lv st) : N K rt res w pc lv (.int x :: st) := by
  obtain ⟨p, l, e, R, s, m, args, below, meth, c, g, σ⟩ := K
  obtain ⟨hx, hb, hml, hown, hts, hK, hN, hSK, hg, hlk, hrt, hR, hσ, hix⟩ := F
  exact fun q hq H locs ls hP hS hl => lv_if_ne hx hb hd ht (fun h => kt h q hq H locs ls hP hS hl) (fun h => kf h q hq H locs ls hP hS hl)
theorem n_if_lt {K : Ctx} {cc : ByteArray} {nL : Nat} {own : String} {ret : Option FieldType} {fr lo : Nat} {b : Bool} {nd : List Nat} {ρ : Type} {rt : ρ → Option Value × Wd} {res : Option ρ} {w : Wd} {pc : Nat} {lv : List (Nat × Value)} {st : List Value} (F : Fx K cc nL own ret fr lo b nd) {x : Int32} {off : Int} (tgt : Nat) (hd : decode cc pc = .ok (.ifCond .lt off, 3)) (ht : (pc : Int) + off = (tgt : Int)) (kt : x < 0 → N K rt res w tgt lv st) (kf : ¬ x < 0 → N K rt res w (pc + 3) lv st) : N K rt res w pc lv (.int x :: st) := by
  obtain ⟨p, l, e, R, s, m, args, below, meth, c, g, σ⟩ := K
  obtain ⟨hx, hb, hml, hown, hts, hK, hN, hSK, hg, hlk, hrt, hR, hσ, hix⟩ := F
  exact fun q hq H locs ls hP hS hl => lv_if_lt hx hb hd ht (fun h => kt h q hq H locs ls hP hS hl) (fun h => kf h q hq H locs ls hP hS hl)
theorem n_if_ge {K : Ctx} {cc : ByteArray} {nL : Nat} {own : String} {ret : Option FieldType} {fr lo : Nat} {b : Bool} {nd : List Nat} {ρ : Type} {rt : ρ → Option Value × Wd} {res : Option ρ} {w : Wd} {pc : Nat} {lv : List (Nat × Value)} {st : List Value} (F : Fx K cc nL own ret fr lo b nd) {x : Int32} {off : Int} (tgt : Nat) (hd : decode cc pc = .ok (.ifCond .ge off, 3)) (ht : (pc : Int) + off = (tgt : Int)) (kt : 0 ≤ x → N K rt res w tgt lv st) (kf : ¬ 0 ≤ x → N K rt res w (pc + 3) lv st) : N K rt res w pc lv (.int x :: st) := by
  obtain ⟨p, l, e, R, s, m, args, below, meth, c, g, σ⟩ := K
  obtain ⟨hx, hb, hml, hown, hts, hK, hN, hSK, hg, hlk, hrt, hR, hσ, hix⟩ := F
  exact fun q hq H locs ls hP hS hl => lv_if_ge hx hb hd ht (fun h => kt h q hq H locs ls hP hS hl) (fun h => kf h q hq H locs ls hP hS hl)
theorem n_if_gt {K : Ctx} {cc : ByteArray} {nL : Nat} {own : String} {ret : Option FieldType} {fr lo : Nat} {b : Bool} {nd : List Nat} {ρ : Type} {rt : ρ → Option Value × Wd} {res : Option ρ} {w : Wd} {pc : Nat} {lv : List (Nat × Value)} {st : List Value} (F : Fx K cc nL own ret fr lo b nd) {x : Int32} {off : Int} (tgt : Nat) (hd : decode cc pc = .ok (.ifCond .gt off, 3)) (ht : (pc : Int) + off = (tgt : Int)) (kt : 0 < x → N K rt res w tgt lv st) (kf : ¬ 0 < x → N K rt res w (pc + 3) lv st) : N K rt res w pc lv (.int x :: st) := by
  obtain ⟨p, l, e, R, s, m, args, below, meth, c, g, σ⟩ := K
  obtain ⟨hx, hb, hml, hown, hts, hK, hN, hSK, hg, hlk, hrt, hR, hσ, hix⟩ := F
  exact fun q hq H locs ls hP hS hl => lv_if_gt hx hb hd ht (fun h => kt h q hq H locs ls hP hS hl) (fun h => kf h q hq H locs ls hP hS hl)
theorem n_if_le {K : Ctx} {cc : ByteArray} {nL : Nat} {own : String} {ret : Option FieldType} {fr lo : Nat} {b : Bool} {nd : List Nat} {ρ : Type} {rt : ρ → Option Value × Wd} {res : Option ρ} {w : Wd} {pc : Nat} {lv : List (Nat × Value)} {st : List Value} (F : Fx K cc nL own ret fr lo b nd) {x : Int32} {off : Int} (tgt : Nat) (hd : decode cc pc = .ok (.ifCond .le off, 3)) (ht : (pc : Int) + off = (tgt : Int)) (kt : x ≤ 0 → N K rt res w tgt lv st) (kf : ¬ x ≤ 0 → N K rt res w (pc + 3) lv st) : N K rt res w pc lv (.int x :: st) := by
  obtain ⟨p, l, e, R, s, m, args, below, meth, c, g, σ⟩ := K
  obtain ⟨hx, hb, hml, hown, hts, hK, hN, hSK, hg, hlk, hrt, hR, hσ, hix⟩ := F
  exact fun q hq H locs ls hP hS hl => lv_if_le hx hb hd ht (fun h => kt h q hq H locs ls hP hS hl) (fun h => kf h q hq H locs ls hP hS hl)
theorem n_icmp_eq {K : Ctx} {cc : ByteArray} {nL : Nat} {own : String} {ret : Option FieldType} {fr lo : Nat} {b : Bool} {nd : List Nat} {ρ : Type} {rt : ρ → Option Value × Wd} {res : Option ρ} {w : Wd} {pc : Nat} {lv : List (Nat × Value)} {st : List Value} (F : Fx K cc nL own ret fr lo b nd) {x y : Int32} {off : Int} (tgt : Nat) (hd : decode cc pc = .ok (.if_icmp .eq off, 3)) (ht : (pc : Int) + off = (tgt : Int)) (kt : x = y → N K rt res w tgt lv st) (kf : ¬ x = y → N K rt res w (pc + 3) lv st) : N K rt res w pc lv (.int y :: .int x :: st) := by
  obtain ⟨p, l, e, R, s, m, args, below, meth, c, g, σ⟩ := K
  obtain ⟨hx, hb, hml, hown, hts, hK, hN, hSK, hg, hlk, hrt, hR, hσ, hix⟩ := F
  exact fun q hq H locs ls hP hS hl => lv_icmp_eq hx hb hd ht (fun h => kt h q hq H locs ls hP hS hl) (fun h => kf h q hq H locs ls hP hS hl)
theorem n_icmp_ne {K : Ctx} {cc : ByteArray} {nL : Nat} {own : String} {ret : Option FieldType} {fr lo : Nat} {b : Bool} {nd : List Nat} {ρ : Type} {rt : ρ → Option Value × Wd} {res : Option ρ} {w : Wd} {pc : Nat} {lv : List (Nat × Value)} {st : List Value} (F : Fx K cc nL own ret fr lo b nd) {x y : Int32} {off : Int} (tgt : Nat) (hd : decode cc pc = .ok (.if_icmp .ne off, 3)) (ht : (pc : Int) + off = (tgt : Int)) (kt : ¬ x = y → N K rt res w tgt lv st) (kf : x = y → N K rt res w (pc + 3) lv st) : N K rt res w pc lv (.int y :: .int x :: st) := by
  obtain ⟨p, l, e, R, s, m, args, below, meth, c, g, σ⟩ := K
  obtain ⟨hx, hb, hml, hown, hts, hK, hN, hSK, hg, hlk, hrt, hR, hσ, hix⟩ := F
  exact fun q hq H locs ls hP hS hl => lv_icmp_ne hx hb hd ht (fun h => kt h q hq H locs ls hP hS hl) (fun h => kf h q hq H locs ls hP hS hl)
theorem n_icmp_lt {K : Ctx} {cc : ByteArray} {nL : Nat} {own : String} {ret : Option FieldType} {fr lo : Nat} {b : Bool} {nd : List Nat} {ρ : Type} {rt : ρ → Option Value × Wd} {res : Option ρ} {w : Wd} {pc : Nat} {lv : List (Nat × Value)} {st : List Value} (F : Fx K cc nL own ret fr lo b nd) {x y : Int32} {off : Int} (tgt : Nat) (hd : decode cc pc = .ok (.if_icmp .lt off, 3)) (ht : (pc : Int) + off = (tgt : Int)) (kt : x < y → N K rt res w tgt lv st) (kf : ¬ x < y → N K rt res w (pc + 3) lv st) : N K rt res w pc lv (.int y :: .int x :: st) := by
  obtain ⟨p, l, e, R, s, m, args, below, meth, c, g, σ⟩ := K
  obtain ⟨hx, hb, hml, hown, hts, hK, hN, hSK, hg, hlk, hrt, hR, hσ, hix⟩ := F
  exact fun q hq H locs ls hP hS hl => lv_icmp_lt hx hb hd ht (fun h => kt h q hq H locs ls hP hS hl) (fun h => kf h q hq H locs ls hP hS hl)
theorem n_icmp_ge {K : Ctx} {cc : ByteArray} {nL : Nat} {own : String} {ret : Option FieldType} {fr lo : Nat} {b : Bool} {nd : List Nat} {ρ : Type} {rt : ρ → Option Value × Wd} {res : Option ρ} {w : Wd} {pc : Nat} {lv : List (Nat × Value)} {st : List Value} (F : Fx K cc nL own ret fr lo b nd) {x y : Int32} {off : Int} (tgt : Nat) (hd : decode cc pc = .ok (.if_icmp .ge off, 3)) (ht : (pc : Int) + off = (tgt : Int)) (kt : y ≤ x → N K rt res w tgt lv st) (kf : ¬ y ≤ x → N K rt res w (pc + 3) lv st) : N K rt res w pc lv (.int y :: .int x :: st) := by
  obtain ⟨p, l, e, R, s, m, args, below, meth, c, g, σ⟩ := K
  obtain ⟨hx, hb, hml, hown, hts, hK, hN, hSK, hg, hlk, hrt, hR, hσ, hix⟩ := F
  exact fun q hq H locs ls hP hS hl => lv_icmp_ge hx hb hd ht (fun h => kt h q hq H locs ls hP hS hl) (fun h => kf h q hq H locs ls hP hS hl)
theorem n_icmp_gt {K : Ctx} {cc : ByteArray} {nL : Nat} {own : String} {ret : Option FieldType} {fr lo : Nat} {b : Bool} {nd : List Nat} {ρ : Type} {rt : ρ → Option Value × Wd} {res : Option ρ} {w : Wd} {pc : Nat} {lv : List (Nat × Value)} {st : List Value} (F : Fx K cc nL own ret fr lo b nd) {x y : Int32} {off : Int} (tgt : Nat) (hd : decode cc pc = .ok (.if_icmp .gt off, 3)) (ht : (pc : Int) + off = (tgt : Int)) (kt : y < x → N K rt res w tgt lv st) (kf : ¬ y < x → N K rt res w (pc + 3) lv st) : N K rt res w pc lv (.int y :: .int x :: st) := by
  obtain ⟨p, l, e, R, s, m, args, below, meth, c, g, σ⟩ := K
  obtain ⟨hx, hb, hml, hown, hts, hK, hN, hSK, hg, hlk, hrt, hR, hσ, hix⟩ := F
  exact fun q hq H locs ls hP hS hl => lv_icmp_gt hx hb hd ht (fun h => kt h q hq H locs ls hP hS hl) (fun h => kf h q hq H locs ls hP hS hl)
theorem n_icmp_le {K : Ctx} {cc : ByteArray} {nL : Nat} {own : String} {ret : Option FieldType} {fr lo : Nat} {b : Bool} {nd : List Nat} {ρ : Type} {rt : ρ → Option Value × Wd} {res : Option ρ} {w : Wd} {pc : Nat} {lv : List (Nat × Value)} {st : List Value} (F : Fx K cc nL own ret fr lo b nd) {x y : Int32} {off : Int} (tgt : Nat) (hd : decode cc pc = .ok (.if_icmp .le off, 3)) (ht : (pc : Int) + off = (tgt : Int)) (kt : x ≤ y → N K rt res w tgt lv st) (kf : ¬ x ≤ y → N K rt res w (pc + 3) lv st) : N K rt res w pc lv (.int y :: .int x :: st) := by
  obtain ⟨p, l, e, R, s, m, args, below, meth, c, g, σ⟩ := K
  obtain ⟨hx, hb, hml, hown, hts, hK, hN, hSK, hg, hlk, hrt, hR, hσ, hix⟩ := F
  exact fun q hq H locs ls hP hS hl => lv_icmp_le hx hb hd ht (fun h => kt h q hq H locs ls hP hS hl) (fun h => kf h q hq H locs ls hP hS hl)
theorem n_tabIn {K : Ctx} {cc : ByteArray} {nL : Nat} {own : String} {ret : Option FieldType} {fr lo : Nat} {b : Bool} {nd : List Nat} {ρ : Type} {rt : ρ → Option Value × Wd} {res : Option ρ} {w : Wd} {pc : Nat} {lv : List (Nat × Value)} {st : List Value} (F : Fx K cc nL own ret fr lo b nd) {dflt lo0 hi0 : Int} {offs : Array Int} {len : Nat} {x : Int32} {off : Int} (v : Int32) (tgt : Nat) (hd : decode cc pc = .ok (.tableswitch dflt lo0 hi0 offs, len)) (hv : x = v) (h1 : ¬ v.toInt < lo0) (h2 : ¬ hi0 < v.toInt) (ho : offs[(v.toInt - lo0).toNat]? = some off) (ht : (pc : Int) + off = (tgt : Int)) (k : N K rt res w tgt lv st) : N K rt res w pc lv (.int x :: st) := by
  obtain ⟨p, l, e, R, s, m, args, below, meth, c, g, σ⟩ := K
  obtain ⟨hx, hb, hml, hown, hts, hK, hN, hSK, hg, hlk, hrt, hR, hσ, hix⟩ := F
  subst hv
  exact fun q hq H locs ls hP hS hl => lv_tableIn hx hb hd h1 h2 ho ht (k q hq H locs ls hP hS hl)
theorem n_tabOut {K : Ctx} {cc : ByteArray} {nL : Nat} {own : String} {ret : Option FieldType} {fr lo : Nat} {b : Bool} {nd : List Nat} {ρ : Type} {rt : ρ → Option Value × Wd} {res : Option ρ} {w : Wd} {pc : Nat} {lv : List (Nat × Value)} {st : List Value} (F : Fx K cc nL own ret fr lo b nd) {dflt lo0 hi0 : Int} {offs : Array Int} {len : Nat} {x : Int32} (tgt : Nat) (hd : decode cc pc = .ok (.tableswitch dflt lo0 hi0 offs, len)) (h : x.toInt < lo0 ∨ hi0 < x.toInt) (ht : (pc : Int) + dflt = (tgt : Int)) (k : N K rt res w tgt lv st) : N K rt res w pc lv (.int x :: st) := by
  obtain ⟨p, l, e, R, s, m, args, below, meth, c, g, σ⟩ := K
  obtain ⟨hx, hb, hml, hown, hts, hK, hN, hSK, hg, hlk, hrt, hR, hσ, hix⟩ := F
  exact fun q hq H locs ls hP hS hl => lv_tableOut hx hb hd h ht (k q hq H locs ls hP hS hl)
theorem n_look {K : Ctx} {cc : ByteArray} {nL : Nat} {own : String} {ret : Option FieldType} {fr lo : Nat} {b : Bool} {nd : List Nat} {ρ : Type} {rt : ρ → Option Value × Wd} {res : Option ρ} {w : Wd} {pc : Nat} {lv : List (Nat × Value)} {st : List Value} (F : Fx K cc nL own ret fr lo b nd) {dflt : Int} {ps : Array (Int × Int)} {len : Nat} {x : Int32} {off : Int} (tgt : Nat) (hd : decode cc pc = .ok (.lookupswitch dflt ps, len)) (hp : (ps.toList.zip (ps.toList.drop 1)).all (fun (a, next) => a.1 < next.1) = true) (ho : Op.lookupswitch.offset ps.toList dflt x.toInt = off) (ht : (pc : Int) + off = (tgt : Int)) (k : N K rt res w tgt lv st) : N K rt res w pc lv (.int x :: st) := by
  obtain ⟨p, l, e, R, s, m, args, below, meth, c, g, σ⟩ := K
  obtain ⟨hx, hb, hml, hown, hts, hK, hN, hSK, hg, hlk, hrt, hR, hσ, hix⟩ := F
  exact fun q hq H locs ls hP hS hl => lv_lookup hx hb hd hp ho ht (k q hq H locs ls hP hS hl)
theorem n_ldc {K : Ctx} {cc : ByteArray} {nL : Nat} {own : String} {ret : Option FieldType} {fr lo : Nat} {b : Bool} {nd : List Nat} {ρ : Type} {rt : ρ → Option Value × Wd} {res : Option ρ} {w : Wd} {pc : Nat} {lv : List (Nat × Value)} {st : List Value} (F : Fx K cc nL own ret fr lo b nd) {index : Nat} (v : Int32) (hd : decode cc pc = .ok (.ldc index, 2)) (hc : Cond.constant own index v ∈ TB) (k : N K rt res w (pc + 2) lv (.int v :: st)) : N K rt res w pc lv st := by
  obtain ⟨p, l, e, R, s, m, args, below, meth, c, g, σ⟩ := K
  obtain ⟨hx, hb, hml, hown, hts, hK, hN, hSK, hg, hlk, hrt, hR, hσ, hix⟩ := F
  exact fun q hq H locs ls hP hS hl => lv_ldc hx hb hown (hts _ hc) hd (k q hq H locs ls hP hS hl)
theorem n_ldc2 {K : Ctx} {cc : ByteArray} {nL : Nat} {own : String} {ret : Option FieldType} {fr lo : Nat} {b : Bool} {nd : List Nat} {ρ : Type} {rt : ρ → Option Value × Wd} {res : Option ρ} {w : Wd} {pc : Nat} {lv : List (Nat × Value)} {st : List Value} (F : Fx K cc nL own ret fr lo b nd) {index : Nat} (v : Int64) (hd : decode cc pc = .ok (.ldc2_w index, 3)) (hc : Cond.constantLong own index v ∈ TB) (k : N K rt res w (pc + 3) lv (.long v :: st)) : N K rt res w pc lv st := by
  obtain ⟨p, l, e, R, s, m, args, below, meth, c, g, σ⟩ := K
  obtain ⟨hx, hb, hml, hown, hts, hK, hN, hSK, hg, hlk, hrt, hR, hσ, hix⟩ := F
  exact fun q hq H locs ls hP hS hl => lv_ldc2 hx hb hown (hts _ hc) hd (k q hq H locs ls hP hS hl)
abbrev cg (K : Ctx) : GG := K.2.2.2.2.2.2.2.2.2.2.1
theorem n_none {K : Ctx} {ρ : Type} {rt : ρ → Option Value × Wd} {w : Wd} {pc : Nat} {lv : List (Nat × Value)} {st : List Value} : N K rt none w pc lv st := by
  obtain ⟨p, l, e, R, s, m, args, below, meth, c, g, σ⟩ := K
  exact fun q hq => by cases hq
theorem n_chk {K : Ctx} {ρ : Type} {rt : ρ → Option Value × Wd} {res : Option ρ} {w : Wd} {pc : Nat} {lv : List (Nat × Value)} {st : List Value} {P : Prop} [Decidable P] (k : P → N K rt res w pc lv st) : N K rt (if P then res else none) w pc lv st := by
  by_cases h : P
  · rw [if_pos h]; exact k h
  · rw [if_neg h]; exact n_none
theorem n_sub {K : Ctx} {ρ : Type} {rt : ρ → Option Value × Wd} {res : Option ρ} {w : Wd} {pc : Nat} {lv lv' : List (Nat × Value)} {st : List Value} (ks : List Nat) (hl' : lv_pick lv ks = lv') (k : N K rt res w pc lv' st) : N K rt res w pc lv st := by
  obtain ⟨p, l, e, R, s, m, args, below, meth, c, g, σ⟩ := K
  exact fun q hq H locs ls hP hS hl => k q hq H locs ls hP hS (lv_sub hl ks hl')
theorem n_zret {K : Ctx} {cc : ByteArray} {nL : Nat} {own : String} {ret : Option FieldType} {fr lo : Nat} {b : Bool} {nd : List Nat} {ρ : Type} {rt : ρ → Option Value × Wd} {w : Wd} {pc : Nat} {lv : List (Nat × Value)} (F : Fx K cc nL own ret fr lo b nd) {q : ρ} {v : Int32} (ty : FieldType) (hret : ret = some ty) (hn : narrow ty (.int v) = .int v) (hq : rt q = (some (.int v), w)) (hd : decode cc pc = .ok (.ireturn, 1)) : N K rt (some q) w pc lv [.int v] := by
  obtain ⟨p, l, e, R, s, m, args, below, meth, c, g, σ⟩ := K
  obtain ⟨hx, hb, hml, hown, hts, hK, hN, hSK, hg, hlk, hrt, hR, hσ, hix⟩ := F
  subst hret
  intro q' hq' H locs ls hP hS hl
  cases hq'
  rw [hq]
  exact W.zret hx hb hrt hn (fun t ht hW => ⟨rfl, by rw [ht]; exact hP, hS.F ht⟩) hS.2.2 hd hlk
theorem n_iret {K : Ctx} {cc : ByteArray} {nL : Nat} {own : String} {ret : Option FieldType} {fr lo : Nat} {b : Bool} {nd : List Nat} {ρ : Type} {rt : ρ → Option Value × Wd} {w : Wd} {pc : Nat} {lv : List (Nat × Value)} (F : Fx K cc nL own ret fr lo b nd) {q : ρ} {v : Int32} (hret : ret = some .int) (hq : rt q = (some (.int v), w)) (hd : decode cc pc = .ok (.ireturn, 1)) : N K rt (some q) w pc lv [.int v] := n_zret F .int hret rfl hq hd
theorem n_lret {K : Ctx} {cc : ByteArray} {nL : Nat} {own : String} {ret : Option FieldType} {fr lo : Nat} {b : Bool} {nd : List Nat} {ρ : Type} {rt : ρ → Option Value × Wd} {w : Wd} {pc : Nat} {lv : List (Nat × Value)} (F : Fx K cc nL own ret fr lo b nd) {q : ρ} {v : Int64} (hret : ret = some .long) (hq : rt q = (some (.long v), w)) (hd : decode cc pc = .ok (.lreturn, 1)) : N K rt (some q) w pc lv [.long v] := by
  obtain ⟨p, l, e, R, s, m, args, below, meth, c, g, σ⟩ := K
  obtain ⟨hx, hb, hml, hown, hts, hK, hN, hSK, hg, hlk, hrt, hR, hσ, hix⟩ := F
  subst hret
  intro q' hq' H locs ls hP hS hl
  cases hq'
  rw [hq]
  exact W.lret hx hb hrt (fun t ht hW => ⟨rfl, by rw [ht]; exact hP, hS.F ht⟩) hS.2.2 hd hlk
theorem n_vret {K : Ctx} {cc : ByteArray} {nL : Nat} {own : String} {ret : Option FieldType} {fr lo : Nat} {b : Bool} {nd : List Nat} {ρ : Type} {rt : ρ → Option Value × Wd} {w : Wd} {pc : Nat} {lv : List (Nat × Value)} (F : Fx K cc nL own ret fr lo b nd) {q : ρ} (hret : ret = none) (hq : rt q = (none, w)) (hd : decode cc pc = .ok (.return_, 1)) : N K rt (some q) w pc lv [] := by
  obtain ⟨p, l, e, R, s, m, args, below, meth, c, g, σ⟩ := K
  obtain ⟨hx, hb, hml, hown, hts, hK, hN, hSK, hg, hlk, hrt, hR, hσ, hix⟩ := F
  subst hret
  intro q' hq' H locs ls hP hS hl
  cases hq'
  rw [hq]
  exact W.vret hx hb hrt (fun t ht hW => ⟨rfl, by rw [ht]; exact hP, hS.F ht⟩) hS.2.2 hd hlk
theorem n_aret {K : Ctx} {cc : ByteArray} {nL : Nat} {own : String} {ret : Option FieldType} {fr lo : Nat} {b : Bool} {nd : List Nat} {ρ : Type} {rt : ρ → Option Value × Wd} {w : Wd} {pc : Nat} {lv : List (Nat × Value)} (F : Fx K cc nL own ret fr lo b nd) {q : ρ} {a : Nat} {cn : String} (hret : ret = some (.object cn)) (hq : rt q = (some (.ref a), w)) (hd : decode cc pc = .ok (.areturn, 1)) : N K rt (some q) w pc lv [.ref a] := by
  obtain ⟨p, l, e, R, s, m, args, below, meth, c, g, σ⟩ := K
  obtain ⟨hx, hb, hml, hown, hts, hK, hN, hSK, hg, hlk, hrt, hR, hσ, hix⟩ := F
  subst hret
  intro q' hq' H locs ls hP hS hl
  cases hq'
  rw [hq]
  exact W.aret hx hb hrt (Or.inl ⟨_, rfl⟩) (Or.inr ⟨_, rfl⟩) (fun t ht hW => ⟨rfl, by rw [ht]; exact hP, hS.F ht⟩) hS.2.2 hd hlk
def ArrI (b : Bool) (a n : Nat) : Prop := True ∧ decide (a < 37) = b ∧ ∀ (g : GG) (w : Wd), cellE g w a = .inl (g.2.1.1, n, .inl (w.1 a))
theorem n_iald {K : Ctx} {cc : ByteArray} {nL : Nat} {own : String} {ret : Option FieldType} {fr lo : Nat} {b : Bool} {nd : List Nat} {ρ : Type} {rt : ρ → Option Value × Wd} {res : Option ρ} {w : Wd} {pc : Nat} {lv : List (Nat × Value)} {st : List Value} (F : Fx K cc nL own ret fr lo b nd) {a n : Nat} (A : ArrI b a n) (hm : a ∈ nd) {i : Int32} (hin : vp_in i n) {j : Nat} (hj : i.toNatClampNeg = j) (hd : decode cc pc = .ok (.iaload, 1)) (k : N K rt res w (pc + 1) lv (.int (w.1 a j) :: st)) : N K rt res w pc lv (.int i :: .ref (gA (cg K) a) :: st) := by
  obtain ⟨p, l, e, R, s, m, args, below, meth, c, g, σ⟩ := K
  obtain ⟨hx, hb, hml, hown, hts, hK, hN, hSK, hg, hlk, hrt, hR, hσ, hix⟩ := F
  subst hj
  subst hσ
  obtain ⟨q0, e0, eS⟩ := EE_get (w := w) hg (hix _ hm) A.2.1
  rw [A.2.2 g w] at e0
  exact fun q hq H locs ls hP hS hl => va_iald hx hb hK hP q0 0 e0 rfl hin hd (k q hq H locs ls hP hS hl)
theorem n_iast {K : Ctx} {cc : ByteArray} {nL : Nat} {own : String} {ret : Option FieldType} {fr lo : Nat} {b : Bool} {nd : List Nat} {ρ : Type} {rt : ρ → Option Value × Wd} {res : Option ρ} {w : Wd} {pc : Nat} {lv : List (Nat × Value)} {st : List Value} (F : Fx K cc nL own ret fr lo b nd) {a n : Nat} (A : ArrI b a n) (hm : a ∈ nd) {i x : Int32} (hin : vp_in i n) {j : Nat} (hj : i.toNatClampNeg = j) (hd : decode cc pc = .ok (.iastore, 1)) (k : N K rt res (sI w a j x) (pc + 1) lv st) : N K rt res w pc lv (.int x :: .int i :: .ref (gA (cg K) a) :: st) := by
  obtain ⟨p, l, e, R, s, m, args, below, meth, c, g, σ⟩ := K
  obtain ⟨hx, hb, hml, hown, hts, hK, hN, hSK, hg, hlk, hrt, hR, hσ, hix⟩ := F
  subst hj
  subst hσ
  have e1 : cellE g (sI w a i.toNatClampNeg x) a = .inl (g.2.1.1, n, .inl (upd (w.1 a) i.toNatClampNeg x)) := by
    rw [A.2.2 g _]
    simp [sI]
  obtain ⟨q0, e0, eS⟩ := EE_get (w := w) hg (hix _ hm) A.2.1
  rw [A.2.2 g w] at e0
  exact fun q hq H locs ls hP hS hl => va_iast hx hb hK hP (EE_D hg) hS q0 0 e0 rfl hin hd (fun H1 locs1 hP1 _ hS1 => k q hq H1 locs1 ls (by rw [← e1, eS _ (fun q h => cellE_sI h)] at hP1; exact hP1) hS1 hl)
def ArrC (b : Bool) (a n : Nat) : Prop := True ∧ decide (a < 37) = b ∧ ∀ (g : GG) (w : Wd), cellE g w a = .inl (g.2.1.2.1, n, .inl (w.1 a))
theorem n_cald {K : Ctx} {cc : ByteArray} {nL : Nat} {own : String} {ret : Option FieldType} {fr lo : Nat} {b : Bool} {nd : List Nat} {ρ : Type} {rt : ρ → Option Value × Wd} {res : Option ρ} {w : Wd} {pc : Nat} {lv : List (Nat × Value)} {st : List Value} (F : Fx K cc nL own ret fr lo b nd) {a n : Nat} (A : ArrC b a n) (hm : a ∈ nd) {i : Int32} (hin : vp_in i n) {j : Nat} (hj : i.toNatClampNeg = j) (hd : decode cc pc = .ok (.caload, 1)) (k : N K rt res w (pc + 1) lv (.int (w.1 a j) :: st)) : N K rt res w pc lv (.int i :: .ref (gA (cg K) a) :: st) := by
  obtain ⟨p, l, e, R, s, m, args, below, meth, c, g, σ⟩ := K
  obtain ⟨hx, hb, hml, hown, hts, hK, hN, hSK, hg, hlk, hrt, hR, hσ, hix⟩ := F
  subst hj
  subst hσ
  obtain ⟨q0, e0, eS⟩ := EE_get (w := w) hg (hix _ hm) A.2.1
  rw [A.2.2 g w] at e0
  exact fun q hq H locs ls hP hS hl => va_cald hx hb hK hP q0 1 e0 rfl hin hd (k q hq H locs ls hP hS hl)
theorem n_cast {K : Ctx} {cc : ByteArray} {nL : Nat} {own : String} {ret : Option FieldType} {fr lo : Nat} {b : Bool} {nd : List Nat} {ρ : Type} {rt : ρ → Option Value × Wd} {res : Option ρ} {w : Wd} {pc : Nat} {lv : List (Nat × Value)} {st : List Value} (F : Fx K cc nL own ret fr lo b nd) {a n : Nat} (A : ArrC b a n) (hm : a ∈ nd) {i x : Int32} (hin : vp_in i n) {j : Nat} (hj : i.toNatClampNeg = j) (hd : decode cc pc = .ok (.castore, 1)) (k : N K rt res (sI w a j (vp_nar .char x)) (pc + 1) lv st) : N K rt res w pc lv (.int x :: .int i :: .ref (gA (cg K) a) :: st) := by
  obtain ⟨p, l, e, R, s, m, args, below, meth, c, g, σ⟩ := K
  obtain ⟨hx, hb, hml, hown, hts, hK, hN, hSK, hg, hlk, hrt, hR, hσ, hix⟩ := F
  subst hj
  subst hσ
  have e1 : cellE g (sI w a i.toNatClampNeg (vp_nar .char x)) a = .inl (g.2.1.2.1, n, .inl (upd (w.1 a) i.toNatClampNeg (vp_nar .char x))) := by
    rw [A.2.2 g _]
    simp [sI]
  obtain ⟨q0, e0, eS⟩ := EE_get (w := w) hg (hix _ hm) A.2.1
  rw [A.2.2 g w] at e0
  exact fun q hq H locs ls hP hS hl => va_cast hx hb hK hP (EE_D hg) hS q0 1 e0 rfl hin hd (fun H1 locs1 hP1 _ hS1 => k q hq H1 locs1 ls (by rw [← e1, eS _ (fun q h => cellE_sI h)] at hP1; exact hP1) hS1 hl)
def ArrZ (b : Bool) (a n : Nat) : Prop := True ∧ decide (a < 37) = b ∧ ∀ (g : GG) (w : Wd), cellE g w a = .inl (g.2.1.2.2.2, n, .inl (w.1 a))
theorem n_zald {K : Ctx} {cc : ByteArray} {nL : Nat} {own : String} {ret : Option FieldType} {fr lo : Nat} {b : Bool} {nd : List Nat} {ρ : Type} {rt : ρ → Option Value × Wd} {res : Option ρ} {w : Wd} {pc : Nat} {lv : List (Nat × Value)} {st : List Value} (F : Fx K cc nL own ret fr lo b nd) {a n : Nat} (A : ArrZ b a n) (hm : a ∈ nd) {i : Int32} (hin : vp_in i n) {j : Nat} (hj : i.toNatClampNeg = j) (hd : decode cc pc = .ok (.baload, 1)) (k : N K rt res w (pc + 1) lv (.int (w.1 a j) :: st)) : N K rt res w pc lv (.int i :: .ref (gA (cg K) a) :: st) := by
  obtain ⟨p, l, e, R, s, m, args, below, meth, c, g, σ⟩ := K
  obtain ⟨hx, hb, hml, hown, hts, hK, hN, hSK, hg, hlk, hrt, hR, hσ, hix⟩ := F
  subst hj
  subst hσ
  obtain ⟨q0, e0, eS⟩ := EE_get (w := w) hg (hix _ hm) A.2.1
  rw [A.2.2 g w] at e0
  exact fun q hq H locs ls hP hS hl => va_zald hx hb hK hP q0 3 e0 rfl hin hd (k q hq H locs ls hP hS hl)
theorem n_zast {K : Ctx} {cc : ByteArray} {nL : Nat} {own : String} {ret : Option FieldType} {fr lo : Nat} {b : Bool} {nd : List Nat} {ρ : Type} {rt : ρ → Option Value × Wd} {res : Option ρ} {w : Wd} {pc : Nat} {lv : List (Nat × Value)} {st : List Value} (F : Fx K cc nL own ret fr lo b nd) {a n : Nat} (A : ArrZ b a n) (hm : a ∈ nd) {i x : Int32} (hin : vp_in i n) {j : Nat} (hj : i.toNatClampNeg = j) (hd : decode cc pc = .ok (.bastore, 1)) (k : N K rt res (sI w a j (vp_nar .boolean x)) (pc + 1) lv st) : N K rt res w pc lv (.int x :: .int i :: .ref (gA (cg K) a) :: st) := by
  obtain ⟨p, l, e, R, s, m, args, below, meth, c, g, σ⟩ := K
  obtain ⟨hx, hb, hml, hown, hts, hK, hN, hSK, hg, hlk, hrt, hR, hσ, hix⟩ := F
  subst hj
  subst hσ
  have e1 : cellE g (sI w a i.toNatClampNeg (vp_nar .boolean x)) a = .inl (g.2.1.2.2.2, n, .inl (upd (w.1 a) i.toNatClampNeg (vp_nar .boolean x))) := by
    rw [A.2.2 g _]
    simp [sI]
  obtain ⟨q0, e0, eS⟩ := EE_get (w := w) hg (hix _ hm) A.2.1
  rw [A.2.2 g w] at e0
  exact fun q hq H locs ls hP hS hl => va_zast hx hb hK hP (EE_D hg) hS q0 3 e0 rfl hin hd (fun H1 locs1 hP1 _ hS1 => k q hq H1 locs1 ls (by rw [← e1, eS _ (fun q h => cellE_sI h)] at hP1; exact hP1) hS1 hl)
def ArrJ (b : Bool) (a n : Nat) : Prop := True ∧ decide (a < 37) = b ∧ ∀ (g : GG) (w : Wd), cellE g w a = .inl (g.2.1.2.2.1, n, .inr (.inl (w.2 a)))
theorem n_lald {K : Ctx} {cc : ByteArray} {nL : Nat} {own : String} {ret : Option FieldType} {fr lo : Nat} {b : Bool} {nd : List Nat} {ρ : Type} {rt : ρ → Option Value × Wd} {res : Option ρ} {w : Wd} {pc : Nat} {lv : List (Nat × Value)} {st : List Value} (F : Fx K cc nL own ret fr lo b nd) {a n : Nat} (A : ArrJ b a n) (hm : a ∈ nd) {i : Int32} (hin : vp_in i n) {j : Nat} (hj : i.toNatClampNeg = j) (hd : decode cc pc = .ok (.laload, 1)) (k : N K rt res w (pc + 1) lv (.long (w.2 a j) :: st)) : N K rt res w pc lv (.int i :: .ref (gA (cg K) a) :: st) := by
  obtain ⟨p, l, e, R, s, m, args, below, meth, c, g, σ⟩ := K
  obtain ⟨hx, hb, hml, hown, hts, hK, hN, hSK, hg, hlk, hrt, hR, hσ, hix⟩ := F
  subst hj
  subst hσ
  obtain ⟨q0, e0, eS⟩ := EE_get (w := w) hg (hix _ hm) A.2.1
  rw [A.2.2 g w] at e0
  exact fun q hq H locs ls hP hS hl => va_lald hx hb hK hP q0 2 e0 rfl hin hd (k q hq H locs ls hP hS hl)
theorem n_last {K : Ctx} {cc : ByteArray} {nL : Nat} {own : String} {ret : Option FieldType} {fr lo : Nat} {b : Bool} {nd : List Nat} {ρ : Type} {rt : ρ → Option Value × Wd} {res : Option ρ} {w : Wd} {pc : Nat} {lv : List (Nat × Value)} {st : List Value} (F : Fx K cc nL own ret fr lo b nd) {a n : Nat} (A : ArrJ b a n) (hm : a ∈ nd) {i : Int32} {x : Int64} (hin : vp_in i n) {j : Nat} (hj : i.toNatClampNeg = j) (hd : decode cc pc = .ok (.lastore, 1)) (k : N K rt res (sJ w a j x) (pc + 1) lv st) : N K rt res w pc lv (.long x :: .int i :: .ref (gA (cg K) a) :: st) := by
  obtain ⟨p, l, e, R, s, m, args, below, meth, c, g, σ⟩ := K
  obtain ⟨hx, hb, hml, hown, hts, hK, hN, hSK, hg, hlk, hrt, hR, hσ, hix⟩ := F
  subst hj
  subst hσ
  have e1 : cellE g (sJ w a i.toNatClampNeg x) a = .inl (g.2.1.2.2.1, n, .inr (.inl (vp_updL (w.2 a) i.toNatClampNeg x))) := by
    rw [A.2.2 g _]
    simp [sJ]
  obtain ⟨q0, e0, eS⟩ := EE_get (w := w) hg (hix _ hm) A.2.1
  rw [A.2.2 g w] at e0
  exact fun q hq H locs ls hP hS hl => va_last hx hb hK hP (EE_D hg) hS q0 2 e0 rfl hin hd (fun H1 locs1 hP1 _ hS1 => k q hq H1 locs1 ls (by rw [← e1, eS _ (fun q h => cellE_sJ h)] at hP1; exact hP1) hS1 hl)
theorem n_alenI {K : Ctx} {cc : ByteArray} {nL : Nat} {own : String} {ret : Option FieldType} {fr lo : Nat} {b : Bool} {nd : List Nat} {ρ : Type} {rt : ρ → Option Value × Wd} {res : Option ρ} {w : Wd} {pc : Nat} {lv : List (Nat × Value)} {st : List Value} (F : Fx K cc nL own ret fr lo b nd) {a n : Nat} (A : ArrI b a n) (hm : a ∈ nd) {v : Int32} (hv : Int32.ofNat n = v) (hd : decode cc pc = .ok (.arraylength, 1)) (k : N K rt res w (pc + 1) lv (.int v :: st)) : N K rt res w pc lv (.ref (gA (cg K) a) :: st) := by
  obtain ⟨p, l, e, R, s, m, args, below, meth, c, g, σ⟩ := K
  obtain ⟨hx, hb, hml, hown, hts, hK, hN, hSK, hg, hlk, hrt, hR, hσ, hix⟩ := F
  subst hσ
  obtain ⟨q0, e0, eS⟩ := EE_get (w := w) hg (hix _ hm) A.2.1
  rw [A.2.2 g w] at e0
  exact fun q hq H locs ls hP hS hl => va_alen (x := (n, .inl (w.1 a))) hx hb hK hP q0 0 e0 rfl hv hd (k q hq H locs ls hP hS hl)
theorem n_alenJ {K : Ctx} {cc : ByteArray} {nL : Nat} {own : String} {ret : Option FieldType} {fr lo : Nat} {b : Bool} {nd : List Nat} {ρ : Type} {rt : ρ → Option Value × Wd} {res : Option ρ} {w : Wd} {pc : Nat} {lv : List (Nat × Value)} {st : List Value} (F : Fx K cc nL own ret fr lo b nd) {a n : Nat} (A : ArrJ b a n) (hm : a ∈ nd) {v : Int32} (hv : Int32.ofNat n = v) (hd : decode cc pc = .ok (.arraylength, 1)) (k : N K rt res w (pc + 1) lv (.int v :: st)) : N K rt res w pc lv (.ref (gA (cg K) a) :: st) := by
  obtain ⟨p, l, e, R, s, m, args, below, meth, c, g, σ⟩ := K
  obtain ⟨hx, hb, hml, hown, hts, hK, hN, hSK, hg, hlk, hrt, hR, hσ, hix⟩ := F
  subst hσ
  obtain ⟨q0, e0, eS⟩ := EE_get (w := w) hg (hix _ hm) A.2.1
  rw [A.2.2 g w] at e0
  exact fun q hq H locs ls hP hS hl => va_alen (x := (n, .inr (.inl (w.2 a)))) hx hb hK hP q0 2 e0 rfl hv hd (k q hq H locs ls hP hS hl)
theorem n_copyI {K : Ctx} {cc : ByteArray} {nL : Nat} {own : String} {ret : Option FieldType} {fr lo : Nat} {b : Bool} {nd : List Nat} {ρ : Type} {rt : ρ → Option Value × Wd} {res : Option ρ} {w : Wd} {pc : Nat} {lv : List (Nat × Value)} {st : List Value} (F : Fx K cc nL own ret fr lo b nd) {a0 a1 n0 n1 : Nat} {idx : Nat} (A0 : ArrI b a0 n0) (A1 : ArrI b a1 n1) (hm0 : a0 ∈ nd) (hm1 : a1 ∈ nd) {sp dp n : Int32} (js jd jn : Nat) (hjs : sp.toNatClampNeg = js) (hjd : dp.toNatClampNeg = jd) (hjn : n.toNatClampNeg = jn) (h1 : ¬ sp < 0) (h2 : ¬ dp < 0) (h3 : ¬ n < 0) (h4 : js + jn ≤ n0) (h5 : jd + jn ≤ n1) (hw : Cond.methodLink own idx arraycopyName ∈ TB ∧ Cond.native arraycopyName ∈ TB ∧ Cond.static arraycopyName ∈ TB ∧ Cond.initialized "java/lang/System" ∈ TB) (hfr : 1 ≤ fr) (hlo : (st.map fun v => v.category).sum + (nativeFrameWords "java/lang/System" "arraycopy" 5 + 11) ≤ lo) (hd : decode cc pc = .ok (.invokestatic idx, 3)) (k : N K rt res (cI w a0 js a1 jd jn) (pc + 3) lv st) : N K rt res w pc lv (.int n :: .int dp :: .ref (gA (cg K) a1) :: .int sp :: .ref (gA (cg K) a0) :: st) := by
  obtain ⟨p, l, e, R, s, m, args, below, meth, c, g, σ⟩ := K
  obtain ⟨hx, hb, hml, hown, hts, hK, hN, hSK, hg, hlk, hrt, hR, hσ, hix⟩ := F
  subst hjs; subst hjd; subst hjn
  subst hσ
  subst hR
  have e1 : cellE g (cI w a0 sp.toNatClampNeg a1 dp.toNatClampNeg n.toNatClampNeg) a1 = .inl (g.2.1.1, n1, .inl (va_cpy (w.1 a0) (w.1 a1) sp.toNatClampNeg dp.toNatClampNeg n.toNatClampNeg)) := by
    rw [A1.2.2 g _]
    simp [cI]
  obtain ⟨q0, f0, _⟩ := EE_get (w := w) hg (hix _ hm0) A0.2.1
  rw [A0.2.2 g w] at f0
  obtain ⟨q1, f1, eS⟩ := EE_get (w := w) hg (hix _ hm1) A1.2.1
  rw [A1.2.2 g w] at f1
  exact fun q hq H locs ls hP hS hl => va_copyi hx hb (by rw [hl.1]) hown (hts _ hw.1) (hts _ hw.2.1) (hts _ hw.2.2.1) (hts _ hw.2.2.2) hK hP (EE_D hg) hS q0 q1 0 0 f0 f1 rfl rfl rfl h1 h2 h3 h4 h5 (fun _ _ => rfl) hfr hlo hd (fun H1 locs1 hP1 _ hS1 => k q hq H1 locs1 ls (by rw [← e1, eS _ (fun q h => cellE_cI h)] at hP1; exact hP1) hS1 hl)
theorem n_copyJ {K : Ctx} {cc : ByteArray} {nL : Nat} {own : String} {ret : Option FieldType} {fr lo : Nat} {b : Bool} {nd : List Nat} {ρ : Type} {rt : ρ → Option Value × Wd} {res : Option ρ} {w : Wd} {pc : Nat} {lv : List (Nat × Value)} {st : List Value} (F : Fx K cc nL own ret fr lo b nd) {a0 a1 n0 n1 : Nat} {idx : Nat} (A0 : ArrJ b a0 n0) (A1 : ArrJ b a1 n1) (hm0 : a0 ∈ nd) (hm1 : a1 ∈ nd) {sp dp n : Int32} (js jd jn : Nat) (hjs : sp.toNatClampNeg = js) (hjd : dp.toNatClampNeg = jd) (hjn : n.toNatClampNeg = jn) (h1 : ¬ sp < 0) (h2 : ¬ dp < 0) (h3 : ¬ n < 0) (h4 : js + jn ≤ n0) (h5 : jd + jn ≤ n1) (hw : Cond.methodLink own idx arraycopyName ∈ TB ∧ Cond.native arraycopyName ∈ TB ∧ Cond.static arraycopyName ∈ TB ∧ Cond.initialized "java/lang/System" ∈ TB) (hfr : 1 ≤ fr) (hlo : (st.map fun v => v.category).sum + (nativeFrameWords "java/lang/System" "arraycopy" 5 + 11) ≤ lo) (hd : decode cc pc = .ok (.invokestatic idx, 3)) (k : N K rt res (cJ w a0 js a1 jd jn) (pc + 3) lv st) : N K rt res w pc lv (.int n :: .int dp :: .ref (gA (cg K) a1) :: .int sp :: .ref (gA (cg K) a0) :: st) := by
  obtain ⟨p, l, e, R, s, m, args, below, meth, c, g, σ⟩ := K
  obtain ⟨hx, hb, hml, hown, hts, hK, hN, hSK, hg, hlk, hrt, hR, hσ, hix⟩ := F
  subst hjs; subst hjd; subst hjn
  subst hσ
  subst hR
  have e1 : cellE g (cJ w a0 sp.toNatClampNeg a1 dp.toNatClampNeg n.toNatClampNeg) a1 = .inl (g.2.1.2.2.1, n1, .inr (.inl (va_cpy (w.2 a0) (w.2 a1) sp.toNatClampNeg dp.toNatClampNeg n.toNatClampNeg))) := by
    rw [A1.2.2 g _]
    simp [cJ]
  obtain ⟨q0, f0, _⟩ := EE_get (w := w) hg (hix _ hm0) A0.2.1
  rw [A0.2.2 g w] at f0
  obtain ⟨q1, f1, eS⟩ := EE_get (w := w) hg (hix _ hm1) A1.2.1
  rw [A1.2.2 g w] at f1
  exact fun q hq H locs ls hP hS hl => va_copyl hx hb (by rw [hl.1]) hown (hts _ hw.1) (hts _ hw.2.1) (hts _ hw.2.2.1) (hts _ hw.2.2.2) hK hP (EE_D hg) hS q0 q1 2 2 f0 f1 rfl rfl rfl h1 h2 h3 h4 h5 (fun _ _ => rfl) hfr hlo hd (fun H1 locs1 hP1 _ hS1 => k q hq H1 locs1 ls (by rw [← e1, eS _ (fun q h => cellE_cJ h)] at hP1; exact hP1) hS1 hl)
/-- a class of the world, its words among the tables' -/
def ClsOK (ci : Nat) (C : String) (T : u_T) (n : Nat) (ty : Nat → FieldType) : Prop := vwCl[ci]? = some (C, T, n) ∧ (∀ w ∈ u_ws C T n, w ∈ TB) ∧ (∀ k, k < n → parseFieldDescriptor (T k).2.2.1 = some (ty k)) ∧ ∀ a, a < n → ∀ b, b < n → a ≠ b → (T a).2.1 ≠ (T b).2.1
def FldG (b : Bool) (a ci k : Nat) (v : GG → Wd → Value) : Prop := True ∧ decide (a < 37) = b ∧ ∀ (g : GG) (w : Wd), ∃ fs, cellE g w a = .inr (ci, fs) ∧ fs[k]? = some (v g w)
def FldP (b : Bool) (a ci k : Nat) : Prop := True ∧ decide (a < 37) = b ∧ ∀ (g : GG) (w : Wd) (v : Int32), ∃ fs, cellE g w a = .inr (ci, fs) ∧ k < fs.length ∧ cellE g (sI w a k v) a = .inr (ci, fs.set k (.int v))
theorem n_get {K : Ctx} {cc : ByteArray} {nL : Nat} {own : String} {ret : Option FieldType} {fr lo : Nat} {b : Bool} {nd : List Nat} {ρ : Type} {rt : ρ → Option Value × Wd} {res : Option ρ} {w : Wd} {pc : Nat} {lv : List (Nat × Value)} {st : List Value} (F : Fx K cc nL own ret fr lo b nd) {a ci k idx n : Nat} {C : String} {T : u_T} {ty : Nat → FieldType} {v : GG → Wd → Value} (O : ClsOK ci C T n ty) (L : Cond.fieldLink own idx (T k).1 (T k).2.1 (T k).2.2.1 ∈ TB) (hk : k < n) (G : FldG b a ci k v) (hm : a ∈ nd) (hd : decode cc pc = .ok (.getfield idx, 3)) (kk : N K rt res w (pc + 3) lv (v (cg K) w :: st)) : N K rt res w pc lv (.ref (gA (cg K) a) :: st) := by
  obtain ⟨p, l, e, R, s, m, args, below, meth, c, g, σ⟩ := K
  obtain ⟨hx, hb, hml, hown, hts, hK, hN, hSK, hg, hlk, hrt, hR, hσ, hix⟩ := F
  subst hσ
  obtain ⟨fs, e1, e2⟩ := G.2.2 g w
  obtain ⟨q0, e0, eS⟩ := EE_get (w := w) hg (hix _ hm) G.2.1
  rw [e1] at e0
  exact fun q hq H locs ls hP hS hl => va_get (D := gD g) (ci := ci) (C := C) (T := T) (N := n) hx hb hts O.2.1 hown hK hP q0 e0 O.1 k hk (hts _ L) (fun _ h9 => h9) e2 hd (kk q hq H locs ls hP hS hl)
theorem n_getN {K : Ctx} {cc : ByteArray} {nL : Nat} {own : String} {ret : Option FieldType} {fr lo : Nat} {b : Bool} {nd : List Nat} {ρ : Type} {rt : ρ → Option Value × Wd} {res : Option ρ} {w : Wd} {pc : Nat} {lv : List (Nat × Value)} {st : List Value} (F : Fx K cc nL own ret fr lo b nd) {a ci k idx n : Nat} {C : String} {T : u_T} {ty : Nat → FieldType} {v : GG → Wd → Value} (O : ClsOK ci C T n ty) (L : (own, idx, (T k).1, (T k).2.1, (T k).2.2.1) ∈ nstF) (hk : k < n) (G : FldG b a ci k v) (hm : a ∈ nd) (hd : decode cc pc = .ok (.getfield idx, 3)) (kk : N K rt res w (pc + 3) lv (v (cg K) w :: st)) : N K rt res w pc lv (.ref (gA (cg K) a) :: st) := by
  obtain ⟨p, l, e, R, s, m, args, below, meth, c, g, σ⟩ := K
  obtain ⟨hx, hb, hml, hown, hts, hK, hN, hSK, hg, hlk, hrt, hR, hσ, hix⟩ := F
  subst hσ
  obtain ⟨fs, e1, e2⟩ := G.2.2 g w
  obtain ⟨q0, e0, eS⟩ := EE_get (w := w) hg (hix _ hm) G.2.1
  rw [e1] at e0
  exact fun q hq H locs ls hP hS hl => va_getN (D := gD g) (ci := ci) (C := C) (T := T) (N := n) hx hb hts O.2.1 hown hK hP q0 e0 O.1 k hk ((hN.1 _ L).use rfl) (fun _ h9 => h9) e2 hd (kk q hq H locs ls hP hS hl)
theorem n_put {K : Ctx} {cc : ByteArray} {nL : Nat} {own : String} {ret : Option FieldType} {fr lo : Nat} {b : Bool} {nd : List Nat} {ρ : Type} {rt : ρ → Option Value × Wd} {res : Option ρ} {w : Wd} {pc : Nat} {lv : List (Nat × Value)} {st : List Value} (F : Fx K cc nL own ret fr lo b nd) {a ci k idx n : Nat} {C : String} {T : u_T} {ty : Nat → FieldType} {x : Int32} (O : ClsOK ci C T n ty) (L : Cond.fieldLink own idx (T k).1 (T k).2.1 (T k).2.2.1 ∈ TB) (hk : k < n) (hf : (T k).2.2.2 = false) (G : FldP b a ci k) (hm : a ∈ nd) (hn : narrow (ty k) (.int x) = .int x) (hfit : fits (ty k) (.int x) = true) (hd : decode cc pc = .ok (.putfield idx, 3)) (kk : N K rt res (sI w a k x) (pc + 3) lv st) : N K rt res w pc lv (.int x :: .ref (gA (cg K) a) :: st) := by
  obtain ⟨p, l, e, R, s, m, args, below, meth, c, g, σ⟩ := K
  obtain ⟨hx, hb, hml, hown, hts, hK, hN, hSK, hg, hlk, hrt, hR, hσ, hix⟩ := F
  subst hσ
  obtain ⟨fs, e1, e2, e3⟩ := G.2.2 g w x
  obtain ⟨q0, e0, eS⟩ := EE_get (w := w) hg (hix _ hm) G.2.1
  rw [e1] at e0
  exact fun q hq H locs ls hP hS hl => va_put (D := gD g) (ci := ci) (C := C) (T := T) (N := n) hx hb hts O.2.1 ty O.2.2.1 O.2.2.2 hown hK hP (EE_D hg) hS q0 e0 O.1 k hk (hts _ L) (fun _ h9 => h9) hf (O.2.2.1 k hk) hn hfit e2 hd (fun H1 locs1 hP1 _ hS1 => kk q hq H1 locs1 ls (by rw [← e3, eS _ (fun q h => cellE_sI h)] at hP1; exact hP1) hS1 hl)
/-- the words of a call -/
def CwB (y : MethodName) (cc : ByteArray) (nL : Nat) (ret : Option FieldType) (n : Nat) : Prop := Cond.code y cc nL ret ∈ TB ∧ Cond.initialized y.cls ∈ TB ∧ (y.cls ≠ "java/lang/invoke/MethodHandle" ∧ y.cls ≠ "java/lang/invoke/VarHandle" ∧ (parseMethodDescriptor y.desc).map (fun d => d.parameters.length) = some n)
theorem n_run {K : Ctx} {cc : ByteArray} {nL : Nat} {own : String} {ret : Option FieldType} {fr lo : Nat} {b : Bool} {nd : List Nat} {ρ : Type} {rt : ρ → Option Value × Wd} {res : Option ρ} {w : Wd} {pc : Nat} {lv : List (Nat × Value)} {st : List Value} (F : Fx K cc nL own ret fr lo b nd) {y : MethodName} {c2 : ByteArray} {nL2 : Nat} {ret2 : Option FieldType} {fr2 lo2 : Nat} {av : List Value} {r : Option Value} {w' : Wd} {stk : List Value} (M : CT K.2.1 (cg K) K.2.2.2.2.2.2.2.2.2.2.2 y c2 nL2 ret2 fr2 lo2 av w r w')
    (hrun : ∀ (H : Heap) (locs : List Loc) (ls : Array Slot), va_P (gD (cg K)) vwCl (EE (cg K) K.2.2.2.2.2.2.2.2.2.2.2 w) H → va_S (AD (cg K) K.2.2.2.2.2.2.2.2.2.2.2) K.2.2.2.2.1.heap H locs → lv_has ls K.2.2.2.2.2.2.2.2.2.1.maxLocals lv → va_Run K.1 K.2.1 K.2.2.1 K.2.2.2.1 K.2.2.2.2.1 K.2.2.2.2.2.1 K.2.2.2.2.2.2.1 K.2.2.2.2.2.2.2.1 K.2.2.2.2.2.2.2.2.1 K.2.2.2.2.2.2.2.2.2.1 H locs 0 0 0 0 (F0 K.2.2.2.2.2.1 pc ls stk) st (QQ (cg K) K.2.2.2.2.2.2.2.2.2.2.2 r w' av.toArray) (AD (cg K) K.2.2.2.2.2.2.2.2.2.2.2))
    (k : N K rt res w' (pc + 3) lv (r.toList ++ st)) : N K rt res w pc lv stk := by
  obtain ⟨p, l, e, R, s, m, args, below, meth, c, g, σ⟩ := K
  obtain ⟨hx, hb, hml, hown, hts, hK, hN, hSK, hg, hlk, hrt, hR, hσ, hix⟩ := F
  intro q hq H locs ls hP hS hl T hT X
  obtain ⟨v, st₀, t, T', L, h0, X', hL, e1, e2, ⟨hv, hP1, hz, hk⟩, hst⟩ := hrun H locs ls hP hS hl T hT X
  cases hv
  rw [h0] at hz hk
  dsimp only at e1 hz hk hP1
  obtain ⟨t2, a1, b1⟩ := k q hq T'.heap (locs ++ L) ls (by rw [e1]; exact hP1)
    ⟨Nat.le_trans hS.1 (by rw [e1]; exact hz), fun q h1 h2 => by rw [e1, hk q (Nat.lt_of_lt_of_le h1 hS.1) h2]; exact hS.2.1 q h1 h2, fun q hq => by
      rcases List.mem_append.mp hq with h | h
      · exact hS.2.2 q h
      · exact hL q h⟩ hl T' rfl X'
  exact ⟨t2, hst t2 a1, b1⟩
theorem hd_at {K : Ctx} {cc : ByteArray} {nL : Nat} {own : String} {ret : Option FieldType} {fr lo : Nat} {b : Bool} {nd : List Nat} {w : Wd} (F : Fx K cc nL own ret fr lo b nd) {H : Heap} {locs : List Loc} (hP : va_P (gD (cg K)) vwCl (EE (cg K) K.2.2.2.2.2.2.2.2.2.2.2 w) H) (hS : va_S (AD (cg K) K.2.2.2.2.2.2.2.2.2.2.2) K.2.2.2.2.1.heap H locs) (U : State) (hU : U.heap = H) (hW : K.2.2.2.2.1.WarmedH U.vm) : HD (cg K) K.2.2.2.2.2.2.2.2.2.2.2 w U := by
  obtain ⟨p, l, e, R, s, m, args, below, meth, c, g, σ⟩ := K
  obtain ⟨hx, hb, hml, hown, hts, hK, hN, hSK, hg, hlk, hrt, hR, hσ, hix⟩ := F
  exact ⟨by rw [hU]; exact hP, va_K.moved hW.alike hK, hN.warm hW, by rw [hU]; exact (hSK.warm hW).kept hS.2.1⟩
theorem n_callV {K : Ctx} {cc : ByteArray} {nL : Nat} {own : String} {ret : Option FieldType} {fr lo : Nat} {b : Bool} {nd : List Nat} {ρ : Type} {rt : ρ → Option Value × Wd} {res : Option ρ} {w : Wd} {pc : Nat} {lv : List (Nat × Value)} {st : List Value} (F : Fx K cc nL own ret fr lo b nd) {y : MethodName} {c2 : ByteArray} {nL2 : Nat} {ret2 : Option FieldType} {fr2 lo2 idx n : Nat} {As : List Value} {r : Option Value} {w' : Wd} {stk : List Value} {a ci : Nat} (hB : CwB y c2 nL2 ret2 n) (hL : Cond.methodLink own idx y ∈ TB ∧ Cond.instanceMethod y ∈ TB ∧ Cond.selects y.cls y y ∈ TB) (G : True ∧ decide (a < 37) = b ∧ ∀ (g : GG) (w : Wd), ∃ fs, cellE g w a = .inr (ci, fs)) (hm : a ∈ nd) (hC : ∃ T N, vwCl[ci]? = some (y.cls, T, N))
    (M : CT K.2.1 (cg K) K.2.2.2.2.2.2.2.2.2.2.2 y c2 nL2 ret2 fr2 lo2 (.ref (gA (cg K) a) :: As) w r w') (hn : As.length = n) (hstk : stk = As.reverse ++ .ref (gA (cg K) a) :: st) (hst : (st.map fun v => v.category).sum ≤ 8) (hroom : fr2 + 1 ≤ fr ∧ 8 + (nL2 + 11) + lo2 ≤ lo) (hd : decode cc pc = .ok (.invokevirtual idx, 3)) (k : N K rt res w' (pc + 3) lv (r.toList ++ st)) : N K rt res w pc lv stk := by
  refine n_run F M (fun H locs ls hP hS hl => ?_) k
  have hU := fun U hU hW => hd_at F hP hS U hU hW
  obtain ⟨p, l, e, R, s, m, args, below, meth, c, g, σ⟩ := K
  obtain ⟨hx, hb, hml, hown, hts, hK, hN, hSK, hg, hlk, hrt, hR, hσ, hix⟩ := F
  subst hσ
  subst hR
  obtain ⟨fs, e1⟩ := G.2.2 g w
  obtain ⟨q0, e0, _⟩ := EE_get (w := w) hg (hix _ hm) G.2.1
  rw [e1] at e0
  obtain ⟨T, N, hC⟩ := hC
  refine va_runV (C := y.cls) (Ts := TB) ⟨hx, hb, rfl, hown, hts⟩ M ⟨callB_of n hts (tb_code hB.1) rfl rfl rfl (hts _ hB.2.1) (hts _ hL.1) hB.2.2 hroom, hts _ hL.2.1, hts _ hL.2.2⟩ ⟨HD_blind, va_recv hK hP (ci := ci) (q0 := q0) hC e0, fun U h1 h2 => ⟨rfl, hU U h1 h2⟩⟩ rfl hn hl.1 hstk (lv_room hst) hd ⟨Nat.le_refl _, Nat.le_refl _⟩
theorem n_callS {K : Ctx} {cc : ByteArray} {nL : Nat} {own : String} {ret : Option FieldType} {fr lo : Nat} {b : Bool} {nd : List Nat} {ρ : Type} {rt : ρ → Option Value × Wd} {res : Option ρ} {w : Wd} {pc : Nat} {lv : List (Nat × Value)} {st : List Value} (F : Fx K cc nL own ret fr lo b nd) {y : MethodName} {c2 : ByteArray} {nL2 : Nat} {ret2 : Option FieldType} {fr2 lo2 idx n : Nat} {As : List Value} {r : Option Value} {w' : Wd} {stk : List Value} (hB : CwB y c2 nL2 ret2 n) (hL : Cond.methodLink own idx y ∈ TB ∧ Cond.static y ∈ TB)
    (M : CT K.2.1 (cg K) K.2.2.2.2.2.2.2.2.2.2.2 y c2 nL2 ret2 fr2 lo2 As w r w') (hn : As.length = n) (hstk : stk = As.reverse ++ st) (hst : (st.map fun v => v.category).sum ≤ 8) (hroom : fr2 + 1 ≤ fr ∧ 8 + (nL2 + 11) + lo2 ≤ lo) (hd : decode cc pc = .ok (.invokestatic idx, 3)) (k : N K rt res w' (pc + 3) lv (r.toList ++ st)) : N K rt res w pc lv stk := by
  refine n_run F M (fun H locs ls hP hS hl => ?_) k
  have hU := fun U hU hW => hd_at F hP hS U hU hW
  obtain ⟨p, l, e, R, s, m, args, below, meth, c, g, σ⟩ := K
  obtain ⟨hx, hb, hml, hown, hts, hK, hN, hSK, hg, hlk, hrt, hR, hσ, hix⟩ := F
  subst hR
  exact va_runS (Ts := TB) ⟨hx, hb, rfl, hown, hts⟩ M ⟨callB_of n hts (tb_code hB.1) rfl rfl rfl (hts _ hB.2.1) (hts _ hL.1) hB.2.2 hroom, hts _ hL.2⟩ ⟨HD_blind, fun U h1 h2 => ⟨rfl, hU U h1 h2⟩⟩ rfl hn hl.1 hstk (lv_room hst) hd ⟨Nat.le_refl _, Nat.le_refl _⟩
theorem n_callSN {K : Ctx} {cc : ByteArray} {nL : Nat} {own : String} {ret : Option FieldType} {fr lo : Nat} {b : Bool} {nd : List Nat} {ρ : Type} {rt : ρ → Option Value × Wd} {res : Option ρ} {w : Wd} {pc : Nat} {lv : List (Nat × Value)} {st : List Value} (F : Fx K cc nL own ret fr lo b nd) {y : MethodName} {c2 : ByteArray} {nL2 : Nat} {ret2 : Option FieldType} {fr2 lo2 idx n : Nat} {As : List Value} {r : Option Value} {w' : Wd} {stk : List Value} (hB : CwB y c2 nL2 ret2 n) (hL : (own, idx, y) ∈ nstM ∧ Cond.static y ∈ TB)
    (M : CT K.2.1 (cg K) K.2.2.2.2.2.2.2.2.2.2.2 y c2 nL2 ret2 fr2 lo2 As w r w') (hn : As.length = n) (hstk : stk = As.reverse ++ st) (hst : (st.map fun v => v.category).sum ≤ 8) (hroom : fr2 + 1 ≤ fr ∧ 8 + (nL2 + 11) + lo2 ≤ lo) (hd : decode cc pc = .ok (.invokestatic idx, 3)) (k : N K rt res w' (pc + 3) lv (r.toList ++ st)) : N K rt res w pc lv stk := by
  refine n_run F M (fun H locs ls hP hS hl => ?_) k
  have hU := fun U hU hW => hd_at F hP hS U hU hW
  obtain ⟨p, l, e, R, s, m, args, below, meth, c, g, σ⟩ := K
  obtain ⟨hx, hb, hml, hown, hts, hK, hN, hSK, hg, hlk, hrt, hR, hσ, hix⟩ := F
  subst hR
  exact va_runSN (Ts := TB) ⟨hx, hb, rfl, hown, hts⟩ M ⟨va_cnB n hts (tb_code hB.1) rfl rfl rfl (hN.2 _ hL.1) (hts _ hB.2.1) hB.2.2 hroom, hts _ hL.2, trivial⟩ ⟨HD_blind, fun U h1 h2 => ⟨rfl, hU U h1 h2⟩⟩ rfl hn hl.1 hstk (lv_room hst) hd ⟨Nat.le_refl _, Nat.le_refl _⟩
/-- a call of a part function: what it says goes on -/
theorem n_bind {K : Ctx} {ρ τ : Type} {rt : ρ → Option Value × Wd} {w : Wd} {pc : Nat} {lv : List (Nat × Value)} {st : List Value} {f : Option τ} {h : τ → Option ρ} (k : ∀ q, f = some q → N K rt (h q) w pc lv st) : N K rt (f.bind h) w pc lv st := by
  cases f with
  | none => exact n_none
  | some q => exact k q rfl
theorem n_mmax {K : Ctx} {cc : ByteArray} {nL : Nat} {own : String} {ret : Option FieldType} {fr lo : Nat} {b : Bool} {nd : List Nat} {ρ : Type} {rt : ρ → Option Value × Wd} {res : Option ρ} {w : Wd} {pc : Nat} {lv : List (Nat × Value)} {st : List Value} (F : Fx K cc nL own ret fr lo b nd) {idx : Nat} {x y : Int32} (hw : Cond.methodLink own idx Lib.Math.max.name ∈ TB ∧ Cond.static Lib.Math.max.name ∈ TB ∧ Cond.initialized "java/lang/Math" ∈ TB ∧ Cond.code Lib.Math.max.name Lib.Math.max.code 2 (some .int) ∈ TB) (hfr : 1 ≤ fr) (hlo : (st.map fun v => v.category).sum + 13 ≤ lo) (hd : decode cc pc = .ok (.invokestatic idx, 3)) (k : N K rt res w (pc + 3) lv (.int (if x < y then y else x) :: st)) : N K rt res w pc lv (.int y :: .int x :: st) := by
  obtain ⟨p, l, e, R, s, m, args, below, meth, c, g, σ⟩ := K
  obtain ⟨hx, hb, hml, hown, hts, hK, hN, hSK, hg, hlk, hrt, hR, hσ, hix⟩ := F
  subst hR
  exact fun q hq H locs ls hP hS hl => va_mmax hx hb (by rw [hl.1]) hown (hts _ hw.1) (hts _ hw.2.1) (hts _ hw.2.2.1) (hts _ hw.2.2.2) hfr hlo (Nat.le_refl _) (Nat.le_refl _) hd (k q hq H locs ls hP hS hl)
theorem n_mmin {K : Ctx} {cc : ByteArray} {nL : Nat} {own : String} {ret : Option FieldType} {fr lo : Nat} {b : Bool} {nd : List Nat} {ρ : Type} {rt : ρ → Option Value × Wd} {res : Option ρ} {w : Wd} {pc : Nat} {lv : List (Nat × Value)} {st : List Value} (F : Fx K cc nL own ret fr lo b nd) {idx : Nat} {x y : Int32} (hw : Cond.methodLink own idx Lib.Math.min.name ∈ TB ∧ Cond.static Lib.Math.min.name ∈ TB ∧ Cond.initialized "java/lang/Math" ∈ TB ∧ Cond.code Lib.Math.min.name Lib.Math.min.code 2 (some .int) ∈ TB) (hfr : 1 ≤ fr) (hlo : (st.map fun v => v.category).sum + 13 ≤ lo) (hd : decode cc pc = .ok (.invokestatic idx, 3)) (k : N K rt res w (pc + 3) lv (.int (if y < x then y else x) :: st)) : N K rt res w pc lv (.int y :: .int x :: st) := by
  obtain ⟨p, l, e, R, s, m, args, below, meth, c, g, σ⟩ := K
  obtain ⟨hx, hb, hml, hown, hts, hK, hN, hSK, hg, hlk, hrt, hR, hσ, hix⟩ := F
  subst hR
  exact fun q hq H locs ls hP hS hl => va_mmin hx hb (by rw [hl.1]) hown (hts _ hw.1) (hts _ hw.2.1) (hts _ hw.2.2.1) (hts _ hw.2.2.2) hfr hlo (Nat.le_refl _) (Nat.le_refl _) hd (k q hq H locs ls hP hS hl)
