section ZR
variable {ρ : Type} {P : zX} {Qf : ρ → State → Prop} {F : Option ρ} {pc : Nat} {lv : List (Nat × Value)} {stk : List Value} {hp : zHp} {sz uc us : Nat} {cc : ByteArray} {own : String} {ret : Option FieldType} {ht mc ms nn : Nat} {ro0 : Nat → Nat}

theorem z_iconst (C : zC P cc own ret ht mc ms nn ro0) {n : Int} {v : Int32} (hd : decode cc pc = .ok (.iconst n, 1)) (hv : Int32.ofInt n = v)
    (k : zGq P Qf F (pc + 1) lv (.int v :: stk) hp sz uc us) : zGq P Qf F pc lv (stk) hp sz uc us := by
  obtain ⟨p, l, e, R, s, m, args, below, meth, c, D, tc, ro, b0, mc', ms', nL⟩ := P
  obtain ⟨⟨hx, hb, hml, hown, hts⟩, hret, hlocks, hK, hRO, hb0, hR, hmc, hms, hnn, hro⟩ := C
  subst hnn
  subst hro
  intro r hr H locs ls h1 h2 h3 h4
  exact lv_iconst hx hb hd hv (k r hr H locs ls h1 h2 h3 h4)

theorem z_bipush (C : zC P cc own ret ht mc ms nn ro0) {n : Int} {v : Int32} (hd : decode cc pc = .ok (.bipush n, 2)) (hv : (Int8.ofInt n).toInt32 = v)
    (k : zGq P Qf F (pc + 2) lv (.int v :: stk) hp sz uc us) : zGq P Qf F pc lv (stk) hp sz uc us := by
  obtain ⟨p, l, e, R, s, m, args, below, meth, c, D, tc, ro, b0, mc', ms', nL⟩ := P
  obtain ⟨⟨hx, hb, hml, hown, hts⟩, hret, hlocks, hK, hRO, hb0, hR, hmc, hms, hnn, hro⟩ := C
  subst hnn
  subst hro
  intro r hr H locs ls h1 h2 h3 h4
  exact lv_bipush hx hb hd hv (k r hr H locs ls h1 h2 h3 h4)

theorem z_sipush (C : zC P cc own ret ht mc ms nn ro0) {n : Int} {v : Int32} (hd : decode cc pc = .ok (.sipush n, 3)) (hv : (Int16.ofInt n).toInt32 = v)
    (k : zGq P Qf F (pc + 3) lv (.int v :: stk) hp sz uc us) : zGq P Qf F pc lv (stk) hp sz uc us := by
  obtain ⟨p, l, e, R, s, m, args, below, meth, c, D, tc, ro, b0, mc', ms', nL⟩ := P
  obtain ⟨⟨hx, hb, hml, hown, hts⟩, hret, hlocks, hK, hRO, hb0, hR, hmc, hms, hnn, hro⟩ := C
  subst hnn
  subst hro
  intro r hr H locs ls h1 h2 h3 h4
  exact lv_sipush hx hb hd hv (k r hr H locs ls h1 h2 h3 h4)

theorem z_iload_n (C : zC P cc own ret ht mc ms nn ro0) {i : Fin 4} {x : Int32} (hd : decode cc pc = .ok (.iload_n i, 1)) (j : Nat)  (hl : lv[j]? = some ((i : Nat), .int x))
    (k : zGq P Qf F (pc + 1) lv (.int x :: stk) hp sz uc us) : zGq P Qf F pc lv (stk) hp sz uc us := by
  obtain ⟨p, l, e, R, s, m, args, below, meth, c, D, tc, ro, b0, mc', ms', nL⟩ := P
  obtain ⟨⟨hx, hb, hml, hown, hts⟩, hret, hlocks, hK, hRO, hb0, hR, hmc, hms, hnn, hro⟩ := C
  subst hnn
  subst hro
  intro r hr H locs ls h1 h2 h3 h4
  exact lv_iload_n hx hb hd rfl (lv_at h4 j hl) (k r hr H locs ls h1 h2 h3 h4)

theorem z_iload (C : zC P cc own ret ht mc ms nn ro0) {i : Nat} {x : Int32} (hd : decode cc pc = .ok (.iload i, 2)) (j : Nat)  (hl : lv[j]? = some (i, .int x))
    (k : zGq P Qf F (pc + 2) lv (.int x :: stk) hp sz uc us) : zGq P Qf F pc lv (stk) hp sz uc us := by
  obtain ⟨p, l, e, R, s, m, args, below, meth, c, D, tc, ro, b0, mc', ms', nL⟩ := P
  obtain ⟨⟨hx, hb, hml, hown, hts⟩, hret, hlocks, hK, hRO, hb0, hR, hmc, hms, hnn, hro⟩ := C
  subst hnn
  subst hro
  intro r hr H locs ls h1 h2 h3 h4
  exact lv_iload hx hb hd (lv_at h4 j hl) (k r hr H locs ls h1 h2 h3 h4)

theorem z_aload_n (C : zC P cc own ret ht mc ms nn ro0) {i : Fin 4} {x : Nat} (hd : decode cc pc = .ok (.aload_n i, 1)) (j : Nat)  (hl : lv[j]? = some ((i : Nat), .ref x))
    (k : zGq P Qf F (pc + 1) lv (.ref x :: stk) hp sz uc us) : zGq P Qf F pc lv (stk) hp sz uc us := by
  obtain ⟨p, l, e, R, s, m, args, below, meth, c, D, tc, ro, b0, mc', ms', nL⟩ := P
  obtain ⟨⟨hx, hb, hml, hown, hts⟩, hret, hlocks, hK, hRO, hb0, hR, hmc, hms, hnn, hro⟩ := C
  subst hnn
  subst hro
  intro r hr H locs ls h1 h2 h3 h4
  exact lv_aload_n hx hb hd rfl (lv_at h4 j hl) (k r hr H locs ls h1 h2 h3 h4)

theorem z_aload (C : zC P cc own ret ht mc ms nn ro0) {i : Nat} {x : Nat} (hd : decode cc pc = .ok (.aload i, 2)) (j : Nat)  (hl : lv[j]? = some (i, .ref x))
    (k : zGq P Qf F (pc + 2) lv (.ref x :: stk) hp sz uc us) : zGq P Qf F pc lv (stk) hp sz uc us := by
  obtain ⟨p, l, e, R, s, m, args, below, meth, c, D, tc, ro, b0, mc', ms', nL⟩ := P
  obtain ⟨⟨hx, hb, hml, hown, hts⟩, hret, hlocks, hK, hRO, hb0, hR, hmc, hms, hnn, hro⟩ := C
  subst hnn
  subst hro
  intro r hr H locs ls h1 h2 h3 h4
  exact lv_aload hx hb hd (lv_at h4 j hl) (k r hr H locs ls h1 h2 h3 h4)

theorem z_iadd (C : zC P cc own ret ht mc ms nn ro0) {x y : Int32} (hd : decode cc pc = .ok (.iadd, 1)) 
    (k : zGq P Qf F (pc + 1) lv (.int (x + y) :: stk) hp sz uc us) : zGq P Qf F pc lv (.int y :: .int x :: stk) hp sz uc us := by
  obtain ⟨p, l, e, R, s, m, args, below, meth, c, D, tc, ro, b0, mc', ms', nL⟩ := P
  obtain ⟨⟨hx, hb, hml, hown, hts⟩, hret, hlocks, hK, hRO, hb0, hR, hmc, hms, hnn, hro⟩ := C
  subst hnn
  subst hro
  intro r hr H locs ls h1 h2 h3 h4
  exact lv_iadd hx hb hd (k r hr H locs ls h1 h2 h3 h4)

theorem z_isub (C : zC P cc own ret ht mc ms nn ro0) {x y : Int32} (hd : decode cc pc = .ok (.isub, 1)) 
    (k : zGq P Qf F (pc + 1) lv (.int (x - y) :: stk) hp sz uc us) : zGq P Qf F pc lv (.int y :: .int x :: stk) hp sz uc us := by
  obtain ⟨p, l, e, R, s, m, args, below, meth, c, D, tc, ro, b0, mc', ms', nL⟩ := P
  obtain ⟨⟨hx, hb, hml, hown, hts⟩, hret, hlocks, hK, hRO, hb0, hR, hmc, hms, hnn, hro⟩ := C
  subst hnn
  subst hro
  intro r hr H locs ls h1 h2 h3 h4
  exact lv_isub hx hb hd (k r hr H locs ls h1 h2 h3 h4)

theorem z_imul (C : zC P cc own ret ht mc ms nn ro0) {x y : Int32} (hd : decode cc pc = .ok (.imul, 1)) 
    (k : zGq P Qf F (pc + 1) lv (.int (x * y) :: stk) hp sz uc us) : zGq P Qf F pc lv (.int y :: .int x :: stk) hp sz uc us := by
  obtain ⟨p, l, e, R, s, m, args, below, meth, c, D, tc, ro, b0, mc', ms', nL⟩ := P
  obtain ⟨⟨hx, hb, hml, hown, hts⟩, hret, hlocks, hK, hRO, hb0, hR, hmc, hms, hnn, hro⟩ := C
  subst hnn
  subst hro
  intro r hr H locs ls h1 h2 h3 h4
  exact lv_imul hx hb hd (k r hr H locs ls h1 h2 h3 h4)

theorem z_iand (C : zC P cc own ret ht mc ms nn ro0) {x y : Int32} (hd : decode cc pc = .ok (.iand, 1)) 
    (k : zGq P Qf F (pc + 1) lv (.int (x &&& y) :: stk) hp sz uc us) : zGq P Qf F pc lv (.int y :: .int x :: stk) hp sz uc us := by
  obtain ⟨p, l, e, R, s, m, args, below, meth, c, D, tc, ro, b0, mc', ms', nL⟩ := P
  obtain ⟨⟨hx, hb, hml, hown, hts⟩, hret, hlocks, hK, hRO, hb0, hR, hmc, hms, hnn, hro⟩ := C
  subst hnn
  subst hro
  intro r hr H locs ls h1 h2 h3 h4
  exact lv_iand hx hb hd (k r hr H locs ls h1 h2 h3 h4)

theorem z_ior (C : zC P cc own ret ht mc ms nn ro0) {x y : Int32} (hd : decode cc pc = .ok (.ior, 1)) 
    (k : zGq P Qf F (pc + 1) lv (.int (x ||| y) :: stk) hp sz uc us) : zGq P Qf F pc lv (.int y :: .int x :: stk) hp sz uc us := by
  obtain ⟨p, l, e, R, s, m, args, below, meth, c, D, tc, ro, b0, mc', ms', nL⟩ := P
  obtain ⟨⟨hx, hb, hml, hown, hts⟩, hret, hlocks, hK, hRO, hb0, hR, hmc, hms, hnn, hro⟩ := C
  subst hnn
  subst hro
  intro r hr H locs ls h1 h2 h3 h4
  exact lv_ior hx hb hd (k r hr H locs ls h1 h2 h3 h4)

theorem z_ishl (C : zC P cc own ret ht mc ms nn ro0) {x y : Int32} (hd : decode cc pc = .ok (.ishl, 1)) 
    (k : zGq P Qf F (pc + 1) lv (.int (x <<< (y &&& 31)) :: stk) hp sz uc us) : zGq P Qf F pc lv (.int y :: .int x :: stk) hp sz uc us := by
  obtain ⟨p, l, e, R, s, m, args, below, meth, c, D, tc, ro, b0, mc', ms', nL⟩ := P
  obtain ⟨⟨hx, hb, hml, hown, hts⟩, hret, hlocks, hK, hRO, hb0, hR, hmc, hms, hnn, hro⟩ := C
  subst hnn
  subst hro
  intro r hr H locs ls h1 h2 h3 h4
  exact lv_ishl hx hb hd (k r hr H locs ls h1 h2 h3 h4)

theorem z_ishr (C : zC P cc own ret ht mc ms nn ro0) {x y : Int32} (hd : decode cc pc = .ok (.ishr, 1)) 
    (k : zGq P Qf F (pc + 1) lv (.int (x >>> (y &&& 31)) :: stk) hp sz uc us) : zGq P Qf F pc lv (.int y :: .int x :: stk) hp sz uc us := by
  obtain ⟨p, l, e, R, s, m, args, below, meth, c, D, tc, ro, b0, mc', ms', nL⟩ := P
  obtain ⟨⟨hx, hb, hml, hown, hts⟩, hret, hlocks, hK, hRO, hb0, hR, hmc, hms, hnn, hro⟩ := C
  subst hnn
  subst hro
  intro r hr H locs ls h1 h2 h3 h4
  exact lv_ishr hx hb hd (k r hr H locs ls h1 h2 h3 h4)

theorem z_i2l (C : zC P cc own ret ht mc ms nn ro0) {x : Int32} (hd : decode cc pc = .ok (.i2l, 1)) 
    (k : zGq P Qf F (pc + 1) lv (.long x.toInt64 :: stk) hp sz uc us) : zGq P Qf F pc lv (.int x :: stk) hp sz uc us := by
  obtain ⟨p, l, e, R, s, m, args, below, meth, c, D, tc, ro, b0, mc', ms', nL⟩ := P
  obtain ⟨⟨hx, hb, hml, hown, hts⟩, hret, hlocks, hK, hRO, hb0, hR, hmc, hms, hnn, hro⟩ := C
  subst hnn
  subst hro
  intro r hr H locs ls h1 h2 h3 h4
  exact lv_i2l hx hb hd rfl (k r hr H locs ls h1 h2 h3 h4)

theorem z_i2b (C : zC P cc own ret ht mc ms nn ro0) {x : Int32} (hd : decode cc pc = .ok (.i2b, 1)) 
    (k : zGq P Qf F (pc + 1) lv (.int (x.toInt8.toInt32) :: stk) hp sz uc us) : zGq P Qf F pc lv (.int x :: stk) hp sz uc us := by
  obtain ⟨p, l, e, R, s, m, args, below, meth, c, D, tc, ro, b0, mc', ms', nL⟩ := P
  obtain ⟨⟨hx, hb, hml, hown, hts⟩, hret, hlocks, hK, hRO, hb0, hR, hmc, hms, hnn, hro⟩ := C
  subst hnn
  subst hro
  intro r hr H locs ls h1 h2 h3 h4
  exact lv_i2b hx hb hd rfl (k r hr H locs ls h1 h2 h3 h4)

theorem z_i2c (C : zC P cc own ret ht mc ms nn ro0) {x : Int32} (hd : decode cc pc = .ok (.i2c, 1)) 
    (k : zGq P Qf F (pc + 1) lv (.int ((x.toUInt32 % 65536).toInt32) :: stk) hp sz uc us) : zGq P Qf F pc lv (.int x :: stk) hp sz uc us := by
  obtain ⟨p, l, e, R, s, m, args, below, meth, c, D, tc, ro, b0, mc', ms', nL⟩ := P
  obtain ⟨⟨hx, hb, hml, hown, hts⟩, hret, hlocks, hK, hRO, hb0, hR, hmc, hms, hnn, hro⟩ := C
  subst hnn
  subst hro
  intro r hr H locs ls h1 h2 h3 h4
  exact lv_i2c hx hb hd rfl (k r hr H locs ls h1 h2 h3 h4)

theorem z_lconst (C : zC P cc own ret ht mc ms nn ro0) {n : Fin 2} {v : Int64} (hd : decode cc pc = .ok (.lconst n, 1)) (hv : Int64.ofNat (n : Nat) = v)
    (k : zGq P Qf F (pc + 1) lv (.long v :: stk) hp sz uc us) : zGq P Qf F pc lv (stk) hp sz uc us := by
  obtain ⟨p, l, e, R, s, m, args, below, meth, c, D, tc, ro, b0, mc', ms', nL⟩ := P
  obtain ⟨⟨hx, hb, hml, hown, hts⟩, hret, hlocks, hK, hRO, hb0, hR, hmc, hms, hnn, hro⟩ := C
  subst hnn
  subst hro
  intro r hr H locs ls h1 h2 h3 h4
  exact lv_lconst hx hb hd hv (k r hr H locs ls h1 h2 h3 h4)

theorem z_dup (C : zC P cc own ret ht mc ms nn ro0) {v : Value} (hd : decode cc pc = .ok (.dup, 1)) (hv : v.category = 1)
    (k : zGq P Qf F (pc + 1) lv (v :: v :: stk) hp sz uc us) : zGq P Qf F pc lv (v :: stk) hp sz uc us := by
  obtain ⟨p, l, e, R, s, m, args, below, meth, c, D, tc, ro, b0, mc', ms', nL⟩ := P
  obtain ⟨⟨hx, hb, hml, hown, hts⟩, hret, hlocks, hK, hRO, hb0, hR, hmc, hms, hnn, hro⟩ := C
  subst hnn
  subst hro
  intro r hr H locs ls h1 h2 h3 h4
  exact lv_dup hx hb hd hv (k r hr H locs ls h1 h2 h3 h4)

theorem z_pop (C : zC P cc own ret ht mc ms nn ro0) {v : Value} (hd : decode cc pc = .ok (.pop, 1)) (hv : v.category = 1)
    (k : zGq P Qf F (pc + 1) lv (stk) hp sz uc us) : zGq P Qf F pc lv (v :: stk) hp sz uc us := by
  obtain ⟨p, l, e, R, s, m, args, below, meth, c, D, tc, ro, b0, mc', ms', nL⟩ := P
  obtain ⟨⟨hx, hb, hml, hown, hts⟩, hret, hlocks, hK, hRO, hb0, hR, hmc, hms, hnn, hro⟩ := C
  subst hnn
  subst hro
  intro r hr H locs ls h1 h2 h3 h4
  exact lv_pop hx hb hd hv (k r hr H locs ls h1 h2 h3 h4)

theorem z_dup2 (C : zC P cc own ret ht mc ms nn ro0) {v w : Value} (hd : decode cc pc = .ok (.dup2, 1)) (hv : v.category = 1) (hw : w.category = 1)
    (k : zGq P Qf F (pc + 1) lv (v :: w :: v :: w :: stk) hp sz uc us) : zGq P Qf F pc lv (v :: w :: stk) hp sz uc us := by
  obtain ⟨p, l, e, R, s, m, args, below, meth, c, D, tc, ro, b0, mc', ms', nL⟩ := P
  obtain ⟨⟨hx, hb, hml, hown, hts⟩, hret, hlocks, hK, hRO, hb0, hR, hmc, hms, hnn, hro⟩ := C
  subst hnn
  subst hro
  intro r hr H locs ls h1 h2 h3 h4
  exact lv_dup2_11 hx hb hd hv hw (k r hr H locs ls h1 h2 h3 h4)

theorem z_dup_x1 (C : zC P cc own ret ht mc ms nn ro0) {v w : Value} (hd : decode cc pc = .ok (.dup_x1, 1)) (hv : v.category = 1) (hw : w.category = 1)
    (k : zGq P Qf F (pc + 1) lv (v :: w :: v :: stk) hp sz uc us) : zGq P Qf F pc lv (v :: w :: stk) hp sz uc us := by
  obtain ⟨p, l, e, R, s, m, args, below, meth, c, D, tc, ro, b0, mc', ms', nL⟩ := P
  obtain ⟨⟨hx, hb, hml, hown, hts⟩, hret, hlocks, hK, hRO, hb0, hR, hmc, hms, hnn, hro⟩ := C
  subst hnn
  subst hro
  intro r hr H locs ls h1 h2 h3 h4
  exact lv_dup_x1 hx hb hd hv hw (k r hr H locs ls h1 h2 h3 h4)

theorem z_ineg (C : zC P cc own ret ht mc ms nn ro0) {x : Int32} (hd : decode cc pc = .ok (.ineg, 1)) 
    (k : zGq P Qf F (pc + 1) lv (.int (-x) :: stk) hp sz uc us) : zGq P Qf F pc lv (.int x :: stk) hp sz uc us := by
  obtain ⟨p, l, e, R, s, m, args, below, meth, c, D, tc, ro, b0, mc', ms', nL⟩ := P
  obtain ⟨⟨hx, hb, hml, hown, hts⟩, hret, hlocks, hK, hRO, hb0, hR, hmc, hms, hnn, hro⟩ := C
  subst hnn
  subst hro
  intro r hr H locs ls h1 h2 h3 h4
  exact lv_ineg hx hb hd (k r hr H locs ls h1 h2 h3 h4)

theorem z_iushr (C : zC P cc own ret ht mc ms nn ro0) {x y : Int32} (hd : decode cc pc = .ok (.iushr, 1)) 
    (k : zGq P Qf F (pc + 1) lv (.int (zushr x y) :: stk) hp sz uc us) : zGq P Qf F pc lv (.int y :: .int x :: stk) hp sz uc us := by
  obtain ⟨p, l, e, R, s, m, args, below, meth, c, D, tc, ro, b0, mc', ms', nL⟩ := P
  obtain ⟨⟨hx, hb, hml, hown, hts⟩, hret, hlocks, hK, hRO, hb0, hR, hmc, hms, hnn, hro⟩ := C
  subst hnn
  subst hro
  intro r hr H locs ls h1 h2 h3 h4
  exact lv_iushr hx hb hd rfl (k r hr H locs ls h1 h2 h3 h4)

theorem z_goto (C : zC P cc own ret ht mc ms nn ro0) {off : Int} (tgt : Nat) (hd : decode cc pc = .ok (.goto off, 3)) (ht : (pc : Int) + off = (tgt : Int))
    (k : zGq P Qf F tgt lv stk hp sz uc us) : zGq P Qf F pc lv stk hp sz uc us := by
  obtain ⟨p, l, e, R, s, m, args, below, meth, c, D, tc, ro, b0, mc', ms', nL⟩ := P
  obtain ⟨⟨hx, hb, hml, hown, hts⟩, hret, hlocks, hK, hRO, hb0, hR, hmc, hms, hnn, hro⟩ := C
  subst hnn
  subst hro
  intro r hr H locs ls h1 h2 h3 h4
  exact lv_goto hx hb hd ht (k r hr H locs ls h1 h2 h3 h4)

theorem z_istore_n (C : zC P cc own ret ht mc ms nn ro0) {i : Fin 4} {x : Int32} {lv' : List (Nat × Value)} (hd : decode cc pc = .ok (.istore_n i, 1)) (hn : (i : Nat) < nn) (hl : zst lv (i : Nat) (.int x) = lv')
    (k : zGq P Qf F (pc + 1) lv' stk hp sz uc us) : zGq P Qf F pc lv (.int x :: stk) hp sz uc us := by
  obtain ⟨p, l, e, R, s, m, args, below, meth, c, D, tc, ro, b0, mc', ms', nL⟩ := P
  obtain ⟨⟨hx, hb, hml, hown, hts⟩, hret, hlocks, hK, hRO, hb0, hR, hmc, hms, hnn, hro⟩ := C
  subst hnn
  subst hro
  intro r hr H locs ls h1 h2 h3 h4
  exact lv_istore_n hx hb hd rfl h4 hn rfl (fun ls' h5 => k r hr H locs ls' h1 h2 h3 (hl ▸ zst_has h5))

theorem z_istore (C : zC P cc own ret ht mc ms nn ro0) {i : Nat} {x : Int32} {lv' : List (Nat × Value)} (hd : decode cc pc = .ok (.istore i, 2)) (hn : i < nn) (hl : zst lv i (.int x) = lv')
    (k : zGq P Qf F (pc + 2) lv' stk hp sz uc us) : zGq P Qf F pc lv (.int x :: stk) hp sz uc us := by
  obtain ⟨p, l, e, R, s, m, args, below, meth, c, D, tc, ro, b0, mc', ms', nL⟩ := P
  obtain ⟨⟨hx, hb, hml, hown, hts⟩, hret, hlocks, hK, hRO, hb0, hR, hmc, hms, hnn, hro⟩ := C
  subst hnn
  subst hro
  intro r hr H locs ls h1 h2 h3 h4
  exact lv_istore hx hb hd h4 hn rfl (fun ls' h5 => k r hr H locs ls' h1 h2 h3 (hl ▸ zst_has h5))

theorem z_astore_n (C : zC P cc own ret ht mc ms nn ro0) {i : Fin 4} {x : Nat} {lv' : List (Nat × Value)} (hd : decode cc pc = .ok (.astore_n i, 1)) (hn : (i : Nat) < nn) (hl : zst lv (i : Nat) (.ref x) = lv')
    (k : zGq P Qf F (pc + 1) lv' stk hp sz uc us) : zGq P Qf F pc lv (.ref x :: stk) hp sz uc us := by
  obtain ⟨p, l, e, R, s, m, args, below, meth, c, D, tc, ro, b0, mc', ms', nL⟩ := P
  obtain ⟨⟨hx, hb, hml, hown, hts⟩, hret, hlocks, hK, hRO, hb0, hR, hmc, hms, hnn, hro⟩ := C
  subst hnn
  subst hro
  intro r hr H locs ls h1 h2 h3 h4
  exact lv_astore_n hx hb hd rfl h4 hn rfl (fun ls' h5 => k r hr H locs ls' h1 h2 h3 (hl ▸ zst_has h5))

theorem z_astore (C : zC P cc own ret ht mc ms nn ro0) {i : Nat} {x : Nat} {lv' : List (Nat × Value)} (hd : decode cc pc = .ok (.astore i, 2)) (hn : i < nn) (hl : zst lv i (.ref x) = lv')
    (k : zGq P Qf F (pc + 2) lv' stk hp sz uc us) : zGq P Qf F pc lv (.ref x :: stk) hp sz uc us := by
  obtain ⟨p, l, e, R, s, m, args, below, meth, c, D, tc, ro, b0, mc', ms', nL⟩ := P
  obtain ⟨⟨hx, hb, hml, hown, hts⟩, hret, hlocks, hK, hRO, hb0, hR, hmc, hms, hnn, hro⟩ := C
  subst hnn
  subst hro
  intro r hr H locs ls h1 h2 h3 h4
  exact lv_astore hx hb hd h4 hn rfl (fun ls' h5 => k r hr H locs ls' h1 h2 h3 (hl ▸ zst_has h5))

theorem z_istore_nL (C : zC P cc own ret ht mc ms nn ro0) {i : Fin 4} {x : Int32} {f : Int32 → Option ρ} (lv' : Int32 → List (Nat × Value)) (hd : decode cc pc = .ok (.istore_n i, 1)) (hn : (i : Nat) < nn) (hl : ∀ y, zst lv (i : Nat) (.int y) = lv' y)
    (k : ∀ y, zGq P Qf (f y) (pc + 1) (lv' y) stk hp sz uc us) : zGq P Qf (zlet x f) pc lv (.int x :: stk) hp sz uc us := by
  obtain ⟨p, l, e, R, s, m, args, below, meth, c, D, tc, ro, b0, mc', ms', nL⟩ := P
  obtain ⟨⟨hx, hb, hml, hown, hts⟩, hret, hlocks, hK, hRO, hb0, hR, hmc, hms, hnn, hro⟩ := C
  subst hnn
  subst hro
  intro r hr H locs ls h1 h2 h3 h4
  exact lv_istore_n hx hb hd rfl h4 hn rfl (fun ls' h5 => k x r hr H locs ls' h1 h2 h3 (hl x ▸ zst_has h5))

theorem z_istoreL (C : zC P cc own ret ht mc ms nn ro0) {i : Nat} {x : Int32} {f : Int32 → Option ρ} (lv' : Int32 → List (Nat × Value)) (hd : decode cc pc = .ok (.istore i, 2)) (hn : i < nn) (hl : ∀ y, zst lv i (.int y) = lv' y)
    (k : ∀ y, zGq P Qf (f y) (pc + 2) (lv' y) stk hp sz uc us) : zGq P Qf (zlet x f) pc lv (.int x :: stk) hp sz uc us := by
  obtain ⟨p, l, e, R, s, m, args, below, meth, c, D, tc, ro, b0, mc', ms', nL⟩ := P
  obtain ⟨⟨hx, hb, hml, hown, hts⟩, hret, hlocks, hK, hRO, hb0, hR, hmc, hms, hnn, hro⟩ := C
  subst hnn
  subst hro
  intro r hr H locs ls h1 h2 h3 h4
  exact lv_istore hx hb hd h4 hn rfl (fun ls' h5 => k x r hr H locs ls' h1 h2 h3 (hl x ▸ zst_has h5))

theorem z_iincL (C : zC P cc own ret ht mc ms nn ro0) {i : Nat} {n : Int} {x v : Int32} {f : Int32 → Option ρ} (j : Nat) (lv' : Int32 → List (Nat × Value)) (hd : decode cc pc = .ok (.iinc i n, 3)) (hk : lv[j]? = some (i, .int x)) (hv : Int32.ofInt n = v) (hn : i < nn) (hl : ∀ y, zst lv i (.int y) = lv' y)
    (k : ∀ y, zGq P Qf (f y) (pc + 3) (lv' y) stk hp sz uc us) : zGq P Qf (zlet (x + v) f) pc lv stk hp sz uc us := by
  obtain ⟨p, l, e, R, s, m, args, below, meth, c, D, tc, ro, b0, mc', ms', nL⟩ := P
  obtain ⟨⟨hx, hb, hml, hown, hts⟩, hret, hlocks, hK, hRO, hb0, hR, hmc, hms, hnn, hro⟩ := C
  subst hnn
  subst hro
  intro r hr H locs ls h1 h2 h3 h4
  exact lv_iinc hx hb hd h4 hk (by rw [hv]) hn rfl (fun ls' h5 => k (x + v) r hr H locs ls' h1 h2 h3 (hl (x + v) ▸ zst_has h5))

theorem z_top {x : Int32} {f : Int32 → Option ρ} (k : ∀ y, zGq P Qf (f y) pc lv (.int y :: stk) hp sz uc us) : zGq P Qf (zlet x f) pc lv (.int x :: stk) hp sz uc us := k x
theorem z_sub {lv' : List (Nat × Value)} (ks : List Nat) (hl : lv_pick lv ks = lv') (k : zGq P Qf F pc lv' stk hp sz uc us) : zGq P Qf F pc lv stk hp sz uc us := by
  obtain ⟨p, l, e, R, s, m, args, below, meth, c, D, tc, ro, b0, mc', ms', nL⟩ := P
  intro r hr H locs ls h1 h2 h3 h4
  exact k r hr H locs ls h1 h2 h3 (lv_sub h4 ks hl)
theorem z_none : zGq P Qf none pc lv stk hp sz uc us := by
  obtain ⟨p, l, e, R, s, m, args, below, meth, c, D, tc, ro, b0, mc', ms', nL⟩ := P
  intro r hr
  cases hr
theorem z_eq {F' : Option ρ} (h : F = F') (k : zGq P Qf F' pc lv stk hp sz uc us) : zGq P Qf F pc lv stk hp sz uc us := h ▸ k
theorem z_is {a ci : Nat} {f : Unit → Option ρ} (k : zGq P Qf (f ()) pc lv stk hp sz uc us) : zGq P Qf ((zis hp a ci).bind f) pc lv stk hp sz uc us := by
  cases h : zis hp a ci with
  | none => exact z_none
  | some u => exact k

theorem z_icmp_eq (C : zC P cc own ret ht mc ms nn ro0) {x y : Int32} {off : Int} (tgt : Nat) [Decidable (x = y)] {A B : Option ρ} (hd : decode cc pc = .ok (.if_icmp .eq off, 3)) (ht : (pc : Int) + off = (tgt : Int))
    (kA : zGq P Qf A tgt lv stk hp sz uc us) (kB : zGq P Qf B (pc + 3) lv stk hp sz uc us) : zGq P Qf (if x = y then A else B) pc lv (.int y :: .int x :: stk) hp sz uc us := by
  obtain ⟨p, l, e, R, s, m, args, below, meth, c, D, tc, ro, b0, mc', ms', nL⟩ := P
  obtain ⟨⟨hx, hb, hml, hown, hts⟩, hret, hlocks, hK, hRO, hb0, hR, hmc, hms, hnn, hro⟩ := C
  subst hnn
  subst hro
  intro r hr H locs ls h1 h2 h3 h4
  refine lv_icmp_eq hx hb hd ht (fun q => ?_) (fun q => ?_)
  · rw [if_pos (by first | exact q | exact q.symm)] at hr
    exact kA r hr H locs ls h1 h2 h3 h4
  · rw [if_neg (by first | exact q | exact fun z => q z.symm)] at hr
    exact kB r hr H locs ls h1 h2 h3 h4

theorem z_icmp_ne (C : zC P cc own ret ht mc ms nn ro0) {x y : Int32} {off : Int} (tgt : Nat) [Decidable (x = y)] {A B : Option ρ} (hd : decode cc pc = .ok (.if_icmp .ne off, 3)) (ht : (pc : Int) + off = (tgt : Int))
    (kA : zGq P Qf A (pc + 3) lv stk hp sz uc us) (kB : zGq P Qf B tgt lv stk hp sz uc us) : zGq P Qf (if x = y then A else B) pc lv (.int y :: .int x :: stk) hp sz uc us := by
  obtain ⟨p, l, e, R, s, m, args, below, meth, c, D, tc, ro, b0, mc', ms', nL⟩ := P
  obtain ⟨⟨hx, hb, hml, hown, hts⟩, hret, hlocks, hK, hRO, hb0, hR, hmc, hms, hnn, hro⟩ := C
  subst hnn
  subst hro
  intro r hr H locs ls h1 h2 h3 h4
  refine lv_icmp_ne hx hb hd ht (fun q => ?_) (fun q => ?_)
  · rw [if_neg (by first | exact q | exact fun z => q z.symm)] at hr
    exact kB r hr H locs ls h1 h2 h3 h4
  · rw [if_pos (by first | exact Classical.not_not.mp q | exact (Classical.not_not.mp q).symm | exact q | exact q.symm)] at hr
    exact kA r hr H locs ls h1 h2 h3 h4

theorem z_icmp_lt (C : zC P cc own ret ht mc ms nn ro0) {x y : Int32} {off : Int} (tgt : Nat) [Decidable (x < y)] {A B : Option ρ} (hd : decode cc pc = .ok (.if_icmp .lt off, 3)) (ht : (pc : Int) + off = (tgt : Int))
    (kA : zGq P Qf A tgt lv stk hp sz uc us) (kB : zGq P Qf B (pc + 3) lv stk hp sz uc us) : zGq P Qf (if x < y then A else B) pc lv (.int y :: .int x :: stk) hp sz uc us := by
  obtain ⟨p, l, e, R, s, m, args, below, meth, c, D, tc, ro, b0, mc', ms', nL⟩ := P
  obtain ⟨⟨hx, hb, hml, hown, hts⟩, hret, hlocks, hK, hRO, hb0, hR, hmc, hms, hnn, hro⟩ := C
  subst hnn
  subst hro
  intro r hr H locs ls h1 h2 h3 h4
  refine lv_icmp_lt hx hb hd ht (fun q => ?_) (fun q => ?_)
  · rw [if_pos q] at hr
    exact kA r hr H locs ls h1 h2 h3 h4
  · rw [if_neg q] at hr
    exact kB r hr H locs ls h1 h2 h3 h4

theorem z_icmp_ge (C : zC P cc own ret ht mc ms nn ro0) {x y : Int32} {off : Int} (tgt : Nat) [Decidable (x < y)] {A B : Option ρ} (hd : decode cc pc = .ok (.if_icmp .ge off, 3)) (ht : (pc : Int) + off = (tgt : Int))
    (kA : zGq P Qf A (pc + 3) lv stk hp sz uc us) (kB : zGq P Qf B tgt lv stk hp sz uc us) : zGq P Qf (if x < y then A else B) pc lv (.int y :: .int x :: stk) hp sz uc us := by
  obtain ⟨p, l, e, R, s, m, args, below, meth, c, D, tc, ro, b0, mc', ms', nL⟩ := P
  obtain ⟨⟨hx, hb, hml, hown, hts⟩, hret, hlocks, hK, hRO, hb0, hR, hmc, hms, hnn, hro⟩ := C
  subst hnn
  subst hro
  intro r hr H locs ls h1 h2 h3 h4
  refine lv_icmp_ge hx hb hd ht (fun q => ?_) (fun q => ?_)
  · rw [if_neg (Int32.not_lt.mpr q)] at hr
    exact kB r hr H locs ls h1 h2 h3 h4
  · rw [if_pos (Int32.not_le.mp q)] at hr
    exact kA r hr H locs ls h1 h2 h3 h4

theorem z_icmp_gt (C : zC P cc own ret ht mc ms nn ro0) {x y : Int32} {off : Int} (tgt : Nat) [Decidable (y < x)] {A B : Option ρ} (hd : decode cc pc = .ok (.if_icmp .gt off, 3)) (ht : (pc : Int) + off = (tgt : Int))
    (kA : zGq P Qf A tgt lv stk hp sz uc us) (kB : zGq P Qf B (pc + 3) lv stk hp sz uc us) : zGq P Qf (if y < x then A else B) pc lv (.int y :: .int x :: stk) hp sz uc us := by
  obtain ⟨p, l, e, R, s, m, args, below, meth, c, D, tc, ro, b0, mc', ms', nL⟩ := P
  obtain ⟨⟨hx, hb, hml, hown, hts⟩, hret, hlocks, hK, hRO, hb0, hR, hmc, hms, hnn, hro⟩ := C
  subst hnn
  subst hro
  intro r hr H locs ls h1 h2 h3 h4
  refine lv_icmp_gt hx hb hd ht (fun q => ?_) (fun q => ?_)
  · rw [if_pos q] at hr
    exact kA r hr H locs ls h1 h2 h3 h4
  · rw [if_neg q] at hr
    exact kB r hr H locs ls h1 h2 h3 h4

theorem z_icmp_le (C : zC P cc own ret ht mc ms nn ro0) {x y : Int32} {off : Int} (tgt : Nat) [Decidable (y < x)] {A B : Option ρ} (hd : decode cc pc = .ok (.if_icmp .le off, 3)) (ht : (pc : Int) + off = (tgt : Int))
    (kA : zGq P Qf A (pc + 3) lv stk hp sz uc us) (kB : zGq P Qf B tgt lv stk hp sz uc us) : zGq P Qf (if y < x then A else B) pc lv (.int y :: .int x :: stk) hp sz uc us := by
  obtain ⟨p, l, e, R, s, m, args, below, meth, c, D, tc, ro, b0, mc', ms', nL⟩ := P
  obtain ⟨⟨hx, hb, hml, hown, hts⟩, hret, hlocks, hK, hRO, hb0, hR, hmc, hms, hnn, hro⟩ := C
  subst hnn
  subst hro
  intro r hr H locs ls h1 h2 h3 h4
  refine lv_icmp_le hx hb hd ht (fun q => ?_) (fun q => ?_)
  · rw [if_neg (Int32.not_lt.mpr q)] at hr
    exact kB r hr H locs ls h1 h2 h3 h4
  · rw [if_pos (Int32.not_le.mp q)] at hr
    exact kA r hr H locs ls h1 h2 h3 h4

theorem z_if_eq (C : zC P cc own ret ht mc ms nn ro0) {x : Int32} {off : Int} (tgt : Nat) [Decidable (x = 0)] {A B : Option ρ} (hd : decode cc pc = .ok (.ifCond .eq off, 3)) (ht : (pc : Int) + off = (tgt : Int))
    (kA : zGq P Qf A tgt lv stk hp sz uc us) (kB : zGq P Qf B (pc + 3) lv stk hp sz uc us) : zGq P Qf (if x = 0 then A else B) pc lv (.int x :: stk) hp sz uc us := by
  obtain ⟨p, l, e, R, s, m, args, below, meth, c, D, tc, ro, b0, mc', ms', nL⟩ := P
  obtain ⟨⟨hx, hb, hml, hown, hts⟩, hret, hlocks, hK, hRO, hb0, hR, hmc, hms, hnn, hro⟩ := C
  subst hnn
  subst hro
  intro r hr H locs ls h1 h2 h3 h4
  refine lv_if_eq hx hb hd ht (fun q => ?_) (fun q => ?_)
  · rw [if_pos (by first | exact q | exact q.symm)] at hr
    exact kA r hr H locs ls h1 h2 h3 h4
  · rw [if_neg (by first | exact q | exact fun z => q z.symm)] at hr
    exact kB r hr H locs ls h1 h2 h3 h4

theorem z_if_ne (C : zC P cc own ret ht mc ms nn ro0) {x : Int32} {off : Int} (tgt : Nat) [Decidable (x = 0)] {A B : Option ρ} (hd : decode cc pc = .ok (.ifCond .ne off, 3)) (ht : (pc : Int) + off = (tgt : Int))
    (kA : zGq P Qf A (pc + 3) lv stk hp sz uc us) (kB : zGq P Qf B tgt lv stk hp sz uc us) : zGq P Qf (if x = 0 then A else B) pc lv (.int x :: stk) hp sz uc us := by
  obtain ⟨p, l, e, R, s, m, args, below, meth, c, D, tc, ro, b0, mc', ms', nL⟩ := P
  obtain ⟨⟨hx, hb, hml, hown, hts⟩, hret, hlocks, hK, hRO, hb0, hR, hmc, hms, hnn, hro⟩ := C
  subst hnn
  subst hro
  intro r hr H locs ls h1 h2 h3 h4
  refine lv_if_ne hx hb hd ht (fun q => ?_) (fun q => ?_)
  · rw [if_neg (by first | exact q | exact fun z => q z.symm)] at hr
    exact kB r hr H locs ls h1 h2 h3 h4
  · rw [if_pos (by first | exact Classical.not_not.mp q | exact (Classical.not_not.mp q).symm | exact q | exact q.symm)] at hr
    exact kA r hr H locs ls h1 h2 h3 h4

theorem z_if_lt (C : zC P cc own ret ht mc ms nn ro0) {x : Int32} {off : Int} (tgt : Nat) [Decidable (x < 0)] {A B : Option ρ} (hd : decode cc pc = .ok (.ifCond .lt off, 3)) (ht : (pc : Int) + off = (tgt : Int))
    (kA : zGq P Qf A tgt lv stk hp sz uc us) (kB : zGq P Qf B (pc + 3) lv stk hp sz uc us) : zGq P Qf (if x < 0 then A else B) pc lv (.int x :: stk) hp sz uc us := by
  obtain ⟨p, l, e, R, s, m, args, below, meth, c, D, tc, ro, b0, mc', ms', nL⟩ := P
  obtain ⟨⟨hx, hb, hml, hown, hts⟩, hret, hlocks, hK, hRO, hb0, hR, hmc, hms, hnn, hro⟩ := C
  subst hnn
  subst hro
  intro r hr H locs ls h1 h2 h3 h4
  refine lv_if_lt hx hb hd ht (fun q => ?_) (fun q => ?_)
  · rw [if_pos q] at hr
    exact kA r hr H locs ls h1 h2 h3 h4
  · rw [if_neg q] at hr
    exact kB r hr H locs ls h1 h2 h3 h4

theorem z_if_ge (C : zC P cc own ret ht mc ms nn ro0) {x : Int32} {off : Int} (tgt : Nat) [Decidable (x < 0)] {A B : Option ρ} (hd : decode cc pc = .ok (.ifCond .ge off, 3)) (ht : (pc : Int) + off = (tgt : Int))
    (kA : zGq P Qf A (pc + 3) lv stk hp sz uc us) (kB : zGq P Qf B tgt lv stk hp sz uc us) : zGq P Qf (if x < 0 then A else B) pc lv (.int x :: stk) hp sz uc us := by
  obtain ⟨p, l, e, R, s, m, args, below, meth, c, D, tc, ro, b0, mc', ms', nL⟩ := P
  obtain ⟨⟨hx, hb, hml, hown, hts⟩, hret, hlocks, hK, hRO, hb0, hR, hmc, hms, hnn, hro⟩ := C
  subst hnn
  subst hro
  intro r hr H locs ls h1 h2 h3 h4
  refine lv_if_ge hx hb hd ht (fun q => ?_) (fun q => ?_)
  · rw [if_neg (Int32.not_lt.mpr q)] at hr
    exact kB r hr H locs ls h1 h2 h3 h4
  · rw [if_pos (Int32.not_le.mp q)] at hr
    exact kA r hr H locs ls h1 h2 h3 h4

theorem z_if_gt (C : zC P cc own ret ht mc ms nn ro0) {x : Int32} {off : Int} (tgt : Nat) [Decidable (0 < x)] {A B : Option ρ} (hd : decode cc pc = .ok (.ifCond .gt off, 3)) (ht : (pc : Int) + off = (tgt : Int))
    (kA : zGq P Qf A tgt lv stk hp sz uc us) (kB : zGq P Qf B (pc + 3) lv stk hp sz uc us) : zGq P Qf (if 0 < x then A else B) pc lv (.int x :: stk) hp sz uc us := by
  obtain ⟨p, l, e, R, s, m, args, below, meth, c, D, tc, ro, b0, mc', ms', nL⟩ := P
  obtain ⟨⟨hx, hb, hml, hown, hts⟩, hret, hlocks, hK, hRO, hb0, hR, hmc, hms, hnn, hro⟩ := C
  subst hnn
  subst hro
  intro r hr H locs ls h1 h2 h3 h4
  refine lv_if_gt hx hb hd ht (fun q => ?_) (fun q => ?_)
  · rw [if_pos q] at hr
    exact kA r hr H locs ls h1 h2 h3 h4
  · rw [if_neg q] at hr
    exact kB r hr H locs ls h1 h2 h3 h4

theorem z_if_le (C : zC P cc own ret ht mc ms nn ro0) {x : Int32} {off : Int} (tgt : Nat) [Decidable (0 < x)] {A B : Option ρ} (hd : decode cc pc = .ok (.ifCond .le off, 3)) (ht : (pc : Int) + off = (tgt : Int))
    (kA : zGq P Qf A (pc + 3) lv stk hp sz uc us) (kB : zGq P Qf B tgt lv stk hp sz uc us) : zGq P Qf (if 0 < x then A else B) pc lv (.int x :: stk) hp sz uc us := by
  obtain ⟨p, l, e, R, s, m, args, below, meth, c, D, tc, ro, b0, mc', ms', nL⟩ := P
  obtain ⟨⟨hx, hb, hml, hown, hts⟩, hret, hlocks, hK, hRO, hb0, hR, hmc, hms, hnn, hro⟩ := C
  subst hnn
  subst hro
  intro r hr H locs ls h1 h2 h3 h4
  refine lv_if_le hx hb hd ht (fun q => ?_) (fun q => ?_)
  · rw [if_neg (Int32.not_lt.mpr q)] at hr
    exact kB r hr H locs ls h1 h2 h3 h4
  · rw [if_pos (Int32.not_le.mp q)] at hr
    exact kA r hr H locs ls h1 h2 h3 h4

theorem z_idiv (C : zC P cc own ret ht mc ms nn ro0) {x y : Int32} {f : Int32 → Option ρ} (hd : decode cc pc = .ok (.idiv, 1))
    (k : ∀ z, zGq P Qf (f z) (pc + 1) lv (.int z :: stk) hp sz uc us) : zGq P Qf ((zdiv x y).bind f) pc lv (.int y :: .int x :: stk) hp sz uc us := by
  obtain ⟨p, l, e, R, s, m, args, below, meth, c, D, tc, ro, b0, mc', ms', nL⟩ := P
  obtain ⟨⟨hx, hb, hml, hown, hts⟩, hret, hlocks, hK, hRO, hb0, hR, hmc, hms, hnn, hro⟩ := C
  subst hnn
  subst hro
  intro r hr H locs ls h1 h2 h3 h4
  by_cases hy : y = 0
  · rw [zdiv, if_pos hy] at hr
    cases hr
  · rw [zdiv, if_neg hy] at hr
    exact lv_idiv hx hb hd hy (k _ r hr H locs ls h1 h2 h3 h4)

theorem z_irem (C : zC P cc own ret ht mc ms nn ro0) {x y : Int32} {f : Int32 → Option ρ} (hd : decode cc pc = .ok (.irem, 1))
    (k : ∀ z, zGq P Qf (f z) (pc + 1) lv (.int z :: stk) hp sz uc us) : zGq P Qf ((zrem x y).bind f) pc lv (.int y :: .int x :: stk) hp sz uc us := by
  obtain ⟨p, l, e, R, s, m, args, below, meth, c, D, tc, ro, b0, mc', ms', nL⟩ := P
  obtain ⟨⟨hx, hb, hml, hown, hts⟩, hret, hlocks, hK, hRO, hb0, hR, hmc, hms, hnn, hro⟩ := C
  subst hnn
  subst hro
  intro r hr H locs ls h1 h2 h3 h4
  by_cases hy : y = 0
  · rw [zrem, if_pos hy] at hr
    cases hr
  · rw [zrem, if_neg hy] at hr
    exact lv_irem hx hb hd hy (k _ r hr H locs ls h1 h2 h3 h4)

/-- what a field's row needs of the tables: class number ci, field k, at entry idx of own's pool -/
def zFW (own : String) (idx ci k : Nat) : Prop := ∃ (C : String) (T : u_T) (N : Nat), ci < 20 ∧ zCl[ci]? = some (C, T, N) ∧ k < N ∧ (∀ w ∈ u_ws C T N, w ∈ zGT) ∧ Cond.fieldLink own idx (T k).1 (T k).2.1 (T k).2.2.1 ∈ zGT
theorem zW_get (C : zC P cc own ret ht mc ms nn ro0) {idx ci k a : Nat} (hw : zFW own idx ci k) {fs : List Value} {v : Value} (hc : hp a = some (.inr (ci, fs))) (hv : fs[k]? = some v) (hd : decode cc pc = .ok (.getfield idx, 3))
    (kk : zGq P Qf F (pc + 3) lv (v :: stk) hp sz uc us) : zGq P Qf F pc lv (.ref a :: stk) hp sz uc us := by
  obtain ⟨p, l, e, R, s, m, args, below, meth, c, D, tc, ro, b0, mc', ms', nL⟩ := P
  obtain ⟨⟨hx, hb, hml, hown, hts⟩, hret, hlocks, hK, hRO, hb0, hR, hmc, hms, hnn, hro⟩ := C
  subst hnn
  subst hro
  intro r hr H locs ls h1 h2 h3 h4
  obtain ⟨Cn, T, N, hci, hcl, hkN, hin, hlk⟩ := hw
  have hz := h2 a _ hc
  unfold zAt at hz
  dsimp only at hz
  rw [if_pos hci] at hz
  obtain ⟨hba, r0, e1, e2⟩ := hz
  have hP : va_P D zCl [(a, .inr (ci, fs))] H := fun j q hq => by
    have hj : j < 1 := (List.getElem?_eq_some_iff.mp hq).1
    rw [show j = 0 by omega] at hq
    cases hq
    exact ⟨r0, e1, e2⟩
  exact va_get (C := Cn) (T := T) (N := N) hx hb hts hin hown hK hP 0 rfl hcl k hkN (hts _ hlk) (fun _ q => q) hv hd (kk r hr H locs ls h1 h2 h3 h4)
theorem z_getI (C : zC P cc own ret ht mc ms nn ro0) {idx ci k a : Nat} {f : Int32 → Option ρ} (hw : zFW own idx ci k) (hd : decode cc pc = .ok (.getfield idx, 3))
    (kk : ∀ x, zGq P Qf (f x) (pc + 3) lv (.int x :: stk) hp sz uc us) : zGq P Qf ((zgI hp a ci k).bind f) pc lv (.ref a :: stk) hp sz uc us := by
  cases h : zgI hp a ci k with
  | none => exact z_none
  | some x =>
    unfold zgI at h
    split at h
    · next c' fs hc =>
      split at h
      · next q =>
        subst q
        split at h
        · next y hy => cases h; exact zW_get C hw hc hy hd (kk x)
        · cases h
      · cases h
    · cases h
theorem z_getR (C : zC P cc own ret ht mc ms nn ro0) {idx ci k a : Nat} {f : Nat → Option ρ} (hw : zFW own idx ci k) (hd : decode cc pc = .ok (.getfield idx, 3))
    (kk : ∀ x, zGq P Qf (f x) (pc + 3) lv (.ref x :: stk) hp sz uc us) : zGq P Qf ((zgR hp a ci k).bind f) pc lv (.ref a :: stk) hp sz uc us := by
  cases h : zgR hp a ci k with
  | none => exact z_none
  | some x =>
    unfold zgR at h
    split at h
    · next c' fs hc =>
      split at h
      · next q =>
        subst q
        split at h
        · next y hy => cases h; exact zW_get C hw hc hy hd (kk x)
        · cases h
      · cases h
    · cases h
/-- and to write it -/
def zPW (own : String) (idx ci k : Nat) (ty : FieldType) : Prop := ∃ (C : String) (T : u_T) (N : Nat) (ty0 : Nat → FieldType), (ci < 20 ∧ zCl[ci]? = some (C, T, N) ∧ k < N ∧ (∀ w ∈ u_ws C T N, w ∈ zGT) ∧ Cond.fieldLink own idx (T k).1 (T k).2.1 (T k).2.2.1 ∈ zGT) ∧ (∀ k, k < N → parseFieldDescriptor (T k).2.2.1 = some (ty0 k)) ∧ (∀ a, a < N → ∀ b, b < N → a ≠ b → (T a).2.1 ≠ (T b).2.1) ∧ (T k).2.2.2 = false ∧ parseFieldDescriptor (T k).2.2.1 = some ty
theorem zW_put (C : zC P cc own ret ht mc ms nn ro0) {idx ci k a : Nat} {ty : FieldType} (hw : zPW own idx ci k ty) {v : Value} {f : zHp → Option ρ} (hn : narrow ty v = v) (hfit : fits ty v = true) (hd : decode cc pc = .ok (.putfield idx, 3))
    (kk : ∀ h, zGq P Qf (f h) (pc + 3) lv stk h sz uc us) : zGq P Qf ((zpV hp a ci k v).bind f) pc lv (v :: .ref a :: stk) hp sz uc us := by
  obtain ⟨p, l, e, R, s, m, args, below, meth, c, D, tc, ro, b0, mc', ms', nL⟩ := P
  obtain ⟨⟨hx, hb, hml, hown, hts⟩, hret, hlocks, hK, hRO, hb0, hR, hmc, hms, hnn, hro⟩ := C
  subst hnn
  subst hro
  intro r hr H locs ls h1 h2 h3 h4
  obtain ⟨Cn, T, N, ty0, ⟨hci, hcl, hkN, hin, hlk⟩, hty, hnm, hfin, hdd⟩ := hw
  unfold zpV at hr
  split at hr
  · next c' fs hc =>
    split at hr
    · next q =>
      obtain ⟨rfl, hlen⟩ := q
      have hz := h2 a _ hc
      unfold zAt at hz
      dsimp only at hz
      rw [if_pos hci] at hz
      obtain ⟨hba, r0, e1, cell, q1, q2, q3, q4⟩ := hz
      have hr0 : r0 = (Cn, T, N) := Option.some.inj (e1.symm.trans hcl)
      subst hr0
      have hap := va_apart (own := own) hts hin ty0 hty hnm hK hcl
      obtain ⟨hS, hfc, kC, hkC, hkind⟩ := hK.1 c' _ hcl
      obtain ⟨cf, kf, fi, fd, hi, hsl⟩ := hS k hkN
      have hlay := hts _ (hin _ (u_in_lay hkN))
      unfold u_lay at hlay
      rw [if_neg (by rw [hfin]; decide)] at hlay
      have hst := (u_facts hfc hkC (u_lays hts hin hkN) hi).1
      have h6 := u_store hfc hkC hkind hlay hi hdd hn hfit
      refine W.putK hx hb (f := fd) ⟨hown, hts _ hlk, ⟨_, _, _, hi⟩, hst⟩ (by rw [q2]; exact h6) q1 q3 (by rw [hsl]; exact k2_hasslot (q4 k hkN)) rfl rfl hd fun H' e1' e2' e3' => ?_
      rw [hsl] at e1' ⊢
      have hr' : f (zup hp a (.inr (c', fs.set k v))) = some r := hr
      refine kk _ r hr' H' _ ls (e2'.trans h1) (h2.set hba e3' ?_) (h3.put e2' e3' hba) h4
      unfold zAt
      dsimp only
      rw [if_pos hci]
      exact ⟨hba, _, hcl, t_OB.to (V := updV (vp_V fs) k v) ⟨_, e1', q2, q3, t_set q4 hap hkN v⟩ (fun j _ => vp_updV_set hlen v j)⟩
    · cases hr
  · cases hr
theorem z_putI (C : zC P cc own ret ht mc ms nn ro0) {idx ci k a : Nat} {x : Int32} {f : zHp → Option ρ} (hw : zPW own idx ci k .int) (hd : decode cc pc = .ok (.putfield idx, 3))
    (kk : ∀ h, zGq P Qf (f h) (pc + 3) lv stk h sz uc us) : zGq P Qf ((zpV hp a ci k (.int x)).bind f) pc lv (.int x :: .ref a :: stk) hp sz uc us := zW_put C hw rfl rfl hd kk
theorem z_putZ (C : zC P cc own ret ht mc ms nn ro0) {idx ci k a : Nat} {x : Int32} {f : zHp → Option ρ} (hw : zPW own idx ci k .boolean) (hd : decode cc pc = .ok (.putfield idx, 3))
    (kk : ∀ h, zGq P Qf (f h) (pc + 3) lv stk h sz uc us) : zGq P Qf ((zpZ hp a ci k x).bind f) pc lv (.int x :: .ref a :: stk) hp sz uc us := by
  unfold zpZ
  split
  · next q => exact zW_put C hw (by rcases q with rfl | rfl <;> rfl) (by rcases q with rfl | rfl <;> rfl) hd kk
  · exact z_none
theorem z_putR (C : zC P cc own ret ht mc ms nn ro0) {idx ci k a x : Nat} {ty : FieldType} {f : zHp → Option ρ} (hw : zPW own idx ci k ty) (hn : narrow ty (.ref x) = .ref x) (hfit : fits ty (.ref x) = true) (hd : decode cc pc = .ok (.putfield idx, 3))
    (kk : ∀ h, zGq P Qf (f h) (pc + 3) lv stk h sz uc us) : zGq P Qf ((zpV hp a ci k (.ref x)).bind f) pc lv (.ref x :: .ref a :: stk) hp sz uc us := zW_put C hw hn hfit hd kk

theorem z_iaload (C : zC P cc own ret ht mc ms nn ro0) {a : Nat} {i : Int32} {f : Int32 → Option ρ} (hd : decode cc pc = .ok (.iaload, 1))
    (kk : ∀ x, zGq P Qf (f x) (pc + 1) lv (.int x :: stk) hp sz uc us) : zGq P Qf ((zaI hp 0 a i).bind f) pc lv (.int i :: .ref a :: stk) hp sz uc us := by
  obtain ⟨p, l, e, R, s, m, args, below, meth, c, D, tc, ro, b0, mc', ms', nL⟩ := P
  obtain ⟨⟨hx, hb, hml, hown, hts⟩, hret, hlocks, hK, hRO, hb0, hR, hmc, hms, hnn, hro⟩ := C
  subst hnn
  subst hro
  intro r hr H locs ls h1 h2 h3 h4
  unfold zaI at hr
  split at hr
  · next t' n g hc =>
    split at hr
    · next q =>
      obtain ⟨q0, q1⟩ := q
      have hlt : i.toNatClampNeg < n := Nat.not_le.mp fun z => q1 (Or.inr z)
      have hz := h2 a _ hc
      unfold zAt at hz
      dsimp only at hz
      rcases q0 with rfl | rfl
      · rw [if_pos (by decide)] at hz
        exact W.iald (v := .int (g i.toNatClampNeg)) hx hb hz.2 ((hK.2 0 (tc 0, .int) rfl).1 n (fun j => .int (g j))) (fun q => by cases q) (by show ¬ (i < 0 ∨ (arrV _ _ _).slots.size ≤ _); rw [arrV_size]; exact q1) (by show (arrV _ _ _).slots[_]? = _; rw [arrV_read _ _ hlt]) rfl rfl hd (kk _ r hr H locs ls h1 h2 h3 h4)
      · rw [if_neg (by decide)] at hz
        obtain ⟨g', e1, cell, c1, c2, c3, c4, -, c6, -⟩ := hz
        cases e1
        dsimp only at c2 c4
        exact W.iald (v := .int (g i.toNatClampNeg)) hx hb c1 c2 c3 (fun z => z.elim (fun z => q1 (Or.inl z)) (fun z => Nat.not_le.mpr hlt (Nat.le_trans c4 z))) (c6 _ hlt) rfl rfl hd (kk _ r hr H locs ls h1 h2 h3 h4)
    · cases hr
  · cases hr

theorem z_baload (C : zC P cc own ret ht mc ms nn ro0) {a : Nat} {i : Int32} {f : Int32 → Option ρ} (hd : decode cc pc = .ok (.baload, 1))
    (kk : ∀ x, zGq P Qf (f x) (pc + 1) lv (.int x :: stk) hp sz uc us) : zGq P Qf ((zaI hp 1 a i).bind f) pc lv (.int i :: .ref a :: stk) hp sz uc us := by
  obtain ⟨p, l, e, R, s, m, args, below, meth, c, D, tc, ro, b0, mc', ms', nL⟩ := P
  obtain ⟨⟨hx, hb, hml, hown, hts⟩, hret, hlocks, hK, hRO, hb0, hR, hmc, hms, hnn, hro⟩ := C
  subst hnn
  subst hro
  intro r hr H locs ls h1 h2 h3 h4
  unfold zaI at hr
  split at hr
  · next t' n g hc =>
    split at hr
    · next q =>
      obtain ⟨q0, q1⟩ := q
      have hlt : i.toNatClampNeg < n := Nat.not_le.mp fun z => q1 (Or.inr z)
      have hz := h2 a _ hc
      unfold zAt at hz
      dsimp only at hz
      rcases q0 with rfl | rfl
      · rw [if_pos (by decide)] at hz
        exact W.bald (v := .int (g i.toNatClampNeg)) hx hb hz.2 ((hK.2 1 (tc 1, .byte) rfl).1 n (fun j => .int (g j))) (fun q => by cases q) (by show ¬ (i < 0 ∨ (arrV _ _ _).slots.size ≤ _); rw [arrV_size]; exact q1) (by show (arrV _ _ _).slots[_]? = _; rw [arrV_read _ _ hlt]) rfl rfl hd (kk _ r hr H locs ls h1 h2 h3 h4)
      · rw [if_neg (by decide)] at hz
        obtain ⟨g', e1, cell, c1, c2, c3, c4, -, c6, -⟩ := hz
        cases e1
        dsimp only at c2 c4
        exact W.bald (v := .int (g i.toNatClampNeg)) hx hb c1 c2 c3 (fun z => z.elim (fun z => q1 (Or.inl z)) (fun z => Nat.not_le.mpr hlt (Nat.le_trans c4 z))) (c6 _ hlt) rfl rfl hd (kk _ r hr H locs ls h1 h2 h3 h4)
    · cases hr
  · cases hr

theorem z_aaload (C : zC P cc own ret ht mc ms nn ro0) {t a : Nat} {i : Int32} {f : Nat → Option ρ} {ty : FieldType} (hty : ∀ tc, (zTy tc)[t]? = some (tc t, ty)) (hrf : ty.isReference = true) (ht10 : t < 10) (hd : decode cc pc = .ok (.aaload, 1))
    (kk : ∀ x, zGq P Qf (f x) (pc + 1) lv (.ref x :: stk) hp sz uc us) : zGq P Qf ((zaR hp t a i).bind f) pc lv (.int i :: .ref a :: stk) hp sz uc us := by
  obtain ⟨p, l, e, R, s, m, args, below, meth, c, D, tc, ro, b0, mc', ms', nL⟩ := P
  obtain ⟨⟨hx, hb, hml, hown, hts⟩, hret, hlocks, hK, hRO, hb0, hR, hmc, hms, hnn, hro⟩ := C
  subst hnn
  subst hro
  intro r hr H locs ls h1 h2 h3 h4
  unfold zaR at hr
  split at hr
  · next t' n g hc =>
    split at hr
    · next q =>
      obtain ⟨rfl, q1⟩ := q
      have hlt : i.toNatClampNeg < n := Nat.not_le.mp fun z => q1 (Or.inr z)
      have hz := h2 a _ hc
      unfold zAt at hz
      dsimp only at hz
      rw [if_pos ht10] at hz
      cases hg : g i.toNatClampNeg with
      | none => rw [hg] at hr; cases hr
      | some v =>
        rw [hg] at hr
        exact W.aald (v := .ref v) (ty := ty) hx hb hz.2 ((hK.2 t' _ (hty tc)).1 n (fun j => va_rf (g j))) hrf (fun q => by cases q) (by show ¬ (i < 0 ∨ (arrV _ _ _).slots.size ≤ _); rw [arrV_size]; exact q1) (by show (arrV _ _ _).slots[_]? = _; rw [arrV_read _ _ hlt, hg]; rfl) rfl rfl hd (kk _ r hr H locs ls h1 h2 h3 h4)
    · cases hr
  · cases hr
theorem z_arraylength (C : zC P cc own ret ht mc ms nn ro0) {t a : Nat} {f : Int32 → Option ρ} {ty : FieldType} (hty : ∀ tc, (zTy tc)[t]? = some (tc t, ty)) (ht10 : t < 10) (hd : decode cc pc = .ok (.arraylength, 1))
    (kk : ∀ x, zGq P Qf (f x) (pc + 1) lv (.int x :: stk) hp sz uc us) : zGq P Qf ((zlen hp t a).bind f) pc lv (.ref a :: stk) hp sz uc us := by
  obtain ⟨p, l, e, R, s, m, args, below, meth, c, D, tc, ro, b0, mc', ms', nL⟩ := P
  obtain ⟨⟨hx, hb, hml, hown, hts⟩, hret, hlocks, hK, hRO, hb0, hR, hmc, hms, hnn, hro⟩ := C
  subst hnn
  subst hro
  intro r hr H locs ls h1 h2 h3 h4
  unfold zlen at hr
  split at hr
  · next t' n A hc =>
    have hz := h2 a _ hc
    unfold zAt at hz
    dsimp only at hz
    split at hr
    · next q =>
      rcases q with rfl | rfl
      · rw [if_pos ht10] at hz
        have hP : va_P D zCl [(a, .inl (tc t', n, A))] H := fun j q hq => by
          have hj : j < 1 := (List.getElem?_eq_some_iff.mp hq).1
          rw [show j = 0 by omega] at hq
          cases hq
          exact hz.2
        exact va_alen hx hb hK hP 0 t' rfl (hty tc) rfl hd (kk _ r hr H locs ls h1 h2 h3 h4)
      · rw [if_neg (by omega)] at hz
        obtain ⟨g', e1, cell, c1, c2, c3, c4, c5, c6, -⟩ := hz
        exact W.alen (n := Int32.ofNat n) hx hb c1 c2 c5 rfl rfl hd (kk _ r hr H locs ls h1 h2 h3 h4)
    · cases hr
  · cases hr
/-- a String's field: value (0), coder (1) -/
def zFS (own : String) (idx k : Nat) : Prop := (k = 0 ∧ Cond.fieldLink own idx "java/lang/String" "value" "[B" ∈ zGT) ∨ (k = 1 ∧ Cond.fieldLink own idx "java/lang/String" "coder" "B" ∈ zGT)
theorem zW_getS (C : zC P cc own ret ht mc ms nn ro0) {idx k a : Nat} (hw : zFS own idx k) {fs : List Value} {v : Value} (hc : hp a = some (.inr (20, fs))) (hv : fs[k]? = some v) (hd : decode cc pc = .ok (.getfield idx, 3))
    (kk : zGq P Qf F (pc + 3) lv (v :: stk) hp sz uc us) : zGq P Qf F pc lv (.ref a :: stk) hp sz uc us := by
  obtain ⟨p, l, e, R, s, m, args, below, meth, c, D, tc, ro, b0, mc', ms', nL⟩ := P
  obtain ⟨⟨hx, hb, hml, hown, hts⟩, hret, hlocks, hK, hRO, hb0, hR, hmc, hms, hnn, hro⟩ := C
  subst hnn
  subst hro
  intro r hr H locs ls h1 h2 h3 h4
  have hz := h2 a _ hc
  unfold zAt at hz
  dsimp only at hz
  rw [if_neg (by decide)] at hz
  obtain ⟨w, rfl, -, hco, hva⟩ := hz
  rcases hw with ⟨rfl, hlk⟩ | ⟨rfl, hlk⟩
  · cases hv
    obtain ⟨cf, kf, fi, fd, cell, g1, g2, g3, g4, g5, g6⟩ := hva
    exact W.getf hx hb hown (hts _ hlk) g1 g2 g3 g4 (v := .ref w) g5 rfl rfl hd (kk r hr H locs ls h1 h2 h3 h4)
  · cases hv
    obtain ⟨cf, kf, fi, fd, cell, g1, g2, g3, g4, g5, g6⟩ := hco
    exact W.getf hx hb hown (hts _ hlk) g1 g2 g3 g4 (v := .int 0) g5 rfl rfl hd (kk r hr H locs ls h1 h2 h3 h4)
theorem z_getSI (C : zC P cc own ret ht mc ms nn ro0) {idx k a : Nat} {f : Int32 → Option ρ} (hw : zFS own idx k) (hd : decode cc pc = .ok (.getfield idx, 3))
    (kk : ∀ x, zGq P Qf (f x) (pc + 3) lv (.int x :: stk) hp sz uc us) : zGq P Qf ((zgI hp a 20 k).bind f) pc lv (.ref a :: stk) hp sz uc us := by
  cases h : zgI hp a 20 k with
  | none => exact z_none
  | some x =>
    unfold zgI at h
    split at h
    · next c' fs hc =>
      split at h
      · next q =>
        subst q
        split at h
        · next y hy => cases h; exact zW_getS C hw hc hy hd (kk x)
        · cases h
      · cases h
    · cases h
theorem z_getSR (C : zC P cc own ret ht mc ms nn ro0) {idx k a : Nat} {f : Nat → Option ρ} (hw : zFS own idx k) (hd : decode cc pc = .ok (.getfield idx, 3))
    (kk : ∀ x, zGq P Qf (f x) (pc + 3) lv (.ref x :: stk) hp sz uc us) : zGq P Qf ((zgR hp a 20 k).bind f) pc lv (.ref a :: stk) hp sz uc us := by
  cases h : zgR hp a 20 k with
  | none => exact z_none
  | some x =>
    unfold zgR at h
    split at h
    · next c' fs hc =>
      split at h
      · next q =>
        subst q
        split at h
        · next y hy => cases h; exact zW_getS C hw hc hy hd (kk x)
        · cases h
      · cases h
    · cases h

theorem z_iastore (C : zC P cc own ret ht mc ms nn ro0) {a : Nat} {i x : Int32} {f : zHp → Option ρ} (hd : decode cc pc = .ok (.iastore, 1))
    (kk : ∀ h, zGq P Qf (f h) (pc + 1) lv stk h sz uc us) : zGq P Qf ((zsI hp a i x).bind f) pc lv (.int x :: .int i :: .ref a :: stk) hp sz uc us := by
  obtain ⟨p, l, e, R, s, m, args, below, meth, c, D, tc, ro, b0, mc', ms', nL⟩ := P
  obtain ⟨⟨hx, hb, hml, hown, hts⟩, hret, hlocks, hK, hRO, hb0, hR, hmc, hms, hnn, hro⟩ := C
  subst hnn
  subst hro
  intro r hr H locs ls h1 h2 h3 h4
  unfold zsI at hr
  split at hr
  · next t' n g hc =>
    split at hr
    · next q =>
      obtain ⟨rfl, q1⟩ := q
      have hz := h2 a _ hc
      unfold zAt at hz
      dsimp only at hz
      rw [if_pos (by decide)] at hz
      refine W.iast hx hb hz.2 ((hK.2 0 (tc 0, .int) rfl).1 n (fun j => .int (g j))) (fun q => by cases q) (by show ¬ (i < 0 ∨ (arrV _ _ _).slots.size ≤ _); rw [arrV_size]; exact q1) rfl rfl hd fun H1 e z oq => ?_
      have hr' : f (zup hp a (.inl (0, n, .inl (upd g i.toNatClampNeg x)))) = some r := hr
      refine kk _ r hr' H1 _ ls (z.trans h1) (h2.set hz.1 oq ?_) (h3.put z oq hz.1) h4
      unfold zAt
      dsimp only
      rw [if_pos (by decide)]
      refine ⟨hz.1, ?_⟩
      rw [e]
      rw [vp_cell_i, vp_cell_i, arrV_store]
      congr 2
      funext q
      by_cases hq : q = i.toNatClampNeg
      · subst hq
        simp [updV, upd, vp_nar]
        try rfl
      · simp [updV, upd, hq]
    · cases hr
  · cases hr

theorem z_bastore (C : zC P cc own ret ht mc ms nn ro0) {a : Nat} {i x : Int32} {f : zHp → Option ρ} (hd : decode cc pc = .ok (.bastore, 1))
    (kk : ∀ h, zGq P Qf (f h) (pc + 1) lv stk h sz uc us) : zGq P Qf ((zsB hp a i x).bind f) pc lv (.int x :: .int i :: .ref a :: stk) hp sz uc us := by
  obtain ⟨p, l, e, R, s, m, args, below, meth, c, D, tc, ro, b0, mc', ms', nL⟩ := P
  obtain ⟨⟨hx, hb, hml, hown, hts⟩, hret, hlocks, hK, hRO, hb0, hR, hmc, hms, hnn, hro⟩ := C
  subst hnn
  subst hro
  intro r hr H locs ls h1 h2 h3 h4
  unfold zsB at hr
  split at hr
  · next t' n g hc =>
    split at hr
    · next q =>
      obtain ⟨rfl, q1⟩ := q
      have hz := h2 a _ hc
      unfold zAt at hz
      dsimp only at hz
      rw [if_pos (by decide)] at hz
      refine W.bast hx hb hz.2 ((hK.2 1 (tc 1, .byte) rfl).1 n (fun j => .int (g j))) (fun q => by cases q) (by show ¬ (i < 0 ∨ (arrV _ _ _).slots.size ≤ _); rw [arrV_size]; exact q1) rfl rfl hd fun H1 e z oq => ?_
      have hr' : f (zup hp a (.inl (1, n, .inl (upd g i.toNatClampNeg (x.toInt8.toInt32))))) = some r := hr
      refine kk _ r hr' H1 _ ls (z.trans h1) (h2.set hz.1 oq ?_) (h3.put z oq hz.1) h4
      unfold zAt
      dsimp only
      rw [if_pos (by decide)]
      refine ⟨hz.1, ?_⟩
      rw [e]
      rw [vp_cell_i, vp_cell_i, arrV_store]
      congr 2
      funext q
      by_cases hq : q = i.toNatClampNeg
      · subst hq
        simp [updV, upd, vp_nar]
        try rfl
      · simp [updV, upd, hq]
    · cases hr
  · cases hr

theorem z_aastore (C : zC P cc own ret ht mc ms nn ro0) {t ci a v : Nat} {i : Int32} {f : zHp → Option ρ} {r0 : vw_C} (hty : ∀ tc, (zTy tc)[t]? = some (tc t, .object r0.1)) (hcl : zCl[ci]? = some r0) (ht10 : t < 10) (hci : ci < 20) (hd : decode cc pc = .ok (.aastore, 1))
    (kk : ∀ h, zGq P Qf (f h) (pc + 1) lv stk h sz uc us) : zGq P Qf ((zsR hp t ci a i v).bind f) pc lv (.ref v :: .int i :: .ref a :: stk) hp sz uc us := by
  obtain ⟨p, l, e, R, s, m, args, below, meth, c, D, tc, ro, b0, mc', ms', nL⟩ := P
  obtain ⟨⟨hx, hb, hml, hown, hts⟩, hret, hlocks, hK, hRO, hb0, hR, hmc, hms, hnn, hro⟩ := C
  subst hnn
  subst hro
  intro r hr H locs ls h1 h2 h3 h4
  unfold zsR at hr
  split at hr
  · next t' n g c' vs hc hv =>
    split at hr
    · next q =>
      obtain ⟨rfl, rfl, q1⟩ := q
      have hr' : f (zup hp a (.inl (t', n, .inr (.inr (.inr (.inr (va_up g i.toNatClampNeg (some v)))))))) = some r := hr
      have hlt : i.toNatClampNeg < n := Nat.not_le.mp fun z => q1 (Or.inr z)
      have h0 : ¬ i < 0 := fun q => q1 (Or.inl q)
      have hz := h2 a _ hc
      have hzv := h2 v _ hv
      unfold zAt at hz hzv
      dsimp only at hz hzv
      rw [if_pos ht10] at hz
      rw [if_pos hci] at hzv
      obtain ⟨-, r1, e1, cellV, g1, g2, g3, -⟩ := hzv
      have hr1 : r1 = r0 := Option.some.inj (e1.symm.trans hcl)
      subst hr1
      have hcls := (hK.1 c' r1 hcl).2
      obtain ⟨kA, comp, k1, k2, k3, -⟩ := (hK.2 t' _ (hty tc)).2
      have hcomp : comp = D.1 c' := Option.some.inj (k3.symm.trans hcls.1)
      subst hcomp
      obtain ⟨kC, hkC, -⟩ := hcls.2
      refine W.aast hx hb hz.2 (fun q h => by cases h) (fun h => by cases h) k1 k2 rfl hkC ⟨h0, by show _ < (arrV _ _ _).slots.size; rw [arrV_size]; exact hlt⟩ g1 (fun q h => by rw [g3] at h; cases h) (by rw [g2]; exact hkC) (by rw [g2]; exact va_assign hcls) rfl rfl hd fun H1 e z oq => ?_
      refine kk _ r hr' H1 _ ls (z.trans h1) (h2.set hz.1 oq ?_) (h3.put z oq hz.1) h4
      unfold zAt
      dsimp only
      rw [if_pos ht10]
      refine ⟨hz.1, ?_⟩
      rw [e]
      rw [vp_cell_q, vp_cell_q, arrV_store]
      congr 2
      funext q
      by_cases hq : q = i.toNatClampNeg
      · subst hq
        simp [updV, va_up, va_rf]
      · simp [updV, va_up, hq]
    · cases hr
  · cases hr

theorem z_ireturn {x : Int32} (C : zC P cc own (some .int) ht uc us nn ro0) (hd : decode cc pc = .ok (.ireturn, 1)) : zG P (zoI sz) (some (x, hp)) pc lv [.int x] hp sz uc us := by
  obtain ⟨p, l, e, R, s, m, args, below, meth, c, D, tc, ro, b0, mc', ms', nL⟩ := P
  obtain ⟨⟨hx, hb, hml, hown, hts⟩, hret, hlocks, hK, hRO, hb0, hR, hmc, hms, hnn, hro⟩ := C
  subst hnn
  subst hro
  intro r hr H locs ls h1 h2 h3 h4
  cases hr
  subst hmc
  subst hms
  exact W.iret hx hb hret (fun t ht hW => ⟨rfl, by rw [ht]; exact h1, by rw [ht]; exact h2.moved hW.alike, h3.F ht⟩) h3.2.2 hd
theorem z_nreturn {ty : FieldType} {x : Int32} (C : zC P cc own (some ty) ht uc us nn ro0) (hty : ty = .boolean ∨ ty = .byte ∨ ty = .char) (hd : decode cc pc = .ok (.ireturn, 1)) : zG P (zoI sz) (zrN ty x hp) pc lv [.int x] hp sz uc us := by
  obtain ⟨p, l, e, R, s, m, args, below, meth, c, D, tc, ro, b0, mc', ms', nL⟩ := P
  obtain ⟨⟨hx, hb, hml, hown, hts⟩, hret, hlocks, hK, hRO, hb0, hR, hmc, hms, hnn, hro⟩ := C
  subst hnn
  subst hro
  intro r hr H locs ls h1 h2 h3 h4
  unfold zrN at hr
  split at hr
  · next q =>
    cases hr
    subst hmc
    subst hms
    have hn : narrow ty (.int x) = .int x := by
      rcases hty with rfl | rfl | rfl
      · exact congrArg Value.int q
      · exact congrArg Value.int q
      · exact congrArg Value.int q
    exact W.zret hx hb hret hn (fun t ht hW => ⟨rfl, by rw [ht]; exact h1, by rw [ht]; exact h2.moved hW.alike, h3.F ht⟩) h3.2.2 hd
  · cases hr
theorem z_return (C : zC P cc own none ht uc us nn ro0) (hd : decode cc pc = .ok (.return_, 1)) : zG P (zoV sz) (some hp) pc lv [] hp sz uc us := by
  obtain ⟨p, l, e, R, s, m, args, below, meth, c, D, tc, ro, b0, mc', ms', nL⟩ := P
  obtain ⟨⟨hx, hb, hml, hown, hts⟩, hret, hlocks, hK, hRO, hb0, hR, hmc, hms, hnn, hro⟩ := C
  subst hnn
  subst hro
  intro r hr H locs ls h1 h2 h3 h4
  cases hr
  subst hmc
  subst hms
  exact W.vret hx hb hret (fun t ht hW => ⟨rfl, by rw [ht]; exact h1, by rw [ht]; exact h2.moved hW.alike, h3.F ht⟩) h3.2.2 hd
theorem z_areturn {a : Nat} {rt : FieldType} (C : zC P cc own (some rt) ht uc us nn ro0) (hrt : (∃ n, rt = .object n) ∨ ∃ t, rt = .array t) (hd : decode cc pc = .ok (.areturn, 1)) : zG P (zoR sz) (some (a, hp)) pc lv [.ref a] hp sz uc us := by
  obtain ⟨p, l, e, R, s, m, args, below, meth, c, D, tc, ro, b0, mc', ms', nL⟩ := P
  obtain ⟨⟨hx, hb, hml, hown, hts⟩, hret, hlocks, hK, hRO, hb0, hR, hmc, hms, hnn, hro⟩ := C
  subst hnn
  subst hro
  intro r hr H locs ls h1 h2 h3 h4
  cases hr
  subst hmc
  subst hms
  exact W.aret hx hb hret hrt (Or.inr ⟨a, rfl⟩) (fun t ht hW => ⟨rfl, by rw [ht]; exact h1, by rw [ht]; exact h2.moved hW.alike, h3.F ht⟩) h3.2.2 hd

theorem z_ireturnP {x : Int32} (C : zC P cc own (some .int) ht uc us nn ro0) (hd : decode cc pc = .ok (.ireturn, 1)) : zG P (zoP sz hp) (some x) pc lv [.int x] hp sz uc us := by
  obtain ⟨p, l, e, R, s, m, args, below, meth, c, D, tc, ro, b0, mc', ms', nL⟩ := P
  obtain ⟨⟨hx, hb, hml, hown, hts⟩, hret, hlocks, hK, hRO, hb0, hR, hmc, hms, hnn, hro⟩ := C
  subst hnn
  subst hro
  intro r hr H locs ls h1 h2 h3 h4
  cases hr
  subst hmc
  subst hms
  exact W.iret hx hb hret (fun t ht hW => ⟨rfl, by rw [ht]; exact h1, by rw [ht]; exact h2.moved hW.alike, h3.F ht⟩) h3.2.2 hd
theorem z_nreturnP {ty : FieldType} {x : Int32} (C : zC P cc own (some ty) ht uc us nn ro0) (hty : ty = .boolean ∨ ty = .byte ∨ ty = .char) (hd : decode cc pc = .ok (.ireturn, 1)) : zG P (zoP sz hp) (zrNp ty x) pc lv [.int x] hp sz uc us := by
  obtain ⟨p, l, e, R, s, m, args, below, meth, c, D, tc, ro, b0, mc', ms', nL⟩ := P
  obtain ⟨⟨hx, hb, hml, hown, hts⟩, hret, hlocks, hK, hRO, hb0, hR, hmc, hms, hnn, hro⟩ := C
  subst hnn
  subst hro
  intro r hr H locs ls h1 h2 h3 h4
  unfold zrNp at hr
  split at hr
  · next q =>
    cases hr
    subst hmc
    subst hms
    have hn : narrow ty (.int x) = .int x := by
      rcases hty with rfl | rfl | rfl
      · exact congrArg Value.int q
      · exact congrArg Value.int q
      · exact congrArg Value.int q
    exact W.zret hx hb hret hn (fun t ht hW => ⟨rfl, by rw [ht]; exact h1, by rw [ht]; exact h2.moved hW.alike, h3.F ht⟩) h3.2.2 hd
  · cases hr
theorem z_kreturnP {ty : FieldType} {x : Int32} (C : zC P cc own (some ty) ht uc us nn ro0) (hn : narrow ty (.int x) = .int x) (hd : decode cc pc = .ok (.ireturn, 1)) : zG P (zoP sz hp) (some x) pc lv [.int x] hp sz uc us := by
  obtain ⟨p, l, e, R, s, m, args, below, meth, c, D, tc, ro, b0, mc', ms', nL⟩ := P
  obtain ⟨⟨hx, hb, hml, hown, hts⟩, hret, hlocks, hK, hRO, hb0, hR, hmc, hms, hnn, hro⟩ := C
  subst hnn
  subst hro
  intro r hr H locs ls h1 h2 h3 h4
  cases hr
  subst hmc
  subst hms
  exact W.zret hx hb hret hn (fun t ht hW => ⟨rfl, by rw [ht]; exact h1, by rw [ht]; exact h2.moved hW.alike, h3.F ht⟩) h3.2.2 hd
theorem z_kreturn {ty : FieldType} {x : Int32} (C : zC P cc own (some ty) ht uc us nn ro0) (hn : narrow ty (.int x) = .int x) (hd : decode cc pc = .ok (.ireturn, 1)) : zG P (zoI sz) (some (x, hp)) pc lv [.int x] hp sz uc us := by
  obtain ⟨p, l, e, R, s, m, args, below, meth, c, D, tc, ro, b0, mc', ms', nL⟩ := P
  obtain ⟨⟨hx, hb, hml, hown, hts⟩, hret, hlocks, hK, hRO, hb0, hR, hmc, hms, hnn, hro⟩ := C
  subst hnn
  subst hro
  intro r hr H locs ls h1 h2 h3 h4
  cases hr
  subst hmc
  subst hms
  exact W.zret hx hb hret hn (fun t ht hW => ⟨rfl, by rw [ht]; exact h1, by rw [ht]; exact h2.moved hW.alike, h3.F ht⟩) h3.2.2 hd
theorem z_areturnP {a : Nat} {rt : FieldType} (C : zC P cc own (some rt) ht uc us nn ro0) (hrt : (∃ n, rt = .object n) ∨ ∃ t, rt = .array t) (hd : decode cc pc = .ok (.areturn, 1)) : zG P (zoPR sz hp) (some a) pc lv [.ref a] hp sz uc us := by
  obtain ⟨p, l, e, R, s, m, args, below, meth, c, D, tc, ro, b0, mc', ms', nL⟩ := P
  obtain ⟨⟨hx, hb, hml, hown, hts⟩, hret, hlocks, hK, hRO, hb0, hR, hmc, hms, hnn, hro⟩ := C
  subst hnn
  subst hro
  intro r hr H locs ls h1 h2 h3 h4
  cases hr
  subst hmc
  subst hms
  exact W.aret hx hb hret hrt (Or.inr ⟨a, rfl⟩) (fun t ht hW => ⟨rfl, by rw [ht]; exact h1, by rw [ht]; exact h2.moved hW.alike, h3.F ht⟩) h3.2.2 hd
theorem z_returnP (C : zC P cc own none ht uc us nn ro0) (hd : decode cc pc = .ok (.return_, 1)) : zG P (zoPU sz hp) (some ()) pc lv [] hp sz uc us := by
  obtain ⟨p, l, e, R, s, m, args, below, meth, c, D, tc, ro, b0, mc', ms', nL⟩ := P
  obtain ⟨⟨hx, hb, hml, hown, hts⟩, hret, hlocks, hK, hRO, hb0, hR, hmc, hms, hnn, hro⟩ := C
  subst hnn
  subst hro
  intro r hr H locs ls h1 h2 h3 h4
  cases hr
  subst hmc
  subst hms
  exact W.vret hx hb hret (fun t ht hW => ⟨rfl, by rw [ht]; exact h1, by rw [ht]; exact h2.moved hW.alike, h3.F ht⟩) h3.2.2 hd
def zYW (own : String) (idx : Nat) : Prop := Cond.methodLink own idx arraycopyName ∈ zGT ∧ Cond.native arraycopyName ∈ zGT ∧ Cond.static arraycopyName ∈ zGT ∧ Cond.initialized "java/lang/System" ∈ zGT
theorem z_copyI (C : zC P cc own ret ht mc ms nn ro0) {idx a0 a : Nat} {sp dp n : Int32} {f : zHp → Option ρ} (hw : zYW own idx) (hd : decode cc pc = .ok (.invokestatic idx, 3)) (hcat : (stk.map fun v => v.category).sum ≤ 8) (hh : 1 ≤ ht)
    (kk : ∀ h, zGq P Qf (f h) (pc + 3) lv stk h sz uc us) : zGq P Qf ((zcpI hp a0 sp a dp n).bind f) pc lv (.int n :: .int dp :: .ref a :: .int sp :: .ref a0 :: stk) hp sz uc us := by
  obtain ⟨p, l, e, R, s, m, args, below, meth, c, D, tc, ro, b0, mc', ms', nL⟩ := P
  obtain ⟨⟨hx, hb, hml, hown, hts⟩, hret, hlocks, hK, hRO, hb0, hR, hmc, hms, hnn, hro⟩ := C
  subst hnn
  subst hro
  intro r hr H locs ls h1 h2 h3 h4
  obtain ⟨w1, w2, w3, w4⟩ := hw
  unfold zcpI at hr
  split at hr
  · next t0 n0 f0 t1 n1 g0 hc0' hc1' =>
    split at hr
    · next q =>
      obtain ⟨rfl, rfl, q1, q2, q3, q4, q5⟩ := q
      have hr' : f (zup hp a (.inl (0, n1, .inl (va_cpy f0 g0 sp.toNatClampNeg dp.toNatClampNeg n.toNatClampNeg)))) = some r := hr
      have hz0 := h2 a0 _ hc0'
      have hz1 := h2 a _ hc1'
      unfold zAt at hz0 hz1
      dsimp only at hz0 hz1
      rw [if_pos (by decide)] at hz0 hz1
      have hc0 : H[a0]? = some (vp_cell (tc 0) (n0, .inl f0)) := hz0.2
      have hc1 : H[a]? = some (vp_cell (tc 0) (n1, .inl g0)) := hz1.2
      have hnf : nativeFrameWords "java/lang/System" "arraycopy" 5 + 11 ≤ 32 := by decide +kernel
      have nnz : ∀ z : Int32, ¬ z < 0 → z.toInt = (z.toNatClampNeg : Int) := by
        intro z hz
        have hz0 : (0 : Int) ≤ z.toInt := by
          have := Int32.not_lt.mp hz
          simpa using Int32.le_iff_toInt_le.mp this
        show z.toInt = ((z.toInt.toNat : Nat) : Int)
        omega
      intro T hT X
      obtain ⟨-, k0, hk0, cm0, hkk0⟩ := (hK.2 0 (tc 0, .int) rfl).1 n0 (fun j => .int (f0 j))
      obtain ⟨-, k1, hk1, cm1, hkk1⟩ := (hK.2 0 (tc 0, .int) rfl).1 n1 (fun j => .int (g0 j))
      obtain ⟨vm', X', step⟩ := X.arraycopy hx hown (hts _ w1) (hts _ w2) (hts _ w3) (hts _ w4) (src := a0) (dst := a) (cs := vp_cell (tc 0) (n0, .inl f0)) (cd := vp_cell (tc 0) (n1, .inl g0)) (srcPos := sp) (destPos := dp) (n := n) (by rw [hT]; exact hc0) (by rw [hT]; exact hc1)
        (fun _ h => by cases h) (fun _ h => by cases h) (fun h => by cases h) (fun h => by cases h) hk0 hk1 hkk0 hkk1 (by simp [refKind]) q1 q2 q3
        (by rw [nnz sp q1, nnz n q3]; show ¬ _ > ((arrV (tc 0) n0 (fun j => .int (f0 j))).slots.size : Int); rw [arrV_size]; omega)
        (by rw [nnz dp q2, nnz n q3]; show ¬ _ > ((arrV (tc 0) n1 (fun j => .int (g0 j))).slots.size : Int); rw [arrV_size]; omega)
        (fun vm₁ _ i hi => by
          have e : (vp_cell (tc 0) (n0, .inl f0)).slots.getD (sp.toNatClampNeg + i) .null = .int (f0 (sp.toNatClampNeg + i)) := by
            show (arrV (tc 0) n0 (fun j => .int (f0 j))).slots.getD _ _ = _
            rw [Array.getD_eq_getD_getElem?, arrV_read _ _ (by omega)]
            rfl
          refine ⟨?_, ?_⟩
          · rw [e]
            rfl
          · rw [e]
            exact trivial)
        (g := F0 m pc ls (.int n :: .int dp :: .ref a :: .int sp :: .ref a0 :: stk)) rfl (by rw [hml]; exact h4.1) (rest := stk) rfl (by rw [hb]; exact hd) (by rw [hR]; exact hh) (by rw [hR]; show 2 * 0 + _ + (nativeFrameWords "java/lang/System" "arraycopy" 5 + 11) ≤ 40 * ht; omega)
      have e1 : copied (vp_cell (tc 0) (n0, .inl f0)) (vp_cell (tc 0) (n1, .inl g0)) sp dp n = vp_cell (tc 0) (n1, .inl (va_cpy f0 g0 sp.toNatClampNeg dp.toNatClampNeg n.toNatClampNeg)) := va_copied (fun z => .int z) (tc 0) (tc 0) f0 g0 q4
      rw [e1] at X' step
      have hl : a < H.size := (Array.getElem?_eq_some_iff.mp hc1).1
      have hheap : ((T.setVm vm').setCell a (vp_cell (tc 0) (n1, .inl (va_cpy f0 g0 sp.toNatClampNeg dp.toNatClampNeg n.toNatClampNeg)))).heap = H.setIfInBounds a (vp_cell (tc 0) (n1, .inl (va_cpy f0 g0 sp.toNatClampNeg dp.toNatClampNeg n.toNatClampNeg))) := by rw [← hT]; rfl
      have oq : ∀ q : Nat, q ≠ a → (H.setIfInBounds a (vp_cell (tc 0) (n1, .inl (va_cpy f0 g0 sp.toNatClampNeg dp.toNatClampNeg n.toNatClampNeg))))[q]? = H[q]? := fun q hq => by simp [Array.getElem?_setIfInBounds, Ne.symm hq]
      obtain ⟨t, a1, b1⟩ := kk _ r hr' (H.setIfInBounds a (vp_cell (tc 0) (n1, .inl (va_cpy f0 g0 sp.toNatClampNeg dp.toNatClampNeg n.toNatClampNeg)))) _ ls (by simp; exact h1) (h2.set hz1.1 oq (by
          unfold zAt
          dsimp only
          rw [if_pos (by decide)]
          exact ⟨hz1.1, by simp [Array.getElem?_setIfInBounds, hl]⟩)) ⟨by simp; exact h3.1, fun q g1 g2 => by
          rw [oq q (fun e => g2 (by rw [e]; exact hz1.1))]
          exact h3.2.1 q g1 g2, fun q hq => by
          rcases List.mem_append.mp hq with h | h
          · exact h3.2.2 q h
          · obtain ⟨z, -, hz⟩ := List.mem_map.mp h
            rw [← hz]
            exact hz1.1⟩ h4 _ hheap X'
      exact ⟨t, step t a1, b1⟩
    · cases hr
  · cases hr
def zMW (own : String) (idx : Nat) (y : MethodName) (cy : ByteArray) (n : Nat) : Prop := Cond.methodLink own idx y ∈ zGT ∧ Cond.static y ∈ zGT ∧ Cond.initialized "java/lang/Math" ∈ zGT ∧ Cond.code y cy n (some .int) ∈ zGT

theorem z_mmax (C : zC P cc own ret ht mc ms nn ro0) {idx : Nat} {x y : Int32} (hw : zMW own idx Lib.Math.max.name Lib.Math.max.code 2) (hd : decode cc pc = .ok (.invokestatic idx, 3)) (hcat : (stk.map fun v => v.category).sum ≤ 8) (hh : 1 ≤ ht) (hcells : uc ≤ mc ∧ us ≤ ms)
    (k : zGq P Qf F (pc + 3) lv (.int (zmax x y) :: stk) hp sz uc us) : zGq P Qf F pc lv (.int y :: .int x :: stk) hp sz uc us := by
  obtain ⟨p, l, e, R, s, m, args, below, meth, c, D, tc, ro, b0, mc', ms', nL⟩ := P
  obtain ⟨⟨hx, hb, hml, hown, hts⟩, hret, hlocks, hK, hRO, hb0, hR, hmc, hms, hnn, hro⟩ := C
  subst hnn
  subst hro
  intro r hr H locs ls h1 h2 h3 h4
  obtain ⟨w1, w2, w3, w4⟩ := hw
  refine va_mmax hx hb (by rw [hml]; exact h4.1.symm) hown (hts _ w1) (hts _ w2) (hts _ w3) (hts _ w4) (by rw [hR]; exact hh) (by rw [hR]; show _ + 13 ≤ 40 * ht; omega) (by rw [hR]; exact hcells.1) (by rw [hR]; exact hcells.2) hd ?_
  exact k r hr H locs ls h1 h2 h3 h4

theorem z_mmin (C : zC P cc own ret ht mc ms nn ro0) {idx : Nat} {x y : Int32} (hw : zMW own idx Lib.Math.min.name Lib.Math.min.code 2) (hd : decode cc pc = .ok (.invokestatic idx, 3)) (hcat : (stk.map fun v => v.category).sum ≤ 8) (hh : 1 ≤ ht) (hcells : uc ≤ mc ∧ us ≤ ms)
    (k : zGq P Qf F (pc + 3) lv (.int (zmin x y) :: stk) hp sz uc us) : zGq P Qf F pc lv (.int y :: .int x :: stk) hp sz uc us := by
  obtain ⟨p, l, e, R, s, m, args, below, meth, c, D, tc, ro, b0, mc', ms', nL⟩ := P
  obtain ⟨⟨hx, hb, hml, hown, hts⟩, hret, hlocks, hK, hRO, hb0, hR, hmc, hms, hnn, hro⟩ := C
  subst hnn
  subst hro
  intro r hr H locs ls h1 h2 h3 h4
  obtain ⟨w1, w2, w3, w4⟩ := hw
  refine va_mmin hx hb (by rw [hml]; exact h4.1.symm) hown (hts _ w1) (hts _ w2) (hts _ w3) (hts _ w4) (by rw [hR]; exact hh) (by rw [hR]; show _ + 13 ≤ 40 * ht; omega) (by rw [hR]; exact hcells.1) (by rw [hR]; exact hcells.2) hd ?_
  exact k r hr H locs ls h1 h2 h3 h4

theorem z_mabs (C : zC P cc own ret ht mc ms nn ro0) {idx : Nat} {x : Int32} (hw : zMW own idx Lib.Math.abs.name Lib.Math.abs.code 1) (hd : decode cc pc = .ok (.invokestatic idx, 3)) (hcat : (stk.map fun v => v.category).sum ≤ 8) (hh : 1 ≤ ht) (hcells : uc ≤ mc ∧ us ≤ ms)
    (k : zGq P Qf F (pc + 3) lv (.int (zabs x) :: stk) hp sz uc us) : zGq P Qf F pc lv (.int x :: stk) hp sz uc us := by
  obtain ⟨p, l, e, R, s, m, args, below, meth, c, D, tc, ro, b0, mc', ms', nL⟩ := P
  obtain ⟨⟨hx, hb, hml, hown, hts⟩, hret, hlocks, hK, hRO, hb0, hR, hmc, hms, hnn, hro⟩ := C
  subst hnn
  subst hro
  intro r hr H locs ls h1 h2 h3 h4
  obtain ⟨w1, w2, w3, w4⟩ := hw
  refine va_mabs hx hb (by rw [hml]; exact h4.1.symm) hown (hts _ w1) (hts _ w2) (hts _ w3) (hts _ w4) (by rw [hR]; exact hh) (by rw [hR]; show _ + 13 ≤ 40 * ht; omega) (by rw [hR]; exact hcells.1) (by rw [hR]; exact hcells.2) hd ?_
  exact k r hr H locs ls h1 h2 h3 h4

theorem z_getCS (C : zC P cc own ret ht mc ms nn ro0) {idx : Nat} (hl : Cond.fieldLink own idx "java/lang/String" "COMPACT_STRINGS" "Z" ∈ zGT) (hd : decode cc pc = .ok (.getstatic idx, 3))
    (k : zGq P Qf F (pc + 3) lv (.int 1 :: stk) hp sz uc us) : zGq P Qf F pc lv stk hp sz uc us := by
  obtain ⟨p, l, e, R, s, m, args, below, meth, c, D, tc, ro, b0, mc', ms', nL⟩ := P
  obtain ⟨⟨hx, hb, hml, hown, hts⟩, hret, hlocks, hK, hRO, hb0, hR, hmc, hms, hnn, hro⟩ := C
  subst hnn
  subst hro
  intro r hr H locs ls h1 h2 h3 h4
  exact va_gets hx hb hRO.1 h3 hown (hts _ hl) (fun _ q => q) hd (k r hr H locs ls h1 h2 h3 h4)
theorem z_getD1 (C : zC P cc own ret ht mc ms nn ro0) {idx : Nat} (hl : Cond.fieldLink own idx "java/lang/Integer" "DigitOnes" "[B" ∈ zGT) (hd : decode cc pc = .ok (.getstatic idx, 3))
    (k : zGq P Qf F (pc + 3) lv (.ref (ro0 30) :: stk) hp sz uc us) : zGq P Qf F pc lv stk hp sz uc us := by
  obtain ⟨p, l, e, R, s, m, args, below, meth, c, D, tc, ro, b0, mc', ms', nL⟩ := P
  obtain ⟨⟨hx, hb, hml, hown, hts⟩, hret, hlocks, hK, hRO, hb0, hR, hmc, hms, hnn, hro⟩ := C
  subst hnn
  subst hro
  intro r hr H locs ls h1 h2 h3 h4
  exact va_gets hx hb hRO.2.2.2.2.2.2.2.1 h3 hown (hts _ hl) (fun _ q => q) hd (k r hr H locs ls h1 h2 h3 h4)
theorem z_getD2 (C : zC P cc own ret ht mc ms nn ro0) {idx : Nat} (hl : Cond.fieldLink own idx "java/lang/Integer" "DigitTens" "[B" ∈ zGT) (hd : decode cc pc = .ok (.getstatic idx, 3))
    (k : zGq P Qf F (pc + 3) lv (.ref (ro0 31) :: stk) hp sz uc us) : zGq P Qf F pc lv stk hp sz uc us := by
  obtain ⟨p, l, e, R, s, m, args, below, meth, c, D, tc, ro, b0, mc', ms', nL⟩ := P
  obtain ⟨⟨hx, hb, hml, hown, hts⟩, hret, hlocks, hK, hRO, hb0, hR, hmc, hms, hnn, hro⟩ := C
  subst hnn
  subst hro
  intro r hr H locs ls h1 h2 h3 h4
  exact va_gets hx hb hRO.2.2.2.2.2.2.2.2 h3 hown (hts _ hl) (fun _ q => q) hd (k r hr H locs ls h1 h2 h3 h4)
theorem z_getFmt (C : zC P cc own ret ht mc ms nn ro0) {idx : Nat} (hl : Cond.fieldLink own idx "jdk/internal/util/Preconditions" "SIOOBE_FORMATTER" "Ljava/util/function/BiFunction;" ∈ zGT) (hd : decode cc pc = .ok (.getstatic idx, 3))
    (kn : zGq P Qf F (pc + 3) lv (.null :: stk) hp sz uc us) (kr : ∀ t, zGq P Qf F (pc + 3) lv (.ref t :: stk) hp sz uc us) : zGq P Qf F pc lv stk hp sz uc us := by
  obtain ⟨p, l, e, R, s, m, args, below, meth, c, D, tc, ro, b0, mc', ms', nL⟩ := P
  obtain ⟨⟨hx, hb, hml, hown, hts⟩, hret, hlocks, hK, hRO, hb0, hR, hmc, hms, hnn, hro⟩ := C
  subst hnn
  subst hro
  intro r hr H locs ls h1 h2 h3 h4
  rcases hRO.2.2.1 with q | ⟨t, q⟩
  · exact va_gets hx hb q h3 hown (hts _ hl) (fun _ q => q) hd (kn r hr H locs ls h1 h2 h3 h4)
  · exact va_gets hx hb q h3 hown (hts _ hl) (fun _ q => q) hd (kr t r hr H locs ls h1 h2 h3 h4)
theorem z_ldcS (C : zC P cc own ret ht mc ms nn ro0) {idx : Nat} (i : Nat) {tx : String} (hl : zStr[i]? = some (own, idx, tx)) (hd : decode cc pc = .ok (.ldc idx, 2))
    (k : zGq P Qf F (pc + 2) lv (.ref (ro0 i) :: stk) hp sz uc us) : zGq P Qf F pc lv stk hp sz uc us := by
  obtain ⟨p, l, e, R, s, m, args, below, meth, c, D, tc, ro, b0, mc', ms', nL⟩ := P
  obtain ⟨⟨hx, hb, hml, hown, hts⟩, hret, hlocks, hK, hRO, hb0, hR, hmc, hms, hnn, hro⟩ := C
  subst hnn
  subst hro
  intro r hr H locs ls h1 h2 h3 h4
  exact va_ldcS hx hb hown (hRO.2.1 i _ hl) hd (k r hr H locs ls h1 h2 h3 h4)
theorem z_ldcI (C : zC P cc own ret ht mc ms nn ro0) {idx : Nat} {v : Int32} (hl : Cond.constant own idx v ∈ zGT) (hd : decode cc pc = .ok (.ldc idx, 2))
    (k : zGq P Qf F (pc + 2) lv (.int v :: stk) hp sz uc us) : zGq P Qf F pc lv stk hp sz uc us := by
  obtain ⟨p, l, e, R, s, m, args, below, meth, c, D, tc, ro, b0, mc', ms', nL⟩ := P
  obtain ⟨⟨hx, hb, hml, hown, hts⟩, hret, hlocks, hK, hRO, hb0, hR, hmc, hms, hnn, hro⟩ := C
  subst hnn
  subst hro
  intro r hr H locs ls h1 h2 h3 h4
  exact lv_ldc hx hb hown (hts _ hl) hd (k r hr H locs ls h1 h2 h3 h4)
theorem z_ldcwS (C : zC P cc own ret ht mc ms nn ro0) {idx : Nat} (i : Nat) {tx : String} (hl : zStr[i]? = some (own, idx, tx)) (hd : decode cc pc = .ok (.ldc_w idx, 3))
    (k : zGq P Qf F (pc + 3) lv (.ref (ro0 i) :: stk) hp sz uc us) : zGq P Qf F pc lv stk hp sz uc us := by
  obtain ⟨p, l, e, R, s, m, args, below, meth, c, D, tc, ro, b0, mc', ms', nL⟩ := P
  obtain ⟨⟨hx, hb, hml, hown, hts⟩, hret, hlocks, hK, hRO, hb0, hR, hmc, hms, hnn, hro⟩ := C
  subst hnn
  subst hro
  intro r hr H locs ls h1 h2 h3 h4
  intro T hT X
  obtain ⟨t, a1, b1⟩ := k r hr H locs ls h1 h2 h3 h4 T hT X
  have hZ := hRO.2.1 i _ hl
  exact ⟨t, X.ldcStringW hx hown (text := tx) (a := ro i) hZ.1 hZ.2 (g := F0 m pc ls stk) rfl (by rw [hb]; exact hd) t a1, b1⟩
theorem z_ifnonnull (C : zC P cc own ret ht mc ms nn ro0) {x : Nat} {off : Int} (tgt : Nat) (hd : decode cc pc = .ok (.ifnonnull off, 3)) (ht : (pc : Int) + off = (tgt : Int))
    (k : zGq P Qf F tgt lv stk hp sz uc us) : zGq P Qf F pc lv (.ref x :: stk) hp sz uc us := by
  obtain ⟨p, l, e, R, s, m, args, below, meth, c, D, tc, ro, b0, mc', ms', nL⟩ := P
  obtain ⟨⟨hx, hb, hml, hown, hts⟩, hret, hlocks, hK, hRO, hb0, hR, hmc, hms, hnn, hro⟩ := C
  subst hnn
  subst hro
  intro r hr H locs ls h1 h2 h3 h4
  exact lv_ifnonnull hx hb hd ht (k r hr H locs ls h1 h2 h3 h4)
theorem z_case (C : zC P cc own ret ht mc ms nn ro0) {dflt lo hi off : Int} {offs : Array Int} {len : Nat} {x : Int32} {A B : Option ρ} (v : Int32) (tgt : Nat) (hd : decode cc pc = .ok (.tableswitch dflt lo hi offs, len)) (h1 : ¬ v.toInt < lo) (h2 : ¬ hi < v.toInt) (ho : offs[(v.toInt - lo).toNat]? = some off) (ht : (pc : Int) + off = (tgt : Int))
    (kA : zGq P Qf A tgt lv stk hp sz uc us) (kB : ¬ x = v → zGq P Qf B pc lv (.int x :: stk) hp sz uc us) : zGq P Qf (if x = v then A else B) pc lv (.int x :: stk) hp sz uc us := by
  by_cases hq : x = v
  · rw [if_pos hq]
    subst hq
    obtain ⟨p, l, e, R, s, m, args, below, meth, c, D, tc, ro, b0, mc', ms', nL⟩ := P
    obtain ⟨⟨hx, hb, hml, hown, hts⟩, hret, hlocks, hK, hRO, hb0, hR, hmc, hms, hnn, hro⟩ := C
    subst hnn
    subst hro
    intro r hr H locs ls g1 g2 g3 g4
    exact lv_tableIn hx hb hd h1 h2 ho ht (kA r hr H locs ls g1 g2 g3 g4)
  · rw [if_neg hq]
    exact kB hq
theorem z_dflt (C : zC P cc own ret ht mc ms nn ro0) {dflt lo hi : Int} {offs : Array Int} {len : Nat} {x : Int32} (tgt : Nat) (hd : decode cc pc = .ok (.tableswitch dflt lo hi offs, len)) (h : x.toInt < lo ∨ hi < x.toInt) (ht : (pc : Int) + dflt = (tgt : Int))
    (k : zGq P Qf F tgt lv stk hp sz uc us) : zGq P Qf F pc lv (.int x :: stk) hp sz uc us := by
  obtain ⟨p, l, e, R, s, m, args, below, meth, c, D, tc, ro, b0, mc', ms', nL⟩ := P
  obtain ⟨⟨hx, hb, hml, hown, hts⟩, hret, hlocks, hK, hRO, hb0, hR, hmc, hms, hnn, hro⟩ := C
  subst hnn
  subst hro
  intro r hr H locs ls h1 h2 h3 h4
  exact lv_tableOut hx hb hd h ht (k r hr H locs ls h1 h2 h3 h4)

end ZR

