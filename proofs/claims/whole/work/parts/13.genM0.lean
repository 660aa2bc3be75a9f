noncomputable def b_X8_newHall_2 (k22 : zHp → Option zHp) (a0 : Nat) (rec : Int32 → zHp → Option zHp) (x1 : Int32) (h : zHp) : Option zHp :=
  if x1 < (144 : Int32) then ((zgR h a0 8 3).bind fun r1 => (zsI h r1 x1 (0 : Int32)).bind fun h2 => zlet (x1 + (1 : Int32)) fun v3 => rec v3 h2) else k22 h
noncomputable def l_X8_newHall_2 (k22 : zHp → Option zHp) (a0 : Nat) (n : Nat) : Int32 → zHp → Option zHp :=
  Nat.rec (motive := fun _ => Int32 → zHp → Option zHp) (fun _ _ => none) (fun _ rec => b_X8_newHall_2 k22 a0 rec) n
theorem l_X8_newHall_2_s (k22 : zHp → Option zHp) (a0 : Nat) (n : Nat) (x1 : Int32) (h : zHp) : l_X8_newHall_2 k22 a0 (n + 1) x1 h = b_X8_newHall_2 k22 a0 (l_X8_newHall_2 k22 a0 n) x1 h := rfl
set_option maxHeartbeats 4000000 in
set_option maxRecDepth 100000 in
theorem wl_X8_newHall_2 {P : zX} {ro : Nat → Nat} {sz : Nat} (C : zC P cX8_newHall RX8 none 1 0 0 2 ro) {a0 : Nat} {k22 : zHp → Option zHp} (hk22 : ∀ (h : zHp), zG P (zoV sz) (k22 h) 22 [(0, .ref a0)] [] h sz 0 0) : ∀ (n : Nat) (x1 : Int32) (h : zHp), zG P (zoV sz) (l_X8_newHall_2 k22 a0 n x1 h) 2 [(0, .ref a0), (1, .int x1)] [] h sz 0 0 := by
  intro n
  induction n with
  | zero =>
    intro x1 h
    show zG P (zoV sz) none _ _ _ _ _ _ _
    exact z_none
  | succ n ih =>
    intro x1 h
    show zG P (zoV sz) (b_X8_newHall_2 k22 a0 (l_X8_newHall_2 k22 a0 n) x1 h) _ _ _ _ _ _ _
    unfold b_X8_newHall_2
    refine z_iload_n C dX8_newHall_2 1 rfl ?_
    refine z_sipush C dX8_newHall_3 zsi_144 ?_
    refine z_icmp_ge C 22 dX8_newHall_6 (by decide) ?_ ?_
    · refine z_aload_n C dX8_newHall_9 0 rfl ?_
      refine z_getR C zf_X8_13 dX8_newHall_10 (fun r1 => ?_)
      refine z_iload_n C dX8_newHall_13 1 rfl ?_
      refine z_iconst C dX8_newHall_14 zi_0 ?_
      refine z_iastore C dX8_newHall_15 (fun h2 => ?_)
      refine z_iincL C 1 (fun v3 => [(0, .ref a0), (1, .int v3)]) dX8_newHall_16 rfl zi_1 (by decide) (fun _ => rfl) (fun v3 => ?_)
      refine z_goto C 2 dX8_newHall_19 (by decide) ?_
      exact ih _ _
    exact z_sub [0] rfl (hk22 _)
noncomputable def b_X8_newHall_24 (k44 : zHp → Option zHp) (a0 : Nat) (rec : Int32 → zHp → Option zHp) (x1 : Int32) (h : zHp) : Option zHp :=
  if x1 < (538 : Int32) then ((zgR h a0 8 5).bind fun r5 => (zsI h r5 x1 (0 : Int32)).bind fun h6 => zlet (x1 + (1 : Int32)) fun v7 => rec v7 h6) else k44 h
noncomputable def l_X8_newHall_24 (k44 : zHp → Option zHp) (a0 : Nat) (n : Nat) : Int32 → zHp → Option zHp :=
  Nat.rec (motive := fun _ => Int32 → zHp → Option zHp) (fun _ _ => none) (fun _ rec => b_X8_newHall_24 k44 a0 rec) n
theorem l_X8_newHall_24_s (k44 : zHp → Option zHp) (a0 : Nat) (n : Nat) (x1 : Int32) (h : zHp) : l_X8_newHall_24 k44 a0 (n + 1) x1 h = b_X8_newHall_24 k44 a0 (l_X8_newHall_24 k44 a0 n) x1 h := rfl
set_option maxHeartbeats 4000000 in
set_option maxRecDepth 100000 in
theorem wl_X8_newHall_24 {P : zX} {ro : Nat → Nat} {sz : Nat} (C : zC P cX8_newHall RX8 none 1 0 0 2 ro) {a0 : Nat} {k44 : zHp → Option zHp} (hk44 : ∀ (h : zHp), zG P (zoV sz) (k44 h) 44 [(0, .ref a0)] [] h sz 0 0) : ∀ (n : Nat) (x1 : Int32) (h : zHp), zG P (zoV sz) (l_X8_newHall_24 k44 a0 n x1 h) 24 [(0, .ref a0), (1, .int x1)] [] h sz 0 0 := by
  intro n
  induction n with
  | zero =>
    intro x1 h
    show zG P (zoV sz) none _ _ _ _ _ _ _
    exact z_none
  | succ n ih =>
    intro x1 h
    show zG P (zoV sz) (b_X8_newHall_24 k44 a0 (l_X8_newHall_24 k44 a0 n) x1 h) _ _ _ _ _ _ _
    unfold b_X8_newHall_24
    refine z_iload_n C dX8_newHall_24 1 rfl ?_
    refine z_sipush C dX8_newHall_25 zsi_538 ?_
    refine z_icmp_ge C 44 dX8_newHall_28 (by decide) ?_ ?_
    · refine z_aload_n C dX8_newHall_31 0 rfl ?_
      refine z_getR C zf_X8_19 dX8_newHall_32 (fun r5 => ?_)
      refine z_iload_n C dX8_newHall_35 1 rfl ?_
      refine z_iconst C dX8_newHall_36 zi_0 ?_
      refine z_iastore C dX8_newHall_37 (fun h6 => ?_)
      refine z_iincL C 1 (fun v7 => [(0, .ref a0), (1, .int v7)]) dX8_newHall_38 rfl zi_1 (by decide) (fun _ => rfl) (fun v7 => ?_)
      refine z_goto C 24 dX8_newHall_41 (by decide) ?_
      exact ih _ _
    exact z_sub [0] rfl (hk44 _)
noncomputable def f_X8_newHall (a0 : Nat) (hp : zHp) : Option zHp :=
  (zis hp a0 8).bind fun _ => l_X8_newHall_2 (fun h4 => l_X8_newHall_24 (fun h8 => (zgR h8 a0 8 5).bind fun r9 => (zsI h8 r9 (0 : Int32) (5 : Int32)).bind fun h10 => (zgR h10 a0 8 5).bind fun r11 => (zsI h10 r11 (2 : Int32) (5000 : Int32)).bind fun h12 => some h12) a0 1000000 (0 : Int32) h4) a0 1000000 (0 : Int32) hp
set_option maxHeartbeats 4000000 in
set_option maxRecDepth 100000 in
theorem m_X8_newHall (l : Launch) (D : va_G) (tc : Nat → ClassId) (ro : Nat → Nat) (b0 : Nat) {a0 : Nat} {hp : zHp} {sz : Nat} {r : zHp} (h : f_X8_newHall a0 hp = some r) : zis hp a0 8 = some () ∧ zM l yX8_newHall cX8_newHall 2 none 1 0 0 [.ref a0] D tc ro b0 hp sz ((zoV sz) r).1 ((zoV sz) r).2.1 ((zoV sz) r).2.2 := by
  refine ⟨?_, z_start (o := (zoV sz)) (lv := [(0, .ref a0)]) h (by decide +kernel) RX8 rfl rfl (Nat.le_of_ble_eq_true rfl) (fun P C => ?_)⟩
  · unfold f_X8_newHall at h
    cases hc : zis hp a0 8 with
    | none => rw [hc] at h; cases h
    | some u => rfl
  unfold f_X8_newHall
  refine z_is ?_
  refine z_iconst C dX8_newHall_0 zi_0 ?_
  refine z_istore_n (lv' := [(0, .ref a0), (1, .int (0 : Int32))]) C dX8_newHall_1 (by decide) rfl ?_
  refine wl_X8_newHall_2 C (fun h4 => ?_) _ _ _
  refine z_iconst C dX8_newHall_22 zi_0 ?_
  refine z_istore_n (lv' := [(0, .ref a0), (1, .int (0 : Int32))]) C dX8_newHall_23 (by decide) rfl ?_
  refine wl_X8_newHall_24 C (fun h8 => ?_) _ _ _
  refine z_aload_n C dX8_newHall_44 0 rfl ?_
  refine z_getR C zf_X8_19 dX8_newHall_45 (fun r9 => ?_)
  refine z_iconst C dX8_newHall_48 zi_0 ?_
  refine z_iconst C dX8_newHall_49 zi_5 ?_
  refine z_iastore C dX8_newHall_50 (fun h10 => ?_)
  refine z_aload_n C dX8_newHall_51 0 rfl ?_
  refine z_getR C zf_X8_19 dX8_newHall_52 (fun r11 => ?_)
  refine z_iconst C dX8_newHall_55 zi_2 ?_
  refine z_sipush C dX8_newHall_56 zsi_5000 ?_
  refine z_iastore C dX8_newHall_59 (fun h12 => ?_)
  exact z_return C dX8_newHall_60
noncomputable def f_X8_init (mc ms : Nat) (a0 : Nat) (hp : zHp) (sz : Nat) : Option (zHp × Nat) :=
  zchk (¬ (900 : Int32) < 0 ∧ (900 : Int32).toNatClampNeg ≤ 60000 ∧ 0 + 1 ≤ mc ∧ 0 + (900 : Int32).toNatClampNeg ≤ ms) <| zlet (zup hp sz (.inl (0, (900 : Int32).toNatClampNeg, .inl (fun _ => 0)))) fun h2 => (zpV h2 a0 8 1 (.ref sz)).bind fun h3 => zchk (¬ (144 : Int32) < 0 ∧ (144 : Int32).toNatClampNeg ≤ 60000 ∧ (0 + 1) + 1 ≤ mc ∧ (0 + (900 : Int32).toNatClampNeg) + (144 : Int32).toNatClampNeg ≤ ms) <| zlet (zup h3 ((sz + 1)) (.inl (0, (144 : Int32).toNatClampNeg, .inl (fun _ => 0)))) fun h5 => (zpV h5 a0 8 3 (.ref (((sz + 1))))).bind fun h6 => zchk (¬ (144 : Int32) < 0 ∧ (144 : Int32).toNatClampNeg ≤ 60000 ∧ ((0 + 1) + 1) + 1 ≤ mc ∧ ((0 + (900 : Int32).toNatClampNeg) + (144 : Int32).toNatClampNeg) + (144 : Int32).toNatClampNeg ≤ ms) <| zlet (zup h6 (((sz + 1) + 1)) (.inl (0, (144 : Int32).toNatClampNeg, .inl (fun _ => 0)))) fun h8 => (zpV h8 a0 8 4 (.ref ((((sz + 1) + 1))))).bind fun h9 => zchk (¬ (538 : Int32) < 0 ∧ (538 : Int32).toNatClampNeg ≤ 60000 ∧ (((0 + 1) + 1) + 1) + 1 ≤ mc ∧ (((0 + (900 : Int32).toNatClampNeg) + (144 : Int32).toNatClampNeg) + (144 : Int32).toNatClampNeg) + (538 : Int32).toNatClampNeg ≤ ms) <| zlet (zup h9 ((((sz + 1) + 1) + 1)) (.inl (0, (538 : Int32).toNatClampNeg, .inl (fun _ => 0)))) fun h11 => (zpV h11 a0 8 5 (.ref (((((sz + 1) + 1) + 1))))).bind fun h12 => zchk (¬ (538 : Int32) < 0 ∧ (538 : Int32).toNatClampNeg ≤ 60000 ∧ ((((0 + 1) + 1) + 1) + 1) + 1 ≤ mc ∧ ((((0 + (900 : Int32).toNatClampNeg) + (144 : Int32).toNatClampNeg) + (144 : Int32).toNatClampNeg) + (538 : Int32).toNatClampNeg) + (538 : Int32).toNatClampNeg ≤ ms) <| zlet (zup h12 (((((sz + 1) + 1) + 1) + 1)) (.inl (0, (538 : Int32).toNatClampNeg, .inl (fun _ => 0)))) fun h14 => (zpV h14 a0 8 6 (.ref ((((((sz + 1) + 1) + 1) + 1))))).bind fun h15 => zchk (¬ (5380 : Int32) < 0 ∧ (5380 : Int32).toNatClampNeg ≤ 60000 ∧ (((((0 + 1) + 1) + 1) + 1) + 1) + 1 ≤ mc ∧ (((((0 + (900 : Int32).toNatClampNeg) + (144 : Int32).toNatClampNeg) + (144 : Int32).toNatClampNeg) + (538 : Int32).toNatClampNeg) + (538 : Int32).toNatClampNeg) + (5380 : Int32).toNatClampNeg ≤ ms) <| zlet (zup h15 ((((((sz + 1) + 1) + 1) + 1) + 1)) (.inl (0, (5380 : Int32).toNatClampNeg, .inl (fun _ => 0)))) fun h17 => (zpV h17 a0 8 7 (.ref (((((((sz + 1) + 1) + 1) + 1) + 1))))).bind fun h18 => (zpV h18 a0 8 16 (.int (-1 : Int32))).bind fun h19 => zchk (¬ (100 : Int32) < 0 ∧ (100 : Int32).toNatClampNeg ≤ 60000 ∧ ((((((0 + 1) + 1) + 1) + 1) + 1) + 1) + 1 ≤ mc ∧ ((((((0 + (900 : Int32).toNatClampNeg) + (144 : Int32).toNatClampNeg) + (144 : Int32).toNatClampNeg) + (538 : Int32).toNatClampNeg) + (538 : Int32).toNatClampNeg) + (5380 : Int32).toNatClampNeg) + (100 : Int32).toNatClampNeg ≤ ms) <| zlet (zup h19 (((((((sz + 1) + 1) + 1) + 1) + 1) + 1)) (.inl (0, (100 : Int32).toNatClampNeg, .inl (fun _ => 0)))) fun h21 => (zpV h21 a0 8 19 (.ref ((((((((sz + 1) + 1) + 1) + 1) + 1) + 1))))).bind fun h22 => (f_X8_newHall a0 h22).bind fun h23 => some (h23, (((((((sz + 1) + 1) + 1) + 1) + 1) + 1) + 1))
set_option maxHeartbeats 4000000 in
set_option maxRecDepth 100000 in
theorem m_X8_init (l : Launch) (D : va_G) (tc : Nat → ClassId) (ro : Nat → Nat) (b0 : Nat) {mc ms : Nat} {a0 : Nat} {hp : zHp} {sz : Nat} {r : (zHp × Nat)} (h : f_X8_init mc ms a0 hp sz = some r) : zM l yX8_init cX8_init 1 none 2 mc ms [.ref a0] D tc ro b0 hp sz (zoVA r).1 (zoVA r).2.1 (zoVA r).2.2 := by
  refine z_startI (o := zoVA) (lv := [(0, .ref a0)]) h (by decide +kernel) RX8 rfl rfl rfl (Nat.le_of_ble_eq_true rfl) (fun P C CI => ?_)
  unfold f_X8_init
  refine z_aload_n C dX8_init_0 0 rfl ?_
  refine z_objInit C zo_X8_1 dX8_init_1 (by decide) (Nat.le_of_ble_eq_true rfl) ?_
  refine z_aload_n C dX8_init_4 0 rfl ?_
  refine z_sipush C dX8_init_5 zsi_900 ?_
  refine z_chk (fun q1 => ?_)
  refine z_newarr (t := 0) (ty := .int) (A := .inl (fun _ => 0)) C rfl (fun _ => rfl) (by decide) (fun _ _ h => h) (fun _ _ => rfl) zar_int dX8_init_8 (by decide) q1 (fun h2 => ?_)
  refine z_putF C CI zpf_X8_7 rfl rfl dX8_init_10 (fun h3 => ?_)
  refine z_aload_n C dX8_init_13 0 rfl ?_
  refine z_sipush C dX8_init_14 zsi_144 ?_
  refine z_chk (fun q4 => ?_)
  refine z_newarr (t := 0) (ty := .int) (A := .inl (fun _ => 0)) C rfl (fun _ => rfl) (by decide) (fun _ _ h => h) (fun _ _ => rfl) zar_int dX8_init_17 (by decide) q4 (fun h5 => ?_)
  refine z_putF C CI zpf_X8_13 rfl rfl dX8_init_19 (fun h6 => ?_)
  refine z_aload_n C dX8_init_22 0 rfl ?_
  refine z_sipush C dX8_init_23 zsi_144 ?_
  refine z_chk (fun q7 => ?_)
  refine z_newarr (t := 0) (ty := .int) (A := .inl (fun _ => 0)) C rfl (fun _ => rfl) (by decide) (fun _ _ h => h) (fun _ _ => rfl) zar_int dX8_init_26 (by decide) q7 (fun h8 => ?_)
  refine z_putF C CI zpf_X8_16 rfl rfl dX8_init_28 (fun h9 => ?_)
  refine z_aload_n C dX8_init_31 0 rfl ?_
  refine z_sipush C dX8_init_32 zsi_538 ?_
  refine z_chk (fun q10 => ?_)
  refine z_newarr (t := 0) (ty := .int) (A := .inl (fun _ => 0)) C rfl (fun _ => rfl) (by decide) (fun _ _ h => h) (fun _ _ => rfl) zar_int dX8_init_35 (by decide) q10 (fun h11 => ?_)
  refine z_putF C CI zpf_X8_19 rfl rfl dX8_init_37 (fun h12 => ?_)
  refine z_aload_n C dX8_init_40 0 rfl ?_
  refine z_sipush C dX8_init_41 zsi_538 ?_
  refine z_chk (fun q13 => ?_)
  refine z_newarr (t := 0) (ty := .int) (A := .inl (fun _ => 0)) C rfl (fun _ => rfl) (by decide) (fun _ _ h => h) (fun _ _ => rfl) zar_int dX8_init_44 (by decide) q13 (fun h14 => ?_)
  refine z_putF C CI zpf_X8_22 rfl rfl dX8_init_46 (fun h15 => ?_)
  refine z_aload_n C dX8_init_49 0 rfl ?_
  refine z_sipush C dX8_init_50 zsi_5380 ?_
  refine z_chk (fun q16 => ?_)
  refine z_newarr (t := 0) (ty := .int) (A := .inl (fun _ => 0)) C rfl (fun _ => rfl) (by decide) (fun _ _ h => h) (fun _ _ => rfl) zar_int dX8_init_53 (by decide) q16 (fun h17 => ?_)
  refine z_putF C CI zpf_X8_25 rfl rfl dX8_init_55 (fun h18 => ?_)
  refine z_aload_n C dX8_init_58 0 rfl ?_
  refine z_iconst C dX8_init_59 zi_m1 ?_
  refine z_putI C zp_X8_28 dX8_init_60 (fun h19 => ?_)
  refine z_aload_n C dX8_init_63 0 rfl ?_
  refine z_bipush C dX8_init_64 zbi_100 ?_
  refine z_chk (fun q20 => ?_)
  refine z_newarr (t := 0) (ty := .int) (A := .inl (fun _ => 0)) C rfl (fun _ => rfl) (by decide) (fun _ _ h => h) (fun _ _ => rfl) zar_int dX8_init_66 (by decide) q20 (fun h21 => ?_)
  refine z_putF C CI zpf_X8_32 rfl rfl dX8_init_68 (fun h22 => ?_)
  refine z_aload_n C dX8_init_71 0 rfl ?_
  refine z_callVv C zc_X8_35 [] (fun l D tc b0 r h => m_X8_newHall l D tc ro b0 h) dX8_init_72 rfl rfl (Nat.le_of_ble_eq_true rfl) (by decide) (by decide) ⟨q20.2.2.1, q20.2.2.2⟩ (fun h23 => ?_)
  exact z_returnA C dX8_init_75 ⟨q20.2.2.1, q20.2.2.2⟩
noncomputable def f_X8_thrown (a0 : Nat) (hp : zHp) : Option Int32 :=
  (zis hp a0 8).bind fun _ => (zgI hp a0 8 0).bind fun v1 => some v1
set_option maxHeartbeats 4000000 in
set_option maxRecDepth 100000 in
theorem m_X8_thrown (l : Launch) (D : va_G) (tc : Nat → ClassId) (ro : Nat → Nat) (b0 : Nat) {a0 : Nat} {hp : zHp} {sz : Nat} {r : Int32} (h : f_X8_thrown a0 hp = some r) : zis hp a0 8 = some () ∧ zM l yX8_thrown cX8_thrown 1 (some .int) 1 0 0 [.ref a0] D tc ro b0 hp sz ((zoP sz hp) r).1 ((zoP sz hp) r).2.1 ((zoP sz hp) r).2.2 := by
  refine ⟨?_, z_start (o := (zoP sz hp)) (lv := [(0, .ref a0)]) h (by decide +kernel) RX8 rfl rfl (Nat.le_of_ble_eq_true rfl) (fun P C => ?_)⟩
  · unfold f_X8_thrown at h
    cases hc : zis hp a0 8 with
    | none => rw [hc] at h; cases h
    | some u => rfl
  unfold f_X8_thrown
  refine z_is ?_
  refine z_aload_n C dX8_thrown_0 0 rfl ?_
  refine z_getI C zf_X8_38 dX8_thrown_1 (fun v1 => ?_)
  exact z_ireturnP C dX8_thrown_4
noncomputable def j_X8_feed_77 (k114 : zHp → Option (Int32 × zHp)) (rec : Int32 → zHp → Option (Int32 × zHp)) (a0 : Nat) (x1 : Int32) (x2 : Int32) (x3 : Int32) (x4 : Int32) (x5 : Int32) (x6 : Int32) (s0 : Int32) (h : zHp) : Option (Int32 × zHp) :=
  (zgR h a0 8 1).bind fun r3 => (zgI h a0 8 2).bind fun v4 => (zrem x6 (4 : Int32)).bind fun v5 => (zsI h r3 (v4 + x6) ((s0 >>> (((24 : Int32) - ((8 : Int32) * v5)) &&& 31)) &&& (255 : Int32))).bind fun h6 => zlet (x6 + (1 : Int32)) fun v7 => rec v7 h6
set_option maxHeartbeats 4000000 in
set_option maxRecDepth 100000 in
theorem wj_X8_feed_77 {P : zX} {ro : Nat → Nat} {sz : Nat} (C : zC P cX8_feed RX8 (some .int) 1 0 0 8 ro) {a0 : Nat} {x1 : Int32} {x2 : Int32} {x3 : Int32} {x4 : Int32} {x5 : Int32} {x6 : Int32} {s0 : Int32} {h : zHp} {k114 : zHp → Option (Int32 × zHp)} (hk114 : ∀ (h : zHp), zG P (zoI sz) (k114 h) 114 [(0, .ref a0)] [] h sz 0 0) {rec : Int32 → zHp → Option (Int32 × zHp)} (hrec : ∀ (x6 : Int32) (h : zHp), zG P (zoI sz) (rec x6 h) 24 [(0, .ref a0), (1, .int x1), (2, .int x2), (3, .int x3), (4, .int x4), (5, .int x5), (6, .int x6)] [] h sz 0 0) : zG P (zoI sz) (j_X8_feed_77 k114 rec a0 x1 x2 x3 x4 x5 x6 s0 h) 77 [(0, .ref a0), (1, .int x1), (2, .int x2), (3, .int x3), (4, .int x4), (5, .int x5), (6, .int x6)] [.int s0] h sz 0 0 := by
  unfold j_X8_feed_77
  refine z_istore (lv' := [(0, .ref a0), (1, .int x1), (2, .int x2), (3, .int x3), (4, .int x4), (5, .int x5), (6, .int x6), (7, .int s0)]) C dX8_feed_77 (by decide) rfl ?_
  refine z_aload_n C dX8_feed_79 0 rfl ?_
  refine z_getR C zf_X8_7 dX8_feed_80 (fun r3 => ?_)
  refine z_aload_n C dX8_feed_83 0 rfl ?_
  refine z_getI C zf_X8_41 dX8_feed_84 (fun v4 => ?_)
  refine z_iload C dX8_feed_87 6 rfl ?_
  refine z_iadd C dX8_feed_89 ?_
  refine z_iload C dX8_feed_90 7 rfl ?_
  refine z_bipush C dX8_feed_92 zbi_24 ?_
  refine z_bipush C dX8_feed_94 zbi_8 ?_
  refine z_iload C dX8_feed_96 6 rfl ?_
  refine z_iconst C dX8_feed_98 zi_4 ?_
  refine z_irem C dX8_feed_99 (fun v5 => ?_)
  refine z_imul C dX8_feed_100 ?_
  refine z_isub C dX8_feed_101 ?_
  refine z_ishr C dX8_feed_102 ?_
  refine z_sipush C dX8_feed_103 zsi_255 ?_
  refine z_iand C dX8_feed_106 ?_
  refine z_iastore C dX8_feed_107 (fun h6 => ?_)
  refine z_iincL C 6 (fun v7 => [(0, .ref a0), (1, .int x1), (2, .int x2), (3, .int x3), (4, .int x4), (5, .int x5), (6, .int v7), (7, .int s0)]) dX8_feed_108 rfl zi_1 (by decide) (fun _ => rfl) (fun v7 => ?_)
  refine z_goto C 24 dX8_feed_111 (by decide) ?_
  exact z_sub [0, 1, 2, 3, 4, 5, 6] rfl (hrec _ _)
noncomputable def b_X8_feed_24 (k114 : zHp → Option (Int32 × zHp)) (a0 : Nat) (x1 : Int32) (x2 : Int32) (x3 : Int32) (x4 : Int32) (x5 : Int32) (rec : Int32 → zHp → Option (Int32 × zHp)) (x6 : Int32) (h : zHp) : Option (Int32 × zHp) :=
  if x6 < (20 : Int32) then (if x6 < (4 : Int32) then (j_X8_feed_77 k114 rec a0 x1 x2 x3 x4 x5 x6 x1 h) else if x6 < (8 : Int32) then (j_X8_feed_77 k114 rec a0 x1 x2 x3 x4 x5 x6 x2 h) else if x6 < (12 : Int32) then (j_X8_feed_77 k114 rec a0 x1 x2 x3 x4 x5 x6 x3 h) else if x6 < (16 : Int32) then (j_X8_feed_77 k114 rec a0 x1 x2 x3 x4 x5 x6 x4 h) else j_X8_feed_77 k114 rec a0 x1 x2 x3 x4 x5 x6 x5 h) else k114 h
noncomputable def l_X8_feed_24 (k114 : zHp → Option (Int32 × zHp)) (a0 : Nat) (x1 : Int32) (x2 : Int32) (x3 : Int32) (x4 : Int32) (x5 : Int32) (n : Nat) : Int32 → zHp → Option (Int32 × zHp) :=
  Nat.rec (motive := fun _ => Int32 → zHp → Option (Int32 × zHp)) (fun _ _ => none) (fun _ rec => b_X8_feed_24 k114 a0 x1 x2 x3 x4 x5 rec) n
theorem l_X8_feed_24_s (k114 : zHp → Option (Int32 × zHp)) (a0 : Nat) (x1 : Int32) (x2 : Int32) (x3 : Int32) (x4 : Int32) (x5 : Int32) (n : Nat) (x6 : Int32) (h : zHp) : l_X8_feed_24 k114 a0 x1 x2 x3 x4 x5 (n + 1) x6 h = b_X8_feed_24 k114 a0 x1 x2 x3 x4 x5 (l_X8_feed_24 k114 a0 x1 x2 x3 x4 x5 n) x6 h := rfl
set_option maxHeartbeats 4000000 in
set_option maxRecDepth 100000 in
theorem wl_X8_feed_24 {P : zX} {ro : Nat → Nat} {sz : Nat} (C : zC P cX8_feed RX8 (some .int) 1 0 0 8 ro) {a0 : Nat} {x1 : Int32} {x2 : Int32} {x3 : Int32} {x4 : Int32} {x5 : Int32} {k114 : zHp → Option (Int32 × zHp)} (hk114 : ∀ (h : zHp), zG P (zoI sz) (k114 h) 114 [(0, .ref a0)] [] h sz 0 0) : ∀ (n : Nat) (x6 : Int32) (h : zHp), zG P (zoI sz) (l_X8_feed_24 k114 a0 x1 x2 x3 x4 x5 n x6 h) 24 [(0, .ref a0), (1, .int x1), (2, .int x2), (3, .int x3), (4, .int x4), (5, .int x5), (6, .int x6)] [] h sz 0 0 := by
  intro n
  induction n with
  | zero =>
    intro x6 h
    show zG P (zoI sz) none _ _ _ _ _ _ _
    exact z_none
  | succ n ih =>
    intro x6 h
    show zG P (zoI sz) (b_X8_feed_24 k114 a0 x1 x2 x3 x4 x5 (l_X8_feed_24 k114 a0 x1 x2 x3 x4 x5 n) x6 h) _ _ _ _ _ _ _
    unfold b_X8_feed_24
    refine z_iload C dX8_feed_24 6 rfl ?_
    refine z_bipush C dX8_feed_26 zbi_20 ?_
    refine z_icmp_ge C 114 dX8_feed_28 (by decide) ?_ ?_
    · refine z_iload C dX8_feed_31 6 rfl ?_
      refine z_iconst C dX8_feed_33 zi_4 ?_
      refine z_icmp_ge C 41 dX8_feed_34 (by decide) ?_ ?_
      · refine z_iload_n C dX8_feed_37 1 rfl ?_
        refine z_goto C 77 dX8_feed_38 (by decide) ?_
        exact wj_X8_feed_77 C hk114 ih
      refine z_iload C dX8_feed_41 6 rfl ?_
      refine z_bipush C dX8_feed_43 zbi_8 ?_
      refine z_icmp_ge C 52 dX8_feed_45 (by decide) ?_ ?_
      · refine z_iload_n C dX8_feed_48 2 rfl ?_
        refine z_goto C 77 dX8_feed_49 (by decide) ?_
        exact wj_X8_feed_77 C hk114 ih
      refine z_iload C dX8_feed_52 6 rfl ?_
      refine z_bipush C dX8_feed_54 zbi_12 ?_
      refine z_icmp_ge C 63 dX8_feed_56 (by decide) ?_ ?_
      · refine z_iload_n C dX8_feed_59 3 rfl ?_
        refine z_goto C 77 dX8_feed_60 (by decide) ?_
        exact wj_X8_feed_77 C hk114 ih
      refine z_iload C dX8_feed_63 6 rfl ?_
      refine z_bipush C dX8_feed_65 zbi_16 ?_
      refine z_icmp_ge C 75 dX8_feed_67 (by decide) ?_ ?_
      · refine z_iload C dX8_feed_70 4 rfl ?_
        refine z_goto C 77 dX8_feed_72 (by decide) ?_
        exact wj_X8_feed_77 C hk114 ih
      refine z_iload C dX8_feed_75 5 rfl ?_
      exact wj_X8_feed_77 C hk114 ih
    exact z_sub [0] rfl (hk114 _)
noncomputable def f_X8_feed (a0 : Nat) (x1 : Int32) (x2 : Int32) (x3 : Int32) (x4 : Int32) (x5 : Int32) (hp : zHp) : Option (Int32 × zHp) :=
  (zis hp a0 8).bind fun _ => (zpV hp a0 8 0 (.int (0 : Int32))).bind fun h1 => (zgI h1 a0 8 2).bind fun v2 => if (900 : Int32) < (v2 + (20 : Int32)) then (some ((-5 : Int32), h1)) else l_X8_feed_24 (fun h8 => (zgI h8 a0 8 2).bind fun v9 => (zpV h8 a0 8 2 (.int (v9 + (20 : Int32)))).bind fun h10 => (zgI h10 a0 8 2).bind fun v11 => some (v11, h10)) a0 x1 x2 x3 x4 x5 1000000 (0 : Int32) h1
set_option maxHeartbeats 4000000 in
set_option maxRecDepth 100000 in
theorem m_X8_feed (l : Launch) (D : va_G) (tc : Nat → ClassId) (ro : Nat → Nat) (b0 : Nat) {a0 : Nat} {x1 : Int32} {x2 : Int32} {x3 : Int32} {x4 : Int32} {x5 : Int32} {hp : zHp} {sz : Nat} {r : (Int32 × zHp)} (h : f_X8_feed a0 x1 x2 x3 x4 x5 hp = some r) : zis hp a0 8 = some () ∧ zM l yX8_feed cX8_feed 8 (some .int) 1 0 0 [.ref a0, .int x1, .int x2, .int x3, .int x4, .int x5] D tc ro b0 hp sz ((zoI sz) r).1 ((zoI sz) r).2.1 ((zoI sz) r).2.2 := by
  refine ⟨?_, z_start (o := (zoI sz)) (lv := [(0, .ref a0), (1, .int x1), (2, .int x2), (3, .int x3), (4, .int x4), (5, .int x5)]) h (by decide +kernel) RX8 rfl rfl (Nat.le_of_ble_eq_true rfl) (fun P C => ?_)⟩
  · unfold f_X8_feed at h
    cases hc : zis hp a0 8 with
    | none => rw [hc] at h; cases h
    | some u => rfl
  unfold f_X8_feed
  refine z_is ?_
  refine z_aload_n C dX8_feed_0 0 rfl ?_
  refine z_iconst C dX8_feed_1 zi_0 ?_
  refine z_putI C zp_X8_38 dX8_feed_2 (fun h1 => ?_)
  refine z_aload_n C dX8_feed_5 0 rfl ?_
  refine z_getI C zf_X8_41 dX8_feed_6 (fun v2 => ?_)
  refine z_bipush C dX8_feed_9 zbi_20 ?_
  refine z_iadd C dX8_feed_11 ?_
  refine z_sipush C dX8_feed_12 zsi_900 ?_
  refine z_icmp_le C 21 dX8_feed_15 (by decide) ?_ ?_
  · refine z_bipush C dX8_feed_18 zbi_m5 ?_
    exact z_ireturn C dX8_feed_20
  refine z_iconst C dX8_feed_21 zi_0 ?_
  refine z_istore (lv' := [(0, .ref a0), (1, .int x1), (2, .int x2), (3, .int x3), (4, .int x4), (5, .int x5), (6, .int (0 : Int32))]) C dX8_feed_22 (by decide) rfl ?_
  refine wl_X8_feed_24 C (fun h8 => ?_) _ _ _
  refine z_aload_n C dX8_feed_114 0 rfl ?_
  refine z_dup C dX8_feed_115 rfl ?_
  refine z_getI C zf_X8_41 dX8_feed_116 (fun v9 => ?_)
  refine z_bipush C dX8_feed_119 zbi_20 ?_
  refine z_iadd C dX8_feed_121 ?_
  refine z_putI C zp_X8_41 dX8_feed_122 (fun h10 => ?_)
  refine z_aload_n C dX8_feed_125 0 rfl ?_
  refine z_getI C zf_X8_41 dX8_feed_126 (fun v11 => ?_)
  exact z_ireturn C dX8_feed_129
noncomputable def b_X8_copies_2 (k20 : zHp → Option zHp) (a0 : Nat) (a1 : Nat) (rec : Int32 → zHp → Option zHp) (x2 : Int32) (h : zHp) : Option zHp :=
  (zlen h 0 a0).bind fun v1 => if x2 < v1 then ((zaI h 0 a0 x2).bind fun v2 => (zsI h a1 x2 v2).bind fun h3 => zlet (x2 + (1 : Int32)) fun v4 => rec v4 h3) else k20 h
noncomputable def l_X8_copies_2 (k20 : zHp → Option zHp) (a0 : Nat) (a1 : Nat) (n : Nat) : Int32 → zHp → Option zHp :=
  Nat.rec (motive := fun _ => Int32 → zHp → Option zHp) (fun _ _ => none) (fun _ rec => b_X8_copies_2 k20 a0 a1 rec) n
theorem l_X8_copies_2_s (k20 : zHp → Option zHp) (a0 : Nat) (a1 : Nat) (n : Nat) (x2 : Int32) (h : zHp) : l_X8_copies_2 k20 a0 a1 (n + 1) x2 h = b_X8_copies_2 k20 a0 a1 (l_X8_copies_2 k20 a0 a1 n) x2 h := rfl
set_option maxHeartbeats 4000000 in
set_option maxRecDepth 100000 in
theorem wl_X8_copies_2 {P : zX} {ro : Nat → Nat} {sz : Nat} (C : zC P cX8_copies RX8 none 1 0 0 3 ro) {a0 : Nat} {a1 : Nat} {k20 : zHp → Option zHp} (hk20 : ∀ (h : zHp), zG P (zoV sz) (k20 h) 20 [] [] h sz 0 0) : ∀ (n : Nat) (x2 : Int32) (h : zHp), zG P (zoV sz) (l_X8_copies_2 k20 a0 a1 n x2 h) 2 [(0, .ref a0), (1, .ref a1), (2, .int x2)] [] h sz 0 0 := by
  intro n
  induction n with
  | zero =>
    intro x2 h
    show zG P (zoV sz) none _ _ _ _ _ _ _
    exact z_none
  | succ n ih =>
    intro x2 h
    show zG P (zoV sz) (b_X8_copies_2 k20 a0 a1 (l_X8_copies_2 k20 a0 a1 n) x2 h) _ _ _ _ _ _ _
    unfold b_X8_copies_2
    refine z_iload_n C dX8_copies_2 2 rfl ?_
    refine z_aload_n C dX8_copies_3 0 rfl ?_
    refine z_arraylength (t := 0) (ty := .int) C (fun _ => rfl) (by decide) dX8_copies_4 (fun v1 => ?_)
    refine z_icmp_ge C 20 dX8_copies_5 (by decide) ?_ ?_
    · refine z_aload_n C dX8_copies_8 1 rfl ?_
      refine z_iload_n C dX8_copies_9 2 rfl ?_
      refine z_aload_n C dX8_copies_10 0 rfl ?_
      refine z_iload_n C dX8_copies_11 2 rfl ?_
      refine z_iaload C dX8_copies_12 (fun v2 => ?_)
      refine z_iastore C dX8_copies_13 (fun h3 => ?_)
      refine z_iincL C 2 (fun v4 => [(0, .ref a0), (1, .ref a1), (2, .int v4)]) dX8_copies_14 rfl zi_1 (by decide) (fun _ => rfl) (fun v4 => ?_)
      refine z_goto C 2 dX8_copies_17 (by decide) ?_
      exact ih _ _
    exact z_sub [] rfl (hk20 _)
noncomputable def f_X8_copies (a0 : Nat) (a1 : Nat) (hp : zHp) : Option zHp :=
  l_X8_copies_2 (fun h5 => some h5) a0 a1 1000000 (0 : Int32) hp
set_option maxHeartbeats 4000000 in
set_option maxRecDepth 100000 in
theorem m_X8_copies (l : Launch) (D : va_G) (tc : Nat → ClassId) (ro : Nat → Nat) (b0 : Nat) {a0 : Nat} {a1 : Nat} {hp : zHp} {sz : Nat} {r : zHp} (h : f_X8_copies a0 a1 hp = some r) : zM l yX8_copies cX8_copies 3 none 1 0 0 [.ref a0, .ref a1] D tc ro b0 hp sz ((zoV sz) r).1 ((zoV sz) r).2.1 ((zoV sz) r).2.2 := by
  refine z_start (o := (zoV sz)) (lv := [(0, .ref a0), (1, .ref a1)]) h (by decide +kernel) RX8 rfl rfl (Nat.le_of_ble_eq_true rfl) (fun P C => ?_)
  unfold f_X8_copies
  refine z_iconst C dX8_copies_0 zi_0 ?_
  refine z_istore_n (lv' := [(0, .ref a0), (1, .ref a1), (2, .int (0 : Int32))]) C dX8_copies_1 (by decide) rfl ?_
  refine wl_X8_copies_2 C (fun h5 => ?_) _ _ _
  exact z_return C dX8_copies_20
noncomputable def f_X8_many (a0 : Nat) (x1 : Int32) (hp : zHp) : Option Int32 :=
  (zis hp a0 8).bind fun _ => (zgR hp a0 8 3).bind fun r1 => (zaI hp 0 r1 ((0 : Int32) + x1)).bind fun v2 => some v2
set_option maxHeartbeats 4000000 in
set_option maxRecDepth 100000 in
theorem m_X8_many (l : Launch) (D : va_G) (tc : Nat → ClassId) (ro : Nat → Nat) (b0 : Nat) {a0 : Nat} {x1 : Int32} {hp : zHp} {sz : Nat} {r : Int32} (h : f_X8_many a0 x1 hp = some r) : zis hp a0 8 = some () ∧ zM l yX8_many cX8_many 2 (some .int) 1 0 0 [.ref a0, .int x1] D tc ro b0 hp sz ((zoP sz hp) r).1 ((zoP sz hp) r).2.1 ((zoP sz hp) r).2.2 := by
  refine ⟨?_, z_start (o := (zoP sz hp)) (lv := [(0, .ref a0), (1, .int x1)]) h (by decide +kernel) RX8 rfl rfl (Nat.le_of_ble_eq_true rfl) (fun P C => ?_)⟩
  · unfold f_X8_many at h
    cases hc : zis hp a0 8 with
    | none => rw [hc] at h; cases h
    | some u => rfl
  unfold f_X8_many
  refine z_is ?_
  refine z_aload_n C dX8_many_0 0 rfl ?_
  refine z_getR C zf_X8_13 dX8_many_1 (fun r1 => ?_)
  refine z_iconst C dX8_many_4 zi_0 ?_
  refine z_iload_n C dX8_many_5 1 rfl ?_
  refine z_iadd C dX8_many_6 ?_
  refine z_iaload C dX8_many_7 (fun v2 => ?_)
  exact z_ireturnP C dX8_many_8
noncomputable def f_X8_piles (a0 : Nat) (hp : zHp) : Option Int32 :=
  (zis hp a0 8).bind fun _ => (f_X8_many a0 (0 : Int32) hp).bind fun v1 => some (v1 + (1 : Int32))
set_option maxHeartbeats 4000000 in
set_option maxRecDepth 100000 in
theorem m_X8_piles (l : Launch) (D : va_G) (tc : Nat → ClassId) (ro : Nat → Nat) (b0 : Nat) {a0 : Nat} {hp : zHp} {sz : Nat} {r : Int32} (h : f_X8_piles a0 hp = some r) : zis hp a0 8 = some () ∧ zM l yX8_piles cX8_piles 1 (some .int) 2 0 0 [.ref a0] D tc ro b0 hp sz ((zoP sz hp) r).1 ((zoP sz hp) r).2.1 ((zoP sz hp) r).2.2 := by
  refine ⟨?_, z_start (o := (zoP sz hp)) (lv := [(0, .ref a0)]) h (by decide +kernel) RX8 rfl rfl (Nat.le_of_ble_eq_true rfl) (fun P C => ?_)⟩
  · unfold f_X8_piles at h
    cases hc : zis hp a0 8 with
    | none => rw [hc] at h; cases h
    | some u => rfl
  unfold f_X8_piles
  refine z_is ?_
  refine z_aload_n C dX8_piles_0 0 rfl ?_
  refine z_iconst C dX8_piles_1 zi_0 ?_
  refine z_callVp C zc_X8_44 [.int (0 : Int32)] (fun l D tc b0 r h => m_X8_many l D tc ro b0 h) dX8_piles_2 rfl rfl (Nat.le_of_ble_eq_true rfl) (by decide) (by decide) ⟨Nat.le_of_ble_eq_true rfl, Nat.le_of_ble_eq_true rfl⟩ (fun v1 => ?_)
  refine z_iconst C dX8_piles_5 zi_1 ?_
  refine z_iadd C dX8_piles_6 ?_
  exact z_ireturnP C dX8_piles_7
noncomputable def f_X8_of (a0 : Nat) (x1 : Int32) (x2 : Int32) (hp : zHp) : Option Int32 :=
  (zis hp a0 8).bind fun _ => (zgR hp a0 8 5).bind fun r1 => (zaI hp 0 r1 (((10 : Int32) + ((44 : Int32) * x1)) + x2)).bind fun v2 => some v2
set_option maxHeartbeats 4000000 in
set_option maxRecDepth 100000 in
theorem m_X8_of (l : Launch) (D : va_G) (tc : Nat → ClassId) (ro : Nat → Nat) (b0 : Nat) {a0 : Nat} {x1 : Int32} {x2 : Int32} {hp : zHp} {sz : Nat} {r : Int32} (h : f_X8_of a0 x1 x2 hp = some r) : zis hp a0 8 = some () ∧ zM l yX8_of cX8_of 3 (some .int) 1 0 0 [.ref a0, .int x1, .int x2] D tc ro b0 hp sz ((zoP sz hp) r).1 ((zoP sz hp) r).2.1 ((zoP sz hp) r).2.2 := by
  refine ⟨?_, z_start (o := (zoP sz hp)) (lv := [(0, .ref a0), (1, .int x1), (2, .int x2)]) h (by decide +kernel) RX8 rfl rfl (Nat.le_of_ble_eq_true rfl) (fun P C => ?_)⟩
  · unfold f_X8_of at h
    cases hc : zis hp a0 8 with
    | none => rw [hc] at h; cases h
    | some u => rfl
  unfold f_X8_of
  refine z_is ?_
  refine z_aload_n C dX8_of_0 0 rfl ?_
  refine z_getR C zf_X8_19 dX8_of_1 (fun r1 => ?_)
  refine z_bipush C dX8_of_4 zbi_10 ?_
  refine z_bipush C dX8_of_6 zbi_44 ?_
  refine z_iload_n C dX8_of_8 1 rfl ?_
  refine z_imul C dX8_of_9 ?_
  refine z_iadd C dX8_of_10 ?_
  refine z_iload_n C dX8_of_11 2 rfl ?_
  refine z_iadd C dX8_of_12 ?_
  refine z_iaload C dX8_of_13 (fun v2 => ?_)
  exact z_ireturnP C dX8_of_14
noncomputable def f_X8_sets (a0 : Nat) (x1 : Int32) (x2 : Int32) (x3 : Int32) (hp : zHp) : Option zHp :=
  (zis hp a0 8).bind fun _ => (zgR hp a0 8 5).bind fun r1 => (zsI hp r1 (((10 : Int32) + ((44 : Int32) * x1)) + x2) x3).bind fun h2 => some h2
set_option maxHeartbeats 4000000 in
set_option maxRecDepth 100000 in
theorem m_X8_sets (l : Launch) (D : va_G) (tc : Nat → ClassId) (ro : Nat → Nat) (b0 : Nat) {a0 : Nat} {x1 : Int32} {x2 : Int32} {x3 : Int32} {hp : zHp} {sz : Nat} {r : zHp} (h : f_X8_sets a0 x1 x2 x3 hp = some r) : zis hp a0 8 = some () ∧ zM l yX8_sets cX8_sets 4 none 1 0 0 [.ref a0, .int x1, .int x2, .int x3] D tc ro b0 hp sz ((zoV sz) r).1 ((zoV sz) r).2.1 ((zoV sz) r).2.2 := by
  refine ⟨?_, z_start (o := (zoV sz)) (lv := [(0, .ref a0), (1, .int x1), (2, .int x2), (3, .int x3)]) h (by decide +kernel) RX8 rfl rfl (Nat.le_of_ble_eq_true rfl) (fun P C => ?_)⟩
  · unfold f_X8_sets at h
    cases hc : zis hp a0 8 with
    | none => rw [hc] at h; cases h
    | some u => rfl
  unfold f_X8_sets
  refine z_is ?_
  refine z_aload_n C dX8_sets_0 0 rfl ?_
  refine z_getR C zf_X8_19 dX8_sets_1 (fun r1 => ?_)
  refine z_bipush C dX8_sets_4 zbi_10 ?_
  refine z_bipush C dX8_sets_6 zbi_44 ?_
  refine z_iload_n C dX8_sets_8 1 rfl ?_
  refine z_imul C dX8_sets_9 ?_
  refine z_iadd C dX8_sets_10 ?_
  refine z_iload_n C dX8_sets_11 2 rfl ?_
  refine z_iadd C dX8_sets_12 ?_
  refine z_iload_n C dX8_sets_13 3 rfl ?_
  refine z_iastore C dX8_sets_14 (fun h2 => ?_)
  exact z_return C dX8_sets_15
noncomputable def f_X8_paper (a0 : Nat) (x1 : Int32) (x2 : Int32) (hp : zHp) : Option Int32 :=
  (zis hp a0 8).bind fun _ => (zgR hp a0 8 3).bind fun r1 => (zaI hp 0 r1 (((68 : Int32) + ((6 : Int32) * x1)) + x2)).bind fun v2 => some v2
set_option maxHeartbeats 4000000 in
set_option maxRecDepth 100000 in
theorem m_X8_paper (l : Launch) (D : va_G) (tc : Nat → ClassId) (ro : Nat → Nat) (b0 : Nat) {a0 : Nat} {x1 : Int32} {x2 : Int32} {hp : zHp} {sz : Nat} {r : Int32} (h : f_X8_paper a0 x1 x2 hp = some r) : zis hp a0 8 = some () ∧ zM l yX8_paper cX8_paper 3 (some .int) 1 0 0 [.ref a0, .int x1, .int x2] D tc ro b0 hp sz ((zoP sz hp) r).1 ((zoP sz hp) r).2.1 ((zoP sz hp) r).2.2 := by
  refine ⟨?_, z_start (o := (zoP sz hp)) (lv := [(0, .ref a0), (1, .int x1), (2, .int x2)]) h (by decide +kernel) RX8 rfl rfl (Nat.le_of_ble_eq_true rfl) (fun P C => ?_)⟩
  · unfold f_X8_paper at h
    cases hc : zis hp a0 8 with
    | none => rw [hc] at h; cases h
    | some u => rfl
  unfold f_X8_paper
  refine z_is ?_
  refine z_aload_n C dX8_paper_0 0 rfl ?_
  refine z_getR C zf_X8_13 dX8_paper_1 (fun r1 => ?_)
  refine z_bipush C dX8_paper_4 zbi_68 ?_
  refine z_bipush C dX8_paper_6 zbi_6 ?_
  refine z_iload_n C dX8_paper_8 1 rfl ?_
  refine z_imul C dX8_paper_9 ?_
  refine z_iadd C dX8_paper_10 ?_
  refine z_iload_n C dX8_paper_11 2 rfl ?_
  refine z_iadd C dX8_paper_12 ?_
  refine z_iaload C dX8_paper_13 (fun v2 => ?_)
  exact z_ireturnP C dX8_paper_14
noncomputable def f_X8_found (a0 : Nat) (x1 : Int32) (x2 : Int32) (x3 : Int32) (hp : zHp) : Option Int32 :=
  (zis hp a0 8).bind fun _ => (f_X8_of a0 x1 (((20 : Int32) + ((6 : Int32) * x2)) + x3) hp).bind fun v1 => some v1
set_option maxHeartbeats 4000000 in
set_option maxRecDepth 100000 in
theorem m_X8_found (l : Launch) (D : va_G) (tc : Nat → ClassId) (ro : Nat → Nat) (b0 : Nat) {a0 : Nat} {x1 : Int32} {x2 : Int32} {x3 : Int32} {hp : zHp} {sz : Nat} {r : Int32} (h : f_X8_found a0 x1 x2 x3 hp = some r) : zis hp a0 8 = some () ∧ zM l yX8_found cX8_found 4 (some .int) 2 0 0 [.ref a0, .int x1, .int x2, .int x3] D tc ro b0 hp sz ((zoP sz hp) r).1 ((zoP sz hp) r).2.1 ((zoP sz hp) r).2.2 := by
  refine ⟨?_, z_start (o := (zoP sz hp)) (lv := [(0, .ref a0), (1, .int x1), (2, .int x2), (3, .int x3)]) h (by decide +kernel) RX8 rfl rfl (Nat.le_of_ble_eq_true rfl) (fun P C => ?_)⟩
  · unfold f_X8_found at h
    cases hc : zis hp a0 8 with
    | none => rw [hc] at h; cases h
    | some u => rfl
  unfold f_X8_found
  refine z_is ?_
  refine z_aload_n C dX8_found_0 0 rfl ?_
  refine z_iload_n C dX8_found_1 1 rfl ?_
  refine z_bipush C dX8_found_2 zbi_20 ?_
  refine z_bipush C dX8_found_4 zbi_6 ?_
  refine z_iload_n C dX8_found_6 2 rfl ?_
  refine z_imul C dX8_found_7 ?_
  refine z_iadd C dX8_found_8 ?_
  refine z_iload_n C dX8_found_9 3 rfl ?_
  refine z_iadd C dX8_found_10 ?_
  refine z_callVp C zc_X8_48 [.int x1, .int (((20 : Int32) + ((6 : Int32) * x2)) + x3)] (fun l D tc b0 r h => m_X8_of l D tc ro b0 h) dX8_found_11 rfl rfl (Nat.le_of_ble_eq_true rfl) (by decide) (by decide) ⟨Nat.le_of_ble_eq_true rfl, Nat.le_of_ble_eq_true rfl⟩ (fun v1 => ?_)
  exact z_ireturnP C dX8_found_14
noncomputable def b_X8_isDeclared_2 (k25 : Option Int32) (k33 : Option Int32) (a0 : Nat) (x1 : Int32) (hp : zHp) (rec : Int32 → Option Int32) (x2 : Int32) : Option Int32 :=
  (zgR hp a0 8 5).bind fun r1 => (zaI hp 0 r1 (9 : Int32)).bind fun v2 => if x2 < v2 then ((zgR hp a0 8 5).bind fun r3 => (zaI hp 0 r3 ((3 : Int32) + x2)).bind fun v4 => if v4 = x1 then (k25) else zlet (x2 + (1 : Int32)) fun v5 => rec v5) else k33
noncomputable def l_X8_isDeclared_2 (k25 : Option Int32) (k33 : Option Int32) (a0 : Nat) (x1 : Int32) (hp : zHp) (n : Nat) : Int32 → Option Int32 :=
  Nat.rec (motive := fun _ => Int32 → Option Int32) (fun _ => none) (fun _ rec => b_X8_isDeclared_2 k25 k33 a0 x1 hp rec) n
theorem l_X8_isDeclared_2_s (k25 : Option Int32) (k33 : Option Int32) (a0 : Nat) (x1 : Int32) (hp : zHp) (n : Nat) (x2 : Int32) : l_X8_isDeclared_2 k25 k33 a0 x1 hp (n + 1) x2 = b_X8_isDeclared_2 k25 k33 a0 x1 hp (l_X8_isDeclared_2 k25 k33 a0 x1 hp n) x2 := rfl
set_option maxHeartbeats 4000000 in
set_option maxRecDepth 100000 in
theorem wl_X8_isDeclared_2 {P : zX} {ro : Nat → Nat} {sz : Nat} (C : zC P cX8_isDeclared RX8 (some .boolean) 1 0 0 3 ro) {a0 : Nat} {x1 : Int32} {hp : zHp} {k25 : Option Int32} (hk25 : zG P (zoP sz hp) (k25) 25 [] [] hp sz 0 0) {k33 : Option Int32} (hk33 : zG P (zoP sz hp) (k33) 33 [] [] hp sz 0 0) : ∀ (n : Nat) (x2 : Int32), zG P (zoP sz hp) (l_X8_isDeclared_2 k25 k33 a0 x1 hp n x2) 2 [(0, .ref a0), (1, .int x1), (2, .int x2)] [] hp sz 0 0 := by
  intro n
  induction n with
  | zero =>
    intro x2
    show zG P (zoP sz hp) none _ _ _ _ _ _ _
    exact z_none
  | succ n ih =>
    intro x2
    show zG P (zoP sz hp) (b_X8_isDeclared_2 k25 k33 a0 x1 hp (l_X8_isDeclared_2 k25 k33 a0 x1 hp n) x2) _ _ _ _ _ _ _
    unfold b_X8_isDeclared_2
    refine z_iload_n C dX8_isDeclared_2 2 rfl ?_
    refine z_aload_n C dX8_isDeclared_3 0 rfl ?_
    refine z_getR C zf_X8_19 dX8_isDeclared_4 (fun r1 => ?_)
    refine z_bipush C dX8_isDeclared_7 zbi_9 ?_
    refine z_iaload C dX8_isDeclared_9 (fun v2 => ?_)
    refine z_icmp_ge C 33 dX8_isDeclared_10 (by decide) ?_ ?_
    · refine z_aload_n C dX8_isDeclared_13 0 rfl ?_
      refine z_getR C zf_X8_19 dX8_isDeclared_14 (fun r3 => ?_)
      refine z_iconst C dX8_isDeclared_17 zi_3 ?_
      refine z_iload_n C dX8_isDeclared_18 2 rfl ?_
      refine z_iadd C dX8_isDeclared_19 ?_
      refine z_iaload C dX8_isDeclared_20 (fun v4 => ?_)
      refine z_iload_n C dX8_isDeclared_21 1 rfl ?_
      refine z_icmp_ne C 27 dX8_isDeclared_22 (by decide) ?_ ?_
      · exact z_sub [] rfl (hk25)
      refine z_iincL C 2 (fun v5 => [(0, .ref a0), (1, .int x1), (2, .int v5)]) dX8_isDeclared_27 rfl zi_1 (by decide) (fun _ => rfl) (fun v5 => ?_)
      refine z_goto C 2 dX8_isDeclared_30 (by decide) ?_
      exact ih _
    exact z_sub [] rfl (hk33)
noncomputable def f_X8_isDeclared (a0 : Nat) (x1 : Int32) (hp : zHp) : Option Int32 :=
  (zis hp a0 8).bind fun _ => l_X8_isDeclared_2 (some (1 : Int32)) (some (0 : Int32)) a0 x1 hp 1000000 (0 : Int32)
set_option maxHeartbeats 4000000 in
set_option maxRecDepth 100000 in
theorem m_X8_isDeclared (l : Launch) (D : va_G) (tc : Nat → ClassId) (ro : Nat → Nat) (b0 : Nat) {a0 : Nat} {x1 : Int32} {hp : zHp} {sz : Nat} {r : Int32} (h : f_X8_isDeclared a0 x1 hp = some r) : zis hp a0 8 = some () ∧ zM l yX8_isDeclared cX8_isDeclared 3 (some .boolean) 1 0 0 [.ref a0, .int x1] D tc ro b0 hp sz ((zoP sz hp) r).1 ((zoP sz hp) r).2.1 ((zoP sz hp) r).2.2 := by
  refine ⟨?_, z_start (o := (zoP sz hp)) (lv := [(0, .ref a0), (1, .int x1)]) h (by decide +kernel) RX8 rfl rfl (Nat.le_of_ble_eq_true rfl) (fun P C => ?_)⟩
  · unfold f_X8_isDeclared at h
    cases hc : zis hp a0 8 with
    | none => rw [hc] at h; cases h
    | some u => rfl
  unfold f_X8_isDeclared
  refine z_is ?_
  refine z_iconst C dX8_isDeclared_0 zi_0 ?_
  refine z_istore_n (lv' := [(0, .ref a0), (1, .int x1), (2, .int (0 : Int32))]) C dX8_isDeclared_1 (by decide) rfl ?_
  refine wl_X8_isDeclared_2 C ?_ ?_ _ _
  · refine z_iconst C dX8_isDeclared_25 zi_1 ?_
    exact z_kreturnP C rfl dX8_isDeclared_26
  refine z_iconst C dX8_isDeclared_33 zi_0 ?_
  exact z_kreturnP C rfl dX8_isDeclared_34
noncomputable def f_X8_isAtTable (a0 : Nat) (x1 : Int32) (hp : zHp) : Option Int32 :=
  (zis hp a0 8).bind fun _ => (f_X8_of a0 x1 (0 : Int32) hp).bind fun v1 => if v1 < 0 then (some (0 : Int32)) else some (1 : Int32)
set_option maxHeartbeats 4000000 in
set_option maxRecDepth 100000 in
theorem m_X8_isAtTable (l : Launch) (D : va_G) (tc : Nat → ClassId) (ro : Nat → Nat) (b0 : Nat) {a0 : Nat} {x1 : Int32} {hp : zHp} {sz : Nat} {r : Int32} (h : f_X8_isAtTable a0 x1 hp = some r) : zis hp a0 8 = some () ∧ zM l yX8_isAtTable cX8_isAtTable 2 (some .boolean) 2 0 0 [.ref a0, .int x1] D tc ro b0 hp sz ((zoP sz hp) r).1 ((zoP sz hp) r).2.1 ((zoP sz hp) r).2.2 := by
  refine ⟨?_, z_start (o := (zoP sz hp)) (lv := [(0, .ref a0), (1, .int x1)]) h (by decide +kernel) RX8 rfl rfl (Nat.le_of_ble_eq_true rfl) (fun P C => ?_)⟩
  · unfold f_X8_isAtTable at h
    cases hc : zis hp a0 8 with
    | none => rw [hc] at h; cases h
    | some u => rfl
  unfold f_X8_isAtTable
  refine z_is ?_
  refine z_aload_n C dX8_isAtTable_0 0 rfl ?_
  refine z_iload_n C dX8_isAtTable_1 1 rfl ?_
  refine z_iconst C dX8_isAtTable_2 zi_0 ?_
  refine z_callVp C zc_X8_48 [.int x1, .int (0 : Int32)] (fun l D tc b0 r h => m_X8_of l D tc ro b0 h) dX8_isAtTable_3 rfl rfl (Nat.le_of_ble_eq_true rfl) (by decide) (by decide) ⟨Nat.le_of_ble_eq_true rfl, Nat.le_of_ble_eq_true rfl⟩ (fun v1 => ?_)
  refine z_if_lt C 13 dX8_isAtTable_6 (by decide) ?_ ?_
  · refine z_iconst C dX8_isAtTable_13 zi_0 ?_
    exact z_kreturnP C rfl dX8_isAtTable_14
  refine z_iconst C dX8_isAtTable_9 zi_1 ?_
  refine z_goto C 14 dX8_isAtTable_10 (by decide) ?_
  exact z_kreturnP C rfl dX8_isAtTable_14
noncomputable def f_X8_isGood (a0 : Nat) (x1 : Int32) (hp : zHp) : Option Int32 :=
  (zis hp a0 8).bind fun _ => (f_X8_isAtTable a0 x1 hp).bind fun v1 => if v1 = 0 then ((f_X8_of a0 x1 (1 : Int32) hp).bind fun v2 => (f_X8_of a0 x1 (2 : Int32) hp).bind fun v3 => (f_X8_of a0 x1 (((4 : Int32) + v3) - (1 : Int32)) hp).bind fun v4 => if v2 = v4 then (some (1 : Int32)) else some (0 : Int32)) else some (0 : Int32)
set_option maxHeartbeats 4000000 in
set_option maxRecDepth 100000 in
theorem m_X8_isGood (l : Launch) (D : va_G) (tc : Nat → ClassId) (ro : Nat → Nat) (b0 : Nat) {a0 : Nat} {x1 : Int32} {hp : zHp} {sz : Nat} {r : Int32} (h : f_X8_isGood a0 x1 hp = some r) : zis hp a0 8 = some () ∧ zM l yX8_isGood cX8_isGood 2 (some .boolean) 3 0 0 [.ref a0, .int x1] D tc ro b0 hp sz ((zoP sz hp) r).1 ((zoP sz hp) r).2.1 ((zoP sz hp) r).2.2 := by
  refine ⟨?_, z_start (o := (zoP sz hp)) (lv := [(0, .ref a0), (1, .int x1)]) h (by decide +kernel) RX8 rfl rfl (Nat.le_of_ble_eq_true rfl) (fun P C => ?_)⟩
  · unfold f_X8_isGood at h
    cases hc : zis hp a0 8 with
    | none => rw [hc] at h; cases h
    | some u => rfl
  unfold f_X8_isGood
  refine z_is ?_
  refine z_aload_n C dX8_isGood_0 0 rfl ?_
  refine z_iload_n C dX8_isGood_1 1 rfl ?_
  refine z_callVp C zc_X8_52 [.int x1] (fun l D tc b0 r h => m_X8_isAtTable l D tc ro b0 h) dX8_isGood_2 rfl rfl (Nat.le_of_ble_eq_true rfl) (by decide) (by decide) ⟨Nat.le_of_ble_eq_true rfl, Nat.le_of_ble_eq_true rfl⟩ (fun v1 => ?_)
  refine z_if_ne C 36 dX8_isGood_5 (by decide) ?_ ?_
  · refine z_aload_n C dX8_isGood_8 0 rfl ?_
    refine z_iload_n C dX8_isGood_9 1 rfl ?_
    refine z_iconst C dX8_isGood_10 zi_1 ?_
    refine z_callVp C zc_X8_48 [.int x1, .int (1 : Int32)] (fun l D tc b0 r h => m_X8_of l D tc ro b0 h) dX8_isGood_11 rfl rfl (Nat.le_of_ble_eq_true rfl) (by decide) (by decide) ⟨Nat.le_of_ble_eq_true rfl, Nat.le_of_ble_eq_true rfl⟩ (fun v2 => ?_)
    refine z_aload_n C dX8_isGood_14 0 rfl ?_
    refine z_iload_n C dX8_isGood_15 1 rfl ?_
    refine z_iconst C dX8_isGood_16 zi_4 ?_
    refine z_aload_n C dX8_isGood_17 0 rfl ?_
    refine z_iload_n C dX8_isGood_18 1 rfl ?_
    refine z_iconst C dX8_isGood_19 zi_2 ?_
    refine z_callVp C zc_X8_48 [.int x1, .int (2 : Int32)] (fun l D tc b0 r h => m_X8_of l D tc ro b0 h) dX8_isGood_20 rfl rfl (Nat.le_of_ble_eq_true rfl) (by decide) (by decide) ⟨Nat.le_of_ble_eq_true rfl, Nat.le_of_ble_eq_true rfl⟩ (fun v3 => ?_)
    refine z_iadd C dX8_isGood_23 ?_
    refine z_iconst C dX8_isGood_24 zi_1 ?_
    refine z_isub C dX8_isGood_25 ?_
    refine z_callVp C zc_X8_48 [.int x1, .int (((4 : Int32) + v3) - (1 : Int32))] (fun l D tc b0 r h => m_X8_of l D tc ro b0 h) dX8_isGood_26 rfl rfl (Nat.le_of_ble_eq_true rfl) (by decide) (by decide) ⟨Nat.le_of_ble_eq_true rfl, Nat.le_of_ble_eq_true rfl⟩ (fun v4 => ?_)
    refine z_icmp_ne C 36 dX8_isGood_29 (by decide) ?_ ?_
    · refine z_iconst C dX8_isGood_32 zi_1 ?_
      refine z_goto C 37 dX8_isGood_33 (by decide) ?_
      exact z_kreturnP C rfl dX8_isGood_37
    refine z_iconst C dX8_isGood_36 zi_0 ?_
    exact z_kreturnP C rfl dX8_isGood_37
  refine z_iconst C dX8_isGood_36 zi_0 ?_
  exact z_kreturnP C rfl dX8_isGood_37
noncomputable def b_X8_boxOn_2 (k21 : Int32 → Option Int32) (k29 : Option Int32) (a0 : Nat) (x1 : Int32) (hp : zHp) (rec : Int32 → Option Int32) (x2 : Int32) : Option Int32 :=
  (f_X8_many a0 (3 : Int32) hp).bind fun v1 => if x2 < v1 then ((f_X8_of a0 x2 (0 : Int32) hp).bind fun v2 => if v2 = x1 then (k21 x2) else zlet (x2 + (1 : Int32)) fun v3 => rec v3) else k29
noncomputable def l_X8_boxOn_2 (k21 : Int32 → Option Int32) (k29 : Option Int32) (a0 : Nat) (x1 : Int32) (hp : zHp) (n : Nat) : Int32 → Option Int32 :=
  Nat.rec (motive := fun _ => Int32 → Option Int32) (fun _ => none) (fun _ rec => b_X8_boxOn_2 k21 k29 a0 x1 hp rec) n
theorem l_X8_boxOn_2_s (k21 : Int32 → Option Int32) (k29 : Option Int32) (a0 : Nat) (x1 : Int32) (hp : zHp) (n : Nat) (x2 : Int32) : l_X8_boxOn_2 k21 k29 a0 x1 hp (n + 1) x2 = b_X8_boxOn_2 k21 k29 a0 x1 hp (l_X8_boxOn_2 k21 k29 a0 x1 hp n) x2 := rfl
set_option maxHeartbeats 4000000 in
set_option maxRecDepth 100000 in
theorem wl_X8_boxOn_2 {P : zX} {ro : Nat → Nat} {sz : Nat} (C : zC P cX8_boxOn RX8 (some .int) 2 0 0 3 ro) {a0 : Nat} {x1 : Int32} {hp : zHp} {k21 : Int32 → Option Int32} (hk21 : ∀ (x2 : Int32), zG P (zoP sz hp) (k21 x2) 21 [(2, .int x2)] [] hp sz 0 0) {k29 : Option Int32} (hk29 : zG P (zoP sz hp) (k29) 29 [] [] hp sz 0 0) : ∀ (n : Nat) (x2 : Int32), zG P (zoP sz hp) (l_X8_boxOn_2 k21 k29 a0 x1 hp n x2) 2 [(0, .ref a0), (1, .int x1), (2, .int x2)] [] hp sz 0 0 := by
  intro n
  induction n with
  | zero =>
    intro x2
    show zG P (zoP sz hp) none _ _ _ _ _ _ _
    exact z_none
  | succ n ih =>
    intro x2
    show zG P (zoP sz hp) (b_X8_boxOn_2 k21 k29 a0 x1 hp (l_X8_boxOn_2 k21 k29 a0 x1 hp n) x2) _ _ _ _ _ _ _
    unfold b_X8_boxOn_2
    refine z_iload_n C dX8_boxOn_2 2 rfl ?_
    refine z_aload_n C dX8_boxOn_3 0 rfl ?_
    refine z_iconst C dX8_boxOn_4 zi_3 ?_
    refine z_callVp C zc_X8_44 [.int (3 : Int32)] (fun l D tc b0 r h => m_X8_many l D tc ro b0 h) dX8_boxOn_5 rfl rfl (Nat.le_of_ble_eq_true rfl) (by decide) (by decide) ⟨Nat.le_of_ble_eq_true rfl, Nat.le_of_ble_eq_true rfl⟩ (fun v1 => ?_)
    refine z_icmp_ge C 29 dX8_boxOn_8 (by decide) ?_ ?_
    · refine z_aload_n C dX8_boxOn_11 0 rfl ?_
      refine z_iload_n C dX8_boxOn_12 2 rfl ?_
      refine z_iconst C dX8_boxOn_13 zi_0 ?_
      refine z_callVp C zc_X8_48 [.int x2, .int (0 : Int32)] (fun l D tc b0 r h => m_X8_of l D tc ro b0 h) dX8_boxOn_14 rfl rfl (Nat.le_of_ble_eq_true rfl) (by decide) (by decide) ⟨Nat.le_of_ble_eq_true rfl, Nat.le_of_ble_eq_true rfl⟩ (fun v2 => ?_)
      refine z_iload_n C dX8_boxOn_17 1 rfl ?_
      refine z_icmp_ne C 23 dX8_boxOn_18 (by decide) ?_ ?_
      · exact z_sub [2] rfl (hk21 _)
      refine z_iincL C 2 (fun v3 => [(0, .ref a0), (1, .int x1), (2, .int v3)]) dX8_boxOn_23 rfl zi_1 (by decide) (fun _ => rfl) (fun v3 => ?_)
      refine z_goto C 2 dX8_boxOn_26 (by decide) ?_
      exact ih _
    exact z_sub [] rfl (hk29)
noncomputable def f_X8_boxOn (a0 : Nat) (x1 : Int32) (hp : zHp) : Option Int32 :=
  (zis hp a0 8).bind fun _ => l_X8_boxOn_2 (fun p4 => some p4) (some (-1 : Int32)) a0 x1 hp 1000000 (0 : Int32)
set_option maxHeartbeats 4000000 in
set_option maxRecDepth 100000 in
theorem m_X8_boxOn (l : Launch) (D : va_G) (tc : Nat → ClassId) (ro : Nat → Nat) (b0 : Nat) {a0 : Nat} {x1 : Int32} {hp : zHp} {sz : Nat} {r : Int32} (h : f_X8_boxOn a0 x1 hp = some r) : zis hp a0 8 = some () ∧ zM l yX8_boxOn cX8_boxOn 3 (some .int) 2 0 0 [.ref a0, .int x1] D tc ro b0 hp sz ((zoP sz hp) r).1 ((zoP sz hp) r).2.1 ((zoP sz hp) r).2.2 := by
  refine ⟨?_, z_start (o := (zoP sz hp)) (lv := [(0, .ref a0), (1, .int x1)]) h (by decide +kernel) RX8 rfl rfl (Nat.le_of_ble_eq_true rfl) (fun P C => ?_)⟩
  · unfold f_X8_boxOn at h
    cases hc : zis hp a0 8 with
    | none => rw [hc] at h; cases h
    | some u => rfl
  unfold f_X8_boxOn
  refine z_is ?_
  refine z_iconst C dX8_boxOn_0 zi_0 ?_
  refine z_istore_n (lv' := [(0, .ref a0), (1, .int x1), (2, .int (0 : Int32))]) C dX8_boxOn_1 (by decide) rfl ?_
  refine wl_X8_boxOn_2 C (fun p4 => ?_) ?_ _ _
  · refine z_iload_n C dX8_boxOn_21 0 rfl ?_
    exact z_ireturnP C dX8_boxOn_22
  refine z_iconst C dX8_boxOn_29 zi_m1 ?_
  exact z_ireturnP C dX8_boxOn_30
noncomputable def b_X8_slips_12 (k36 : Int32 → Option Int32) (a0 : Nat) (x1 : Int32) (x2 : Int32) (x3 : Int32) (hp : zHp) (rec : Int32 → Int32 → Option Int32) (x4 : Int32) (x5 : Int32) : Option Int32 :=
  if x5 < x3 then ((f_X8_paper a0 x2 x5 hp).bind fun v1 => zlet (x4 + v1) fun v2 => zlet (x5 + (1 : Int32)) fun v3 => rec v2 v3) else k36 x4
noncomputable def l_X8_slips_12 (k36 : Int32 → Option Int32) (a0 : Nat) (x1 : Int32) (x2 : Int32) (x3 : Int32) (hp : zHp) (n : Nat) : Int32 → Int32 → Option Int32 :=
  Nat.rec (motive := fun _ => Int32 → Int32 → Option Int32) (fun _ _ => none) (fun _ rec => b_X8_slips_12 k36 a0 x1 x2 x3 hp rec) n
theorem l_X8_slips_12_s (k36 : Int32 → Option Int32) (a0 : Nat) (x1 : Int32) (x2 : Int32) (x3 : Int32) (hp : zHp) (n : Nat) (x4 : Int32) (x5 : Int32) : l_X8_slips_12 k36 a0 x1 x2 x3 hp (n + 1) x4 x5 = b_X8_slips_12 k36 a0 x1 x2 x3 hp (l_X8_slips_12 k36 a0 x1 x2 x3 hp n) x4 x5 := rfl
set_option maxHeartbeats 4000000 in
set_option maxRecDepth 100000 in
theorem wl_X8_slips_12 {P : zX} {ro : Nat → Nat} {sz : Nat} (C : zC P cX8_slips RX8 (some .int) 2 0 0 6 ro) {a0 : Nat} {x1 : Int32} {x2 : Int32} {x3 : Int32} {hp : zHp} {k36 : Int32 → Option Int32} (hk36 : ∀ (x4 : Int32), zG P (zoP sz hp) (k36 x4) 36 [(0, .ref a0), (1, .int x1), (2, .int x2), (3, .int x3), (4, .int x4)] [] hp sz 0 0) : ∀ (n : Nat) (x4 : Int32) (x5 : Int32), zG P (zoP sz hp) (l_X8_slips_12 k36 a0 x1 x2 x3 hp n x4 x5) 12 [(0, .ref a0), (1, .int x1), (2, .int x2), (3, .int x3), (4, .int x4), (5, .int x5)] [] hp sz 0 0 := by
  intro n
  induction n with
  | zero =>
    intro x4 x5
    show zG P (zoP sz hp) none _ _ _ _ _ _ _
    exact z_none
  | succ n ih =>
    intro x4 x5
    show zG P (zoP sz hp) (b_X8_slips_12 k36 a0 x1 x2 x3 hp (l_X8_slips_12 k36 a0 x1 x2 x3 hp n) x4 x5) _ _ _ _ _ _ _
    unfold b_X8_slips_12
    refine z_iload C dX8_slips_12 5 rfl ?_
    refine z_iload_n C dX8_slips_14 3 rfl ?_
    refine z_icmp_ge C 36 dX8_slips_15 (by decide) ?_ ?_
    · refine z_iload C dX8_slips_18 4 rfl ?_
      refine z_aload_n C dX8_slips_20 0 rfl ?_
      refine z_iload_n C dX8_slips_21 2 rfl ?_
      refine z_iload C dX8_slips_22 5 rfl ?_
      refine z_callVp C zc_X8_56 [.int x2, .int x5] (fun l D tc b0 r h => m_X8_paper l D tc ro b0 h) dX8_slips_24 rfl rfl (Nat.le_of_ble_eq_true rfl) (by decide) (by decide) ⟨Nat.le_of_ble_eq_true rfl, Nat.le_of_ble_eq_true rfl⟩ (fun v1 => ?_)
      refine z_iadd C dX8_slips_27 ?_
      refine z_istoreL C (fun v2 => [(0, .ref a0), (1, .int x1), (2, .int x2), (3, .int x3), (4, .int v2), (5, .int x5)]) dX8_slips_28 (by decide) (fun _ => rfl) (fun v2 => ?_)
      refine z_iincL C 5 (fun v3 => [(0, .ref a0), (1, .int x1), (2, .int x2), (3, .int x3), (4, .int v2), (5, .int v3)]) dX8_slips_30 rfl zi_1 (by decide) (fun _ => rfl) (fun v3 => ?_)
      refine z_goto C 12 dX8_slips_33 (by decide) ?_
      exact ih _ _
    exact z_sub [0, 1, 2, 3, 4] rfl (hk36 _)
noncomputable def f_X8_slips (a0 : Nat) (x1 : Int32) (x2 : Int32) (x3 : Int32) (hp : zHp) : Option Int32 :=
  (zis hp a0 8).bind fun _ => if x1 = 0 then (some (0 : Int32)) else l_X8_slips_12 (fun p4 => (f_X8_paper a0 x2 x3 hp).bind fun v5 => (zdiv (p4 + v5) x1).bind fun v6 => (zdiv p4 x1).bind fun v7 => some (v6 - v7)) a0 x1 x2 x3 hp 1000000 (0 : Int32) (0 : Int32)
set_option maxHeartbeats 4000000 in
set_option maxRecDepth 100000 in
theorem m_X8_slips (l : Launch) (D : va_G) (tc : Nat → ClassId) (ro : Nat → Nat) (b0 : Nat) {a0 : Nat} {x1 : Int32} {x2 : Int32} {x3 : Int32} {hp : zHp} {sz : Nat} {r : Int32} (h : f_X8_slips a0 x1 x2 x3 hp = some r) : zis hp a0 8 = some () ∧ zM l yX8_slips cX8_slips 6 (some .int) 2 0 0 [.ref a0, .int x1, .int x2, .int x3] D tc ro b0 hp sz ((zoP sz hp) r).1 ((zoP sz hp) r).2.1 ((zoP sz hp) r).2.2 := by
  refine ⟨?_, z_start (o := (zoP sz hp)) (lv := [(0, .ref a0), (1, .int x1), (2, .int x2), (3, .int x3)]) h (by decide +kernel) RX8 rfl rfl (Nat.le_of_ble_eq_true rfl) (fun P C => ?_)⟩
  · unfold f_X8_slips at h
    cases hc : zis hp a0 8 with
    | none => rw [hc] at h; cases h
    | some u => rfl
  unfold f_X8_slips
  refine z_is ?_
  refine z_iload_n C dX8_slips_0 1 rfl ?_
  refine z_if_ne C 6 dX8_slips_1 (by decide) ?_ ?_
  · refine z_iconst C dX8_slips_4 zi_0 ?_
    exact z_ireturnP C dX8_slips_5
  refine z_iconst C dX8_slips_6 zi_0 ?_
  refine z_istore (lv' := [(0, .ref a0), (1, .int x1), (2, .int x2), (3, .int x3), (4, .int (0 : Int32))]) C dX8_slips_7 (by decide) rfl ?_
  refine z_iconst C dX8_slips_9 zi_0 ?_
  refine z_istore (lv' := [(0, .ref a0), (1, .int x1), (2, .int x2), (3, .int x3), (4, .int (0 : Int32)), (5, .int (0 : Int32))]) C dX8_slips_10 (by decide) rfl ?_
  refine wl_X8_slips_12 C (fun p4 => ?_) _ _ _
  refine z_iload C dX8_slips_36 4 rfl ?_
  refine z_aload_n C dX8_slips_38 0 rfl ?_
  refine z_iload_n C dX8_slips_39 2 rfl ?_
  refine z_iload_n C dX8_slips_40 3 rfl ?_
  refine z_callVp C zc_X8_56 [.int x2, .int x3] (fun l D tc b0 r h => m_X8_paper l D tc ro b0 h) dX8_slips_41 rfl rfl (Nat.le_of_ble_eq_true rfl) (by decide) (by decide) ⟨Nat.le_of_ble_eq_true rfl, Nat.le_of_ble_eq_true rfl⟩ (fun v5 => ?_)
  refine z_iadd C dX8_slips_44 ?_
  refine z_iload_n C dX8_slips_45 1 rfl ?_
  refine z_idiv C dX8_slips_46 (fun v6 => ?_)
  refine z_iload C dX8_slips_47 4 rfl ?_
  refine z_iload_n C dX8_slips_49 1 rfl ?_
  refine z_idiv C dX8_slips_50 (fun v7 => ?_)
  refine z_isub C dX8_slips_51 ?_
  exact z_ireturnP C dX8_slips_52
noncomputable def j_X8_finds_28 (a0 : Nat) (x2 : Int32) (x3 : Int32) (x4 : Int32) (s0 : Int32) (hp : zHp) : Option Int32 :=
  (f_X8_paper a0 x2 x3 hp).bind fun v3 => (f_X8_slips a0 x4 x2 x3 hp).bind fun v4 => (f_X8_slips a0 x4 x2 s0 hp).bind fun v5 => some ((v3 - v4) + v5)
set_option maxHeartbeats 4000000 in
set_option maxRecDepth 100000 in
theorem wj_X8_finds_28 {P : zX} {ro : Nat → Nat} {sz : Nat} (C : zC P cX8_finds RX8 (some .int) 3 0 0 6 ro) {a0 : Nat} {x2 : Int32} {x3 : Int32} {x4 : Int32} {s0 : Int32} {hp : zHp}  : zG P (zoP sz hp) (j_X8_finds_28 a0 x2 x3 x4 s0 hp) 28 [(0, .ref a0), (2, .int x2), (3, .int x3), (4, .int x4)] [.int s0] hp sz 0 0 := by
  unfold j_X8_finds_28
  refine z_istore (lv' := [(0, .ref a0), (2, .int x2), (3, .int x3), (4, .int x4), (5, .int s0)]) C dX8_finds_28 (by decide) rfl ?_
  refine z_aload_n C dX8_finds_30 0 rfl ?_
  refine z_iload_n C dX8_finds_31 1 rfl ?_
  refine z_iload_n C dX8_finds_32 2 rfl ?_
  refine z_callVp C zc_X8_56 [.int x2, .int x3] (fun l D tc b0 r h => m_X8_paper l D tc ro b0 h) dX8_finds_33 rfl rfl (Nat.le_of_ble_eq_true rfl) (by decide) (by decide) ⟨Nat.le_of_ble_eq_true rfl, Nat.le_of_ble_eq_true rfl⟩ (fun v3 => ?_)
  refine z_aload_n C dX8_finds_36 0 rfl ?_
  refine z_iload C dX8_finds_37 3 rfl ?_
  refine z_iload_n C dX8_finds_39 1 rfl ?_
  refine z_iload_n C dX8_finds_40 2 rfl ?_
  refine z_callVp C zc_X8_63 [.int x4, .int x2, .int x3] (fun l D tc b0 r h => m_X8_slips l D tc ro b0 h) dX8_finds_41 rfl rfl (Nat.le_of_ble_eq_true rfl) (by decide) (by decide) ⟨Nat.le_of_ble_eq_true rfl, Nat.le_of_ble_eq_true rfl⟩ (fun v4 => ?_)
  refine z_isub C dX8_finds_44 ?_
  refine z_aload_n C dX8_finds_45 0 rfl ?_
  refine z_iload C dX8_finds_46 3 rfl ?_
  refine z_iload_n C dX8_finds_48 1 rfl ?_
  refine z_iload C dX8_finds_49 4 rfl ?_
  refine z_callVp C zc_X8_63 [.int x4, .int x2, .int s0] (fun l D tc b0 r h => m_X8_slips l D tc ro b0 h) dX8_finds_51 rfl rfl (Nat.le_of_ble_eq_true rfl) (by decide) (by decide) ⟨Nat.le_of_ble_eq_true rfl, Nat.le_of_ble_eq_true rfl⟩ (fun v5 => ?_)
  refine z_iadd C dX8_finds_54 ?_
  exact z_ireturnP C dX8_finds_55
noncomputable def f_X8_finds (a0 : Nat) (x1 : Int32) (x2 : Int32) (x3 : Int32) (hp : zHp) : Option Int32 :=
  (zis hp a0 8).bind fun _ => (zgR hp a0 8 3).bind fun r1 => (zaI hp 0 r1 ((140 : Int32) + x1)).bind fun v2 => if x3 = 0 then ((f_X8_piles a0 hp).bind fun v6 => j_X8_finds_28 a0 x2 x3 v2 (v6 - (1 : Int32)) hp) else j_X8_finds_28 a0 x2 x3 v2 (x3 - (1 : Int32)) hp
set_option maxHeartbeats 4000000 in
set_option maxRecDepth 100000 in
theorem m_X8_finds (l : Launch) (D : va_G) (tc : Nat → ClassId) (ro : Nat → Nat) (b0 : Nat) {a0 : Nat} {x1 : Int32} {x2 : Int32} {x3 : Int32} {hp : zHp} {sz : Nat} {r : Int32} (h : f_X8_finds a0 x1 x2 x3 hp = some r) : zis hp a0 8 = some () ∧ zM l yX8_finds cX8_finds 6 (some .int) 3 0 0 [.ref a0, .int x1, .int x2, .int x3] D tc ro b0 hp sz ((zoP sz hp) r).1 ((zoP sz hp) r).2.1 ((zoP sz hp) r).2.2 := by
  refine ⟨?_, z_start (o := (zoP sz hp)) (lv := [(0, .ref a0), (1, .int x1), (2, .int x2), (3, .int x3)]) h (by decide +kernel) RX8 rfl rfl (Nat.le_of_ble_eq_true rfl) (fun P C => ?_)⟩
  · unfold f_X8_finds at h
    cases hc : zis hp a0 8 with
    | none => rw [hc] at h; cases h
    | some u => rfl
  unfold f_X8_finds
  refine z_is ?_
  refine z_aload_n C dX8_finds_0 0 rfl ?_
  refine z_getR C zf_X8_13 dX8_finds_1 (fun r1 => ?_)
  refine z_sipush C dX8_finds_4 zsi_140 ?_
  refine z_iload_n C dX8_finds_7 1 rfl ?_
  refine z_iadd C dX8_finds_8 ?_
  refine z_iaload C dX8_finds_9 (fun v2 => ?_)
  refine z_istore (lv' := [(0, .ref a0), (1, .int x1), (2, .int x2), (3, .int x3), (4, .int v2)]) C dX8_finds_10 (by decide) rfl ?_
  refine z_iload_n C dX8_finds_12 3 rfl ?_
  refine z_if_ne C 25 dX8_finds_13 (by decide) ?_ ?_
  · refine z_aload_n C dX8_finds_16 0 rfl ?_
    refine z_callVp C zc_X8_59 [] (fun l D tc b0 r h => m_X8_piles l D tc ro b0 h) dX8_finds_17 rfl rfl (Nat.le_of_ble_eq_true rfl) (by decide) (by decide) ⟨Nat.le_of_ble_eq_true rfl, Nat.le_of_ble_eq_true rfl⟩ (fun v6 => ?_)
    refine z_iconst C dX8_finds_20 zi_1 ?_
    refine z_isub C dX8_finds_21 ?_
    refine z_goto C 28 dX8_finds_22 (by decide) ?_
    exact z_sub [0, 2, 3, 4] rfl (wj_X8_finds_28 C)
  refine z_iload_n C dX8_finds_25 3 rfl ?_
  refine z_iconst C dX8_finds_26 zi_1 ?_
  refine z_isub C dX8_finds_27 ?_
  exact z_sub [0, 2, 3, 4] rfl (wj_X8_finds_28 C)
noncomputable def b_X8_agree_26 (k54 : Option Int32) (k62 : Option Int32) (a0 : Nat) (x1 : Int32) (x2 : Int32) (x3 : Int32) (hp : zHp) (rec : Int32 → Option Int32) (x4 : Int32) : Option Int32 :=
  (f_X8_piles a0 hp).bind fun v3 => if x4 < v3 then ((f_X8_found a0 x1 x2 x4 hp).bind fun v4 => (f_X8_found a0 x1 x3 x4 hp).bind fun v5 => if v4 = v5 then (zlet (x4 + (1 : Int32)) fun v6 => rec v6) else k54) else k62
noncomputable def l_X8_agree_26 (k54 : Option Int32) (k62 : Option Int32) (a0 : Nat) (x1 : Int32) (x2 : Int32) (x3 : Int32) (hp : zHp) (n : Nat) : Int32 → Option Int32 :=
  Nat.rec (motive := fun _ => Int32 → Option Int32) (fun _ => none) (fun _ rec => b_X8_agree_26 k54 k62 a0 x1 x2 x3 hp rec) n
theorem l_X8_agree_26_s (k54 : Option Int32) (k62 : Option Int32) (a0 : Nat) (x1 : Int32) (x2 : Int32) (x3 : Int32) (hp : zHp) (n : Nat) (x4 : Int32) : l_X8_agree_26 k54 k62 a0 x1 x2 x3 hp (n + 1) x4 = b_X8_agree_26 k54 k62 a0 x1 x2 x3 hp (l_X8_agree_26 k54 k62 a0 x1 x2 x3 hp n) x4 := rfl
set_option maxHeartbeats 4000000 in
set_option maxRecDepth 100000 in
theorem wl_X8_agree_26 {P : zX} {ro : Nat → Nat} {sz : Nat} (C : zC P cX8_agree RX8 (some .boolean) 3 0 0 5 ro) {a0 : Nat} {x1 : Int32} {x2 : Int32} {x3 : Int32} {hp : zHp} {k54 : Option Int32} (hk54 : zG P (zoP sz hp) (k54) 54 [] [] hp sz 0 0) {k62 : Option Int32} (hk62 : zG P (zoP sz hp) (k62) 62 [] [] hp sz 0 0) : ∀ (n : Nat) (x4 : Int32), zG P (zoP sz hp) (l_X8_agree_26 k54 k62 a0 x1 x2 x3 hp n x4) 26 [(0, .ref a0), (1, .int x1), (2, .int x2), (3, .int x3), (4, .int x4)] [] hp sz 0 0 := by
  intro n
  induction n with
  | zero =>
    intro x4
    show zG P (zoP sz hp) none _ _ _ _ _ _ _
    exact z_none
  | succ n ih =>
    intro x4
    show zG P (zoP sz hp) (b_X8_agree_26 k54 k62 a0 x1 x2 x3 hp (l_X8_agree_26 k54 k62 a0 x1 x2 x3 hp n) x4) _ _ _ _ _ _ _
    unfold b_X8_agree_26
    refine z_iload C dX8_agree_26 4 rfl ?_
    refine z_aload_n C dX8_agree_28 0 rfl ?_
    refine z_callVp C zc_X8_59 [] (fun l D tc b0 r h => m_X8_piles l D tc ro b0 h) dX8_agree_29 rfl rfl (Nat.le_of_ble_eq_true rfl) (by decide) (by decide) ⟨Nat.le_of_ble_eq_true rfl, Nat.le_of_ble_eq_true rfl⟩ (fun v3 => ?_)
    refine z_icmp_ge C 62 dX8_agree_32 (by decide) ?_ ?_
    · refine z_aload_n C dX8_agree_35 0 rfl ?_
      refine z_iload_n C dX8_agree_36 1 rfl ?_
      refine z_iload_n C dX8_agree_37 2 rfl ?_
      refine z_iload C dX8_agree_38 4 rfl ?_
      refine z_callVp C zc_X8_67 [.int x1, .int x2, .int x4] (fun l D tc b0 r h => m_X8_found l D tc ro b0 h) dX8_agree_40 rfl rfl (Nat.le_of_ble_eq_true rfl) (by decide) (by decide) ⟨Nat.le_of_ble_eq_true rfl, Nat.le_of_ble_eq_true rfl⟩ (fun v4 => ?_)
      refine z_aload_n C dX8_agree_43 0 rfl ?_
      refine z_iload_n C dX8_agree_44 1 rfl ?_
      refine z_iload_n C dX8_agree_45 3 rfl ?_
      refine z_iload C dX8_agree_46 4 rfl ?_
      refine z_callVp C zc_X8_67 [.int x1, .int x3, .int x4] (fun l D tc b0 r h => m_X8_found l D tc ro b0 h) dX8_agree_48 rfl rfl (Nat.le_of_ble_eq_true rfl) (by decide) (by decide) ⟨Nat.le_of_ble_eq_true rfl, Nat.le_of_ble_eq_true rfl⟩ (fun v5 => ?_)
      refine z_icmp_eq C 56 dX8_agree_51 (by decide) ?_ ?_
      · refine z_iincL C 4 (fun v6 => [(0, .ref a0), (1, .int x1), (2, .int x2), (3, .int x3), (4, .int v6)]) dX8_agree_56 rfl zi_1 (by decide) (fun _ => rfl) (fun v6 => ?_)
        refine z_goto C 26 dX8_agree_59 (by decide) ?_
        exact ih _
      exact z_sub [] rfl (hk54)
    exact z_sub [] rfl (hk62)
noncomputable def f_X8_agree (a0 : Nat) (x1 : Int32) (x2 : Int32) (x3 : Int32) (hp : zHp) : Option Int32 :=
  (zis hp a0 8).bind fun _ => (f_X8_of a0 x1 ((16 : Int32) + x2) hp).bind fun v1 => (f_X8_of a0 x1 ((16 : Int32) + x3) hp).bind fun v2 => if v1 = v2 then (some (0 : Int32)) else l_X8_agree_26 (some (0 : Int32)) (some (1 : Int32)) a0 x1 x2 x3 hp 1000000 (0 : Int32)
set_option maxHeartbeats 4000000 in
set_option maxRecDepth 100000 in
theorem m_X8_agree (l : Launch) (D : va_G) (tc : Nat → ClassId) (ro : Nat → Nat) (b0 : Nat) {a0 : Nat} {x1 : Int32} {x2 : Int32} {x3 : Int32} {hp : zHp} {sz : Nat} {r : Int32} (h : f_X8_agree a0 x1 x2 x3 hp = some r) : zis hp a0 8 = some () ∧ zM l yX8_agree cX8_agree 5 (some .boolean) 3 0 0 [.ref a0, .int x1, .int x2, .int x3] D tc ro b0 hp sz ((zoP sz hp) r).1 ((zoP sz hp) r).2.1 ((zoP sz hp) r).2.2 := by
  refine ⟨?_, z_start (o := (zoP sz hp)) (lv := [(0, .ref a0), (1, .int x1), (2, .int x2), (3, .int x3)]) h (by decide +kernel) RX8 rfl rfl (Nat.le_of_ble_eq_true rfl) (fun P C => ?_)⟩
  · unfold f_X8_agree at h
    cases hc : zis hp a0 8 with
    | none => rw [hc] at h; cases h
    | some u => rfl
  unfold f_X8_agree
  refine z_is ?_
  refine z_aload_n C dX8_agree_0 0 rfl ?_
  refine z_iload_n C dX8_agree_1 1 rfl ?_
  refine z_bipush C dX8_agree_2 zbi_16 ?_
  refine z_iload_n C dX8_agree_4 2 rfl ?_
  refine z_iadd C dX8_agree_5 ?_
  refine z_callVp C zc_X8_48 [.int x1, .int ((16 : Int32) + x2)] (fun l D tc b0 r h => m_X8_of l D tc ro b0 h) dX8_agree_6 rfl rfl (Nat.le_of_ble_eq_true rfl) (by decide) (by decide) ⟨Nat.le_of_ble_eq_true rfl, Nat.le_of_ble_eq_true rfl⟩ (fun v1 => ?_)
  refine z_aload_n C dX8_agree_9 0 rfl ?_
  refine z_iload_n C dX8_agree_10 1 rfl ?_
  refine z_bipush C dX8_agree_11 zbi_16 ?_
  refine z_iload_n C dX8_agree_13 3 rfl ?_
  refine z_iadd C dX8_agree_14 ?_
  refine z_callVp C zc_X8_48 [.int x1, .int ((16 : Int32) + x3)] (fun l D tc b0 r h => m_X8_of l D tc ro b0 h) dX8_agree_15 rfl rfl (Nat.le_of_ble_eq_true rfl) (by decide) (by decide) ⟨Nat.le_of_ble_eq_true rfl, Nat.le_of_ble_eq_true rfl⟩ (fun v2 => ?_)
  refine z_icmp_ne C 23 dX8_agree_18 (by decide) ?_ ?_
  · refine z_iconst C dX8_agree_21 zi_0 ?_
    exact z_kreturnP C rfl dX8_agree_22
  refine z_iconst C dX8_agree_23 zi_0 ?_
  refine z_istore (lv' := [(0, .ref a0), (1, .int x1), (2, .int x2), (3, .int x3), (4, .int (0 : Int32))]) C dX8_agree_24 (by decide) rfl ?_
  refine wl_X8_agree_26 C ?_ ?_ _ _
  · refine z_iconst C dX8_agree_54 zi_0 ?_
    exact z_kreturnP C rfl dX8_agree_55
  refine z_iconst C dX8_agree_62 zi_1 ?_
  exact z_kreturnP C rfl dX8_agree_63
noncomputable def b_X8_confirmed_14 (k34 : Option Int32) (k42 : Option Int32) (a0 : Nat) (x1 : Int32) (x2 : Int32) (hp : zHp) (rec : Int32 → Option Int32) (x3 : Int32) : Option Int32 :=
  (f_X8_of a0 x1 (3 : Int32) hp).bind fun v2 => if x3 < v2 then ((f_X8_agree a0 x1 x2 x3 hp).bind fun v3 => if v3 = 0 then (zlet (x3 + (1 : Int32)) fun v4 => rec v4) else k34) else k42
noncomputable def l_X8_confirmed_14 (k34 : Option Int32) (k42 : Option Int32) (a0 : Nat) (x1 : Int32) (x2 : Int32) (hp : zHp) (n : Nat) : Int32 → Option Int32 :=
  Nat.rec (motive := fun _ => Int32 → Option Int32) (fun _ => none) (fun _ rec => b_X8_confirmed_14 k34 k42 a0 x1 x2 hp rec) n
theorem l_X8_confirmed_14_s (k34 : Option Int32) (k42 : Option Int32) (a0 : Nat) (x1 : Int32) (x2 : Int32) (hp : zHp) (n : Nat) (x3 : Int32) : l_X8_confirmed_14 k34 k42 a0 x1 x2 hp (n + 1) x3 = b_X8_confirmed_14 k34 k42 a0 x1 x2 hp (l_X8_confirmed_14 k34 k42 a0 x1 x2 hp n) x3 := rfl
set_option maxHeartbeats 4000000 in
set_option maxRecDepth 100000 in
theorem wl_X8_confirmed_14 {P : zX} {ro : Nat → Nat} {sz : Nat} (C : zC P cX8_confirmed RX8 (some .int) 4 0 0 4 ro) {a0 : Nat} {x1 : Int32} {x2 : Int32} {hp : zHp} {k34 : Option Int32} (hk34 : zG P (zoP sz hp) (k34) 34 [(2, .int x2)] [] hp sz 0 0) {k42 : Option Int32} (hk42 : zG P (zoP sz hp) (k42) 42 [(0, .ref a0), (1, .int x1), (2, .int x2)] [] hp sz 0 0) : ∀ (n : Nat) (x3 : Int32), zG P (zoP sz hp) (l_X8_confirmed_14 k34 k42 a0 x1 x2 hp n x3) 14 [(0, .ref a0), (1, .int x1), (2, .int x2), (3, .int x3)] [] hp sz 0 0 := by
  intro n
  induction n with
  | zero =>
    intro x3
    show zG P (zoP sz hp) none _ _ _ _ _ _ _
    exact z_none
  | succ n ih =>
    intro x3
    show zG P (zoP sz hp) (b_X8_confirmed_14 k34 k42 a0 x1 x2 hp (l_X8_confirmed_14 k34 k42 a0 x1 x2 hp n) x3) _ _ _ _ _ _ _
    unfold b_X8_confirmed_14
    refine z_iload_n C dX8_confirmed_14 3 rfl ?_
    refine z_aload_n C dX8_confirmed_15 0 rfl ?_
    refine z_iload_n C dX8_confirmed_16 1 rfl ?_
    refine z_iconst C dX8_confirmed_17 zi_3 ?_
    refine z_callVp C zc_X8_48 [.int x1, .int (3 : Int32)] (fun l D tc b0 r h => m_X8_of l D tc ro b0 h) dX8_confirmed_18 rfl rfl (Nat.le_of_ble_eq_true rfl) (by decide) (by decide) ⟨Nat.le_of_ble_eq_true rfl, Nat.le_of_ble_eq_true rfl⟩ (fun v2 => ?_)
    refine z_icmp_ge C 42 dX8_confirmed_21 (by decide) ?_ ?_
    · refine z_aload_n C dX8_confirmed_24 0 rfl ?_
      refine z_iload_n C dX8_confirmed_25 1 rfl ?_
      refine z_iload_n C dX8_confirmed_26 2 rfl ?_
      refine z_iload_n C dX8_confirmed_27 3 rfl ?_
      refine z_callVp C zc_X8_70 [.int x1, .int x2, .int x3] (fun l D tc b0 r h => m_X8_agree l D tc ro b0 h) dX8_confirmed_28 rfl rfl (Nat.le_of_ble_eq_true rfl) (by decide) (by decide) ⟨Nat.le_of_ble_eq_true rfl, Nat.le_of_ble_eq_true rfl⟩ (fun v3 => ?_)
      refine z_if_eq C 36 dX8_confirmed_31 (by decide) ?_ ?_
      · refine z_iincL C 3 (fun v4 => [(0, .ref a0), (1, .int x1), (2, .int x2), (3, .int v4)]) dX8_confirmed_36 rfl zi_1 (by decide) (fun _ => rfl) (fun v4 => ?_)
        refine z_goto C 14 dX8_confirmed_39 (by decide) ?_
        exact ih _
      exact z_sub [2] rfl (hk34)
    exact z_sub [0, 1, 2] rfl (hk42)
noncomputable def b_X8_confirmed_2 (k34 : Int32 → Option Int32) (k48 : Option Int32) (a0 : Nat) (x1 : Int32) (hp : zHp) (rec : Int32 → Option Int32) (x2 : Int32) : Option Int32 :=
  (f_X8_of a0 x1 (3 : Int32) hp).bind fun v1 => if x2 < v1 then (l_X8_confirmed_14 (k34 x2) (zlet (x2 + (1 : Int32)) fun v5 => rec v5) a0 x1 x2 hp 1000000 (0 : Int32)) else k48
noncomputable def l_X8_confirmed_2 (k34 : Int32 → Option Int32) (k48 : Option Int32) (a0 : Nat) (x1 : Int32) (hp : zHp) (n : Nat) : Int32 → Option Int32 :=
  Nat.rec (motive := fun _ => Int32 → Option Int32) (fun _ => none) (fun _ rec => b_X8_confirmed_2 k34 k48 a0 x1 hp rec) n
theorem l_X8_confirmed_2_s (k34 : Int32 → Option Int32) (k48 : Option Int32) (a0 : Nat) (x1 : Int32) (hp : zHp) (n : Nat) (x2 : Int32) : l_X8_confirmed_2 k34 k48 a0 x1 hp (n + 1) x2 = b_X8_confirmed_2 k34 k48 a0 x1 hp (l_X8_confirmed_2 k34 k48 a0 x1 hp n) x2 := rfl
set_option maxHeartbeats 4000000 in
set_option maxRecDepth 100000 in
theorem wl_X8_confirmed_2 {P : zX} {ro : Nat → Nat} {sz : Nat} (C : zC P cX8_confirmed RX8 (some .int) 4 0 0 4 ro) {a0 : Nat} {x1 : Int32} {hp : zHp} {k34 : Int32 → Option Int32} (hk34 : ∀ (x2 : Int32), zG P (zoP sz hp) (k34 x2) 34 [(2, .int x2)] [] hp sz 0 0) {k48 : Option Int32} (hk48 : zG P (zoP sz hp) (k48) 48 [] [] hp sz 0 0) : ∀ (n : Nat) (x2 : Int32), zG P (zoP sz hp) (l_X8_confirmed_2 k34 k48 a0 x1 hp n x2) 2 [(0, .ref a0), (1, .int x1), (2, .int x2)] [] hp sz 0 0 := by
  intro n
  induction n with
  | zero =>
    intro x2
    show zG P (zoP sz hp) none _ _ _ _ _ _ _
    exact z_none
  | succ n ih =>
    intro x2
    show zG P (zoP sz hp) (b_X8_confirmed_2 k34 k48 a0 x1 hp (l_X8_confirmed_2 k34 k48 a0 x1 hp n) x2) _ _ _ _ _ _ _
    unfold b_X8_confirmed_2
    refine z_iload_n C dX8_confirmed_2 2 rfl ?_
    refine z_aload_n C dX8_confirmed_3 0 rfl ?_
    refine z_iload_n C dX8_confirmed_4 1 rfl ?_
    refine z_iconst C dX8_confirmed_5 zi_3 ?_
    refine z_callVp C zc_X8_48 [.int x1, .int (3 : Int32)] (fun l D tc b0 r h => m_X8_of l D tc ro b0 h) dX8_confirmed_6 rfl rfl (Nat.le_of_ble_eq_true rfl) (by decide) (by decide) ⟨Nat.le_of_ble_eq_true rfl, Nat.le_of_ble_eq_true rfl⟩ (fun v1 => ?_)
    refine z_icmp_ge C 48 dX8_confirmed_9 (by decide) ?_ ?_
    · refine z_iconst C dX8_confirmed_12 zi_0 ?_
      refine z_istore_n (lv' := [(0, .ref a0), (1, .int x1), (2, .int x2), (3, .int (0 : Int32))]) C dX8_confirmed_13 (by decide) rfl ?_
      refine wl_X8_confirmed_14 C ?_ ?_ _ _
      · exact hk34 _
      refine z_iincL C 2 (fun v5 => [(0, .ref a0), (1, .int x1), (2, .int v5)]) dX8_confirmed_42 rfl zi_1 (by decide) (fun _ => rfl) (fun v5 => ?_)
      refine z_goto C 2 dX8_confirmed_45 (by decide) ?_
      exact ih _
    exact z_sub [] rfl (hk48)
noncomputable def f_X8_confirmed (a0 : Nat) (x1 : Int32) (hp : zHp) : Option Int32 :=
  (zis hp a0 8).bind fun _ => l_X8_confirmed_2 (fun p6 => some p6) (some (-1 : Int32)) a0 x1 hp 1000000 (0 : Int32)
set_option maxHeartbeats 4000000 in
set_option maxRecDepth 100000 in
theorem m_X8_confirmed (l : Launch) (D : va_G) (tc : Nat → ClassId) (ro : Nat → Nat) (b0 : Nat) {a0 : Nat} {x1 : Int32} {hp : zHp} {sz : Nat} {r : Int32} (h : f_X8_confirmed a0 x1 hp = some r) : zis hp a0 8 = some () ∧ zM l yX8_confirmed cX8_confirmed 4 (some .int) 4 0 0 [.ref a0, .int x1] D tc ro b0 hp sz ((zoP sz hp) r).1 ((zoP sz hp) r).2.1 ((zoP sz hp) r).2.2 := by
  refine ⟨?_, z_start (o := (zoP sz hp)) (lv := [(0, .ref a0), (1, .int x1)]) h (by decide +kernel) RX8 rfl rfl (Nat.le_of_ble_eq_true rfl) (fun P C => ?_)⟩
  · unfold f_X8_confirmed at h
    cases hc : zis hp a0 8 with
    | none => rw [hc] at h; cases h
    | some u => rfl
  unfold f_X8_confirmed
  refine z_is ?_
  refine z_iconst C dX8_confirmed_0 zi_0 ?_
  refine z_istore_n (lv' := [(0, .ref a0), (1, .int x1), (2, .int (0 : Int32))]) C dX8_confirmed_1 (by decide) rfl ?_
  refine wl_X8_confirmed_2 C (fun p6 => ?_) ?_ _ _
  · refine z_iload_n C dX8_confirmed_34 0 rfl ?_
    exact z_ireturnP C dX8_confirmed_35
  refine z_iconst C dX8_confirmed_48 zi_m1 ?_
  exact z_ireturnP C dX8_confirmed_49
noncomputable def f_X8_wasCounted (a0 : Nat) (x1 : Int32) (hp : zHp) : Option Int32 :=
  (zis hp a0 8).bind fun _ => (f_X8_of a0 x1 (3 : Int32) hp).bind fun v1 => if 0 < v1 then (some (1 : Int32)) else some (0 : Int32)
set_option maxHeartbeats 4000000 in
set_option maxRecDepth 100000 in
theorem m_X8_wasCounted (l : Launch) (D : va_G) (tc : Nat → ClassId) (ro : Nat → Nat) (b0 : Nat) {a0 : Nat} {x1 : Int32} {hp : zHp} {sz : Nat} {r : Int32} (h : f_X8_wasCounted a0 x1 hp = some r) : zis hp a0 8 = some () ∧ zM l yX8_wasCounted cX8_wasCounted 2 (some .boolean) 2 0 0 [.ref a0, .int x1] D tc ro b0 hp sz ((zoP sz hp) r).1 ((zoP sz hp) r).2.1 ((zoP sz hp) r).2.2 := by
  refine ⟨?_, z_start (o := (zoP sz hp)) (lv := [(0, .ref a0), (1, .int x1)]) h (by decide +kernel) RX8 rfl rfl (Nat.le_of_ble_eq_true rfl) (fun P C => ?_)⟩
  · unfold f_X8_wasCounted at h
    cases hc : zis hp a0 8 with
    | none => rw [hc] at h; cases h
    | some u => rfl
  unfold f_X8_wasCounted
  refine z_is ?_
  refine z_aload_n C dX8_wasCounted_0 0 rfl ?_
  refine z_iload_n C dX8_wasCounted_1 1 rfl ?_
  refine z_iconst C dX8_wasCounted_2 zi_3 ?_
  refine z_callVp C zc_X8_48 [.int x1, .int (3 : Int32)] (fun l D tc b0 r h => m_X8_of l D tc ro b0 h) dX8_wasCounted_3 rfl rfl (Nat.le_of_ble_eq_true rfl) (by decide) (by decide) ⟨Nat.le_of_ble_eq_true rfl, Nat.le_of_ble_eq_true rfl⟩ (fun v1 => ?_)
  refine z_if_le C 13 dX8_wasCounted_6 (by decide) ?_ ?_
  · refine z_iconst C dX8_wasCounted_9 zi_1 ?_
    refine z_goto C 14 dX8_wasCounted_10 (by decide) ?_
    exact z_kreturnP C rfl dX8_wasCounted_14
  refine z_iconst C dX8_wasCounted_13 zi_0 ?_
  exact z_kreturnP C rfl dX8_wasCounted_14
noncomputable def j_X8_valid_35 (x2 : Int32) (s0 : Nat) (s1 : Int32) (s2 : Int32) (hp : zHp) : Option Int32 :=
  (f_X8_found s0 s1 s2 x2 hp).bind fun v3 => some v3
set_option maxHeartbeats 4000000 in
set_option maxRecDepth 100000 in
theorem wj_X8_valid_35 {P : zX} {ro : Nat → Nat} {sz : Nat} (C : zC P cX8_valid RX8 (some .int) 5 0 0 4 ro) {x2 : Int32} {s0 : Nat} {s1 : Int32} {s2 : Int32} {hp : zHp}  : zG P (zoP sz hp) (j_X8_valid_35 x2 s0 s1 s2 hp) 35 [(2, .int x2)] [.int s2, .int s1, .ref s0] hp sz 0 0 := by
  unfold j_X8_valid_35
  refine z_iload_n C dX8_valid_35 0 rfl ?_
  refine z_callVp C zc_X8_67 [.int s1, .int s2, .int x2] (fun l D tc b0 r h => m_X8_found l D tc ro b0 h) dX8_valid_36 rfl rfl (Nat.le_of_ble_eq_true rfl) (by decide) (by decide) ⟨Nat.le_of_ble_eq_true rfl, Nat.le_of_ble_eq_true rfl⟩ (fun v3 => ?_)
  exact z_ireturnP C dX8_valid_39
noncomputable def f_X8_valid (a0 : Nat) (x1 : Int32) (x2 : Int32) (hp : zHp) : Option Int32 :=
  (zis hp a0 8).bind fun _ => (f_X8_wasCounted a0 x1 hp).bind fun v1 => if v1 = 0 then (some (0 : Int32)) else (f_X8_confirmed a0 x1 hp).bind fun v2 => if v2 = (-1 : Int32) then ((f_X8_of a0 x1 (3 : Int32) hp).bind fun v4 => j_X8_valid_35 x2 a0 x1 (v4 - (1 : Int32)) hp) else j_X8_valid_35 x2 a0 x1 v2 hp
set_option maxHeartbeats 4000000 in
set_option maxRecDepth 100000 in
theorem m_X8_valid (l : Launch) (D : va_G) (tc : Nat → ClassId) (ro : Nat → Nat) (b0 : Nat) {a0 : Nat} {x1 : Int32} {x2 : Int32} {hp : zHp} {sz : Nat} {r : Int32} (h : f_X8_valid a0 x1 x2 hp = some r) : zis hp a0 8 = some () ∧ zM l yX8_valid cX8_valid 4 (some .int) 5 0 0 [.ref a0, .int x1, .int x2] D tc ro b0 hp sz ((zoP sz hp) r).1 ((zoP sz hp) r).2.1 ((zoP sz hp) r).2.2 := by
  refine ⟨?_, z_start (o := (zoP sz hp)) (lv := [(0, .ref a0), (1, .int x1), (2, .int x2)]) h (by decide +kernel) RX8 rfl rfl (Nat.le_of_ble_eq_true rfl) (fun P C => ?_)⟩
  · unfold f_X8_valid at h
    cases hc : zis hp a0 8 with
    | none => rw [hc] at h; cases h
    | some u => rfl
  unfold f_X8_valid
  refine z_is ?_
  refine z_aload_n C dX8_valid_0 0 rfl ?_
  refine z_iload_n C dX8_valid_1 1 rfl ?_
  refine z_callVp C zc_X8_74 [.int x1] (fun l D tc b0 r h => m_X8_wasCounted l D tc ro b0 h) dX8_valid_2 rfl rfl (Nat.le_of_ble_eq_true rfl) (by decide) (by decide) ⟨Nat.le_of_ble_eq_true rfl, Nat.le_of_ble_eq_true rfl⟩ (fun v1 => ?_)
  refine z_if_ne C 10 dX8_valid_5 (by decide) ?_ ?_
  · refine z_iconst C dX8_valid_8 zi_0 ?_
    exact z_ireturnP C dX8_valid_9
  refine z_aload_n C dX8_valid_10 0 rfl ?_
  refine z_iload_n C dX8_valid_11 1 rfl ?_
  refine z_callVp C zc_X8_77 [.int x1] (fun l D tc b0 r h => m_X8_confirmed l D tc ro b0 h) dX8_valid_12 rfl rfl (Nat.le_of_ble_eq_true rfl) (by decide) (by decide) ⟨Nat.le_of_ble_eq_true rfl, Nat.le_of_ble_eq_true rfl⟩ (fun v2 => ?_)
  refine z_istore_n (lv' := [(0, .ref a0), (1, .int x1), (2, .int x2), (3, .int v2)]) C dX8_valid_15 (by decide) rfl ?_
  refine z_aload_n C dX8_valid_16 0 rfl ?_
  refine z_iload_n C dX8_valid_17 1 rfl ?_
  refine z_iload_n C dX8_valid_18 3 rfl ?_
  refine z_iconst C dX8_valid_19 zi_m1 ?_
  refine z_icmp_ne C 34 dX8_valid_20 (by decide) ?_ ?_
  · refine z_aload_n C dX8_valid_23 0 rfl ?_
    refine z_iload_n C dX8_valid_24 1 rfl ?_
    refine z_iconst C dX8_valid_25 zi_3 ?_
    refine z_callVp C zc_X8_48 [.int x1, .int (3 : Int32)] (fun l D tc b0 r h => m_X8_of l D tc ro b0 h) dX8_valid_26 rfl rfl (Nat.le_of_ble_eq_true rfl) (by decide) (by decide) ⟨Nat.le_of_ble_eq_true rfl, Nat.le_of_ble_eq_true rfl⟩ (fun v4 => ?_)
    refine z_iconst C dX8_valid_29 zi_1 ?_
    refine z_isub C dX8_valid_30 ?_
    refine z_goto C 35 dX8_valid_31 (by decide) ?_
    exact z_sub [2] rfl (wj_X8_valid_35 C)
  refine z_iload_n C dX8_valid_34 3 rfl ?_
  exact z_sub [2] rfl (wj_X8_valid_35 C)
noncomputable def b_X8_more_4 (k27 : Int32 → Option Int32) (a0 : Nat) (x1 : Int32) (hp : zHp) (rec : Int32 → Int32 → Option Int32) (x2 : Int32) (x3 : Int32) : Option Int32 :=
  (f_X8_piles a0 hp).bind fun v1 => if x3 < v1 then ((f_X8_valid a0 x1 x3 hp).bind fun v2 => zlet (x2 + v2) fun v3 => zlet (x3 + (1 : Int32)) fun v4 => rec v3 v4) else k27 x2
noncomputable def l_X8_more_4 (k27 : Int32 → Option Int32) (a0 : Nat) (x1 : Int32) (hp : zHp) (n : Nat) : Int32 → Int32 → Option Int32 :=
  Nat.rec (motive := fun _ => Int32 → Int32 → Option Int32) (fun _ _ => none) (fun _ rec => b_X8_more_4 k27 a0 x1 hp rec) n
theorem l_X8_more_4_s (k27 : Int32 → Option Int32) (a0 : Nat) (x1 : Int32) (hp : zHp) (n : Nat) (x2 : Int32) (x3 : Int32) : l_X8_more_4 k27 a0 x1 hp (n + 1) x2 x3 = b_X8_more_4 k27 a0 x1 hp (l_X8_more_4 k27 a0 x1 hp n) x2 x3 := rfl
set_option maxHeartbeats 4000000 in
set_option maxRecDepth 100000 in
theorem wl_X8_more_4 {P : zX} {ro : Nat → Nat} {sz : Nat} (C : zC P cX8_more RX8 (some .int) 6 0 0 4 ro) {a0 : Nat} {x1 : Int32} {hp : zHp} {k27 : Int32 → Option Int32} (hk27 : ∀ (x2 : Int32), zG P (zoP sz hp) (k27 x2) 27 [(0, .ref a0), (1, .int x1), (2, .int x2)] [] hp sz 0 0) : ∀ (n : Nat) (x2 : Int32) (x3 : Int32), zG P (zoP sz hp) (l_X8_more_4 k27 a0 x1 hp n x2 x3) 4 [(0, .ref a0), (1, .int x1), (2, .int x2), (3, .int x3)] [] hp sz 0 0 := by
  intro n
  induction n with
  | zero =>
    intro x2 x3
    show zG P (zoP sz hp) none _ _ _ _ _ _ _
    exact z_none
  | succ n ih =>
    intro x2 x3
    show zG P (zoP sz hp) (b_X8_more_4 k27 a0 x1 hp (l_X8_more_4 k27 a0 x1 hp n) x2 x3) _ _ _ _ _ _ _
    unfold b_X8_more_4
    refine z_iload_n C dX8_more_4 3 rfl ?_
    refine z_aload_n C dX8_more_5 0 rfl ?_
    refine z_callVp C zc_X8_59 [] (fun l D tc b0 r h => m_X8_piles l D tc ro b0 h) dX8_more_6 rfl rfl (Nat.le_of_ble_eq_true rfl) (by decide) (by decide) ⟨Nat.le_of_ble_eq_true rfl, Nat.le_of_ble_eq_true rfl⟩ (fun v1 => ?_)
    refine z_icmp_ge C 27 dX8_more_9 (by decide) ?_ ?_
    · refine z_iload_n C dX8_more_12 2 rfl ?_
      refine z_aload_n C dX8_more_13 0 rfl ?_
      refine z_iload_n C dX8_more_14 1 rfl ?_
      refine z_iload_n C dX8_more_15 3 rfl ?_
      refine z_callVp C zc_X8_80 [.int x1, .int x3] (fun l D tc b0 r h => m_X8_valid l D tc ro b0 h) dX8_more_16 rfl rfl (Nat.le_of_ble_eq_true rfl) (by decide) (by decide) ⟨Nat.le_of_ble_eq_true rfl, Nat.le_of_ble_eq_true rfl⟩ (fun v2 => ?_)
      refine z_iadd C dX8_more_19 ?_
      refine z_istore_nL C (fun v3 => [(0, .ref a0), (1, .int x1), (2, .int v3), (3, .int x3)]) dX8_more_20 (by decide) (fun _ => rfl) (fun v3 => ?_)
      refine z_iincL C 3 (fun v4 => [(0, .ref a0), (1, .int x1), (2, .int v3), (3, .int v4)]) dX8_more_21 rfl zi_1 (by decide) (fun _ => rfl) (fun v4 => ?_)
      refine z_goto C 4 dX8_more_24 (by decide) ?_
      exact ih _ _
    exact z_sub [0, 1, 2] rfl (hk27 _)
noncomputable def f_X8_more (a0 : Nat) (x1 : Int32) (hp : zHp) : Option Int32 :=
  (zis hp a0 8).bind fun _ => l_X8_more_4 (fun p5 => (f_X8_wasCounted a0 x1 hp).bind fun v6 => if v6 = 0 then (some (0 : Int32)) else (zgR hp a0 8 3).bind fun r7 => (zaI hp 0 r7 ((56 : Int32) + x1)).bind fun v8 => some (p5 - v8)) a0 x1 hp 1000000 (0 : Int32) (0 : Int32)
set_option maxHeartbeats 4000000 in
set_option maxRecDepth 100000 in
theorem m_X8_more (l : Launch) (D : va_G) (tc : Nat → ClassId) (ro : Nat → Nat) (b0 : Nat) {a0 : Nat} {x1 : Int32} {hp : zHp} {sz : Nat} {r : Int32} (h : f_X8_more a0 x1 hp = some r) : zis hp a0 8 = some () ∧ zM l yX8_more cX8_more 4 (some .int) 6 0 0 [.ref a0, .int x1] D tc ro b0 hp sz ((zoP sz hp) r).1 ((zoP sz hp) r).2.1 ((zoP sz hp) r).2.2 := by
  refine ⟨?_, z_start (o := (zoP sz hp)) (lv := [(0, .ref a0), (1, .int x1)]) h (by decide +kernel) RX8 rfl rfl (Nat.le_of_ble_eq_true rfl) (fun P C => ?_)⟩
  · unfold f_X8_more at h
    cases hc : zis hp a0 8 with
    | none => rw [hc] at h; cases h
    | some u => rfl
  unfold f_X8_more
  refine z_is ?_
  refine z_iconst C dX8_more_0 zi_0 ?_
  refine z_istore_n (lv' := [(0, .ref a0), (1, .int x1), (2, .int (0 : Int32))]) C dX8_more_1 (by decide) rfl ?_
  refine z_iconst C dX8_more_2 zi_0 ?_
  refine z_istore_n (lv' := [(0, .ref a0), (1, .int x1), (2, .int (0 : Int32)), (3, .int (0 : Int32))]) C dX8_more_3 (by decide) rfl ?_
  refine wl_X8_more_4 C (fun p5 => ?_) _ _ _
  refine z_aload_n C dX8_more_27 0 rfl ?_
  refine z_iload_n C dX8_more_28 1 rfl ?_
  refine z_callVp C zc_X8_74 [.int x1] (fun l D tc b0 r h => m_X8_wasCounted l D tc ro b0 h) dX8_more_29 rfl rfl (Nat.le_of_ble_eq_true rfl) (by decide) (by decide) ⟨Nat.le_of_ble_eq_true rfl, Nat.le_of_ble_eq_true rfl⟩ (fun v6 => ?_)
  refine z_if_eq C 49 dX8_more_32 (by decide) ?_ ?_
  · refine z_iconst C dX8_more_49 zi_0 ?_
    exact z_ireturnP C dX8_more_50
  refine z_iload_n C dX8_more_35 2 rfl ?_
  refine z_aload_n C dX8_more_36 0 rfl ?_
  refine z_getR C zf_X8_13 dX8_more_37 (fun r7 => ?_)
  refine z_bipush C dX8_more_40 zbi_56 ?_
  refine z_iload_n C dX8_more_42 1 rfl ?_
  refine z_iadd C dX8_more_43 ?_
  refine z_iaload C dX8_more_44 (fun v8 => ?_)
  refine z_isub C dX8_more_45 ?_
  refine z_goto C 50 dX8_more_46 (by decide) ?_
  exact z_ireturnP C dX8_more_50
noncomputable def f_X8_differs (a0 : Nat) (x1 : Int32) (hp : zHp) : Option Int32 :=
  (zis hp a0 8).bind fun _ => (f_X8_more a0 x1 hp).bind fun v1 => (zgR hp a0 8 5).bind fun r2 => (zaI hp 0 r2 (1 : Int32)).bind fun v3 => if v3 < (zabs v1) then (some (1 : Int32)) else some (0 : Int32)
set_option maxHeartbeats 4000000 in
set_option maxRecDepth 100000 in
theorem m_X8_differs (l : Launch) (D : va_G) (tc : Nat → ClassId) (ro : Nat → Nat) (b0 : Nat) {a0 : Nat} {x1 : Int32} {hp : zHp} {sz : Nat} {r : Int32} (h : f_X8_differs a0 x1 hp = some r) : zis hp a0 8 = some () ∧ zM l yX8_differs cX8_differs 2 (some .boolean) 7 0 0 [.ref a0, .int x1] D tc ro b0 hp sz ((zoP sz hp) r).1 ((zoP sz hp) r).2.1 ((zoP sz hp) r).2.2 := by
  refine ⟨?_, z_start (o := (zoP sz hp)) (lv := [(0, .ref a0), (1, .int x1)]) h (by decide +kernel) RX8 rfl rfl (Nat.le_of_ble_eq_true rfl) (fun P C => ?_)⟩
  · unfold f_X8_differs at h
    cases hc : zis hp a0 8 with
    | none => rw [hc] at h; cases h
    | some u => rfl
  unfold f_X8_differs
  refine z_is ?_
  refine z_aload_n C dX8_differs_0 0 rfl ?_
  refine z_iload_n C dX8_differs_1 1 rfl ?_
  refine z_callVp C zc_X8_83 [.int x1] (fun l D tc b0 r h => m_X8_more l D tc ro b0 h) dX8_differs_2 rfl rfl (Nat.le_of_ble_eq_true rfl) (by decide) (by decide) ⟨Nat.le_of_ble_eq_true rfl, Nat.le_of_ble_eq_true rfl⟩ (fun v1 => ?_)
  refine z_mabs C zm_X8_86 dX8_differs_5 (Nat.le_of_ble_eq_true rfl) (by decide) ⟨Nat.le_of_ble_eq_true rfl, Nat.le_of_ble_eq_true rfl⟩ ?_
  refine z_aload_n C dX8_differs_8 0 rfl ?_
  refine z_getR C zf_X8_19 dX8_differs_9 (fun r2 => ?_)
  refine z_iconst C dX8_differs_12 zi_1 ?_
  refine z_iaload C dX8_differs_13 (fun v3 => ?_)
  refine z_icmp_le C 21 dX8_differs_14 (by decide) ?_ ?_
  · refine z_iconst C dX8_differs_17 zi_1 ?_
    refine z_goto C 22 dX8_differs_18 (by decide) ?_
    exact z_kreturnP C rfl dX8_differs_22
  refine z_iconst C dX8_differs_21 zi_0 ?_
  exact z_kreturnP C rfl dX8_differs_22
noncomputable def j_X8_votes_41 (k49 : Int32 → Option Int32) (rec : Int32 → Int32 → Option Int32) (a0 : Nat) (x1 : Int32) (x2 : Int32) (x4 : Int32) (s0 : Int32) (s1 : Int32) (hp : zHp) : Option Int32 :=
  zlet (s0 + s1) fun v4 => zlet (x4 + (1 : Int32)) fun v5 => rec v4 v5
set_option maxHeartbeats 4000000 in
set_option maxRecDepth 100000 in
theorem wj_X8_votes_41 {P : zX} {ro : Nat → Nat} {sz : Nat} (C : zC P cX8_votes RX8 (some .int) 6 0 0 5 ro) {a0 : Nat} {x1 : Int32} {x2 : Int32} {x4 : Int32} {s0 : Int32} {s1 : Int32} {hp : zHp} {k49 : Int32 → Option Int32} (hk49 : ∀ (x3 : Int32), zG P (zoP sz hp) (k49 x3) 49 [(3, .int x3)] [] hp sz 0 0) {rec : Int32 → Int32 → Option Int32} (hrec : ∀ (x3 : Int32) (x4 : Int32), zG P (zoP sz hp) (rec x3 x4) 5 [(0, .ref a0), (1, .int x1), (2, .int x2), (3, .int x3), (4, .int x4)] [] hp sz 0 0) : zG P (zoP sz hp) (j_X8_votes_41 k49 rec a0 x1 x2 x4 s0 s1 hp) 41 [(0, .ref a0), (1, .int x1), (2, .int x2), (4, .int x4)] [.int s1, .int s0] hp sz 0 0 := by
  unfold j_X8_votes_41
  refine z_iadd C dX8_votes_41 ?_
  refine z_istore_nL C (fun v4 => [(0, .ref a0), (1, .int x1), (2, .int x2), (3, .int v4), (4, .int x4)]) dX8_votes_42 (by decide) (fun _ => rfl) (fun v4 => ?_)
  refine z_iincL C 4 (fun v5 => [(0, .ref a0), (1, .int x1), (2, .int x2), (3, .int v4), (4, .int v5)]) dX8_votes_43 rfl zi_1 (by decide) (fun _ => rfl) (fun v5 => ?_)
  refine z_goto C 5 dX8_votes_46 (by decide) ?_
  exact hrec _ _
noncomputable def b_X8_votes_5 (k49 : Int32 → Option Int32) (a0 : Nat) (x1 : Int32) (x2 : Int32) (hp : zHp) (rec : Int32 → Int32 → Option Int32) (x3 : Int32) (x4 : Int32) : Option Int32 :=
  (f_X8_many a0 (3 : Int32) hp).bind fun v1 => if x4 < v1 then ((zgR hp a0 8 3).bind fun r2 => (zaI hp 0 r2 ((44 : Int32) + x4)).bind fun v3 => if v3 = x1 then ((f_X8_valid a0 x4 x2 hp).bind fun v6 => j_X8_votes_41 k49 rec a0 x1 x2 x4 x3 v6 hp) else j_X8_votes_41 k49 rec a0 x1 x2 x4 x3 (0 : Int32) hp) else k49 x3
noncomputable def l_X8_votes_5 (k49 : Int32 → Option Int32) (a0 : Nat) (x1 : Int32) (x2 : Int32) (hp : zHp) (n : Nat) : Int32 → Int32 → Option Int32 :=
  Nat.rec (motive := fun _ => Int32 → Int32 → Option Int32) (fun _ _ => none) (fun _ rec => b_X8_votes_5 k49 a0 x1 x2 hp rec) n
theorem l_X8_votes_5_s (k49 : Int32 → Option Int32) (a0 : Nat) (x1 : Int32) (x2 : Int32) (hp : zHp) (n : Nat) (x3 : Int32) (x4 : Int32) : l_X8_votes_5 k49 a0 x1 x2 hp (n + 1) x3 x4 = b_X8_votes_5 k49 a0 x1 x2 hp (l_X8_votes_5 k49 a0 x1 x2 hp n) x3 x4 := rfl
set_option maxHeartbeats 4000000 in
set_option maxRecDepth 100000 in
theorem wl_X8_votes_5 {P : zX} {ro : Nat → Nat} {sz : Nat} (C : zC P cX8_votes RX8 (some .int) 6 0 0 5 ro) {a0 : Nat} {x1 : Int32} {x2 : Int32} {hp : zHp} {k49 : Int32 → Option Int32} (hk49 : ∀ (x3 : Int32), zG P (zoP sz hp) (k49 x3) 49 [(3, .int x3)] [] hp sz 0 0) : ∀ (n : Nat) (x3 : Int32) (x4 : Int32), zG P (zoP sz hp) (l_X8_votes_5 k49 a0 x1 x2 hp n x3 x4) 5 [(0, .ref a0), (1, .int x1), (2, .int x2), (3, .int x3), (4, .int x4)] [] hp sz 0 0 := by
  intro n
  induction n with
  | zero =>
    intro x3 x4
    show zG P (zoP sz hp) none _ _ _ _ _ _ _
    exact z_none
  | succ n ih =>
    intro x3 x4
    show zG P (zoP sz hp) (b_X8_votes_5 k49 a0 x1 x2 hp (l_X8_votes_5 k49 a0 x1 x2 hp n) x3 x4) _ _ _ _ _ _ _
    unfold b_X8_votes_5
    refine z_iload C dX8_votes_5 4 rfl ?_
    refine z_aload_n C dX8_votes_7 0 rfl ?_
    refine z_iconst C dX8_votes_8 zi_3 ?_
    refine z_callVp C zc_X8_44 [.int (3 : Int32)] (fun l D tc b0 r h => m_X8_many l D tc ro b0 h) dX8_votes_9 rfl rfl (Nat.le_of_ble_eq_true rfl) (by decide) (by decide) ⟨Nat.le_of_ble_eq_true rfl, Nat.le_of_ble_eq_true rfl⟩ (fun v1 => ?_)
    refine z_icmp_ge C 49 dX8_votes_12 (by decide) ?_ ?_
    · refine z_iload_n C dX8_votes_15 3 rfl ?_
      refine z_aload_n C dX8_votes_16 0 rfl ?_
      refine z_getR C zf_X8_13 dX8_votes_17 (fun r2 => ?_)
      refine z_bipush C dX8_votes_20 zbi_44 ?_
      refine z_iload C dX8_votes_22 4 rfl ?_
      refine z_iadd C dX8_votes_24 ?_
      refine z_iaload C dX8_votes_25 (fun v3 => ?_)
      refine z_iload_n C dX8_votes_26 1 rfl ?_
      refine z_icmp_ne C 40 dX8_votes_27 (by decide) ?_ ?_
      · refine z_aload_n C dX8_votes_30 0 rfl ?_
        refine z_iload C dX8_votes_31 4 rfl ?_
        refine z_iload_n C dX8_votes_33 2 rfl ?_
        refine z_callVp C zc_X8_80 [.int x4, .int x2] (fun l D tc b0 r h => m_X8_valid l D tc ro b0 h) dX8_votes_34 rfl rfl (Nat.le_of_ble_eq_true rfl) (by decide) (by decide) ⟨Nat.le_of_ble_eq_true rfl, Nat.le_of_ble_eq_true rfl⟩ (fun v6 => ?_)
        refine z_goto C 41 dX8_votes_37 (by decide) ?_
        exact z_sub [0, 1, 2, 4] rfl (wj_X8_votes_41 C hk49 ih)
      refine z_iconst C dX8_votes_40 zi_0 ?_
      exact z_sub [0, 1, 2, 4] rfl (wj_X8_votes_41 C hk49 ih)
    exact z_sub [3] rfl (hk49 _)
noncomputable def f_X8_votes (a0 : Nat) (x1 : Int32) (x2 : Int32) (hp : zHp) : Option Int32 :=
  (zis hp a0 8).bind fun _ => l_X8_votes_5 (fun p7 => some p7) a0 x1 x2 hp 1000000 (0 : Int32) (0 : Int32)
set_option maxHeartbeats 4000000 in
set_option maxRecDepth 100000 in
theorem m_X8_votes (l : Launch) (D : va_G) (tc : Nat → ClassId) (ro : Nat → Nat) (b0 : Nat) {a0 : Nat} {x1 : Int32} {x2 : Int32} {hp : zHp} {sz : Nat} {r : Int32} (h : f_X8_votes a0 x1 x2 hp = some r) : zis hp a0 8 = some () ∧ zM l yX8_votes cX8_votes 5 (some .int) 6 0 0 [.ref a0, .int x1, .int x2] D tc ro b0 hp sz ((zoP sz hp) r).1 ((zoP sz hp) r).2.1 ((zoP sz hp) r).2.2 := by
  refine ⟨?_, z_start (o := (zoP sz hp)) (lv := [(0, .ref a0), (1, .int x1), (2, .int x2)]) h (by decide +kernel) RX8 rfl rfl (Nat.le_of_ble_eq_true rfl) (fun P C => ?_)⟩
  · unfold f_X8_votes at h
    cases hc : zis hp a0 8 with
    | none => rw [hc] at h; cases h
    | some u => rfl
  unfold f_X8_votes
  refine z_is ?_
  refine z_iconst C dX8_votes_0 zi_0 ?_
  refine z_istore_n (lv' := [(0, .ref a0), (1, .int x1), (2, .int x2), (3, .int (0 : Int32))]) C dX8_votes_1 (by decide) rfl ?_
  refine z_iconst C dX8_votes_2 zi_0 ?_
  refine z_istore (lv' := [(0, .ref a0), (1, .int x1), (2, .int x2), (3, .int (0 : Int32)), (4, .int (0 : Int32))]) C dX8_votes_3 (by decide) rfl ?_
  refine wl_X8_votes_5 C (fun p7 => ?_) _ _ _
  refine z_iload_n C dX8_votes_49 0 rfl ?_
  exact z_ireturnP C dX8_votes_50
noncomputable def b_X8_allVotes_4 (k28 : Int32 → Option Int32) (a0 : Nat) (x1 : Int32) (hp : zHp) (rec : Int32 → Int32 → Option Int32) (x2 : Int32) (x3 : Int32) : Option Int32 :=
  (f_X8_many a0 (0 : Int32) hp).bind fun v1 => if x3 < v1 then ((f_X8_votes a0 x1 x3 hp).bind fun v2 => zlet (x2 + v2) fun v3 => zlet (x3 + (1 : Int32)) fun v4 => rec v3 v4) else k28 x2
noncomputable def l_X8_allVotes_4 (k28 : Int32 → Option Int32) (a0 : Nat) (x1 : Int32) (hp : zHp) (n : Nat) : Int32 → Int32 → Option Int32 :=
  Nat.rec (motive := fun _ => Int32 → Int32 → Option Int32) (fun _ _ => none) (fun _ rec => b_X8_allVotes_4 k28 a0 x1 hp rec) n
theorem l_X8_allVotes_4_s (k28 : Int32 → Option Int32) (a0 : Nat) (x1 : Int32) (hp : zHp) (n : Nat) (x2 : Int32) (x3 : Int32) : l_X8_allVotes_4 k28 a0 x1 hp (n + 1) x2 x3 = b_X8_allVotes_4 k28 a0 x1 hp (l_X8_allVotes_4 k28 a0 x1 hp n) x2 x3 := rfl
set_option maxHeartbeats 4000000 in
set_option maxRecDepth 100000 in
theorem wl_X8_allVotes_4 {P : zX} {ro : Nat → Nat} {sz : Nat} (C : zC P cX8_allVotes RX8 (some .int) 7 0 0 4 ro) {a0 : Nat} {x1 : Int32} {hp : zHp} {k28 : Int32 → Option Int32} (hk28 : ∀ (x2 : Int32), zG P (zoP sz hp) (k28 x2) 28 [(2, .int x2)] [] hp sz 0 0) : ∀ (n : Nat) (x2 : Int32) (x3 : Int32), zG P (zoP sz hp) (l_X8_allVotes_4 k28 a0 x1 hp n x2 x3) 4 [(0, .ref a0), (1, .int x1), (2, .int x2), (3, .int x3)] [] hp sz 0 0 := by
  intro n
  induction n with
  | zero =>
    intro x2 x3
    show zG P (zoP sz hp) none _ _ _ _ _ _ _
    exact z_none
  | succ n ih =>
    intro x2 x3
    show zG P (zoP sz hp) (b_X8_allVotes_4 k28 a0 x1 hp (l_X8_allVotes_4 k28 a0 x1 hp n) x2 x3) _ _ _ _ _ _ _
    unfold b_X8_allVotes_4
    refine z_iload_n C dX8_allVotes_4 3 rfl ?_
    refine z_aload_n C dX8_allVotes_5 0 rfl ?_
    refine z_iconst C dX8_allVotes_6 zi_0 ?_
    refine z_callVp C zc_X8_44 [.int (0 : Int32)] (fun l D tc b0 r h => m_X8_many l D tc ro b0 h) dX8_allVotes_7 rfl rfl (Nat.le_of_ble_eq_true rfl) (by decide) (by decide) ⟨Nat.le_of_ble_eq_true rfl, Nat.le_of_ble_eq_true rfl⟩ (fun v1 => ?_)
    refine z_icmp_ge C 28 dX8_allVotes_10 (by decide) ?_ ?_
    · refine z_iload_n C dX8_allVotes_13 2 rfl ?_
      refine z_aload_n C dX8_allVotes_14 0 rfl ?_
      refine z_iload_n C dX8_allVotes_15 1 rfl ?_
      refine z_iload_n C dX8_allVotes_16 3 rfl ?_
      refine z_callVp C zc_X8_91 [.int x1, .int x3] (fun l D tc b0 r h => m_X8_votes l D tc ro b0 h) dX8_allVotes_17 rfl rfl (Nat.le_of_ble_eq_true rfl) (by decide) (by decide) ⟨Nat.le_of_ble_eq_true rfl, Nat.le_of_ble_eq_true rfl⟩ (fun v2 => ?_)
      refine z_iadd C dX8_allVotes_20 ?_
      refine z_istore_nL C (fun v3 => [(0, .ref a0), (1, .int x1), (2, .int v3), (3, .int x3)]) dX8_allVotes_21 (by decide) (fun _ => rfl) (fun v3 => ?_)
      refine z_iincL C 3 (fun v4 => [(0, .ref a0), (1, .int x1), (2, .int v3), (3, .int v4)]) dX8_allVotes_22 rfl zi_1 (by decide) (fun _ => rfl) (fun v4 => ?_)
      refine z_goto C 4 dX8_allVotes_25 (by decide) ?_
      exact ih _ _
    exact z_sub [2] rfl (hk28 _)
noncomputable def f_X8_allVotes (a0 : Nat) (x1 : Int32) (hp : zHp) : Option Int32 :=
  (zis hp a0 8).bind fun _ => l_X8_allVotes_4 (fun p5 => some p5) a0 x1 hp 1000000 (0 : Int32) (0 : Int32)
set_option maxHeartbeats 4000000 in
set_option maxRecDepth 100000 in
theorem m_X8_allVotes (l : Launch) (D : va_G) (tc : Nat → ClassId) (ro : Nat → Nat) (b0 : Nat) {a0 : Nat} {x1 : Int32} {hp : zHp} {sz : Nat} {r : Int32} (h : f_X8_allVotes a0 x1 hp = some r) : zis hp a0 8 = some () ∧ zM l yX8_allVotes cX8_allVotes 4 (some .int) 7 0 0 [.ref a0, .int x1] D tc ro b0 hp sz ((zoP sz hp) r).1 ((zoP sz hp) r).2.1 ((zoP sz hp) r).2.2 := by
  refine ⟨?_, z_start (o := (zoP sz hp)) (lv := [(0, .ref a0), (1, .int x1)]) h (by decide +kernel) RX8 rfl rfl (Nat.le_of_ble_eq_true rfl) (fun P C => ?_)⟩
  · unfold f_X8_allVotes at h
    cases hc : zis hp a0 8 with
    | none => rw [hc] at h; cases h
    | some u => rfl
  unfold f_X8_allVotes
  refine z_is ?_
  refine z_iconst C dX8_allVotes_0 zi_0 ?_
  refine z_istore_n (lv' := [(0, .ref a0), (1, .int x1), (2, .int (0 : Int32))]) C dX8_allVotes_1 (by decide) rfl ?_
  refine z_iconst C dX8_allVotes_2 zi_0 ?_
  refine z_istore_n (lv' := [(0, .ref a0), (1, .int x1), (2, .int (0 : Int32)), (3, .int (0 : Int32))]) C dX8_allVotes_3 (by decide) rfl ?_
  refine wl_X8_allVotes_4 C (fun p5 => ?_) _ _ _
  refine z_iload_n C dX8_allVotes_28 0 rfl ?_
  exact z_ireturnP C dX8_allVotes_29
noncomputable def j_X8_first_38 (k52 : Int32 → Option Int32) (rec : Int32 → Int32 → Int32 → Option Int32) (a0 : Nat) (x1 : Int32) (x3 : Int32) (x4 : Int32) (x5 : Int32) (s0 : Int32) (hp : zHp) : Option Int32 :=
  zlet (zmax x3 x5) fun v3 => zlet (x4 + (1 : Int32)) fun v4 => rec s0 v3 v4
set_option maxHeartbeats 4000000 in
set_option maxRecDepth 100000 in
theorem wj_X8_first_38 {P : zX} {ro : Nat → Nat} {sz : Nat} (C : zC P cX8_first RX8 (some .int) 7 0 0 6 ro) {a0 : Nat} {x1 : Int32} {x3 : Int32} {x4 : Int32} {x5 : Int32} {s0 : Int32} {hp : zHp} {k52 : Int32 → Option Int32} (hk52 : ∀ (x2 : Int32), zG P (zoP sz hp) (k52 x2) 52 [(2, .int x2)] [] hp sz 0 0) {rec : Int32 → Int32 → Int32 → Option Int32} (hrec : ∀ (x2 : Int32) (x3 : Int32) (x4 : Int32), zG P (zoP sz hp) (rec x2 x3 x4) 7 [(0, .ref a0), (1, .int x1), (2, .int x2), (3, .int x3), (4, .int x4)] [] hp sz 0 0) : zG P (zoP sz hp) (j_X8_first_38 k52 rec a0 x1 x3 x4 x5 s0 hp) 38 [(0, .ref a0), (1, .int x1), (3, .int x3), (4, .int x4), (5, .int x5)] [.int s0] hp sz 0 0 := by
  unfold j_X8_first_38
  refine z_istore_n (lv' := [(0, .ref a0), (1, .int x1), (2, .int s0), (3, .int x3), (4, .int x4), (5, .int x5)]) C dX8_first_38 (by decide) rfl ?_
  refine z_iload_n C dX8_first_39 3 rfl ?_
  refine z_iload C dX8_first_40 5 rfl ?_
  refine z_mmax C zm_X8_94 dX8_first_42 (Nat.le_of_ble_eq_true rfl) (by decide) ⟨Nat.le_of_ble_eq_true rfl, Nat.le_of_ble_eq_true rfl⟩ ?_
  refine z_istore_nL C (fun v3 => [(0, .ref a0), (1, .int x1), (2, .int s0), (3, .int v3), (4, .int x4), (5, .int x5)]) dX8_first_45 (by decide) (fun _ => rfl) (fun v3 => ?_)
  refine z_iincL C 4 (fun v4 => [(0, .ref a0), (1, .int x1), (2, .int s0), (3, .int v3), (4, .int v4), (5, .int x5)]) dX8_first_46 rfl zi_1 (by decide) (fun _ => rfl) (fun v4 => ?_)
  refine z_goto C 7 dX8_first_49 (by decide) ?_
  exact z_sub [0, 1, 2, 3, 4] rfl (hrec _ _ _)
noncomputable def b_X8_first_7 (k52 : Int32 → Option Int32) (a0 : Nat) (x1 : Int32) (hp : zHp) (rec : Int32 → Int32 → Int32 → Option Int32) (x2 : Int32) (x3 : Int32) (x4 : Int32) : Option Int32 :=
  (f_X8_many a0 (0 : Int32) hp).bind fun v1 => if x4 < v1 then ((f_X8_votes a0 x1 x4 hp).bind fun v2 => if x3 < v2 then (j_X8_first_38 k52 rec a0 x1 x3 x4 v2 x4 hp) else j_X8_first_38 k52 rec a0 x1 x3 x4 v2 x2 hp) else k52 x2
noncomputable def l_X8_first_7 (k52 : Int32 → Option Int32) (a0 : Nat) (x1 : Int32) (hp : zHp) (n : Nat) : Int32 → Int32 → Int32 → Option Int32 :=
  Nat.rec (motive := fun _ => Int32 → Int32 → Int32 → Option Int32) (fun _ _ _ => none) (fun _ rec => b_X8_first_7 k52 a0 x1 hp rec) n
theorem l_X8_first_7_s (k52 : Int32 → Option Int32) (a0 : Nat) (x1 : Int32) (hp : zHp) (n : Nat) (x2 : Int32) (x3 : Int32) (x4 : Int32) : l_X8_first_7 k52 a0 x1 hp (n + 1) x2 x3 x4 = b_X8_first_7 k52 a0 x1 hp (l_X8_first_7 k52 a0 x1 hp n) x2 x3 x4 := rfl
set_option maxHeartbeats 4000000 in
set_option maxRecDepth 100000 in
theorem wl_X8_first_7 {P : zX} {ro : Nat → Nat} {sz : Nat} (C : zC P cX8_first RX8 (some .int) 7 0 0 6 ro) {a0 : Nat} {x1 : Int32} {hp : zHp} {k52 : Int32 → Option Int32} (hk52 : ∀ (x2 : Int32), zG P (zoP sz hp) (k52 x2) 52 [(2, .int x2)] [] hp sz 0 0) : ∀ (n : Nat) (x2 : Int32) (x3 : Int32) (x4 : Int32), zG P (zoP sz hp) (l_X8_first_7 k52 a0 x1 hp n x2 x3 x4) 7 [(0, .ref a0), (1, .int x1), (2, .int x2), (3, .int x3), (4, .int x4)] [] hp sz 0 0 := by
  intro n
  induction n with
  | zero =>
    intro x2 x3 x4
    show zG P (zoP sz hp) none _ _ _ _ _ _ _
    exact z_none
  | succ n ih =>
    intro x2 x3 x4
    show zG P (zoP sz hp) (b_X8_first_7 k52 a0 x1 hp (l_X8_first_7 k52 a0 x1 hp n) x2 x3 x4) _ _ _ _ _ _ _
    unfold b_X8_first_7
    refine z_iload C dX8_first_7 4 rfl ?_
    refine z_aload_n C dX8_first_9 0 rfl ?_
    refine z_iconst C dX8_first_10 zi_0 ?_
    refine z_callVp C zc_X8_44 [.int (0 : Int32)] (fun l D tc b0 r h => m_X8_many l D tc ro b0 h) dX8_first_11 rfl rfl (Nat.le_of_ble_eq_true rfl) (by decide) (by decide) ⟨Nat.le_of_ble_eq_true rfl, Nat.le_of_ble_eq_true rfl⟩ (fun v1 => ?_)
    refine z_icmp_ge C 52 dX8_first_14 (by decide) ?_ ?_
    · refine z_aload_n C dX8_first_17 0 rfl ?_
      refine z_iload_n C dX8_first_18 1 rfl ?_
      refine z_iload C dX8_first_19 4 rfl ?_
      refine z_callVp C zc_X8_91 [.int x1, .int x4] (fun l D tc b0 r h => m_X8_votes l D tc ro b0 h) dX8_first_21 rfl rfl (Nat.le_of_ble_eq_true rfl) (by decide) (by decide) ⟨Nat.le_of_ble_eq_true rfl, Nat.le_of_ble_eq_true rfl⟩ (fun v2 => ?_)
      refine z_istore (lv' := [(0, .ref a0), (1, .int x1), (2, .int x2), (3, .int x3), (4, .int x4), (5, .int v2)]) C dX8_first_24 (by decide) rfl ?_
      refine z_iload C dX8_first_26 5 rfl ?_
      refine z_iload_n C dX8_first_28 3 rfl ?_
      refine z_icmp_le C 37 dX8_first_29 (by decide) ?_ ?_
      · refine z_iload C dX8_first_32 4 rfl ?_
        refine z_goto C 38 dX8_first_34 (by decide) ?_
        exact z_sub [0, 1, 3, 4, 5] rfl (wj_X8_first_38 C hk52 ih)
      refine z_iload_n C dX8_first_37 2 rfl ?_
      exact z_sub [0, 1, 3, 4, 5] rfl (wj_X8_first_38 C hk52 ih)
    exact z_sub [2] rfl (hk52 _)
noncomputable def f_X8_first (a0 : Nat) (x1 : Int32) (hp : zHp) : Option Int32 :=
  (zis hp a0 8).bind fun _ => l_X8_first_7 (fun p5 => some p5) a0 x1 hp 1000000 (-1 : Int32) (0 : Int32) (0 : Int32)
set_option maxHeartbeats 4000000 in
set_option maxRecDepth 100000 in
theorem m_X8_first (l : Launch) (D : va_G) (tc : Nat → ClassId) (ro : Nat → Nat) (b0 : Nat) {a0 : Nat} {x1 : Int32} {hp : zHp} {sz : Nat} {r : Int32} (h : f_X8_first a0 x1 hp = some r) : zis hp a0 8 = some () ∧ zM l yX8_first cX8_first 6 (some .int) 7 0 0 [.ref a0, .int x1] D tc ro b0 hp sz ((zoP sz hp) r).1 ((zoP sz hp) r).2.1 ((zoP sz hp) r).2.2 := by
  refine ⟨?_, z_start (o := (zoP sz hp)) (lv := [(0, .ref a0), (1, .int x1)]) h (by decide +kernel) RX8 rfl rfl (Nat.le_of_ble_eq_true rfl) (fun P C => ?_)⟩
  · unfold f_X8_first at h
    cases hc : zis hp a0 8 with
    | none => rw [hc] at h; cases h
    | some u => rfl
  unfold f_X8_first
  refine z_is ?_
  refine z_iconst C dX8_first_0 zi_m1 ?_
  refine z_istore_n (lv' := [(0, .ref a0), (1, .int x1), (2, .int (-1 : Int32))]) C dX8_first_1 (by decide) rfl ?_
  refine z_iconst C dX8_first_2 zi_0 ?_
  refine z_istore_n (lv' := [(0, .ref a0), (1, .int x1), (2, .int (-1 : Int32)), (3, .int (0 : Int32))]) C dX8_first_3 (by decide) rfl ?_
  refine z_iconst C dX8_first_4 zi_0 ?_
  refine z_istore (lv' := [(0, .ref a0), (1, .int x1), (2, .int (-1 : Int32)), (3, .int (0 : Int32)), (4, .int (0 : Int32))]) C dX8_first_5 (by decide) rfl ?_
  refine wl_X8_first_7 C (fun p5 => ?_) _ _ _ _
  refine z_iload_n C dX8_first_52 0 rfl ?_
  exact z_ireturnP C dX8_first_53
noncomputable def b_X8_marginOf_18 (k56 : Int32 → Option Int32) (a0 : Nat) (x1 : Int32) (x2 : Int32) (hp : zHp) (rec : Int32 → Int32 → Option Int32) (x3 : Int32) (x4 : Int32) : Option Int32 :=
  (f_X8_many a0 (0 : Int32) hp).bind fun v2 => if x4 < v2 then (if x4 = x2 then (zlet (x4 + (1 : Int32)) fun v6 => rec x3 v6) else (f_X8_votes a0 x1 x4 hp).bind fun v3 => zlet (zmax x3 v3) fun v4 => zlet (x4 + (1 : Int32)) fun v5 => rec v4 v5) else k56 x3
noncomputable def l_X8_marginOf_18 (k56 : Int32 → Option Int32) (a0 : Nat) (x1 : Int32) (x2 : Int32) (hp : zHp) (n : Nat) : Int32 → Int32 → Option Int32 :=
  Nat.rec (motive := fun _ => Int32 → Int32 → Option Int32) (fun _ _ => none) (fun _ rec => b_X8_marginOf_18 k56 a0 x1 x2 hp rec) n
theorem l_X8_marginOf_18_s (k56 : Int32 → Option Int32) (a0 : Nat) (x1 : Int32) (x2 : Int32) (hp : zHp) (n : Nat) (x3 : Int32) (x4 : Int32) : l_X8_marginOf_18 k56 a0 x1 x2 hp (n + 1) x3 x4 = b_X8_marginOf_18 k56 a0 x1 x2 hp (l_X8_marginOf_18 k56 a0 x1 x2 hp n) x3 x4 := rfl
set_option maxHeartbeats 4000000 in
set_option maxRecDepth 100000 in
theorem wl_X8_marginOf_18 {P : zX} {ro : Nat → Nat} {sz : Nat} (C : zC P cX8_marginOf RX8 (some .int) 8 0 0 5 ro) {a0 : Nat} {x1 : Int32} {x2 : Int32} {hp : zHp} {k56 : Int32 → Option Int32} (hk56 : ∀ (x3 : Int32), zG P (zoP sz hp) (k56 x3) 56 [(0, .ref a0), (1, .int x1), (2, .int x2), (3, .int x3)] [] hp sz 0 0) : ∀ (n : Nat) (x3 : Int32) (x4 : Int32), zG P (zoP sz hp) (l_X8_marginOf_18 k56 a0 x1 x2 hp n x3 x4) 18 [(0, .ref a0), (1, .int x1), (2, .int x2), (3, .int x3), (4, .int x4)] [] hp sz 0 0 := by
  intro n
  induction n with
  | zero =>
    intro x3 x4
    show zG P (zoP sz hp) none _ _ _ _ _ _ _
    exact z_none
  | succ n ih =>
    intro x3 x4
    show zG P (zoP sz hp) (b_X8_marginOf_18 k56 a0 x1 x2 hp (l_X8_marginOf_18 k56 a0 x1 x2 hp n) x3 x4) _ _ _ _ _ _ _
    unfold b_X8_marginOf_18
    refine z_iload C dX8_marginOf_18 4 rfl ?_
    refine z_aload_n C dX8_marginOf_20 0 rfl ?_
    refine z_iconst C dX8_marginOf_21 zi_0 ?_
    refine z_callVp C zc_X8_44 [.int (0 : Int32)] (fun l D tc b0 r h => m_X8_many l D tc ro b0 h) dX8_marginOf_22 rfl rfl (Nat.le_of_ble_eq_true rfl) (by decide) (by decide) ⟨Nat.le_of_ble_eq_true rfl, Nat.le_of_ble_eq_true rfl⟩ (fun v2 => ?_)
    refine z_icmp_ge C 56 dX8_marginOf_25 (by decide) ?_ ?_
    · refine z_iload C dX8_marginOf_28 4 rfl ?_
      refine z_iload_n C dX8_marginOf_30 2 rfl ?_
      refine z_icmp_ne C 38 dX8_marginOf_31 (by decide) ?_ ?_
      · refine z_iload_n C dX8_marginOf_34 3 rfl ?_
        refine z_goto C 49 dX8_marginOf_35 (by decide) ?_
        refine z_istore_n (lv' := [(0, .ref a0), (1, .int x1), (2, .int x2), (3, .int x3), (4, .int x4)]) C dX8_marginOf_49 (by decide) rfl ?_
        refine z_iincL C 4 (fun v6 => [(0, .ref a0), (1, .int x1), (2, .int x2), (3, .int x3), (4, .int v6)]) dX8_marginOf_50 rfl zi_1 (by decide) (fun _ => rfl) (fun v6 => ?_)
        refine z_goto C 18 dX8_marginOf_53 (by decide) ?_
        exact ih _ _
      refine z_iload_n C dX8_marginOf_38 3 rfl ?_
      refine z_aload_n C dX8_marginOf_39 0 rfl ?_
      refine z_iload_n C dX8_marginOf_40 1 rfl ?_
      refine z_iload C dX8_marginOf_41 4 rfl ?_
      refine z_callVp C zc_X8_91 [.int x1, .int x4] (fun l D tc b0 r h => m_X8_votes l D tc ro b0 h) dX8_marginOf_43 rfl rfl (Nat.le_of_ble_eq_true rfl) (by decide) (by decide) ⟨Nat.le_of_ble_eq_true rfl, Nat.le_of_ble_eq_true rfl⟩ (fun v3 => ?_)
      refine z_mmax C zm_X8_94 dX8_marginOf_46 (Nat.le_of_ble_eq_true rfl) (by decide) ⟨Nat.le_of_ble_eq_true rfl, Nat.le_of_ble_eq_true rfl⟩ ?_
      refine z_istore_nL C (fun v4 => [(0, .ref a0), (1, .int x1), (2, .int x2), (3, .int v4), (4, .int x4)]) dX8_marginOf_49 (by decide) (fun _ => rfl) (fun v4 => ?_)
      refine z_iincL C 4 (fun v5 => [(0, .ref a0), (1, .int x1), (2, .int x2), (3, .int v4), (4, .int v5)]) dX8_marginOf_50 rfl zi_1 (by decide) (fun _ => rfl) (fun v5 => ?_)
      refine z_goto C 18 dX8_marginOf_53 (by decide) ?_
      exact ih _ _
    exact z_sub [0, 1, 2, 3] rfl (hk56 _)
noncomputable def f_X8_marginOf (a0 : Nat) (x1 : Int32) (hp : zHp) : Option Int32 :=
  (zis hp a0 8).bind fun _ => (f_X8_first a0 x1 hp).bind fun v1 => if v1 = (-1 : Int32) then (some (0 : Int32)) else l_X8_marginOf_18 (fun p7 => (f_X8_votes a0 x1 v1 hp).bind fun v8 => some (v8 - p7)) a0 x1 v1 hp 1000000 (0 : Int32) (0 : Int32)
set_option maxHeartbeats 4000000 in
set_option maxRecDepth 100000 in
theorem m_X8_marginOf (l : Launch) (D : va_G) (tc : Nat → ClassId) (ro : Nat → Nat) (b0 : Nat) {a0 : Nat} {x1 : Int32} {hp : zHp} {sz : Nat} {r : Int32} (h : f_X8_marginOf a0 x1 hp = some r) : zis hp a0 8 = some () ∧ zM l yX8_marginOf cX8_marginOf 5 (some .int) 8 0 0 [.ref a0, .int x1] D tc ro b0 hp sz ((zoP sz hp) r).1 ((zoP sz hp) r).2.1 ((zoP sz hp) r).2.2 := by
  refine ⟨?_, z_start (o := (zoP sz hp)) (lv := [(0, .ref a0), (1, .int x1)]) h (by decide +kernel) RX8 rfl rfl (Nat.le_of_ble_eq_true rfl) (fun P C => ?_)⟩
  · unfold f_X8_marginOf at h
    cases hc : zis hp a0 8 with
    | none => rw [hc] at h; cases h
    | some u => rfl
  unfold f_X8_marginOf
  refine z_is ?_
  refine z_aload_n C dX8_marginOf_0 0 rfl ?_
  refine z_iload_n C dX8_marginOf_1 1 rfl ?_
  refine z_callVp C zc_X8_97 [.int x1] (fun l D tc b0 r h => m_X8_first l D tc ro b0 h) dX8_marginOf_2 rfl rfl (Nat.le_of_ble_eq_true rfl) (by decide) (by decide) ⟨Nat.le_of_ble_eq_true rfl, Nat.le_of_ble_eq_true rfl⟩ (fun v1 => ?_)
  refine z_istore_n (lv' := [(0, .ref a0), (1, .int x1), (2, .int v1)]) C dX8_marginOf_5 (by decide) rfl ?_
  refine z_iload_n C dX8_marginOf_6 2 rfl ?_
  refine z_iconst C dX8_marginOf_7 zi_m1 ?_
  refine z_icmp_ne C 13 dX8_marginOf_8 (by decide) ?_ ?_
  · refine z_iconst C dX8_marginOf_11 zi_0 ?_
    exact z_ireturnP C dX8_marginOf_12
  refine z_iconst C dX8_marginOf_13 zi_0 ?_
  refine z_istore_n (lv' := [(0, .ref a0), (1, .int x1), (2, .int v1), (3, .int (0 : Int32))]) C dX8_marginOf_14 (by decide) rfl ?_
  refine z_iconst C dX8_marginOf_15 zi_0 ?_
  refine z_istore (lv' := [(0, .ref a0), (1, .int x1), (2, .int v1), (3, .int (0 : Int32)), (4, .int (0 : Int32))]) C dX8_marginOf_16 (by decide) rfl ?_
  refine wl_X8_marginOf_18 C (fun p7 => ?_) _ _ _
  refine z_aload_n C dX8_marginOf_56 0 rfl ?_
  refine z_iload_n C dX8_marginOf_57 1 rfl ?_
  refine z_iload_n C dX8_marginOf_58 2 rfl ?_
  refine z_callVp C zc_X8_91 [.int x1, .int v1] (fun l D tc b0 r h => m_X8_votes l D tc ro b0 h) dX8_marginOf_59 rfl rfl (Nat.le_of_ble_eq_true rfl) (by decide) (by decide) ⟨Nat.le_of_ble_eq_true rfl, Nat.le_of_ble_eq_true rfl⟩ (fun v8 => ?_)
  refine z_iload_n C dX8_marginOf_62 3 rfl ?_
  refine z_isub C dX8_marginOf_63 ?_
  exact z_ireturnP C dX8_marginOf_64
noncomputable def f_X8_isNear (a0 : Nat) (x1 : Int32) (hp : zHp) : Option Int32 :=
  (zis hp a0 8).bind fun _ => (f_X8_allVotes a0 x1 hp).bind fun v1 => if 0 < v1 then ((f_X8_marginOf a0 x1 hp).bind fun v2 => (zgR hp a0 8 5).bind fun r3 => (zaI hp 0 r3 (0 : Int32)).bind fun v4 => if (v4 * v1) < ((100 : Int32) * v2) then (some (0 : Int32)) else some (1 : Int32)) else some (0 : Int32)
set_option maxHeartbeats 4000000 in
set_option maxRecDepth 100000 in
theorem m_X8_isNear (l : Launch) (D : va_G) (tc : Nat → ClassId) (ro : Nat → Nat) (b0 : Nat) {a0 : Nat} {x1 : Int32} {hp : zHp} {sz : Nat} {r : Int32} (h : f_X8_isNear a0 x1 hp = some r) : zis hp a0 8 = some () ∧ zM l yX8_isNear cX8_isNear 3 (some .boolean) 9 0 0 [.ref a0, .int x1] D tc ro b0 hp sz ((zoP sz hp) r).1 ((zoP sz hp) r).2.1 ((zoP sz hp) r).2.2 := by
  refine ⟨?_, z_start (o := (zoP sz hp)) (lv := [(0, .ref a0), (1, .int x1)]) h (by decide +kernel) RX8 rfl rfl (Nat.le_of_ble_eq_true rfl) (fun P C => ?_)⟩
  · unfold f_X8_isNear at h
    cases hc : zis hp a0 8 with
    | none => rw [hc] at h; cases h
    | some u => rfl
  unfold f_X8_isNear
  refine z_is ?_
  refine z_aload_n C dX8_isNear_0 0 rfl ?_
  refine z_iload_n C dX8_isNear_1 1 rfl ?_
  refine z_callVp C zc_X8_100 [.int x1] (fun l D tc b0 r h => m_X8_allVotes l D tc ro b0 h) dX8_isNear_2 rfl rfl (Nat.le_of_ble_eq_true rfl) (by decide) (by decide) ⟨Nat.le_of_ble_eq_true rfl, Nat.le_of_ble_eq_true rfl⟩ (fun v1 => ?_)
  refine z_istore_n (lv' := [(0, .ref a0), (1, .int x1), (2, .int v1)]) C dX8_isNear_5 (by decide) rfl ?_
  refine z_iload_n C dX8_isNear_6 2 rfl ?_
  refine z_if_le C 33 dX8_isNear_7 (by decide) ?_ ?_
  · refine z_bipush C dX8_isNear_10 zbi_100 ?_
    refine z_aload_n C dX8_isNear_12 0 rfl ?_
    refine z_iload_n C dX8_isNear_13 1 rfl ?_
    refine z_callVp C zc_X8_103 [.int x1] (fun l D tc b0 r h => m_X8_marginOf l D tc ro b0 h) dX8_isNear_14 rfl rfl (Nat.le_of_ble_eq_true rfl) (by decide) (by decide) ⟨Nat.le_of_ble_eq_true rfl, Nat.le_of_ble_eq_true rfl⟩ (fun v2 => ?_)
    refine z_imul C dX8_isNear_17 ?_
    refine z_aload_n C dX8_isNear_18 0 rfl ?_
    refine z_getR C zf_X8_19 dX8_isNear_19 (fun r3 => ?_)
    refine z_iconst C dX8_isNear_22 zi_0 ?_
    refine z_iaload C dX8_isNear_23 (fun v4 => ?_)
    refine z_iload_n C dX8_isNear_24 2 rfl ?_
    refine z_imul C dX8_isNear_25 ?_
    refine z_icmp_gt C 33 dX8_isNear_26 (by decide) ?_ ?_
    · refine z_iconst C dX8_isNear_33 zi_0 ?_
      exact z_kreturnP C rfl dX8_isNear_34
    refine z_iconst C dX8_isNear_29 zi_1 ?_
    refine z_goto C 34 dX8_isNear_30 (by decide) ?_
    exact z_kreturnP C rfl dX8_isNear_34
  refine z_iconst C dX8_isNear_33 zi_0 ?_
  exact z_kreturnP C rfl dX8_isNear_34
noncomputable def j_X8_hasBox_115 (k122 : Option Int32) (k130 : Option Int32) (rec : Int32 → Option Int32) (a0 : Nat) (x1 : Int32) (x2 : Int32) (x3 : Int32) (s0 : Int32) (hp : zHp) : Option Int32 :=
  if s0 = 0 then (zlet (x3 + (1 : Int32)) fun v5 => rec v5) else k122
set_option maxHeartbeats 4000000 in
set_option maxRecDepth 100000 in
theorem wj_X8_hasBox_115 {P : zX} {ro : Nat → Nat} {sz : Nat} (C : zC P cX8_hasBox RX8 (some .boolean) 8 0 0 6 ro) {a0 : Nat} {x1 : Int32} {x2 : Int32} {x3 : Int32} {s0 : Int32} {hp : zHp} {k122 : Option Int32} (hk122 : zG P (zoP sz hp) (k122) 122 [] [] hp sz 0 0) {k130 : Option Int32} (hk130 : zG P (zoP sz hp) (k130) 130 [] [] hp sz 0 0) {rec : Int32 → Option Int32} (hrec : ∀ (x3 : Int32), zG P (zoP sz hp) (rec x3) 2 [(0, .ref a0), (1, .int x1), (2, .int x2), (3, .int x3)] [] hp sz 0 0) : zG P (zoP sz hp) (j_X8_hasBox_115 k122 k130 rec a0 x1 x2 x3 s0 hp) 115 [(0, .ref a0), (1, .int x1), (2, .int x2), (3, .int x3)] [.int s0] hp sz 0 0 := by
  unfold j_X8_hasBox_115
  refine z_istore (lv' := [(0, .ref a0), (1, .int x1), (2, .int x2), (3, .int x3), (5, .int s0)]) C dX8_hasBox_115 (by decide) rfl ?_
  refine z_iload C dX8_hasBox_117 4 rfl ?_
  refine z_if_eq C 124 dX8_hasBox_119 (by decide) ?_ ?_
  · refine z_iincL C 3 (fun v5 => [(0, .ref a0), (1, .int x1), (2, .int x2), (3, .int v5), (5, .int s0)]) dX8_hasBox_124 rfl zi_1 (by decide) (fun _ => rfl) (fun v5 => ?_)
    refine z_goto C 2 dX8_hasBox_127 (by decide) ?_
    exact z_sub [0, 1, 2, 3] rfl (hrec _)
  exact z_sub [] rfl (hk122)
noncomputable def j_X8_hasBox_41 (k122 : Option Int32) (k130 : Option Int32) (rec : Int32 → Option Int32) (a0 : Nat) (x1 : Int32) (x2 : Int32) (x3 : Int32) (s0 : Int32) (hp : zHp) : Option Int32 :=
  if x2 = 0 then ((f_X8_wasCounted a0 x3 hp).bind fun v8 => if v8 = 0 then (j_X8_hasBox_115 k122 k130 rec a0 x1 x2 x3 (1 : Int32) hp) else j_X8_hasBox_115 k122 k130 rec a0 x1 x2 x3 (0 : Int32) hp) else if x2 = (1 : Int32) then ((f_X8_of a0 x3 (0 : Int32) hp).bind fun v7 => if v7 = (-4 : Int32) then (j_X8_hasBox_115 k122 k130 rec a0 x1 x2 x3 (0 : Int32) hp) else j_X8_hasBox_115 k122 k130 rec a0 x1 x2 x3 (1 : Int32) hp) else if x2 = (2 : Int32) then (if s0 = 0 then (j_X8_hasBox_115 k122 k130 rec a0 x1 x2 x3 (0 : Int32) hp) else (f_X8_differs a0 x3 hp).bind fun v6 => if v6 = 0 then (j_X8_hasBox_115 k122 k130 rec a0 x1 x2 x3 (0 : Int32) hp) else j_X8_hasBox_115 k122 k130 rec a0 x1 x2 x3 (1 : Int32) hp) else j_X8_hasBox_115 k122 k130 rec a0 x1 x2 x3 s0 hp
set_option maxHeartbeats 4000000 in
set_option maxRecDepth 100000 in
theorem wj_X8_hasBox_41 {P : zX} {ro : Nat → Nat} {sz : Nat} (C : zC P cX8_hasBox RX8 (some .boolean) 8 0 0 6 ro) {a0 : Nat} {x1 : Int32} {x2 : Int32} {x3 : Int32} {s0 : Int32} {hp : zHp} {k122 : Option Int32} (hk122 : zG P (zoP sz hp) (k122) 122 [] [] hp sz 0 0) {k130 : Option Int32} (hk130 : zG P (zoP sz hp) (k130) 130 [] [] hp sz 0 0) {rec : Int32 → Option Int32} (hrec : ∀ (x3 : Int32), zG P (zoP sz hp) (rec x3) 2 [(0, .ref a0), (1, .int x1), (2, .int x2), (3, .int x3)] [] hp sz 0 0) : zG P (zoP sz hp) (j_X8_hasBox_41 k122 k130 rec a0 x1 x2 x3 s0 hp) 41 [(0, .ref a0), (1, .int x1), (2, .int x2), (3, .int x3)] [.int s0] hp sz 0 0 := by
  unfold j_X8_hasBox_41
  refine z_istore (lv' := [(0, .ref a0), (1, .int x1), (2, .int x2), (3, .int x3), (4, .int s0)]) C dX8_hasBox_41 (by decide) rfl ?_
  refine z_iload_n C dX8_hasBox_43 2 rfl ?_
  refine z_if_ne C 63 dX8_hasBox_44 (by decide) ?_ ?_
  · refine z_aload_n C dX8_hasBox_47 0 rfl ?_
    refine z_iload_n C dX8_hasBox_48 3 rfl ?_
    refine z_callVp C zc_X8_74 [.int x3] (fun l D tc b0 r h => m_X8_wasCounted l D tc ro b0 h) dX8_hasBox_49 rfl rfl (Nat.le_of_ble_eq_true rfl) (by decide) (by decide) ⟨Nat.le_of_ble_eq_true rfl, Nat.le_of_ble_eq_true rfl⟩ (fun v8 => ?_)
    refine z_if_ne C 59 dX8_hasBox_52 (by decide) ?_ ?_
    · refine z_iconst C dX8_hasBox_55 zi_1 ?_
      refine z_goto C 115 dX8_hasBox_56 (by decide) ?_
      exact z_sub [0, 1, 2, 3] rfl (wj_X8_hasBox_115 C hk122 hk130 hrec)
    refine z_iconst C dX8_hasBox_59 zi_0 ?_
    refine z_goto C 115 dX8_hasBox_60 (by decide) ?_
    exact z_sub [0, 1, 2, 3] rfl (wj_X8_hasBox_115 C hk122 hk130 hrec)
  refine z_iload_n C dX8_hasBox_63 2 rfl ?_
  refine z_iconst C dX8_hasBox_64 zi_1 ?_
  refine z_icmp_ne C 87 dX8_hasBox_65 (by decide) ?_ ?_
  · refine z_aload_n C dX8_hasBox_68 0 rfl ?_
    refine z_iload_n C dX8_hasBox_69 3 rfl ?_
    refine z_iconst C dX8_hasBox_70 zi_0 ?_
    refine z_callVp C zc_X8_48 [.int x3, .int (0 : Int32)] (fun l D tc b0 r h => m_X8_of l D tc ro b0 h) dX8_hasBox_71 rfl rfl (Nat.le_of_ble_eq_true rfl) (by decide) (by decide) ⟨Nat.le_of_ble_eq_true rfl, Nat.le_of_ble_eq_true rfl⟩ (fun v7 => ?_)
    refine z_bipush C dX8_hasBox_74 zbi_m4 ?_
    refine z_icmp_eq C 83 dX8_hasBox_76 (by decide) ?_ ?_
    · refine z_iconst C dX8_hasBox_83 zi_0 ?_
      refine z_goto C 115 dX8_hasBox_84 (by decide) ?_
      exact z_sub [0, 1, 2, 3] rfl (wj_X8_hasBox_115 C hk122 hk130 hrec)
    refine z_iconst C dX8_hasBox_79 zi_1 ?_
    refine z_goto C 115 dX8_hasBox_80 (by decide) ?_
    exact z_sub [0, 1, 2, 3] rfl (wj_X8_hasBox_115 C hk122 hk130 hrec)
  refine z_iload_n C dX8_hasBox_87 2 rfl ?_
  refine z_iconst C dX8_hasBox_88 zi_2 ?_
  refine z_icmp_ne C 113 dX8_hasBox_89 (by decide) ?_ ?_
  · refine z_iload C dX8_hasBox_92 4 rfl ?_
    refine z_if_eq C 109 dX8_hasBox_94 (by decide) ?_ ?_
    · refine z_iconst C dX8_hasBox_109 zi_0 ?_
      refine z_goto C 115 dX8_hasBox_110 (by decide) ?_
      exact z_sub [0, 1, 2, 3] rfl (wj_X8_hasBox_115 C hk122 hk130 hrec)
    refine z_aload_n C dX8_hasBox_97 0 rfl ?_
    refine z_iload_n C dX8_hasBox_98 3 rfl ?_
    refine z_callVp C zc_X8_106 [.int x3] (fun l D tc b0 r h => m_X8_differs l D tc ro b0 h) dX8_hasBox_99 rfl rfl (Nat.le_of_ble_eq_true rfl) (by decide) (by decide) ⟨Nat.le_of_ble_eq_true rfl, Nat.le_of_ble_eq_true rfl⟩ (fun v6 => ?_)
    refine z_if_eq C 109 dX8_hasBox_102 (by decide) ?_ ?_
    · refine z_iconst C dX8_hasBox_109 zi_0 ?_
      refine z_goto C 115 dX8_hasBox_110 (by decide) ?_
      exact z_sub [0, 1, 2, 3] rfl (wj_X8_hasBox_115 C hk122 hk130 hrec)
    refine z_iconst C dX8_hasBox_105 zi_1 ?_
    refine z_goto C 115 dX8_hasBox_106 (by decide) ?_
    exact z_sub [0, 1, 2, 3] rfl (wj_X8_hasBox_115 C hk122 hk130 hrec)
  refine z_iload C dX8_hasBox_113 4 rfl ?_
  exact z_sub [0, 1, 2, 3] rfl (wj_X8_hasBox_115 C hk122 hk130 hrec)
noncomputable def b_X8_hasBox_2 (k122 : Option Int32) (k130 : Option Int32) (a0 : Nat) (x1 : Int32) (x2 : Int32) (hp : zHp) (rec : Int32 → Option Int32) (x3 : Int32) : Option Int32 :=
  (f_X8_many a0 (3 : Int32) hp).bind fun v1 => if x3 < v1 then ((zgR hp a0 8 3).bind fun r2 => (zaI hp 0 r2 ((44 : Int32) + x3)).bind fun v3 => if v3 = x1 then ((f_X8_confirmed a0 x3 hp).bind fun v4 => if v4 = (-1 : Int32) then (j_X8_hasBox_41 k122 k130 rec a0 x1 x2 x3 (1 : Int32) hp) else j_X8_hasBox_41 k122 k130 rec a0 x1 x2 x3 (0 : Int32) hp) else zlet (x3 + (1 : Int32)) fun v9 => rec v9) else k130
noncomputable def l_X8_hasBox_2 (k122 : Option Int32) (k130 : Option Int32) (a0 : Nat) (x1 : Int32) (x2 : Int32) (hp : zHp) (n : Nat) : Int32 → Option Int32 :=
  Nat.rec (motive := fun _ => Int32 → Option Int32) (fun _ => none) (fun _ rec => b_X8_hasBox_2 k122 k130 a0 x1 x2 hp rec) n
theorem l_X8_hasBox_2_s (k122 : Option Int32) (k130 : Option Int32) (a0 : Nat) (x1 : Int32) (x2 : Int32) (hp : zHp) (n : Nat) (x3 : Int32) : l_X8_hasBox_2 k122 k130 a0 x1 x2 hp (n + 1) x3 = b_X8_hasBox_2 k122 k130 a0 x1 x2 hp (l_X8_hasBox_2 k122 k130 a0 x1 x2 hp n) x3 := rfl
set_option maxHeartbeats 4000000 in
set_option maxRecDepth 100000 in
theorem wl_X8_hasBox_2 {P : zX} {ro : Nat → Nat} {sz : Nat} (C : zC P cX8_hasBox RX8 (some .boolean) 8 0 0 6 ro) {a0 : Nat} {x1 : Int32} {x2 : Int32} {hp : zHp} {k122 : Option Int32} (hk122 : zG P (zoP sz hp) (k122) 122 [] [] hp sz 0 0) {k130 : Option Int32} (hk130 : zG P (zoP sz hp) (k130) 130 [] [] hp sz 0 0) : ∀ (n : Nat) (x3 : Int32), zG P (zoP sz hp) (l_X8_hasBox_2 k122 k130 a0 x1 x2 hp n x3) 2 [(0, .ref a0), (1, .int x1), (2, .int x2), (3, .int x3)] [] hp sz 0 0 := by
  intro n
  induction n with
  | zero =>
    intro x3
    show zG P (zoP sz hp) none _ _ _ _ _ _ _
    exact z_none
  | succ n ih =>
    intro x3
    show zG P (zoP sz hp) (b_X8_hasBox_2 k122 k130 a0 x1 x2 hp (l_X8_hasBox_2 k122 k130 a0 x1 x2 hp n) x3) _ _ _ _ _ _ _
    unfold b_X8_hasBox_2
    refine z_iload_n C dX8_hasBox_2 3 rfl ?_
    refine z_aload_n C dX8_hasBox_3 0 rfl ?_
    refine z_iconst C dX8_hasBox_4 zi_3 ?_
    refine z_callVp C zc_X8_44 [.int (3 : Int32)] (fun l D tc b0 r h => m_X8_many l D tc ro b0 h) dX8_hasBox_5 rfl rfl (Nat.le_of_ble_eq_true rfl) (by decide) (by decide) ⟨Nat.le_of_ble_eq_true rfl, Nat.le_of_ble_eq_true rfl⟩ (fun v1 => ?_)
    refine z_icmp_ge C 130 dX8_hasBox_8 (by decide) ?_ ?_
    · refine z_aload_n C dX8_hasBox_11 0 rfl ?_
      refine z_getR C zf_X8_13 dX8_hasBox_12 (fun r2 => ?_)
      refine z_bipush C dX8_hasBox_15 zbi_44 ?_
      refine z_iload_n C dX8_hasBox_17 3 rfl ?_
      refine z_iadd C dX8_hasBox_18 ?_
      refine z_iaload C dX8_hasBox_19 (fun v3 => ?_)
      refine z_iload_n C dX8_hasBox_20 1 rfl ?_
      refine z_icmp_eq C 27 dX8_hasBox_21 (by decide) ?_ ?_
      · refine z_aload_n C dX8_hasBox_27 0 rfl ?_
        refine z_iload_n C dX8_hasBox_28 3 rfl ?_
        refine z_callVp C zc_X8_77 [.int x3] (fun l D tc b0 r h => m_X8_confirmed l D tc ro b0 h) dX8_hasBox_29 rfl rfl (Nat.le_of_ble_eq_true rfl) (by decide) (by decide) ⟨Nat.le_of_ble_eq_true rfl, Nat.le_of_ble_eq_true rfl⟩ (fun v4 => ?_)
        refine z_iconst C dX8_hasBox_32 zi_m1 ?_
        refine z_icmp_ne C 40 dX8_hasBox_33 (by decide) ?_ ?_
        · refine z_iconst C dX8_hasBox_36 zi_1 ?_
          refine z_goto C 41 dX8_hasBox_37 (by decide) ?_
          exact wj_X8_hasBox_41 C hk122 hk130 ih
        refine z_iconst C dX8_hasBox_40 zi_0 ?_
        exact wj_X8_hasBox_41 C hk122 hk130 ih
      refine z_goto C 124 dX8_hasBox_24 (by decide) ?_
      refine z_iincL C 3 (fun v9 => [(0, .ref a0), (1, .int x1), (2, .int x2), (3, .int v9)]) dX8_hasBox_124 rfl zi_1 (by decide) (fun _ => rfl) (fun v9 => ?_)
      refine z_goto C 2 dX8_hasBox_127 (by decide) ?_
      exact ih _
    exact z_sub [] rfl (hk130)
noncomputable def f_X8_hasBox (a0 : Nat) (x1 : Int32) (x2 : Int32) (hp : zHp) : Option Int32 :=
  (zis hp a0 8).bind fun _ => l_X8_hasBox_2 (some (1 : Int32)) (some (0 : Int32)) a0 x1 x2 hp 1000000 (0 : Int32)
set_option maxHeartbeats 4000000 in
set_option maxRecDepth 100000 in
theorem m_X8_hasBox (l : Launch) (D : va_G) (tc : Nat → ClassId) (ro : Nat → Nat) (b0 : Nat) {a0 : Nat} {x1 : Int32} {x2 : Int32} {hp : zHp} {sz : Nat} {r : Int32} (h : f_X8_hasBox a0 x1 x2 hp = some r) : zis hp a0 8 = some () ∧ zM l yX8_hasBox cX8_hasBox 6 (some .boolean) 8 0 0 [.ref a0, .int x1, .int x2] D tc ro b0 hp sz ((zoP sz hp) r).1 ((zoP sz hp) r).2.1 ((zoP sz hp) r).2.2 := by
  refine ⟨?_, z_start (o := (zoP sz hp)) (lv := [(0, .ref a0), (1, .int x1), (2, .int x2)]) h (by decide +kernel) RX8 rfl rfl (Nat.le_of_ble_eq_true rfl) (fun P C => ?_)⟩
  · unfold f_X8_hasBox at h
    cases hc : zis hp a0 8 with
    | none => rw [hc] at h; cases h
    | some u => rfl
  unfold f_X8_hasBox
  refine z_is ?_
  refine z_iconst C dX8_hasBox_0 zi_0 ?_
  refine z_istore_n (lv' := [(0, .ref a0), (1, .int x1), (2, .int x2), (3, .int (0 : Int32))]) C dX8_hasBox_1 (by decide) rfl ?_
  refine wl_X8_hasBox_2 C ?_ ?_ _ _
  · refine z_iconst C dX8_hasBox_122 zi_1 ?_
    exact z_kreturnP C rfl dX8_hasBox_123
  refine z_iconst C dX8_hasBox_130 zi_0 ?_
  exact z_kreturnP C rfl dX8_hasBox_131
noncomputable def b_X8_isWithoutBox_2 (k24 : Option Int32) (k32 : Option Int32) (a0 : Nat) (x1 : Int32) (hp : zHp) (rec : Int32 → Option Int32) (x2 : Int32) : Option Int32 :=
  (f_X8_many a0 (3 : Int32) hp).bind fun v1 => if x2 < v1 then ((zgR hp a0 8 3).bind fun r2 => (zaI hp 0 r2 ((44 : Int32) + x2)).bind fun v3 => if v3 = x1 then (k24) else zlet (x2 + (1 : Int32)) fun v4 => rec v4) else k32
noncomputable def l_X8_isWithoutBox_2 (k24 : Option Int32) (k32 : Option Int32) (a0 : Nat) (x1 : Int32) (hp : zHp) (n : Nat) : Int32 → Option Int32 :=
  Nat.rec (motive := fun _ => Int32 → Option Int32) (fun _ => none) (fun _ rec => b_X8_isWithoutBox_2 k24 k32 a0 x1 hp rec) n
theorem l_X8_isWithoutBox_2_s (k24 : Option Int32) (k32 : Option Int32) (a0 : Nat) (x1 : Int32) (hp : zHp) (n : Nat) (x2 : Int32) : l_X8_isWithoutBox_2 k24 k32 a0 x1 hp (n + 1) x2 = b_X8_isWithoutBox_2 k24 k32 a0 x1 hp (l_X8_isWithoutBox_2 k24 k32 a0 x1 hp n) x2 := rfl
set_option maxHeartbeats 4000000 in
set_option maxRecDepth 100000 in
theorem wl_X8_isWithoutBox_2 {P : zX} {ro : Nat → Nat} {sz : Nat} (C : zC P cX8_isWithoutBox RX8 (some .boolean) 2 0 0 3 ro) {a0 : Nat} {x1 : Int32} {hp : zHp} {k24 : Option Int32} (hk24 : zG P (zoP sz hp) (k24) 24 [] [] hp sz 0 0) {k32 : Option Int32} (hk32 : zG P (zoP sz hp) (k32) 32 [] [] hp sz 0 0) : ∀ (n : Nat) (x2 : Int32), zG P (zoP sz hp) (l_X8_isWithoutBox_2 k24 k32 a0 x1 hp n x2) 2 [(0, .ref a0), (1, .int x1), (2, .int x2)] [] hp sz 0 0 := by
  intro n
  induction n with
  | zero =>
    intro x2
    show zG P (zoP sz hp) none _ _ _ _ _ _ _
    exact z_none
  | succ n ih =>
    intro x2
    show zG P (zoP sz hp) (b_X8_isWithoutBox_2 k24 k32 a0 x1 hp (l_X8_isWithoutBox_2 k24 k32 a0 x1 hp n) x2) _ _ _ _ _ _ _
    unfold b_X8_isWithoutBox_2
    refine z_iload_n C dX8_isWithoutBox_2 2 rfl ?_
    refine z_aload_n C dX8_isWithoutBox_3 0 rfl ?_
    refine z_iconst C dX8_isWithoutBox_4 zi_3 ?_
    refine z_callVp C zc_X8_44 [.int (3 : Int32)] (fun l D tc b0 r h => m_X8_many l D tc ro b0 h) dX8_isWithoutBox_5 rfl rfl (Nat.le_of_ble_eq_true rfl) (by decide) (by decide) ⟨Nat.le_of_ble_eq_true rfl, Nat.le_of_ble_eq_true rfl⟩ (fun v1 => ?_)
    refine z_icmp_ge C 32 dX8_isWithoutBox_8 (by decide) ?_ ?_
    · refine z_aload_n C dX8_isWithoutBox_11 0 rfl ?_
      refine z_getR C zf_X8_13 dX8_isWithoutBox_12 (fun r2 => ?_)
      refine z_bipush C dX8_isWithoutBox_15 zbi_44 ?_
      refine z_iload_n C dX8_isWithoutBox_17 2 rfl ?_
      refine z_iadd C dX8_isWithoutBox_18 ?_
      refine z_iaload C dX8_isWithoutBox_19 (fun v3 => ?_)
      refine z_iload_n C dX8_isWithoutBox_20 1 rfl ?_
      refine z_icmp_ne C 26 dX8_isWithoutBox_21 (by decide) ?_ ?_
      · exact z_sub [] rfl (hk24)
      refine z_iincL C 2 (fun v4 => [(0, .ref a0), (1, .int x1), (2, .int v4)]) dX8_isWithoutBox_26 rfl zi_1 (by decide) (fun _ => rfl) (fun v4 => ?_)
      refine z_goto C 2 dX8_isWithoutBox_29 (by decide) ?_
      exact ih _
    exact z_sub [] rfl (hk32)
noncomputable def f_X8_isWithoutBox (a0 : Nat) (x1 : Int32) (hp : zHp) : Option Int32 :=
  (zis hp a0 8).bind fun _ => l_X8_isWithoutBox_2 (some (0 : Int32)) (some (1 : Int32)) a0 x1 hp 1000000 (0 : Int32)
set_option maxHeartbeats 4000000 in
set_option maxRecDepth 100000 in
theorem m_X8_isWithoutBox (l : Launch) (D : va_G) (tc : Nat → ClassId) (ro : Nat → Nat) (b0 : Nat) {a0 : Nat} {x1 : Int32} {hp : zHp} {sz : Nat} {r : Int32} (h : f_X8_isWithoutBox a0 x1 hp = some r) : zis hp a0 8 = some () ∧ zM l yX8_isWithoutBox cX8_isWithoutBox 3 (some .boolean) 2 0 0 [.ref a0, .int x1] D tc ro b0 hp sz ((zoP sz hp) r).1 ((zoP sz hp) r).2.1 ((zoP sz hp) r).2.2 := by
  refine ⟨?_, z_start (o := (zoP sz hp)) (lv := [(0, .ref a0), (1, .int x1)]) h (by decide +kernel) RX8 rfl rfl (Nat.le_of_ble_eq_true rfl) (fun P C => ?_)⟩
  · unfold f_X8_isWithoutBox at h
    cases hc : zis hp a0 8 with
    | none => rw [hc] at h; cases h
    | some u => rfl
  unfold f_X8_isWithoutBox
  refine z_is ?_
  refine z_iconst C dX8_isWithoutBox_0 zi_0 ?_
  refine z_istore_n (lv' := [(0, .ref a0), (1, .int x1), (2, .int (0 : Int32))]) C dX8_isWithoutBox_1 (by decide) rfl ?_
  refine wl_X8_isWithoutBox_2 C ?_ ?_ _ _
  · refine z_iconst C dX8_isWithoutBox_24 zi_0 ?_
    exact z_kreturnP C rfl dX8_isWithoutBox_25
  refine z_iconst C dX8_isWithoutBox_32 zi_1 ?_
  exact z_kreturnP C rfl dX8_isWithoutBox_33
noncomputable def f_X8_against (a0 : Nat) (x1 : Int32) (hp : zHp) : Option Int32 :=
  (zis hp a0 8).bind fun _ => (f_X8_isDeclared a0 x1 hp).bind fun v1 => if v1 = 0 then ((f_X8_isWithoutBox a0 x1 hp).bind fun v2 => if v2 = 0 then ((f_X8_hasBox a0 x1 (0 : Int32) hp).bind fun v3 => if v3 = 0 then ((f_X8_hasBox a0 x1 (1 : Int32) hp).bind fun v4 => if v4 = 0 then ((f_X8_hasBox a0 x1 (2 : Int32) hp).bind fun v5 => if v5 = 0 then ((f_X8_isNear a0 x1 hp).bind fun v6 => if v6 = 0 then (some (0 : Int32)) else (f_X8_hasBox a0 x1 (3 : Int32) hp).bind fun v7 => if v7 = 0 then (some (0 : Int32)) else some (5 : Int32)) else some (4 : Int32)) else some (3 : Int32)) else some (2 : Int32)) else some (2 : Int32)) else some (1 : Int32)
set_option maxHeartbeats 4000000 in
set_option maxRecDepth 100000 in
theorem m_X8_against (l : Launch) (D : va_G) (tc : Nat → ClassId) (ro : Nat → Nat) (b0 : Nat) {a0 : Nat} {x1 : Int32} {hp : zHp} {sz : Nat} {r : Int32} (h : f_X8_against a0 x1 hp = some r) : zis hp a0 8 = some () ∧ zM l yX8_against cX8_against 2 (some .int) 10 0 0 [.ref a0, .int x1] D tc ro b0 hp sz ((zoP sz hp) r).1 ((zoP sz hp) r).2.1 ((zoP sz hp) r).2.2 := by
  refine ⟨?_, z_start (o := (zoP sz hp)) (lv := [(0, .ref a0), (1, .int x1)]) h (by decide +kernel) RX8 rfl rfl (Nat.le_of_ble_eq_true rfl) (fun P C => ?_)⟩
  · unfold f_X8_against at h
    cases hc : zis hp a0 8 with
    | none => rw [hc] at h; cases h
    | some u => rfl
  unfold f_X8_against
  refine z_is ?_
  refine z_aload_n C dX8_against_0 0 rfl ?_
  refine z_iload_n C dX8_against_1 1 rfl ?_
  refine z_callVp C zc_X8_109 [.int x1] (fun l D tc b0 r h => m_X8_isDeclared l D tc ro b0 h) dX8_against_2 rfl rfl (Nat.le_of_ble_eq_true rfl) (by decide) (by decide) ⟨Nat.le_of_ble_eq_true rfl, Nat.le_of_ble_eq_true rfl⟩ (fun v1 => ?_)
  refine z_if_eq C 10 dX8_against_5 (by decide) ?_ ?_
  · refine z_aload_n C dX8_against_10 0 rfl ?_
    refine z_iload_n C dX8_against_11 1 rfl ?_
    refine z_callVp C zc_X8_112 [.int x1] (fun l D tc b0 r h => m_X8_isWithoutBox l D tc ro b0 h) dX8_against_12 rfl rfl (Nat.le_of_ble_eq_true rfl) (by decide) (by decide) ⟨Nat.le_of_ble_eq_true rfl, Nat.le_of_ble_eq_true rfl⟩ (fun v2 => ?_)
    refine z_if_ne C 27 dX8_against_15 (by decide) ?_ ?_
    · refine z_aload_n C dX8_against_18 0 rfl ?_
      refine z_iload_n C dX8_against_19 1 rfl ?_
      refine z_iconst C dX8_against_20 zi_0 ?_
      refine z_callVp C zc_X8_115 [.int x1, .int (0 : Int32)] (fun l D tc b0 r h => m_X8_hasBox l D tc ro b0 h) dX8_against_21 rfl rfl (Nat.le_of_ble_eq_true rfl) (by decide) (by decide) ⟨Nat.le_of_ble_eq_true rfl, Nat.le_of_ble_eq_true rfl⟩ (fun v3 => ?_)
      refine z_if_eq C 29 dX8_against_24 (by decide) ?_ ?_
      · refine z_aload_n C dX8_against_29 0 rfl ?_
        refine z_iload_n C dX8_against_30 1 rfl ?_
        refine z_iconst C dX8_against_31 zi_1 ?_
        refine z_callVp C zc_X8_115 [.int x1, .int (1 : Int32)] (fun l D tc b0 r h => m_X8_hasBox l D tc ro b0 h) dX8_against_32 rfl rfl (Nat.le_of_ble_eq_true rfl) (by decide) (by decide) ⟨Nat.le_of_ble_eq_true rfl, Nat.le_of_ble_eq_true rfl⟩ (fun v4 => ?_)
        refine z_if_eq C 40 dX8_against_35 (by decide) ?_ ?_
        · refine z_aload_n C dX8_against_40 0 rfl ?_
          refine z_iload_n C dX8_against_41 1 rfl ?_
          refine z_iconst C dX8_against_42 zi_2 ?_
          refine z_callVp C zc_X8_115 [.int x1, .int (2 : Int32)] (fun l D tc b0 r h => m_X8_hasBox l D tc ro b0 h) dX8_against_43 rfl rfl (Nat.le_of_ble_eq_true rfl) (by decide) (by decide) ⟨Nat.le_of_ble_eq_true rfl, Nat.le_of_ble_eq_true rfl⟩ (fun v5 => ?_)
          refine z_if_eq C 51 dX8_against_46 (by decide) ?_ ?_
          · refine z_aload_n C dX8_against_51 0 rfl ?_
            refine z_iload_n C dX8_against_52 1 rfl ?_
            refine z_callVp C zc_X8_119 [.int x1] (fun l D tc b0 r h => m_X8_isNear l D tc ro b0 h) dX8_against_53 rfl rfl (Nat.le_of_ble_eq_true rfl) (by decide) (by decide) ⟨Nat.le_of_ble_eq_true rfl, Nat.le_of_ble_eq_true rfl⟩ (fun v6 => ?_)
            refine z_if_eq C 72 dX8_against_56 (by decide) ?_ ?_
            · refine z_iconst C dX8_against_72 zi_0 ?_
              exact z_ireturnP C dX8_against_73
            refine z_aload_n C dX8_against_59 0 rfl ?_
            refine z_iload_n C dX8_against_60 1 rfl ?_
            refine z_iconst C dX8_against_61 zi_3 ?_
            refine z_callVp C zc_X8_115 [.int x1, .int (3 : Int32)] (fun l D tc b0 r h => m_X8_hasBox l D tc ro b0 h) dX8_against_62 rfl rfl (Nat.le_of_ble_eq_true rfl) (by decide) (by decide) ⟨Nat.le_of_ble_eq_true rfl, Nat.le_of_ble_eq_true rfl⟩ (fun v7 => ?_)
            refine z_if_eq C 72 dX8_against_65 (by decide) ?_ ?_
            · refine z_iconst C dX8_against_72 zi_0 ?_
              exact z_ireturnP C dX8_against_73
            refine z_iconst C dX8_against_68 zi_5 ?_
            refine z_goto C 73 dX8_against_69 (by decide) ?_
            exact z_ireturnP C dX8_against_73
          refine z_iconst C dX8_against_49 zi_4 ?_
          exact z_ireturnP C dX8_against_50
        refine z_iconst C dX8_against_38 zi_3 ?_
        exact z_ireturnP C dX8_against_39
      refine z_iconst C dX8_against_27 zi_2 ?_
      exact z_ireturnP C dX8_against_28
    refine z_iconst C dX8_against_27 zi_2 ?_
    exact z_ireturnP C dX8_against_28
  refine z_iconst C dX8_against_8 zi_1 ?_
  exact z_ireturnP C dX8_against_9
noncomputable def b_X8_comes_7 (k65 : Int32 → Option Int32) (a0 : Nat) (hp : zHp) (rec : Int32 → Int32 → Int32 → Option Int32) (x1 : Int32) (x2 : Int32) (x3 : Int32) : Option Int32 :=
  (f_X8_many a0 (2 : Int32) hp).bind fun v1 => if x3 < v1 then ((f_X8_against a0 x3 hp).bind fun v2 => if v2 = 0 then ((f_X8_allVotes a0 x3 hp).bind fun v3 => (f_X8_many a0 (0 : Int32) hp).bind fun v4 => (f_X8_votes a0 x3 v4 hp).bind fun v5 => zlet (v3 + v5) fun v6 => if v6 < x2 then (zlet (x3 + (1 : Int32)) fun v7 => rec x3 v6 v7) else zlet (x3 + (1 : Int32)) fun v8 => rec x1 x2 v8) else zlet (x3 + (1 : Int32)) fun v9 => rec x1 x2 v9) else k65 x1
noncomputable def l_X8_comes_7 (k65 : Int32 → Option Int32) (a0 : Nat) (hp : zHp) (n : Nat) : Int32 → Int32 → Int32 → Option Int32 :=
  Nat.rec (motive := fun _ => Int32 → Int32 → Int32 → Option Int32) (fun _ _ _ => none) (fun _ rec => b_X8_comes_7 k65 a0 hp rec) n
theorem l_X8_comes_7_s (k65 : Int32 → Option Int32) (a0 : Nat) (hp : zHp) (n : Nat) (x1 : Int32) (x2 : Int32) (x3 : Int32) : l_X8_comes_7 k65 a0 hp (n + 1) x1 x2 x3 = b_X8_comes_7 k65 a0 hp (l_X8_comes_7 k65 a0 hp n) x1 x2 x3 := rfl
set_option maxHeartbeats 4000000 in
set_option maxRecDepth 100000 in
theorem wl_X8_comes_7 {P : zX} {ro : Nat → Nat} {sz : Nat} (C : zC P cX8_comes RX8 (some .int) 11 0 0 5 ro) {a0 : Nat} {hp : zHp} {k65 : Int32 → Option Int32} (hk65 : ∀ (x1 : Int32), zG P (zoP sz hp) (k65 x1) 65 [(1, .int x1)] [] hp sz 0 0) : ∀ (n : Nat) (x1 : Int32) (x2 : Int32) (x3 : Int32), zG P (zoP sz hp) (l_X8_comes_7 k65 a0 hp n x1 x2 x3) 7 [(0, .ref a0), (1, .int x1), (2, .int x2), (3, .int x3)] [] hp sz 0 0 := by
  intro n
  induction n with
  | zero =>
    intro x1 x2 x3
    show zG P (zoP sz hp) none _ _ _ _ _ _ _
    exact z_none
  | succ n ih =>
    intro x1 x2 x3
    show zG P (zoP sz hp) (b_X8_comes_7 k65 a0 hp (l_X8_comes_7 k65 a0 hp n) x1 x2 x3) _ _ _ _ _ _ _
    unfold b_X8_comes_7
    refine z_iload_n C dX8_comes_7 3 rfl ?_
    refine z_aload_n C dX8_comes_8 0 rfl ?_
    refine z_iconst C dX8_comes_9 zi_2 ?_
    refine z_callVp C zc_X8_44 [.int (2 : Int32)] (fun l D tc b0 r h => m_X8_many l D tc ro b0 h) dX8_comes_10 rfl rfl (Nat.le_of_ble_eq_true rfl) (by decide) (by decide) ⟨Nat.le_of_ble_eq_true rfl, Nat.le_of_ble_eq_true rfl⟩ (fun v1 => ?_)
    refine z_icmp_ge C 65 dX8_comes_13 (by decide) ?_ ?_
    · refine z_aload_n C dX8_comes_16 0 rfl ?_
      refine z_iload_n C dX8_comes_17 3 rfl ?_
      refine z_callVp C zc_X8_123 [.int x3] (fun l D tc b0 r h => m_X8_against l D tc ro b0 h) dX8_comes_18 rfl rfl (Nat.le_of_ble_eq_true rfl) (by decide) (by decide) ⟨Nat.le_of_ble_eq_true rfl, Nat.le_of_ble_eq_true rfl⟩ (fun v2 => ?_)
      refine z_if_eq C 27 dX8_comes_21 (by decide) ?_ ?_
      · refine z_aload_n C dX8_comes_27 0 rfl ?_
        refine z_iload_n C dX8_comes_28 3 rfl ?_
        refine z_callVp C zc_X8_100 [.int x3] (fun l D tc b0 r h => m_X8_allVotes l D tc ro b0 h) dX8_comes_29 rfl rfl (Nat.le_of_ble_eq_true rfl) (by decide) (by decide) ⟨Nat.le_of_ble_eq_true rfl, Nat.le_of_ble_eq_true rfl⟩ (fun v3 => ?_)
        refine z_aload_n C dX8_comes_32 0 rfl ?_
        refine z_iload_n C dX8_comes_33 3 rfl ?_
        refine z_aload_n C dX8_comes_34 0 rfl ?_
        refine z_iconst C dX8_comes_35 zi_0 ?_
        refine z_callVp C zc_X8_44 [.int (0 : Int32)] (fun l D tc b0 r h => m_X8_many l D tc ro b0 h) dX8_comes_36 rfl rfl (Nat.le_of_ble_eq_true rfl) (by decide) (by decide) ⟨Nat.le_of_ble_eq_true rfl, Nat.le_of_ble_eq_true rfl⟩ (fun v4 => ?_)
        refine z_callVp C zc_X8_91 [.int x3, .int v4] (fun l D tc b0 r h => m_X8_votes l D tc ro b0 h) dX8_comes_39 rfl rfl (Nat.le_of_ble_eq_true rfl) (by decide) (by decide) ⟨Nat.le_of_ble_eq_true rfl, Nat.le_of_ble_eq_true rfl⟩ (fun v5 => ?_)
        refine z_iadd C dX8_comes_42 ?_
        refine z_istoreL C (fun v6 => [(0, .ref a0), (1, .int x1), (2, .int x2), (3, .int x3), (4, .int v6)]) dX8_comes_43 (by decide) (fun _ => rfl) (fun v6 => ?_)
        refine z_iload C dX8_comes_45 4 rfl ?_
        refine z_iload_n C dX8_comes_47 2 rfl ?_
        refine z_icmp_lt C 54 dX8_comes_48 (by decide) ?_ ?_
        · refine z_iload_n C dX8_comes_54 3 rfl ?_
          refine z_istore_n (lv' := [(0, .ref a0), (1, .int x3), (2, .int x2), (3, .int x3), (4, .int v6)]) C dX8_comes_55 (by decide) rfl ?_
          refine z_iload C dX8_comes_56 4 rfl ?_
          refine z_istore_n (lv' := [(0, .ref a0), (1, .int x3), (2, .int v6), (3, .int x3), (4, .int v6)]) C dX8_comes_58 (by decide) rfl ?_
          refine z_iincL C 3 (fun v7 => [(0, .ref a0), (1, .int x3), (2, .int v6), (3, .int v7), (4, .int v6)]) dX8_comes_59 rfl zi_1 (by decide) (fun _ => rfl) (fun v7 => ?_)
          refine z_goto C 7 dX8_comes_62 (by decide) ?_
          exact z_sub [0, 1, 2, 3] rfl (ih _ _ _)
        refine z_goto C 59 dX8_comes_51 (by decide) ?_
        refine z_iincL C 3 (fun v8 => [(0, .ref a0), (1, .int x1), (2, .int x2), (3, .int v8), (4, .int v6)]) dX8_comes_59 rfl zi_1 (by decide) (fun _ => rfl) (fun v8 => ?_)
        refine z_goto C 7 dX8_comes_62 (by decide) ?_
        exact z_sub [0, 1, 2, 3] rfl (ih _ _ _)
      refine z_goto C 59 dX8_comes_24 (by decide) ?_
      refine z_iincL C 3 (fun v9 => [(0, .ref a0), (1, .int x1), (2, .int x2), (3, .int v9)]) dX8_comes_59 rfl zi_1 (by decide) (fun _ => rfl) (fun v9 => ?_)
      refine z_goto C 7 dX8_comes_62 (by decide) ?_
      exact ih _ _ _
    exact z_sub [1] rfl (hk65 _)
noncomputable def f_X8_comes (a0 : Nat) (hp : zHp) : Option Int32 :=
  (zis hp a0 8).bind fun _ => l_X8_comes_7 (fun p10 => some p10) a0 hp 1000000 (-1 : Int32) (100000 : Int32) (0 : Int32)
set_option maxHeartbeats 4000000 in
set_option maxRecDepth 100000 in
theorem m_X8_comes (l : Launch) (D : va_G) (tc : Nat → ClassId) (ro : Nat → Nat) (b0 : Nat) {a0 : Nat} {hp : zHp} {sz : Nat} {r : Int32} (h : f_X8_comes a0 hp = some r) : zis hp a0 8 = some () ∧ zM l yX8_comes cX8_comes 5 (some .int) 11 0 0 [.ref a0] D tc ro b0 hp sz ((zoP sz hp) r).1 ((zoP sz hp) r).2.1 ((zoP sz hp) r).2.2 := by
  refine ⟨?_, z_start (o := (zoP sz hp)) (lv := [(0, .ref a0)]) h (by decide +kernel) RX8 rfl rfl (Nat.le_of_ble_eq_true rfl) (fun P C => ?_)⟩
  · unfold f_X8_comes at h
    cases hc : zis hp a0 8 with
    | none => rw [hc] at h; cases h
    | some u => rfl
  unfold f_X8_comes
  refine z_is ?_
  refine z_iconst C dX8_comes_0 zi_m1 ?_
  refine z_istore_n (lv' := [(0, .ref a0), (1, .int (-1 : Int32))]) C dX8_comes_1 (by decide) rfl ?_
  refine z_ldcI C zk_X8_122 dX8_comes_2 ?_
  refine z_istore_n (lv' := [(0, .ref a0), (1, .int (-1 : Int32)), (2, .int (100000 : Int32))]) C dX8_comes_4 (by decide) rfl ?_
  refine z_iconst C dX8_comes_5 zi_0 ?_
  refine z_istore_n (lv' := [(0, .ref a0), (1, .int (-1 : Int32)), (2, .int (100000 : Int32)), (3, .int (0 : Int32))]) C dX8_comes_6 (by decide) rfl ?_
  refine wl_X8_comes_7 C (fun p10 => ?_) _ _ _ _
  refine z_iload_n C dX8_comes_65 0 rfl ?_
  exact z_ireturnP C dX8_comes_66
noncomputable def f_X8_mustBeCounted (a0 : Nat) (x1 : Int32) (hp : zHp) : Option Int32 :=
  (zis hp a0 8).bind fun _ => (zgR hp a0 8 3).bind fun r1 => (zaI hp 0 r1 ((44 : Int32) + x1)).bind fun v2 => (f_X8_isDeclared a0 v2 hp).bind fun v3 => if v3 = 0 then ((f_X8_wasCounted a0 x1 hp).bind fun v4 => if v4 = 0 then (some (1 : Int32)) else (f_X8_confirmed a0 x1 hp).bind fun v5 => if v5 = (-1 : Int32) then ((f_X8_differs a0 x1 hp).bind fun v6 => if v6 = 0 then ((f_X8_isNear a0 v2 hp).bind fun v7 => if v7 = 0 then (some (0 : Int32)) else some (1 : Int32)) else some (1 : Int32)) else some (0 : Int32)) else some (0 : Int32)
set_option maxHeartbeats 4000000 in
set_option maxRecDepth 100000 in
theorem m_X8_mustBeCounted (l : Launch) (D : va_G) (tc : Nat → ClassId) (ro : Nat → Nat) (b0 : Nat) {a0 : Nat} {x1 : Int32} {hp : zHp} {sz : Nat} {r : Int32} (h : f_X8_mustBeCounted a0 x1 hp = some r) : zis hp a0 8 = some () ∧ zM l yX8_mustBeCounted cX8_mustBeCounted 3 (some .boolean) 10 0 0 [.ref a0, .int x1] D tc ro b0 hp sz ((zoP sz hp) r).1 ((zoP sz hp) r).2.1 ((zoP sz hp) r).2.2 := by
  refine ⟨?_, z_start (o := (zoP sz hp)) (lv := [(0, .ref a0), (1, .int x1)]) h (by decide +kernel) RX8 rfl rfl (Nat.le_of_ble_eq_true rfl) (fun P C => ?_)⟩
  · unfold f_X8_mustBeCounted at h
    cases hc : zis hp a0 8 with
    | none => rw [hc] at h; cases h
    | some u => rfl
  unfold f_X8_mustBeCounted
  refine z_is ?_
  refine z_aload_n C dX8_mustBeCounted_0 0 rfl ?_
  refine z_getR C zf_X8_13 dX8_mustBeCounted_1 (fun r1 => ?_)
  refine z_bipush C dX8_mustBeCounted_4 zbi_44 ?_
  refine z_iload_n C dX8_mustBeCounted_6 1 rfl ?_
  refine z_iadd C dX8_mustBeCounted_7 ?_
  refine z_iaload C dX8_mustBeCounted_8 (fun v2 => ?_)
  refine z_istore_n (lv' := [(0, .ref a0), (1, .int x1), (2, .int v2)]) C dX8_mustBeCounted_9 (by decide) rfl ?_
  refine z_aload_n C dX8_mustBeCounted_10 0 rfl ?_
  refine z_iload_n C dX8_mustBeCounted_11 2 rfl ?_
  refine z_callVp C zc_X8_109 [.int v2] (fun l D tc b0 r h => m_X8_isDeclared l D tc ro b0 h) dX8_mustBeCounted_12 rfl rfl (Nat.le_of_ble_eq_true rfl) (by decide) (by decide) ⟨Nat.le_of_ble_eq_true rfl, Nat.le_of_ble_eq_true rfl⟩ (fun v3 => ?_)
  refine z_if_eq C 20 dX8_mustBeCounted_15 (by decide) ?_ ?_
  · refine z_aload_n C dX8_mustBeCounted_20 0 rfl ?_
    refine z_iload_n C dX8_mustBeCounted_21 1 rfl ?_
    refine z_callVp C zc_X8_74 [.int x1] (fun l D tc b0 r h => m_X8_wasCounted l D tc ro b0 h) dX8_mustBeCounted_22 rfl rfl (Nat.le_of_ble_eq_true rfl) (by decide) (by decide) ⟨Nat.le_of_ble_eq_true rfl, Nat.le_of_ble_eq_true rfl⟩ (fun v4 => ?_)
    refine z_if_ne C 30 dX8_mustBeCounted_25 (by decide) ?_ ?_
    · refine z_iconst C dX8_mustBeCounted_28 zi_1 ?_
      exact z_kreturnP C rfl dX8_mustBeCounted_29
    refine z_aload_n C dX8_mustBeCounted_30 0 rfl ?_
    refine z_iload_n C dX8_mustBeCounted_31 1 rfl ?_
    refine z_callVp C zc_X8_77 [.int x1] (fun l D tc b0 r h => m_X8_confirmed l D tc ro b0 h) dX8_mustBeCounted_32 rfl rfl (Nat.le_of_ble_eq_true rfl) (by decide) (by decide) ⟨Nat.le_of_ble_eq_true rfl, Nat.le_of_ble_eq_true rfl⟩ (fun v5 => ?_)
    refine z_iconst C dX8_mustBeCounted_35 zi_m1 ?_
    refine z_icmp_ne C 59 dX8_mustBeCounted_36 (by decide) ?_ ?_
    · refine z_aload_n C dX8_mustBeCounted_39 0 rfl ?_
      refine z_iload_n C dX8_mustBeCounted_40 1 rfl ?_
      refine z_callVp C zc_X8_106 [.int x1] (fun l D tc b0 r h => m_X8_differs l D tc ro b0 h) dX8_mustBeCounted_41 rfl rfl (Nat.le_of_ble_eq_true rfl) (by decide) (by decide) ⟨Nat.le_of_ble_eq_true rfl, Nat.le_of_ble_eq_true rfl⟩ (fun v6 => ?_)
      refine z_if_ne C 55 dX8_mustBeCounted_44 (by decide) ?_ ?_
      · refine z_aload_n C dX8_mustBeCounted_47 0 rfl ?_
        refine z_iload_n C dX8_mustBeCounted_48 2 rfl ?_
        refine z_callVp C zc_X8_119 [.int v2] (fun l D tc b0 r h => m_X8_isNear l D tc ro b0 h) dX8_mustBeCounted_49 rfl rfl (Nat.le_of_ble_eq_true rfl) (by decide) (by decide) ⟨Nat.le_of_ble_eq_true rfl, Nat.le_of_ble_eq_true rfl⟩ (fun v7 => ?_)
        refine z_if_eq C 59 dX8_mustBeCounted_52 (by decide) ?_ ?_
        · refine z_iconst C dX8_mustBeCounted_59 zi_0 ?_
          exact z_kreturnP C rfl dX8_mustBeCounted_60
        refine z_iconst C dX8_mustBeCounted_55 zi_1 ?_
        refine z_goto C 60 dX8_mustBeCounted_56 (by decide) ?_
        exact z_kreturnP C rfl dX8_mustBeCounted_60
      refine z_iconst C dX8_mustBeCounted_55 zi_1 ?_
      refine z_goto C 60 dX8_mustBeCounted_56 (by decide) ?_
      exact z_kreturnP C rfl dX8_mustBeCounted_60
    refine z_iconst C dX8_mustBeCounted_59 zi_0 ?_
    exact z_kreturnP C rfl dX8_mustBeCounted_60
  refine z_iconst C dX8_mustBeCounted_18 zi_0 ?_
  exact z_kreturnP C rfl dX8_mustBeCounted_19
noncomputable def j_X8_due_29 (k37 : Int32 → Option Int32) (rec : Int32 → Int32 → Option Int32) (a0 : Nat) (x2 : Int32) (s0 : Int32) (s1 : Int32) (hp : zHp) : Option Int32 :=
  zlet (s0 ||| s1) fun v3 => zlet (x2 + (1 : Int32)) fun v4 => rec v3 v4
set_option maxHeartbeats 4000000 in
set_option maxRecDepth 100000 in
theorem wj_X8_due_29 {P : zX} {ro : Nat → Nat} {sz : Nat} (C : zC P cX8_due RX8 (some .int) 11 0 0 3 ro) {a0 : Nat} {x2 : Int32} {s0 : Int32} {s1 : Int32} {hp : zHp} {k37 : Int32 → Option Int32} (hk37 : ∀ (x1 : Int32), zG P (zoP sz hp) (k37 x1) 37 [(1, .int x1)] [] hp sz 0 0) {rec : Int32 → Int32 → Option Int32} (hrec : ∀ (x1 : Int32) (x2 : Int32), zG P (zoP sz hp) (rec x1 x2) 4 [(0, .ref a0), (1, .int x1), (2, .int x2)] [] hp sz 0 0) : zG P (zoP sz hp) (j_X8_due_29 k37 rec a0 x2 s0 s1 hp) 29 [(0, .ref a0), (2, .int x2)] [.int s1, .int s0] hp sz 0 0 := by
  unfold j_X8_due_29
  refine z_ior C dX8_due_29 ?_
  refine z_istore_nL C (fun v3 => [(0, .ref a0), (1, .int v3), (2, .int x2)]) dX8_due_30 (by decide) (fun _ => rfl) (fun v3 => ?_)
  refine z_iincL C 2 (fun v4 => [(0, .ref a0), (1, .int v3), (2, .int v4)]) dX8_due_31 rfl zi_1 (by decide) (fun _ => rfl) (fun v4 => ?_)
  refine z_goto C 4 dX8_due_34 (by decide) ?_
  exact hrec _ _
noncomputable def b_X8_due_4 (k37 : Int32 → Option Int32) (a0 : Nat) (hp : zHp) (rec : Int32 → Int32 → Option Int32) (x1 : Int32) (x2 : Int32) : Option Int32 :=
  (f_X8_many a0 (3 : Int32) hp).bind fun v1 => if x2 < v1 then ((f_X8_mustBeCounted a0 x2 hp).bind fun v2 => if v2 = 0 then (j_X8_due_29 k37 rec a0 x2 x1 (0 : Int32) hp) else j_X8_due_29 k37 rec a0 x2 x1 ((1 : Int32) <<< (x2 &&& 31)) hp) else k37 x1
noncomputable def l_X8_due_4 (k37 : Int32 → Option Int32) (a0 : Nat) (hp : zHp) (n : Nat) : Int32 → Int32 → Option Int32 :=
  Nat.rec (motive := fun _ => Int32 → Int32 → Option Int32) (fun _ _ => none) (fun _ rec => b_X8_due_4 k37 a0 hp rec) n
theorem l_X8_due_4_s (k37 : Int32 → Option Int32) (a0 : Nat) (hp : zHp) (n : Nat) (x1 : Int32) (x2 : Int32) : l_X8_due_4 k37 a0 hp (n + 1) x1 x2 = b_X8_due_4 k37 a0 hp (l_X8_due_4 k37 a0 hp n) x1 x2 := rfl
set_option maxHeartbeats 4000000 in
set_option maxRecDepth 100000 in
theorem wl_X8_due_4 {P : zX} {ro : Nat → Nat} {sz : Nat} (C : zC P cX8_due RX8 (some .int) 11 0 0 3 ro) {a0 : Nat} {hp : zHp} {k37 : Int32 → Option Int32} (hk37 : ∀ (x1 : Int32), zG P (zoP sz hp) (k37 x1) 37 [(1, .int x1)] [] hp sz 0 0) : ∀ (n : Nat) (x1 : Int32) (x2 : Int32), zG P (zoP sz hp) (l_X8_due_4 k37 a0 hp n x1 x2) 4 [(0, .ref a0), (1, .int x1), (2, .int x2)] [] hp sz 0 0 := by
  intro n
  induction n with
  | zero =>
    intro x1 x2
    show zG P (zoP sz hp) none _ _ _ _ _ _ _
    exact z_none
  | succ n ih =>
    intro x1 x2
    show zG P (zoP sz hp) (b_X8_due_4 k37 a0 hp (l_X8_due_4 k37 a0 hp n) x1 x2) _ _ _ _ _ _ _
    unfold b_X8_due_4
    refine z_iload_n C dX8_due_4 2 rfl ?_
    refine z_aload_n C dX8_due_5 0 rfl ?_
    refine z_iconst C dX8_due_6 zi_3 ?_
    refine z_callVp C zc_X8_44 [.int (3 : Int32)] (fun l D tc b0 r h => m_X8_many l D tc ro b0 h) dX8_due_7 rfl rfl (Nat.le_of_ble_eq_true rfl) (by decide) (by decide) ⟨Nat.le_of_ble_eq_true rfl, Nat.le_of_ble_eq_true rfl⟩ (fun v1 => ?_)
    refine z_icmp_ge C 37 dX8_due_10 (by decide) ?_ ?_
    · refine z_iload_n C dX8_due_13 1 rfl ?_
      refine z_aload_n C dX8_due_14 0 rfl ?_
      refine z_iload_n C dX8_due_15 2 rfl ?_
      refine z_callVp C zc_X8_126 [.int x2] (fun l D tc b0 r h => m_X8_mustBeCounted l D tc ro b0 h) dX8_due_16 rfl rfl (Nat.le_of_ble_eq_true rfl) (by decide) (by decide) ⟨Nat.le_of_ble_eq_true rfl, Nat.le_of_ble_eq_true rfl⟩ (fun v2 => ?_)
      refine z_if_eq C 28 dX8_due_19 (by decide) ?_ ?_
      · refine z_iconst C dX8_due_28 zi_0 ?_
        exact z_sub [0, 2] rfl (wj_X8_due_29 C hk37 ih)
      refine z_iconst C dX8_due_22 zi_1 ?_
      refine z_iload_n C dX8_due_23 2 rfl ?_
      refine z_ishl C dX8_due_24 ?_
      refine z_goto C 29 dX8_due_25 (by decide) ?_
      exact z_sub [0, 2] rfl (wj_X8_due_29 C hk37 ih)
    exact z_sub [1] rfl (hk37 _)
noncomputable def f_X8_due (a0 : Nat) (hp : zHp) : Option Int32 :=
  (zis hp a0 8).bind fun _ => l_X8_due_4 (fun p5 => some p5) a0 hp 1000000 (0 : Int32) (0 : Int32)
set_option maxHeartbeats 4000000 in
set_option maxRecDepth 100000 in
theorem m_X8_due (l : Launch) (D : va_G) (tc : Nat → ClassId) (ro : Nat → Nat) (b0 : Nat) {a0 : Nat} {hp : zHp} {sz : Nat} {r : Int32} (h : f_X8_due a0 hp = some r) : zis hp a0 8 = some () ∧ zM l yX8_due cX8_due 3 (some .int) 11 0 0 [.ref a0] D tc ro b0 hp sz ((zoP sz hp) r).1 ((zoP sz hp) r).2.1 ((zoP sz hp) r).2.2 := by
  refine ⟨?_, z_start (o := (zoP sz hp)) (lv := [(0, .ref a0)]) h (by decide +kernel) RX8 rfl rfl (Nat.le_of_ble_eq_true rfl) (fun P C => ?_)⟩
  · unfold f_X8_due at h
    cases hc : zis hp a0 8 with
    | none => rw [hc] at h; cases h
    | some u => rfl
  unfold f_X8_due
  refine z_is ?_
  refine z_iconst C dX8_due_0 zi_0 ?_
  refine z_istore_n (lv' := [(0, .ref a0), (1, .int (0 : Int32))]) C dX8_due_1 (by decide) rfl ?_
  refine z_iconst C dX8_due_2 zi_0 ?_
  refine z_istore_n (lv' := [(0, .ref a0), (1, .int (0 : Int32)), (2, .int (0 : Int32))]) C dX8_due_3 (by decide) rfl ?_
  refine wl_X8_due_4 C (fun p5 => ?_) _ _ _
  refine z_iload_n C dX8_due_37 0 rfl ?_
  exact z_ireturnP C dX8_due_38
