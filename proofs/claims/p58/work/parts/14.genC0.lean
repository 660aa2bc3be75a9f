noncomputable def f_X0_init (mc ms : Nat) (a0 : Nat) (hp : zHp) (sz : Nat) : Option (zHp × Nat) :=
  zchk (¬ (12 : Int32) < 0 ∧ (12 : Int32).toNatClampNeg ≤ 60000 ∧ 0 + 1 ≤ mc ∧ 0 + (12 : Int32).toNatClampNeg ≤ ms) <| zlet (zup hp sz (.inl (0, (12 : Int32).toNatClampNeg, .inl (fun _ => 0)))) fun h2 => (zpV h2 a0 0 6 (.ref sz)).bind fun h3 => zchk (¬ (4 : Int32) < 0 ∧ (4 : Int32).toNatClampNeg ≤ 60000 ∧ (0 + 1) + 1 ≤ mc ∧ (0 + (12 : Int32).toNatClampNeg) + (4 : Int32).toNatClampNeg ≤ ms) <| zlet (zup h3 ((sz + 1)) (.inl (0, (4 : Int32).toNatClampNeg, .inl (fun _ => 0)))) fun h5 => (zpV h5 a0 0 7 (.ref (((sz + 1))))).bind fun h6 => zchk (¬ (24 : Int32) < 0 ∧ (24 : Int32).toNatClampNeg ≤ 60000 ∧ ((0 + 1) + 1) + 1 ≤ mc ∧ ((0 + (12 : Int32).toNatClampNeg) + (4 : Int32).toNatClampNeg) + (24 : Int32).toNatClampNeg ≤ ms) <| zlet (zup h6 (((sz + 1) + 1)) (.inl (0, (24 : Int32).toNatClampNeg, .inl (fun _ => 0)))) fun h8 => (zpV h8 a0 0 8 (.ref ((((sz + 1) + 1))))).bind fun h9 => some (h9, (((sz + 1) + 1) + 1))
set_option maxHeartbeats 4000000 in
set_option maxRecDepth 100000 in
theorem m_X0_init (l : Launch) (D : va_G) (tc : Nat → ClassId) (ro : Nat → Nat) (b0 : Nat) {mc ms : Nat} {a0 : Nat} {hp : zHp} {sz : Nat} {r : (zHp × Nat)} (h : f_X0_init mc ms a0 hp sz = some r) : zM l yX0_init cX0_init 1 none 1 mc ms [.ref a0] D tc ro b0 hp sz (zoVA r).1 (zoVA r).2.1 (zoVA r).2.2 := by
  refine z_startI (o := zoVA) (lv := [(0, .ref a0)]) h (by decide +kernel) RX0 rfl rfl rfl (Nat.le_of_ble_eq_true rfl) (fun P C CI => ?_)
  unfold f_X0_init
  refine z_aload_n C dX0_init_0 0 rfl ?_
  refine z_objInit C zo_X0_3 dX0_init_1 (by decide) (Nat.le_of_ble_eq_true rfl) ?_
  refine z_aload_n C dX0_init_4 0 rfl ?_
  refine z_bipush C dX0_init_5 zbi_12 ?_
  refine z_chk (fun q1 => ?_)
  refine z_newarr (t := 0) (ty := .int) (A := .inl (fun _ => 0)) C rfl (fun _ => rfl) (by decide) (fun _ _ h => h) (fun _ _ => rfl) zar_int dX0_init_7 (by decide) q1 (fun h2 => ?_)
  refine z_putF C CI zpf_X0_9 rfl rfl dX0_init_9 (fun h3 => ?_)
  refine z_aload_n C dX0_init_12 0 rfl ?_
  refine z_iconst C dX0_init_13 zi_4 ?_
  refine z_chk (fun q4 => ?_)
  refine z_newarr (t := 0) (ty := .int) (A := .inl (fun _ => 0)) C rfl (fun _ => rfl) (by decide) (fun _ _ h => h) (fun _ _ => rfl) zar_int dX0_init_14 (by decide) q4 (fun h5 => ?_)
  refine z_putF C CI zpf_X0_15 rfl rfl dX0_init_16 (fun h6 => ?_)
  refine z_aload_n C dX0_init_19 0 rfl ?_
  refine z_bipush C dX0_init_20 zbi_24 ?_
  refine z_chk (fun q7 => ?_)
  refine z_newarr (t := 0) (ty := .int) (A := .inl (fun _ => 0)) C rfl (fun _ => rfl) (by decide) (fun _ _ h => h) (fun _ _ => rfl) zar_int dX0_init_22 (by decide) q7 (fun h8 => ?_)
  refine z_putF C CI zpf_X0_18 rfl rfl dX0_init_24 (fun h9 => ?_)
  exact z_returnA C dX0_init_27 ⟨q7.2.2.1, q7.2.2.2⟩
noncomputable def f_X0_enter (a0 : Nat) (x1 : Int32) (hp : zHp) : Option zHp :=
  (zis hp a0 0).bind fun _ => (zgI hp a0 0 2).bind fun v1 => if v1 < (12 : Int32) then ((zgR hp a0 0 6).bind fun r2 => (zgI hp a0 0 2).bind fun v3 => (zsI hp r2 v3 x1).bind fun h4 => (zgI h4 a0 0 2).bind fun v5 => (zpV h4 a0 0 2 (.int (v5 + (1 : Int32)))).bind fun h6 => some h6) else some hp
set_option maxHeartbeats 4000000 in
set_option maxRecDepth 100000 in
theorem m_X0_enter (l : Launch) (D : va_G) (tc : Nat → ClassId) (ro : Nat → Nat) (b0 : Nat) {a0 : Nat} {x1 : Int32} {hp : zHp} {sz : Nat} {r : zHp} (h : f_X0_enter a0 x1 hp = some r) : zis hp a0 0 = some () ∧ zM l yX0_enter cX0_enter 2 none 1 0 0 [.ref a0, .int x1] D tc ro b0 hp sz ((zoV sz) r).1 ((zoV sz) r).2.1 ((zoV sz) r).2.2 := by
  refine ⟨?_, z_start (o := (zoV sz)) (lv := [(0, .ref a0), (1, .int x1)]) h (by decide +kernel) RX0 rfl rfl (Nat.le_of_ble_eq_true rfl) (fun P C => ?_)⟩
  · unfold f_X0_enter at h
    cases hc : zis hp a0 0 with
    | none => rw [hc] at h; cases h
    | some u => rfl
  unfold f_X0_enter
  refine z_is ?_
  refine z_aload_n C dX0_enter_0 0 rfl ?_
  refine z_getI C zf_X0_28 dX0_enter_1 (fun v1 => ?_)
  refine z_bipush C dX0_enter_4 zbi_12 ?_
  refine z_icmp_ge C 29 dX0_enter_6 (by decide) ?_ ?_
  · refine z_aload_n C dX0_enter_9 0 rfl ?_
    refine z_getR C zf_X0_9 dX0_enter_10 (fun r2 => ?_)
    refine z_aload_n C dX0_enter_13 0 rfl ?_
    refine z_getI C zf_X0_28 dX0_enter_14 (fun v3 => ?_)
    refine z_iload_n C dX0_enter_17 1 rfl ?_
    refine z_iastore C dX0_enter_18 (fun h4 => ?_)
    refine z_aload_n C dX0_enter_19 0 rfl ?_
    refine z_dup C dX0_enter_20 rfl ?_
    refine z_getI C zf_X0_28 dX0_enter_21 (fun v5 => ?_)
    refine z_iconst C dX0_enter_24 zi_1 ?_
    refine z_iadd C dX0_enter_25 ?_
    refine z_putI C zp_X0_28 dX0_enter_26 (fun h6 => ?_)
    exact z_return C dX0_enter_29
  exact z_return C dX0_enter_29
noncomputable def f_X0_begin (a0 : Nat) (x1 : Int32) (hp : zHp) : Option zHp :=
  (zis hp a0 0).bind fun _ => (zpV hp a0 0 0 (.int (-3 : Int32))).bind fun h1 => (zpV h1 a0 0 1 (.int x1)).bind fun h2 => (zpV h2 a0 0 2 (.int (0 : Int32))).bind fun h3 => (f_X0_enter a0 x1 h3).bind fun h4 => (zpV h4 a0 0 3 (.int (0 : Int32))).bind fun h5 => (zpV h5 a0 0 4 (.int (-1 : Int32))).bind fun h6 => (zpZ h6 a0 0 5 (0 : Int32)).bind fun h7 => some h7
set_option maxHeartbeats 4000000 in
set_option maxRecDepth 100000 in
theorem m_X0_begin (l : Launch) (D : va_G) (tc : Nat → ClassId) (ro : Nat → Nat) (b0 : Nat) {a0 : Nat} {x1 : Int32} {hp : zHp} {sz : Nat} {r : zHp} (h : f_X0_begin a0 x1 hp = some r) : zis hp a0 0 = some () ∧ zM l yX0_begin cX0_begin 2 none 2 0 0 [.ref a0, .int x1] D tc ro b0 hp sz ((zoV sz) r).1 ((zoV sz) r).2.1 ((zoV sz) r).2.2 := by
  refine ⟨?_, z_start (o := (zoV sz)) (lv := [(0, .ref a0), (1, .int x1)]) h (by decide +kernel) RX0 rfl rfl (Nat.le_of_ble_eq_true rfl) (fun P C => ?_)⟩
  · unfold f_X0_begin at h
    cases hc : zis hp a0 0 with
    | none => rw [hc] at h; cases h
    | some u => rfl
  unfold f_X0_begin
  refine z_is ?_
  refine z_aload_n C dX0_begin_0 0 rfl ?_
  refine z_bipush C dX0_begin_1 zbi_m3 ?_
  refine z_putI C zp_X0_21 dX0_begin_3 (fun h1 => ?_)
  refine z_aload_n C dX0_begin_6 0 rfl ?_
  refine z_iload_n C dX0_begin_7 1 rfl ?_
  refine z_putI C zp_X0_25 dX0_begin_8 (fun h2 => ?_)
  refine z_aload_n C dX0_begin_11 0 rfl ?_
  refine z_iconst C dX0_begin_12 zi_0 ?_
  refine z_putI C zp_X0_28 dX0_begin_13 (fun h3 => ?_)
  refine z_aload_n C dX0_begin_16 0 rfl ?_
  refine z_iload_n C dX0_begin_17 1 rfl ?_
  refine z_callVv C zc_X0_31 [.int x1] (fun l D tc b0 r h => m_X0_enter l D tc ro b0 h) dX0_begin_18 rfl rfl (Nat.le_of_ble_eq_true rfl) (by decide) (by decide) ⟨Nat.le_of_ble_eq_true rfl, Nat.le_of_ble_eq_true rfl⟩ (fun h4 => ?_)
  refine z_aload_n C dX0_begin_21 0 rfl ?_
  refine z_iconst C dX0_begin_22 zi_0 ?_
  refine z_putI C zp_X0_35 dX0_begin_23 (fun h5 => ?_)
  refine z_aload_n C dX0_begin_26 0 rfl ?_
  refine z_iconst C dX0_begin_27 zi_m1 ?_
  refine z_putI C zp_X0_38 dX0_begin_28 (fun h6 => ?_)
  refine z_aload_n C dX0_begin_31 0 rfl ?_
  refine z_iconst C dX0_begin_32 zi_0 ?_
  refine z_putZ C zp_X0_41 dX0_begin_33 (fun h7 => ?_)
  exact z_return C dX0_begin_36
noncomputable def f_X0_copyFrom (a0 : Nat) (a1 : Nat) (hp : zHp) : Option zHp :=
  (zis hp a0 0).bind fun _ => (zgI hp a1 0 0).bind fun v1 => (zpV hp a0 0 0 (.int v1)).bind fun h2 => (zgI h2 a1 0 1).bind fun v3 => (zpV h2 a0 0 1 (.int v3)).bind fun h4 => (zgI h4 a1 0 2).bind fun v5 => (zpV h4 a0 0 2 (.int v5)).bind fun h6 => (zgI h6 a1 0 3).bind fun v7 => (zpV h6 a0 0 3 (.int v7)).bind fun h8 => (zgI h8 a1 0 4).bind fun v9 => (zpV h8 a0 0 4 (.int v9)).bind fun h10 => (zgI h10 a1 0 5).bind fun v11 => (zpZ h10 a0 0 5 v11).bind fun h12 => (zgR h12 a1 0 6).bind fun r13 => (zgR h12 a0 0 6).bind fun r14 => (zcpI h12 r13 (0 : Int32) r14 (0 : Int32) (12 : Int32)).bind fun h15 => (zgR h15 a1 0 7).bind fun r16 => (zgR h15 a0 0 7).bind fun r17 => (zcpI h15 r16 (0 : Int32) r17 (0 : Int32) (4 : Int32)).bind fun h18 => (zgR h18 a1 0 8).bind fun r19 => (zgR h18 a0 0 8).bind fun r20 => (zcpI h18 r19 (0 : Int32) r20 (0 : Int32) (24 : Int32)).bind fun h21 => some h21
set_option maxHeartbeats 4000000 in
set_option maxRecDepth 100000 in
theorem m_X0_copyFrom (l : Launch) (D : va_G) (tc : Nat → ClassId) (ro : Nat → Nat) (b0 : Nat) {a0 : Nat} {a1 : Nat} {hp : zHp} {sz : Nat} {r : zHp} (h : f_X0_copyFrom a0 a1 hp = some r) : zis hp a0 0 = some () ∧ zM l yX0_copyFrom cX0_copyFrom 2 none 1 0 0 [.ref a0, .ref a1] D tc ro b0 hp sz ((zoV sz) r).1 ((zoV sz) r).2.1 ((zoV sz) r).2.2 := by
  refine ⟨?_, z_start (o := (zoV sz)) (lv := [(0, .ref a0), (1, .ref a1)]) h (by decide +kernel) RX0 rfl rfl (Nat.le_of_ble_eq_true rfl) (fun P C => ?_)⟩
  · unfold f_X0_copyFrom at h
    cases hc : zis hp a0 0 with
    | none => rw [hc] at h; cases h
    | some u => rfl
  unfold f_X0_copyFrom
  refine z_is ?_
  refine z_aload_n C dX0_copyFrom_0 0 rfl ?_
  refine z_aload_n C dX0_copyFrom_1 1 rfl ?_
  refine z_getI C zf_X0_21 dX0_copyFrom_2 (fun v1 => ?_)
  refine z_putI C zp_X0_21 dX0_copyFrom_5 (fun h2 => ?_)
  refine z_aload_n C dX0_copyFrom_8 0 rfl ?_
  refine z_aload_n C dX0_copyFrom_9 1 rfl ?_
  refine z_getI C zf_X0_25 dX0_copyFrom_10 (fun v3 => ?_)
  refine z_putI C zp_X0_25 dX0_copyFrom_13 (fun h4 => ?_)
  refine z_aload_n C dX0_copyFrom_16 0 rfl ?_
  refine z_aload_n C dX0_copyFrom_17 1 rfl ?_
  refine z_getI C zf_X0_28 dX0_copyFrom_18 (fun v5 => ?_)
  refine z_putI C zp_X0_28 dX0_copyFrom_21 (fun h6 => ?_)
  refine z_aload_n C dX0_copyFrom_24 0 rfl ?_
  refine z_aload_n C dX0_copyFrom_25 1 rfl ?_
  refine z_getI C zf_X0_35 dX0_copyFrom_26 (fun v7 => ?_)
  refine z_putI C zp_X0_35 dX0_copyFrom_29 (fun h8 => ?_)
  refine z_aload_n C dX0_copyFrom_32 0 rfl ?_
  refine z_aload_n C dX0_copyFrom_33 1 rfl ?_
  refine z_getI C zf_X0_38 dX0_copyFrom_34 (fun v9 => ?_)
  refine z_putI C zp_X0_38 dX0_copyFrom_37 (fun h10 => ?_)
  refine z_aload_n C dX0_copyFrom_40 0 rfl ?_
  refine z_aload_n C dX0_copyFrom_41 1 rfl ?_
  refine z_getI C zf_X0_41 dX0_copyFrom_42 (fun v11 => ?_)
  refine z_putZ C zp_X0_41 dX0_copyFrom_45 (fun h12 => ?_)
  refine z_aload_n C dX0_copyFrom_48 1 rfl ?_
  refine z_getR C zf_X0_9 dX0_copyFrom_49 (fun r13 => ?_)
  refine z_iconst C dX0_copyFrom_52 zi_0 ?_
  refine z_aload_n C dX0_copyFrom_53 0 rfl ?_
  refine z_getR C zf_X0_9 dX0_copyFrom_54 (fun r14 => ?_)
  refine z_iconst C dX0_copyFrom_57 zi_0 ?_
  refine z_bipush C dX0_copyFrom_58 zbi_12 ?_
  refine z_copyI C zy_X0_45 dX0_copyFrom_60 (Nat.le_of_ble_eq_true rfl) (by decide) (fun h15 => ?_)
  refine z_aload_n C dX0_copyFrom_63 1 rfl ?_
  refine z_getR C zf_X0_15 dX0_copyFrom_64 (fun r16 => ?_)
  refine z_iconst C dX0_copyFrom_67 zi_0 ?_
  refine z_aload_n C dX0_copyFrom_68 0 rfl ?_
  refine z_getR C zf_X0_15 dX0_copyFrom_69 (fun r17 => ?_)
  refine z_iconst C dX0_copyFrom_72 zi_0 ?_
  refine z_iconst C dX0_copyFrom_73 zi_4 ?_
  refine z_copyI C zy_X0_45 dX0_copyFrom_74 (Nat.le_of_ble_eq_true rfl) (by decide) (fun h18 => ?_)
  refine z_aload_n C dX0_copyFrom_77 1 rfl ?_
  refine z_getR C zf_X0_18 dX0_copyFrom_78 (fun r19 => ?_)
  refine z_iconst C dX0_copyFrom_81 zi_0 ?_
  refine z_aload_n C dX0_copyFrom_82 0 rfl ?_
  refine z_getR C zf_X0_18 dX0_copyFrom_83 (fun r20 => ?_)
  refine z_iconst C dX0_copyFrom_86 zi_0 ?_
  refine z_bipush C dX0_copyFrom_87 zbi_24 ?_
  refine z_copyI C zy_X0_45 dX0_copyFrom_89 (Nat.le_of_ble_eq_true rfl) (by decide) (fun h21 => ?_)
  exact z_return C dX0_copyFrom_92
noncomputable def f_X0_isAtTable (a0 : Nat) (hp : zHp) : Option Int32 :=
  (zis hp a0 0).bind fun _ => (zgI hp a0 0 0).bind fun v1 => if v1 < 0 then (some (0 : Int32)) else some (1 : Int32)
set_option maxHeartbeats 4000000 in
set_option maxRecDepth 100000 in
theorem m_X0_isAtTable (l : Launch) (D : va_G) (tc : Nat → ClassId) (ro : Nat → Nat) (b0 : Nat) {a0 : Nat} {hp : zHp} {sz : Nat} {r : Int32} (h : f_X0_isAtTable a0 hp = some r) : zis hp a0 0 = some () ∧ zM l yX0_isAtTable cX0_isAtTable 1 (some .boolean) 1 0 0 [.ref a0] D tc ro b0 hp sz ((zoP sz hp) r).1 ((zoP sz hp) r).2.1 ((zoP sz hp) r).2.2 := by
  refine ⟨?_, z_start (o := (zoP sz hp)) (lv := [(0, .ref a0)]) h (by decide +kernel) RX0 rfl rfl (Nat.le_of_ble_eq_true rfl) (fun P C => ?_)⟩
  · unfold f_X0_isAtTable at h
    cases hc : zis hp a0 0 with
    | none => rw [hc] at h; cases h
    | some u => rfl
  unfold f_X0_isAtTable
  refine z_is ?_
  refine z_aload_n C dX0_isAtTable_0 0 rfl ?_
  refine z_getI C zf_X0_21 dX0_isAtTable_1 (fun v1 => ?_)
  refine z_if_lt C 11 dX0_isAtTable_4 (by decide) ?_ ?_
  · refine z_iconst C dX0_isAtTable_11 zi_0 ?_
    exact z_kreturnP C rfl dX0_isAtTable_12
  refine z_iconst C dX0_isAtTable_7 zi_1 ?_
  refine z_goto C 12 dX0_isAtTable_8 (by decide) ?_
  exact z_kreturnP C rfl dX0_isAtTable_12
noncomputable def f_X0_bearsGoodSeal (a0 : Nat) (hp : zHp) : Option Int32 :=
  (zis hp a0 0).bind fun _ => (f_X0_isAtTable a0 hp).bind fun v1 => if v1 = 0 then ((zgI hp a0 0 2).bind fun v2 => if 0 < v2 then ((zgR hp a0 0 6).bind fun r3 => (zgI hp a0 0 2).bind fun v4 => (zaI hp 0 r3 (v4 - (1 : Int32))).bind fun v5 => (zgI hp a0 0 1).bind fun v6 => if v5 = v6 then (some (1 : Int32)) else some (0 : Int32)) else some (0 : Int32)) else some (0 : Int32)
set_option maxHeartbeats 4000000 in
set_option maxRecDepth 100000 in
theorem m_X0_bearsGoodSeal (l : Launch) (D : va_G) (tc : Nat → ClassId) (ro : Nat → Nat) (b0 : Nat) {a0 : Nat} {hp : zHp} {sz : Nat} {r : Int32} (h : f_X0_bearsGoodSeal a0 hp = some r) : zis hp a0 0 = some () ∧ zM l yX0_bearsGoodSeal cX0_bearsGoodSeal 1 (some .boolean) 2 0 0 [.ref a0] D tc ro b0 hp sz ((zoP sz hp) r).1 ((zoP sz hp) r).2.1 ((zoP sz hp) r).2.2 := by
  refine ⟨?_, z_start (o := (zoP sz hp)) (lv := [(0, .ref a0)]) h (by decide +kernel) RX0 rfl rfl (Nat.le_of_ble_eq_true rfl) (fun P C => ?_)⟩
  · unfold f_X0_bearsGoodSeal at h
    cases hc : zis hp a0 0 with
    | none => rw [hc] at h; cases h
    | some u => rfl
  unfold f_X0_bearsGoodSeal
  refine z_is ?_
  refine z_aload_n C dX0_bearsGoodSeal_0 0 rfl ?_
  refine z_callVp C zc_X0_51 [] (fun l D tc b0 r h => m_X0_isAtTable l D tc ro b0 h) dX0_bearsGoodSeal_1 rfl rfl (Nat.le_of_ble_eq_true rfl) (by decide) (by decide) ⟨Nat.le_of_ble_eq_true rfl, Nat.le_of_ble_eq_true rfl⟩ (fun v1 => ?_)
  refine z_if_ne C 36 dX0_bearsGoodSeal_4 (by decide) ?_ ?_
  · refine z_aload_n C dX0_bearsGoodSeal_7 0 rfl ?_
    refine z_getI C zf_X0_28 dX0_bearsGoodSeal_8 (fun v2 => ?_)
    refine z_if_le C 36 dX0_bearsGoodSeal_11 (by decide) ?_ ?_
    · refine z_aload_n C dX0_bearsGoodSeal_14 0 rfl ?_
      refine z_getR C zf_X0_9 dX0_bearsGoodSeal_15 (fun r3 => ?_)
      refine z_aload_n C dX0_bearsGoodSeal_18 0 rfl ?_
      refine z_getI C zf_X0_28 dX0_bearsGoodSeal_19 (fun v4 => ?_)
      refine z_iconst C dX0_bearsGoodSeal_22 zi_1 ?_
      refine z_isub C dX0_bearsGoodSeal_23 ?_
      refine z_iaload C dX0_bearsGoodSeal_24 (fun v5 => ?_)
      refine z_aload_n C dX0_bearsGoodSeal_25 0 rfl ?_
      refine z_getI C zf_X0_25 dX0_bearsGoodSeal_26 (fun v6 => ?_)
      refine z_icmp_ne C 36 dX0_bearsGoodSeal_29 (by decide) ?_ ?_
      · refine z_iconst C dX0_bearsGoodSeal_32 zi_1 ?_
        refine z_goto C 37 dX0_bearsGoodSeal_33 (by decide) ?_
        exact z_kreturnP C rfl dX0_bearsGoodSeal_37
      refine z_iconst C dX0_bearsGoodSeal_36 zi_0 ?_
      exact z_kreturnP C rfl dX0_bearsGoodSeal_37
    refine z_iconst C dX0_bearsGoodSeal_36 zi_0 ?_
    exact z_kreturnP C rfl dX0_bearsGoodSeal_37
  refine z_iconst C dX0_bearsGoodSeal_36 zi_0 ?_
  exact z_kreturnP C rfl dX0_bearsGoodSeal_37
noncomputable def f_X0_openOn (a0 : Nat) (x1 : Int32) (hp : zHp) : Option (Int32 × zHp) :=
  (zis hp a0 0).bind fun _ => (zgI hp a0 0 1).bind fun v1 => (zpV hp a0 0 1 (.int (0 : Int32))).bind fun h2 => (zpV h2 a0 0 0 (.int x1)).bind fun h3 => some (v1, h3)
set_option maxHeartbeats 4000000 in
set_option maxRecDepth 100000 in
theorem m_X0_openOn (l : Launch) (D : va_G) (tc : Nat → ClassId) (ro : Nat → Nat) (b0 : Nat) {a0 : Nat} {x1 : Int32} {hp : zHp} {sz : Nat} {r : (Int32 × zHp)} (h : f_X0_openOn a0 x1 hp = some r) : zis hp a0 0 = some () ∧ zM l yX0_openOn cX0_openOn 3 (some .int) 1 0 0 [.ref a0, .int x1] D tc ro b0 hp sz ((zoI sz) r).1 ((zoI sz) r).2.1 ((zoI sz) r).2.2 := by
  refine ⟨?_, z_start (o := (zoI sz)) (lv := [(0, .ref a0), (1, .int x1)]) h (by decide +kernel) RX0 rfl rfl (Nat.le_of_ble_eq_true rfl) (fun P C => ?_)⟩
  · unfold f_X0_openOn at h
    cases hc : zis hp a0 0 with
    | none => rw [hc] at h; cases h
    | some u => rfl
  unfold f_X0_openOn
  refine z_is ?_
  refine z_aload_n C dX0_openOn_0 0 rfl ?_
  refine z_getI C zf_X0_25 dX0_openOn_1 (fun v1 => ?_)
  refine z_istore_n (lv' := [(0, .ref a0), (1, .int x1), (2, .int v1)]) C dX0_openOn_4 (by decide) rfl ?_
  refine z_aload_n C dX0_openOn_5 0 rfl ?_
  refine z_iconst C dX0_openOn_6 zi_0 ?_
  refine z_putI C zp_X0_25 dX0_openOn_7 (fun h2 => ?_)
  refine z_aload_n C dX0_openOn_10 0 rfl ?_
  refine z_iload_n C dX0_openOn_11 1 rfl ?_
  refine z_putI C zp_X0_21 dX0_openOn_12 (fun h3 => ?_)
  refine z_iload_n C dX0_openOn_15 2 rfl ?_
  exact z_ireturn C dX0_openOn_16
noncomputable def f_X0_hasCount (a0 : Nat) (x1 : Int32) (hp : zHp) : Option Int32 :=
  (zis hp a0 0).bind fun _ => if x1 < 0 then (some (0 : Int32)) else (zgI hp a0 0 3).bind fun v1 => if x1 < v1 then (some (1 : Int32)) else some (0 : Int32)
set_option maxHeartbeats 4000000 in
set_option maxRecDepth 100000 in
theorem m_X0_hasCount (l : Launch) (D : va_G) (tc : Nat → ClassId) (ro : Nat → Nat) (b0 : Nat) {a0 : Nat} {x1 : Int32} {hp : zHp} {sz : Nat} {r : Int32} (h : f_X0_hasCount a0 x1 hp = some r) : zis hp a0 0 = some () ∧ zM l yX0_hasCount cX0_hasCount 2 (some .boolean) 1 0 0 [.ref a0, .int x1] D tc ro b0 hp sz ((zoP sz hp) r).1 ((zoP sz hp) r).2.1 ((zoP sz hp) r).2.2 := by
  refine ⟨?_, z_start (o := (zoP sz hp)) (lv := [(0, .ref a0), (1, .int x1)]) h (by decide +kernel) RX0 rfl rfl (Nat.le_of_ble_eq_true rfl) (fun P C => ?_)⟩
  · unfold f_X0_hasCount at h
    cases hc : zis hp a0 0 with
    | none => rw [hc] at h; cases h
    | some u => rfl
  unfold f_X0_hasCount
  refine z_is ?_
  refine z_iload_n C dX0_hasCount_0 1 rfl ?_
  refine z_if_lt C 16 dX0_hasCount_1 (by decide) ?_ ?_
  · refine z_iconst C dX0_hasCount_16 zi_0 ?_
    exact z_kreturnP C rfl dX0_hasCount_17
  refine z_iload_n C dX0_hasCount_4 1 rfl ?_
  refine z_aload_n C dX0_hasCount_5 0 rfl ?_
  refine z_getI C zf_X0_35 dX0_hasCount_6 (fun v1 => ?_)
  refine z_icmp_ge C 16 dX0_hasCount_9 (by decide) ?_ ?_
  · refine z_iconst C dX0_hasCount_12 zi_1 ?_
    refine z_goto C 17 dX0_hasCount_13 (by decide) ?_
    exact z_kreturnP C rfl dX0_hasCount_17
  refine z_iconst C dX0_hasCount_16 zi_0 ?_
  exact z_kreturnP C rfl dX0_hasCount_17
noncomputable def b_X0_wasCountedAt_2 (k20 : Option Int32) (k28 : Option Int32) (a0 : Nat) (x1 : Int32) (hp : zHp) (rec : Int32 → Option Int32) (x2 : Int32) : Option Int32 :=
  (zgI hp a0 0 3).bind fun v1 => if x2 < v1 then ((zgR hp a0 0 7).bind fun r2 => (zaI hp 0 r2 x2).bind fun v3 => if v3 = x1 then (k20) else zlet (x2 + (1 : Int32)) fun v4 => rec v4) else k28
noncomputable def l_X0_wasCountedAt_2 (k20 : Option Int32) (k28 : Option Int32) (a0 : Nat) (x1 : Int32) (hp : zHp) (n : Nat) : Int32 → Option Int32 :=
  Nat.rec (motive := fun _ => Int32 → Option Int32) (fun _ => none) (fun _ rec => b_X0_wasCountedAt_2 k20 k28 a0 x1 hp rec) n
theorem l_X0_wasCountedAt_2_s (k20 : Option Int32) (k28 : Option Int32) (a0 : Nat) (x1 : Int32) (hp : zHp) (n : Nat) (x2 : Int32) : l_X0_wasCountedAt_2 k20 k28 a0 x1 hp (n + 1) x2 = b_X0_wasCountedAt_2 k20 k28 a0 x1 hp (l_X0_wasCountedAt_2 k20 k28 a0 x1 hp n) x2 := rfl
set_option maxHeartbeats 4000000 in
set_option maxRecDepth 100000 in
theorem wl_X0_wasCountedAt_2 {P : zX} {ro : Nat → Nat} {sz : Nat} (C : zC P cX0_wasCountedAt RX0 (some .boolean) 1 0 0 3 ro) {a0 : Nat} {x1 : Int32} {hp : zHp} {k20 : Option Int32} (hk20 : zG P (zoP sz hp) (k20) 20 [] [] hp sz 0 0) {k28 : Option Int32} (hk28 : zG P (zoP sz hp) (k28) 28 [] [] hp sz 0 0) : ∀ (n : Nat) (x2 : Int32), zG P (zoP sz hp) (l_X0_wasCountedAt_2 k20 k28 a0 x1 hp n x2) 2 [(0, .ref a0), (1, .int x1), (2, .int x2)] [] hp sz 0 0 := by
  intro n
  induction n with
  | zero =>
    intro x2
    show zG P (zoP sz hp) none _ _ _ _ _ _ _
    exact z_none
  | succ n ih =>
    intro x2
    show zG P (zoP sz hp) (b_X0_wasCountedAt_2 k20 k28 a0 x1 hp (l_X0_wasCountedAt_2 k20 k28 a0 x1 hp n) x2) _ _ _ _ _ _ _
    unfold b_X0_wasCountedAt_2
    refine z_iload_n C dX0_wasCountedAt_2 2 rfl ?_
    refine z_aload_n C dX0_wasCountedAt_3 0 rfl ?_
    refine z_getI C zf_X0_35 dX0_wasCountedAt_4 (fun v1 => ?_)
    refine z_icmp_ge C 28 dX0_wasCountedAt_7 (by decide) ?_ ?_
    · refine z_aload_n C dX0_wasCountedAt_10 0 rfl ?_
      refine z_getR C zf_X0_15 dX0_wasCountedAt_11 (fun r2 => ?_)
      refine z_iload_n C dX0_wasCountedAt_14 2 rfl ?_
      refine z_iaload C dX0_wasCountedAt_15 (fun v3 => ?_)
      refine z_iload_n C dX0_wasCountedAt_16 1 rfl ?_
      refine z_icmp_ne C 22 dX0_wasCountedAt_17 (by decide) ?_ ?_
      · exact z_sub [] rfl (hk20)
      refine z_iincL C 2 (fun v4 => [(0, .ref a0), (1, .int x1), (2, .int v4)]) dX0_wasCountedAt_22 rfl zi_1 (by decide) (fun _ => rfl) (fun v4 => ?_)
      refine z_goto C 2 dX0_wasCountedAt_25 (by decide) ?_
      exact ih _
    exact z_sub [] rfl (hk28)
noncomputable def f_X0_wasCountedAt (a0 : Nat) (x1 : Int32) (hp : zHp) : Option Int32 :=
  (zis hp a0 0).bind fun _ => l_X0_wasCountedAt_2 (some (1 : Int32)) (some (0 : Int32)) a0 x1 hp 1000000 (0 : Int32)
set_option maxHeartbeats 4000000 in
set_option maxRecDepth 100000 in
theorem m_X0_wasCountedAt (l : Launch) (D : va_G) (tc : Nat → ClassId) (ro : Nat → Nat) (b0 : Nat) {a0 : Nat} {x1 : Int32} {hp : zHp} {sz : Nat} {r : Int32} (h : f_X0_wasCountedAt a0 x1 hp = some r) : zis hp a0 0 = some () ∧ zM l yX0_wasCountedAt cX0_wasCountedAt 3 (some .boolean) 1 0 0 [.ref a0, .int x1] D tc ro b0 hp sz ((zoP sz hp) r).1 ((zoP sz hp) r).2.1 ((zoP sz hp) r).2.2 := by
  refine ⟨?_, z_start (o := (zoP sz hp)) (lv := [(0, .ref a0), (1, .int x1)]) h (by decide +kernel) RX0 rfl rfl (Nat.le_of_ble_eq_true rfl) (fun P C => ?_)⟩
  · unfold f_X0_wasCountedAt at h
    cases hc : zis hp a0 0 with
    | none => rw [hc] at h; cases h
    | some u => rfl
  unfold f_X0_wasCountedAt
  refine z_is ?_
  refine z_iconst C dX0_wasCountedAt_0 zi_0 ?_
  refine z_istore_n (lv' := [(0, .ref a0), (1, .int x1), (2, .int (0 : Int32))]) C dX0_wasCountedAt_1 (by decide) rfl ?_
  refine wl_X0_wasCountedAt_2 C ?_ ?_ _ _
  · refine z_iconst C dX0_wasCountedAt_20 zi_1 ?_
    exact z_kreturnP C rfl dX0_wasCountedAt_21
  refine z_iconst C dX0_wasCountedAt_28 zi_0 ?_
  exact z_kreturnP C rfl dX0_wasCountedAt_29
noncomputable def f_X0_foundBy (a0 : Nat) (x1 : Int32) (x2 : Int32) (hp : zHp) : Option Int32 :=
  (zis hp a0 0).bind fun _ => (zgR hp a0 0 8).bind fun r1 => (zaI hp 0 r1 ((x1 * (6 : Int32)) + x2)).bind fun v2 => some v2
set_option maxHeartbeats 4000000 in
set_option maxRecDepth 100000 in
theorem m_X0_foundBy (l : Launch) (D : va_G) (tc : Nat → ClassId) (ro : Nat → Nat) (b0 : Nat) {a0 : Nat} {x1 : Int32} {x2 : Int32} {hp : zHp} {sz : Nat} {r : Int32} (h : f_X0_foundBy a0 x1 x2 hp = some r) : zis hp a0 0 = some () ∧ zM l yX0_foundBy cX0_foundBy 3 (some .int) 1 0 0 [.ref a0, .int x1, .int x2] D tc ro b0 hp sz ((zoP sz hp) r).1 ((zoP sz hp) r).2.1 ((zoP sz hp) r).2.2 := by
  refine ⟨?_, z_start (o := (zoP sz hp)) (lv := [(0, .ref a0), (1, .int x1), (2, .int x2)]) h (by decide +kernel) RX0 rfl rfl (Nat.le_of_ble_eq_true rfl) (fun P C => ?_)⟩
  · unfold f_X0_foundBy at h
    cases hc : zis hp a0 0 with
    | none => rw [hc] at h; cases h
    | some u => rfl
  unfold f_X0_foundBy
  refine z_is ?_
  refine z_aload_n C dX0_foundBy_0 0 rfl ?_
  refine z_getR C zf_X0_18 dX0_foundBy_1 (fun r1 => ?_)
  refine z_iload_n C dX0_foundBy_4 1 rfl ?_
  refine z_bipush C dX0_foundBy_5 zbi_6 ?_
  refine z_imul C dX0_foundBy_7 ?_
  refine z_iload_n C dX0_foundBy_8 2 rfl ?_
  refine z_iadd C dX0_foundBy_9 ?_
  refine z_iaload C dX0_foundBy_10 (fun v2 => ?_)
  exact z_ireturnP C dX0_foundBy_11
noncomputable def f_X0_foundValidly (a0 : Nat) (x1 : Int32) (hp : zHp) : Option Int32 :=
  (zis hp a0 0).bind fun _ => (zgI hp a0 0 4).bind fun v1 => (f_X0_hasCount a0 v1 hp).bind fun v2 => if v2 = 0 then (some (0 : Int32)) else (zgI hp a0 0 4).bind fun v3 => (f_X0_foundBy a0 v3 x1 hp).bind fun v4 => some v4
set_option maxHeartbeats 4000000 in
set_option maxRecDepth 100000 in
theorem m_X0_foundValidly (l : Launch) (D : va_G) (tc : Nat → ClassId) (ro : Nat → Nat) (b0 : Nat) {a0 : Nat} {x1 : Int32} {hp : zHp} {sz : Nat} {r : Int32} (h : f_X0_foundValidly a0 x1 hp = some r) : zis hp a0 0 = some () ∧ zM l yX0_foundValidly cX0_foundValidly 2 (some .int) 2 0 0 [.ref a0, .int x1] D tc ro b0 hp sz ((zoP sz hp) r).1 ((zoP sz hp) r).2.1 ((zoP sz hp) r).2.2 := by
  refine ⟨?_, z_start (o := (zoP sz hp)) (lv := [(0, .ref a0), (1, .int x1)]) h (by decide +kernel) RX0 rfl rfl (Nat.le_of_ble_eq_true rfl) (fun P C => ?_)⟩
  · unfold f_X0_foundValidly at h
    cases hc : zis hp a0 0 with
    | none => rw [hc] at h; cases h
    | some u => rfl
  unfold f_X0_foundValidly
  refine z_is ?_
  refine z_aload_n C dX0_foundValidly_0 0 rfl ?_
  refine z_aload_n C dX0_foundValidly_1 0 rfl ?_
  refine z_getI C zf_X0_38 dX0_foundValidly_2 (fun v1 => ?_)
  refine z_callVp C zc_X0_55 [.int v1] (fun l D tc b0 r h => m_X0_hasCount l D tc ro b0 h) dX0_foundValidly_5 rfl rfl (Nat.le_of_ble_eq_true rfl) (by decide) (by decide) ⟨Nat.le_of_ble_eq_true rfl, Nat.le_of_ble_eq_true rfl⟩ (fun v2 => ?_)
  refine z_if_eq C 23 dX0_foundValidly_8 (by decide) ?_ ?_
  · refine z_iconst C dX0_foundValidly_23 zi_0 ?_
    exact z_ireturnP C dX0_foundValidly_24
  refine z_aload_n C dX0_foundValidly_11 0 rfl ?_
  refine z_aload_n C dX0_foundValidly_12 0 rfl ?_
  refine z_getI C zf_X0_38 dX0_foundValidly_13 (fun v3 => ?_)
  refine z_iload_n C dX0_foundValidly_16 1 rfl ?_
  refine z_callVp C zc_X0_59 [.int v3, .int x1] (fun l D tc b0 r h => m_X0_foundBy l D tc ro b0 h) dX0_foundValidly_17 rfl rfl (Nat.le_of_ble_eq_true rfl) (by decide) (by decide) ⟨Nat.le_of_ble_eq_true rfl, Nat.le_of_ble_eq_true rfl⟩ (fun v4 => ?_)
  refine z_goto C 24 dX0_foundValidly_20 (by decide) ?_
  exact z_ireturnP C dX0_foundValidly_24
noncomputable def b_X0_agree_3 (k26 : Option Int32) (k34 : Option Int32) (a0 : Nat) (x1 : Int32) (x2 : Int32) (x3 : Int32) (hp : zHp) (rec : Int32 → Option Int32) (x4 : Int32) : Option Int32 :=
  if x4 < x3 then ((f_X0_foundBy a0 x1 x4 hp).bind fun v1 => (f_X0_foundBy a0 x2 x4 hp).bind fun v2 => if v1 = v2 then (zlet (x4 + (1 : Int32)) fun v3 => rec v3) else k26) else k34
noncomputable def l_X0_agree_3 (k26 : Option Int32) (k34 : Option Int32) (a0 : Nat) (x1 : Int32) (x2 : Int32) (x3 : Int32) (hp : zHp) (n : Nat) : Int32 → Option Int32 :=
  Nat.rec (motive := fun _ => Int32 → Option Int32) (fun _ => none) (fun _ rec => b_X0_agree_3 k26 k34 a0 x1 x2 x3 hp rec) n
theorem l_X0_agree_3_s (k26 : Option Int32) (k34 : Option Int32) (a0 : Nat) (x1 : Int32) (x2 : Int32) (x3 : Int32) (hp : zHp) (n : Nat) (x4 : Int32) : l_X0_agree_3 k26 k34 a0 x1 x2 x3 hp (n + 1) x4 = b_X0_agree_3 k26 k34 a0 x1 x2 x3 hp (l_X0_agree_3 k26 k34 a0 x1 x2 x3 hp n) x4 := rfl
set_option maxHeartbeats 4000000 in
set_option maxRecDepth 100000 in
theorem wl_X0_agree_3 {P : zX} {ro : Nat → Nat} {sz : Nat} (C : zC P cX0_agree RX0 (some .boolean) 2 0 0 5 ro) {a0 : Nat} {x1 : Int32} {x2 : Int32} {x3 : Int32} {hp : zHp} {k26 : Option Int32} (hk26 : zG P (zoP sz hp) (k26) 26 [] [] hp sz 0 0) {k34 : Option Int32} (hk34 : zG P (zoP sz hp) (k34) 34 [(0, .ref a0), (1, .int x1), (2, .int x2)] [] hp sz 0 0) : ∀ (n : Nat) (x4 : Int32), zG P (zoP sz hp) (l_X0_agree_3 k26 k34 a0 x1 x2 x3 hp n x4) 3 [(0, .ref a0), (1, .int x1), (2, .int x2), (3, .int x3), (4, .int x4)] [] hp sz 0 0 := by
  intro n
  induction n with
  | zero =>
    intro x4
    show zG P (zoP sz hp) none _ _ _ _ _ _ _
    exact z_none
  | succ n ih =>
    intro x4
    show zG P (zoP sz hp) (b_X0_agree_3 k26 k34 a0 x1 x2 x3 hp (l_X0_agree_3 k26 k34 a0 x1 x2 x3 hp n) x4) _ _ _ _ _ _ _
    unfold b_X0_agree_3
    refine z_iload C dX0_agree_3 4 rfl ?_
    refine z_iload_n C dX0_agree_5 3 rfl ?_
    refine z_icmp_ge C 34 dX0_agree_6 (by decide) ?_ ?_
    · refine z_aload_n C dX0_agree_9 0 rfl ?_
      refine z_iload_n C dX0_agree_10 1 rfl ?_
      refine z_iload C dX0_agree_11 4 rfl ?_
      refine z_callVp C zc_X0_59 [.int x1, .int x4] (fun l D tc b0 r h => m_X0_foundBy l D tc ro b0 h) dX0_agree_13 rfl rfl (Nat.le_of_ble_eq_true rfl) (by decide) (by decide) ⟨Nat.le_of_ble_eq_true rfl, Nat.le_of_ble_eq_true rfl⟩ (fun v1 => ?_)
      refine z_aload_n C dX0_agree_16 0 rfl ?_
      refine z_iload_n C dX0_agree_17 2 rfl ?_
      refine z_iload C dX0_agree_18 4 rfl ?_
      refine z_callVp C zc_X0_59 [.int x2, .int x4] (fun l D tc b0 r h => m_X0_foundBy l D tc ro b0 h) dX0_agree_20 rfl rfl (Nat.le_of_ble_eq_true rfl) (by decide) (by decide) ⟨Nat.le_of_ble_eq_true rfl, Nat.le_of_ble_eq_true rfl⟩ (fun v2 => ?_)
      refine z_icmp_eq C 28 dX0_agree_23 (by decide) ?_ ?_
      · refine z_iincL C 4 (fun v3 => [(0, .ref a0), (1, .int x1), (2, .int x2), (3, .int x3), (4, .int v3)]) dX0_agree_28 rfl zi_1 (by decide) (fun _ => rfl) (fun v3 => ?_)
        refine z_goto C 3 dX0_agree_31 (by decide) ?_
        exact ih _
      exact z_sub [] rfl (hk26)
    exact z_sub [0, 1, 2] rfl (hk34)
noncomputable def f_X0_agree (a0 : Nat) (x1 : Int32) (x2 : Int32) (x3 : Int32) (hp : zHp) : Option Int32 :=
  (zis hp a0 0).bind fun _ => l_X0_agree_3 (some (0 : Int32)) ((zgR hp a0 0 7).bind fun r4 => (zaI hp 0 r4 x1).bind fun v5 => (zgR hp a0 0 7).bind fun r6 => (zaI hp 0 r6 x2).bind fun v7 => if v5 = v7 then (some (0 : Int32)) else some (1 : Int32)) a0 x1 x2 x3 hp 1000000 (0 : Int32)
set_option maxHeartbeats 4000000 in
set_option maxRecDepth 100000 in
theorem m_X0_agree (l : Launch) (D : va_G) (tc : Nat → ClassId) (ro : Nat → Nat) (b0 : Nat) {a0 : Nat} {x1 : Int32} {x2 : Int32} {x3 : Int32} {hp : zHp} {sz : Nat} {r : Int32} (h : f_X0_agree a0 x1 x2 x3 hp = some r) : zis hp a0 0 = some () ∧ zM l yX0_agree cX0_agree 5 (some .boolean) 2 0 0 [.ref a0, .int x1, .int x2, .int x3] D tc ro b0 hp sz ((zoP sz hp) r).1 ((zoP sz hp) r).2.1 ((zoP sz hp) r).2.2 := by
  refine ⟨?_, z_start (o := (zoP sz hp)) (lv := [(0, .ref a0), (1, .int x1), (2, .int x2), (3, .int x3)]) h (by decide +kernel) RX0 rfl rfl (Nat.le_of_ble_eq_true rfl) (fun P C => ?_)⟩
  · unfold f_X0_agree at h
    cases hc : zis hp a0 0 with
    | none => rw [hc] at h; cases h
    | some u => rfl
  unfold f_X0_agree
  refine z_is ?_
  refine z_iconst C dX0_agree_0 zi_0 ?_
  refine z_istore (lv' := [(0, .ref a0), (1, .int x1), (2, .int x2), (3, .int x3), (4, .int (0 : Int32))]) C dX0_agree_1 (by decide) rfl ?_
  refine wl_X0_agree_3 C ?_ ?_ _ _
  · refine z_iconst C dX0_agree_26 zi_0 ?_
    exact z_kreturnP C rfl dX0_agree_27
  refine z_aload_n C dX0_agree_34 0 rfl ?_
  refine z_getR C zf_X0_15 dX0_agree_35 (fun r4 => ?_)
  refine z_iload_n C dX0_agree_38 1 rfl ?_
  refine z_iaload C dX0_agree_39 (fun v5 => ?_)
  refine z_aload_n C dX0_agree_40 0 rfl ?_
  refine z_getR C zf_X0_15 dX0_agree_41 (fun r6 => ?_)
  refine z_iload_n C dX0_agree_44 2 rfl ?_
  refine z_iaload C dX0_agree_45 (fun v7 => ?_)
  refine z_icmp_eq C 53 dX0_agree_46 (by decide) ?_ ?_
  · refine z_iconst C dX0_agree_53 zi_0 ?_
    exact z_kreturnP C rfl dX0_agree_54
  refine z_iconst C dX0_agree_49 zi_1 ?_
  refine z_goto C 54 dX0_agree_50 (by decide) ?_
  exact z_kreturnP C rfl dX0_agree_54
noncomputable def b_X0_isRepeatedAfter_4 (k22 : Option Int32) (k30 : Option Int32) (a0 : Nat) (x1 : Int32) (x2 : Int32) (hp : zHp) (rec : Int32 → Option Int32) (x3 : Int32) : Option Int32 :=
  (zgI hp a0 0 3).bind fun v2 => if x3 < v2 then ((f_X0_agree a0 x1 x3 x2 hp).bind fun v3 => if v3 = 0 then (zlet (x3 + (1 : Int32)) fun v4 => rec v4) else k22) else k30
noncomputable def l_X0_isRepeatedAfter_4 (k22 : Option Int32) (k30 : Option Int32) (a0 : Nat) (x1 : Int32) (x2 : Int32) (hp : zHp) (n : Nat) : Int32 → Option Int32 :=
  Nat.rec (motive := fun _ => Int32 → Option Int32) (fun _ => none) (fun _ rec => b_X0_isRepeatedAfter_4 k22 k30 a0 x1 x2 hp rec) n
theorem l_X0_isRepeatedAfter_4_s (k22 : Option Int32) (k30 : Option Int32) (a0 : Nat) (x1 : Int32) (x2 : Int32) (hp : zHp) (n : Nat) (x3 : Int32) : l_X0_isRepeatedAfter_4 k22 k30 a0 x1 x2 hp (n + 1) x3 = b_X0_isRepeatedAfter_4 k22 k30 a0 x1 x2 hp (l_X0_isRepeatedAfter_4 k22 k30 a0 x1 x2 hp n) x3 := rfl
set_option maxHeartbeats 4000000 in
set_option maxRecDepth 100000 in
theorem wl_X0_isRepeatedAfter_4 {P : zX} {ro : Nat → Nat} {sz : Nat} (C : zC P cX0_isRepeatedAfter RX0 (some .boolean) 3 0 0 4 ro) {a0 : Nat} {x1 : Int32} {x2 : Int32} {hp : zHp} {k22 : Option Int32} (hk22 : zG P (zoP sz hp) (k22) 22 [] [] hp sz 0 0) {k30 : Option Int32} (hk30 : zG P (zoP sz hp) (k30) 30 [] [] hp sz 0 0) : ∀ (n : Nat) (x3 : Int32), zG P (zoP sz hp) (l_X0_isRepeatedAfter_4 k22 k30 a0 x1 x2 hp n x3) 4 [(0, .ref a0), (1, .int x1), (2, .int x2), (3, .int x3)] [] hp sz 0 0 := by
  intro n
  induction n with
  | zero =>
    intro x3
    show zG P (zoP sz hp) none _ _ _ _ _ _ _
    exact z_none
  | succ n ih =>
    intro x3
    show zG P (zoP sz hp) (b_X0_isRepeatedAfter_4 k22 k30 a0 x1 x2 hp (l_X0_isRepeatedAfter_4 k22 k30 a0 x1 x2 hp n) x3) _ _ _ _ _ _ _
    unfold b_X0_isRepeatedAfter_4
    refine z_iload_n C dX0_isRepeatedAfter_4 3 rfl ?_
    refine z_aload_n C dX0_isRepeatedAfter_5 0 rfl ?_
    refine z_getI C zf_X0_35 dX0_isRepeatedAfter_6 (fun v2 => ?_)
    refine z_icmp_ge C 30 dX0_isRepeatedAfter_9 (by decide) ?_ ?_
    · refine z_aload_n C dX0_isRepeatedAfter_12 0 rfl ?_
      refine z_iload_n C dX0_isRepeatedAfter_13 1 rfl ?_
      refine z_iload_n C dX0_isRepeatedAfter_14 3 rfl ?_
      refine z_iload_n C dX0_isRepeatedAfter_15 2 rfl ?_
      refine z_callVp C zc_X0_67 [.int x1, .int x3, .int x2] (fun l D tc b0 r h => m_X0_agree l D tc ro b0 h) dX0_isRepeatedAfter_16 rfl rfl (Nat.le_of_ble_eq_true rfl) (by decide) (by decide) ⟨Nat.le_of_ble_eq_true rfl, Nat.le_of_ble_eq_true rfl⟩ (fun v3 => ?_)
      refine z_if_eq C 24 dX0_isRepeatedAfter_19 (by decide) ?_ ?_
      · refine z_iincL C 3 (fun v4 => [(0, .ref a0), (1, .int x1), (2, .int x2), (3, .int v4)]) dX0_isRepeatedAfter_24 rfl zi_1 (by decide) (fun _ => rfl) (fun v4 => ?_)
        refine z_goto C 4 dX0_isRepeatedAfter_27 (by decide) ?_
        exact ih _
      exact z_sub [] rfl (hk22)
    exact z_sub [] rfl (hk30)
noncomputable def f_X0_isRepeatedAfter (a0 : Nat) (x1 : Int32) (x2 : Int32) (hp : zHp) : Option Int32 :=
  (zis hp a0 0).bind fun _ => zlet (x1 + (1 : Int32)) fun v1 => l_X0_isRepeatedAfter_4 (some (1 : Int32)) (some (0 : Int32)) a0 x1 x2 hp 1000000 v1
set_option maxHeartbeats 4000000 in
set_option maxRecDepth 100000 in
theorem m_X0_isRepeatedAfter (l : Launch) (D : va_G) (tc : Nat → ClassId) (ro : Nat → Nat) (b0 : Nat) {a0 : Nat} {x1 : Int32} {x2 : Int32} {hp : zHp} {sz : Nat} {r : Int32} (h : f_X0_isRepeatedAfter a0 x1 x2 hp = some r) : zis hp a0 0 = some () ∧ zM l yX0_isRepeatedAfter cX0_isRepeatedAfter 4 (some .boolean) 3 0 0 [.ref a0, .int x1, .int x2] D tc ro b0 hp sz ((zoP sz hp) r).1 ((zoP sz hp) r).2.1 ((zoP sz hp) r).2.2 := by
  refine ⟨?_, z_start (o := (zoP sz hp)) (lv := [(0, .ref a0), (1, .int x1), (2, .int x2)]) h (by decide +kernel) RX0 rfl rfl (Nat.le_of_ble_eq_true rfl) (fun P C => ?_)⟩
  · unfold f_X0_isRepeatedAfter at h
    cases hc : zis hp a0 0 with
    | none => rw [hc] at h; cases h
    | some u => rfl
  unfold f_X0_isRepeatedAfter
  refine z_is ?_
  refine z_iload_n C dX0_isRepeatedAfter_0 1 rfl ?_
  refine z_iconst C dX0_isRepeatedAfter_1 zi_1 ?_
  refine z_iadd C dX0_isRepeatedAfter_2 ?_
  refine z_istore_nL C (fun v1 => [(0, .ref a0), (1, .int x1), (2, .int x2), (3, .int v1)]) dX0_isRepeatedAfter_3 (by decide) (fun _ => rfl) (fun v1 => ?_)
  refine wl_X0_isRepeatedAfter_4 C ?_ ?_ _ _
  · refine z_iconst C dX0_isRepeatedAfter_22 zi_1 ?_
    exact z_kreturnP C rfl dX0_isRepeatedAfter_23
  refine z_iconst C dX0_isRepeatedAfter_30 zi_0 ?_
  exact z_kreturnP C rfl dX0_isRepeatedAfter_31
noncomputable def b_X0_chooseValid_17 (k57 : zHp → Option zHp) (a0 : Nat) (x1 : Int32) (rec : Int32 → zHp → Option zHp) (x2 : Int32) (h : zHp) : Option zHp :=
  (zgI h a0 0 3).bind fun v4 => if x2 < v4 then ((zgI h a0 0 5).bind fun v5 => if v5 = 0 then ((f_X0_isRepeatedAfter a0 x2 x1 h).bind fun v6 => if v6 = 0 then (zlet (x2 + (1 : Int32)) fun v7 => rec v7 h) else (zpV h a0 0 4 (.int x2)).bind fun h8 => (zpZ h8 a0 0 5 (1 : Int32)).bind fun h9 => zlet (x2 + (1 : Int32)) fun v10 => rec v10 h9) else k57 h) else k57 h
noncomputable def l_X0_chooseValid_17 (k57 : zHp → Option zHp) (a0 : Nat) (x1 : Int32) (n : Nat) : Int32 → zHp → Option zHp :=
  Nat.rec (motive := fun _ => Int32 → zHp → Option zHp) (fun _ _ => none) (fun _ rec => b_X0_chooseValid_17 k57 a0 x1 rec) n
theorem l_X0_chooseValid_17_s (k57 : zHp → Option zHp) (a0 : Nat) (x1 : Int32) (n : Nat) (x2 : Int32) (h : zHp) : l_X0_chooseValid_17 k57 a0 x1 (n + 1) x2 h = b_X0_chooseValid_17 k57 a0 x1 (l_X0_chooseValid_17 k57 a0 x1 n) x2 h := rfl
set_option maxHeartbeats 4000000 in
set_option maxRecDepth 100000 in
theorem wl_X0_chooseValid_17 {P : zX} {ro : Nat → Nat} {sz : Nat} (C : zC P cX0_chooseValid RX0 none 4 0 0 3 ro) {a0 : Nat} {x1 : Int32} {k57 : zHp → Option zHp} (hk57 : ∀ (h : zHp), zG P (zoV sz) (k57 h) 57 [] [] h sz 0 0) : ∀ (n : Nat) (x2 : Int32) (h : zHp), zG P (zoV sz) (l_X0_chooseValid_17 k57 a0 x1 n x2 h) 17 [(0, .ref a0), (1, .int x1), (2, .int x2)] [] h sz 0 0 := by
  intro n
  induction n with
  | zero =>
    intro x2 h
    show zG P (zoV sz) none _ _ _ _ _ _ _
    exact z_none
  | succ n ih =>
    intro x2 h
    show zG P (zoV sz) (b_X0_chooseValid_17 k57 a0 x1 (l_X0_chooseValid_17 k57 a0 x1 n) x2 h) _ _ _ _ _ _ _
    unfold b_X0_chooseValid_17
    refine z_iload_n C dX0_chooseValid_17 2 rfl ?_
    refine z_aload_n C dX0_chooseValid_18 0 rfl ?_
    refine z_getI C zf_X0_35 dX0_chooseValid_19 (fun v4 => ?_)
    refine z_icmp_ge C 57 dX0_chooseValid_22 (by decide) ?_ ?_
    · refine z_aload_n C dX0_chooseValid_25 0 rfl ?_
      refine z_getI C zf_X0_41 dX0_chooseValid_26 (fun v5 => ?_)
      refine z_if_ne C 57 dX0_chooseValid_29 (by decide) ?_ ?_
      · refine z_aload_n C dX0_chooseValid_32 0 rfl ?_
        refine z_iload_n C dX0_chooseValid_33 2 rfl ?_
        refine z_iload_n C dX0_chooseValid_34 1 rfl ?_
        refine z_callVp C zc_X0_63 [.int x2, .int x1] (fun l D tc b0 r h => m_X0_isRepeatedAfter l D tc ro b0 h) dX0_chooseValid_35 rfl rfl (Nat.le_of_ble_eq_true rfl) (by decide) (by decide) ⟨Nat.le_of_ble_eq_true rfl, Nat.le_of_ble_eq_true rfl⟩ (fun v6 => ?_)
        refine z_if_eq C 51 dX0_chooseValid_38 (by decide) ?_ ?_
        · refine z_iincL C 2 (fun v7 => [(0, .ref a0), (1, .int x1), (2, .int v7)]) dX0_chooseValid_51 rfl zi_1 (by decide) (fun _ => rfl) (fun v7 => ?_)
          refine z_goto C 17 dX0_chooseValid_54 (by decide) ?_
          exact ih _ _
        refine z_aload_n C dX0_chooseValid_41 0 rfl ?_
        refine z_iload_n C dX0_chooseValid_42 2 rfl ?_
        refine z_putI C zp_X0_38 dX0_chooseValid_43 (fun h8 => ?_)
        refine z_aload_n C dX0_chooseValid_46 0 rfl ?_
        refine z_iconst C dX0_chooseValid_47 zi_1 ?_
        refine z_putZ C zp_X0_41 dX0_chooseValid_48 (fun h9 => ?_)
        refine z_iincL C 2 (fun v10 => [(0, .ref a0), (1, .int x1), (2, .int v10)]) dX0_chooseValid_51 rfl zi_1 (by decide) (fun _ => rfl) (fun v10 => ?_)
        refine z_goto C 17 dX0_chooseValid_54 (by decide) ?_
        exact ih _ _
      exact z_sub [] rfl (hk57 _)
    exact z_sub [] rfl (hk57 _)
noncomputable def f_X0_chooseValid (a0 : Nat) (x1 : Int32) (hp : zHp) : Option zHp :=
  (zis hp a0 0).bind fun _ => (zgI hp a0 0 3).bind fun v1 => (zpV hp a0 0 4 (.int (v1 - (1 : Int32)))).bind fun h2 => (zpZ h2 a0 0 5 (0 : Int32)).bind fun h3 => l_X0_chooseValid_17 (fun h11 => some h11) a0 x1 1000000 (0 : Int32) h3
set_option maxHeartbeats 4000000 in
set_option maxRecDepth 100000 in
theorem m_X0_chooseValid (l : Launch) (D : va_G) (tc : Nat → ClassId) (ro : Nat → Nat) (b0 : Nat) {a0 : Nat} {x1 : Int32} {hp : zHp} {sz : Nat} {r : zHp} (h : f_X0_chooseValid a0 x1 hp = some r) : zis hp a0 0 = some () ∧ zM l yX0_chooseValid cX0_chooseValid 3 none 4 0 0 [.ref a0, .int x1] D tc ro b0 hp sz ((zoV sz) r).1 ((zoV sz) r).2.1 ((zoV sz) r).2.2 := by
  refine ⟨?_, z_start (o := (zoV sz)) (lv := [(0, .ref a0), (1, .int x1)]) h (by decide +kernel) RX0 rfl rfl (Nat.le_of_ble_eq_true rfl) (fun P C => ?_)⟩
  · unfold f_X0_chooseValid at h
    cases hc : zis hp a0 0 with
    | none => rw [hc] at h; cases h
    | some u => rfl
  unfold f_X0_chooseValid
  refine z_is ?_
  refine z_aload_n C dX0_chooseValid_0 0 rfl ?_
  refine z_aload_n C dX0_chooseValid_1 0 rfl ?_
  refine z_getI C zf_X0_35 dX0_chooseValid_2 (fun v1 => ?_)
  refine z_iconst C dX0_chooseValid_5 zi_1 ?_
  refine z_isub C dX0_chooseValid_6 ?_
  refine z_putI C zp_X0_38 dX0_chooseValid_7 (fun h2 => ?_)
  refine z_aload_n C dX0_chooseValid_10 0 rfl ?_
  refine z_iconst C dX0_chooseValid_11 zi_0 ?_
  refine z_putZ C zp_X0_41 dX0_chooseValid_12 (fun h3 => ?_)
  refine z_iconst C dX0_chooseValid_15 zi_0 ?_
  refine z_istore_n (lv' := [(0, .ref a0), (1, .int x1), (2, .int (0 : Int32))]) C dX0_chooseValid_16 (by decide) rfl ?_
  refine wl_X0_chooseValid_17 C (fun h11 => ?_) _ _ _
  exact z_return C dX0_chooseValid_57
noncomputable def f_X5_init (mc ms : Nat) (a0 : Nat) (hp : zHp) (sz : Nat) : Option (zHp × Nat) :=
  zchk (¬ (5 : Int32) < 0 ∧ (5 : Int32).toNatClampNeg ≤ 60000 ∧ 0 + 1 ≤ mc ∧ 0 + (5 : Int32).toNatClampNeg ≤ ms) <| zlet (zup hp sz (.inl (0, (5 : Int32).toNatClampNeg, .inl (fun _ => 0)))) fun h2 => (zpV h2 a0 5 0 (.ref sz)).bind fun h3 => zchk (¬ (5 : Int32) < 0 ∧ ¬ (12 : Int32) < 0 ∧ (5 : Int32).toNatClampNeg ≤ 60000 ∧ (12 : Int32).toNatClampNeg ≤ 60000 ∧ (0 + 1) + (1 + (5 : Int32).toNatClampNeg) ≤ mc ∧ (0 + (5 : Int32).toNatClampNeg) + ((5 : Int32).toNatClampNeg + (5 : Int32).toNatClampNeg * (12 : Int32).toNatClampNeg) ≤ ms) <| zlet (zmna h3 ((sz + 1)) (5 : Int32).toNatClampNeg (12 : Int32).toNatClampNeg) fun h5 => (zpV h5 a0 5 1 (.ref (((sz + 1))))).bind fun h6 => zchk (¬ (5 : Int32) < 0 ∧ (5 : Int32).toNatClampNeg ≤ 60000 ∧ ((0 + 1) + 1 + (5 : Int32).toNatClampNeg) + 1 ≤ mc ∧ ((0 + (5 : Int32).toNatClampNeg) + (5 : Int32).toNatClampNeg + (5 : Int32).toNatClampNeg * (12 : Int32).toNatClampNeg) + (5 : Int32).toNatClampNeg ≤ ms) <| zlet (zup h6 (((sz + 1) + 1 + (5 : Int32).toNatClampNeg)) (.inl (0, (5 : Int32).toNatClampNeg, .inl (fun _ => 0)))) fun h8 => (zpV h8 a0 5 2 (.ref ((((sz + 1) + 1 + (5 : Int32).toNatClampNeg))))).bind fun h9 => zchk (¬ (6 : Int32) < 0 ∧ (6 : Int32).toNatClampNeg ≤ 60000 ∧ (((0 + 1) + 1 + (5 : Int32).toNatClampNeg) + 1) + 1 ≤ mc ∧ (((0 + (5 : Int32).toNatClampNeg) + (5 : Int32).toNatClampNeg + (5 : Int32).toNatClampNeg * (12 : Int32).toNatClampNeg) + (5 : Int32).toNatClampNeg) + (6 : Int32).toNatClampNeg ≤ ms) <| zlet (zup h9 ((((sz + 1) + 1 + (5 : Int32).toNatClampNeg) + 1)) (.inl (0, (6 : Int32).toNatClampNeg, .inl (fun _ => 0)))) fun h11 => (zpV h11 a0 5 3 (.ref (((((sz + 1) + 1 + (5 : Int32).toNatClampNeg) + 1))))).bind fun h12 => zchk (¬ (12 : Int32) < 0 ∧ (12 : Int32).toNatClampNeg ≤ 60000 ∧ ((((0 + 1) + 1 + (5 : Int32).toNatClampNeg) + 1) + 1) + 1 ≤ mc ∧ ((((0 + (5 : Int32).toNatClampNeg) + (5 : Int32).toNatClampNeg + (5 : Int32).toNatClampNeg * (12 : Int32).toNatClampNeg) + (5 : Int32).toNatClampNeg) + (6 : Int32).toNatClampNeg) + (12 : Int32).toNatClampNeg ≤ ms) <| zlet (zup h12 (((((sz + 1) + 1 + (5 : Int32).toNatClampNeg) + 1) + 1)) (.inl (0, (12 : Int32).toNatClampNeg, .inl (fun _ => 0)))) fun h14 => (zpV h14 a0 5 4 (.ref ((((((sz + 1) + 1 + (5 : Int32).toNatClampNeg) + 1) + 1))))).bind fun h15 => zchk (¬ (12 : Int32) < 0 ∧ (12 : Int32).toNatClampNeg ≤ 60000 ∧ (((((0 + 1) + 1 + (5 : Int32).toNatClampNeg) + 1) + 1) + 1) + 1 ≤ mc ∧ (((((0 + (5 : Int32).toNatClampNeg) + (5 : Int32).toNatClampNeg + (5 : Int32).toNatClampNeg * (12 : Int32).toNatClampNeg) + (5 : Int32).toNatClampNeg) + (6 : Int32).toNatClampNeg) + (12 : Int32).toNatClampNeg) + (12 : Int32).toNatClampNeg ≤ ms) <| zlet (zup h15 ((((((sz + 1) + 1 + (5 : Int32).toNatClampNeg) + 1) + 1) + 1)) (.inl (0, (12 : Int32).toNatClampNeg, .inl (fun _ => 0)))) fun h17 => (zpV h17 a0 5 5 (.ref (((((((sz + 1) + 1 + (5 : Int32).toNatClampNeg) + 1) + 1) + 1))))).bind fun h18 => zchk (¬ (12 : Int32) < 0 ∧ (12 : Int32).toNatClampNeg ≤ 60000 ∧ ((((((0 + 1) + 1 + (5 : Int32).toNatClampNeg) + 1) + 1) + 1) + 1) + 1 ≤ mc ∧ ((((((0 + (5 : Int32).toNatClampNeg) + (5 : Int32).toNatClampNeg + (5 : Int32).toNatClampNeg * (12 : Int32).toNatClampNeg) + (5 : Int32).toNatClampNeg) + (6 : Int32).toNatClampNeg) + (12 : Int32).toNatClampNeg) + (12 : Int32).toNatClampNeg) + (12 : Int32).toNatClampNeg ≤ ms) <| zlet (zup h18 (((((((sz + 1) + 1 + (5 : Int32).toNatClampNeg) + 1) + 1) + 1) + 1)) (.inl (0, (12 : Int32).toNatClampNeg, .inl (fun _ => 0)))) fun h20 => (zpV h20 a0 5 6 (.ref ((((((((sz + 1) + 1 + (5 : Int32).toNatClampNeg) + 1) + 1) + 1) + 1))))).bind fun h21 => zchk (¬ (12 : Int32) < 0 ∧ ¬ (6 : Int32) < 0 ∧ (12 : Int32).toNatClampNeg ≤ 60000 ∧ (6 : Int32).toNatClampNeg ≤ 60000 ∧ (((((((0 + 1) + 1 + (5 : Int32).toNatClampNeg) + 1) + 1) + 1) + 1) + 1) + (1 + (12 : Int32).toNatClampNeg) ≤ mc ∧ (((((((0 + (5 : Int32).toNatClampNeg) + (5 : Int32).toNatClampNeg + (5 : Int32).toNatClampNeg * (12 : Int32).toNatClampNeg) + (5 : Int32).toNatClampNeg) + (6 : Int32).toNatClampNeg) + (12 : Int32).toNatClampNeg) + (12 : Int32).toNatClampNeg) + (12 : Int32).toNatClampNeg) + ((12 : Int32).toNatClampNeg + (12 : Int32).toNatClampNeg * (6 : Int32).toNatClampNeg) ≤ ms) <| zlet (zmna h21 ((((((((sz + 1) + 1 + (5 : Int32).toNatClampNeg) + 1) + 1) + 1) + 1) + 1)) (12 : Int32).toNatClampNeg (6 : Int32).toNatClampNeg) fun h23 => (zpV h23 a0 5 7 (.ref (((((((((sz + 1) + 1 + (5 : Int32).toNatClampNeg) + 1) + 1) + 1) + 1) + 1))))).bind fun h24 => zchk (¬ (4 : Int32) < 0 ∧ (4 : Int32).toNatClampNeg ≤ 60000 ∧ ((((((((0 + 1) + 1 + (5 : Int32).toNatClampNeg) + 1) + 1) + 1) + 1) + 1) + 1 + (12 : Int32).toNatClampNeg) + 1 ≤ mc ∧ ((((((((0 + (5 : Int32).toNatClampNeg) + (5 : Int32).toNatClampNeg + (5 : Int32).toNatClampNeg * (12 : Int32).toNatClampNeg) + (5 : Int32).toNatClampNeg) + (6 : Int32).toNatClampNeg) + (12 : Int32).toNatClampNeg) + (12 : Int32).toNatClampNeg) + (12 : Int32).toNatClampNeg) + (12 : Int32).toNatClampNeg + (12 : Int32).toNatClampNeg * (6 : Int32).toNatClampNeg) + (4 : Int32).toNatClampNeg ≤ ms) <| zlet (zup h24 (((((((((sz + 1) + 1 + (5 : Int32).toNatClampNeg) + 1) + 1) + 1) + 1) + 1) + 1 + (12 : Int32).toNatClampNeg)) (.inl (0, (4 : Int32).toNatClampNeg, .inl (fun _ => 0)))) fun h26 => (zpV h26 a0 5 8 (.ref ((((((((((sz + 1) + 1 + (5 : Int32).toNatClampNeg) + 1) + 1) + 1) + 1) + 1) + 1 + (12 : Int32).toNatClampNeg))))).bind fun h27 => zchk (¬ (2 : Int32) < 0 ∧ (2 : Int32).toNatClampNeg ≤ 60000 ∧ (((((((((0 + 1) + 1 + (5 : Int32).toNatClampNeg) + 1) + 1) + 1) + 1) + 1) + 1 + (12 : Int32).toNatClampNeg) + 1) + 1 ≤ mc ∧ (((((((((0 + (5 : Int32).toNatClampNeg) + (5 : Int32).toNatClampNeg + (5 : Int32).toNatClampNeg * (12 : Int32).toNatClampNeg) + (5 : Int32).toNatClampNeg) + (6 : Int32).toNatClampNeg) + (12 : Int32).toNatClampNeg) + (12 : Int32).toNatClampNeg) + (12 : Int32).toNatClampNeg) + (12 : Int32).toNatClampNeg + (12 : Int32).toNatClampNeg * (6 : Int32).toNatClampNeg) + (4 : Int32).toNatClampNeg) + (2 : Int32).toNatClampNeg ≤ ms) <| zlet (zup h27 ((((((((((sz + 1) + 1 + (5 : Int32).toNatClampNeg) + 1) + 1) + 1) + 1) + 1) + 1 + (12 : Int32).toNatClampNeg) + 1)) (.inl (0, (2 : Int32).toNatClampNeg, .inl (fun _ => 0)))) fun h29 => (zpV h29 a0 5 9 (.ref (((((((((((sz + 1) + 1 + (5 : Int32).toNatClampNeg) + 1) + 1) + 1) + 1) + 1) + 1 + (12 : Int32).toNatClampNeg) + 1))))).bind fun h30 => some (h30, ((((((((((sz + 1) + 1 + (5 : Int32).toNatClampNeg) + 1) + 1) + 1) + 1) + 1) + 1 + (12 : Int32).toNatClampNeg) + 1) + 1))
set_option maxHeartbeats 4000000 in
set_option maxRecDepth 100000 in
theorem m_X5_init (l : Launch) (D : va_G) (tc : Nat → ClassId) (ro : Nat → Nat) (b0 : Nat) {mc ms : Nat} {a0 : Nat} {hp : zHp} {sz : Nat} {r : (zHp × Nat)} (h : f_X5_init mc ms a0 hp sz = some r) : zM l yX5_init cX5_init 1 none 1 mc ms [.ref a0] D tc ro b0 hp sz (zoVA r).1 (zoVA r).2.1 (zoVA r).2.2 := by
  refine z_startI (o := zoVA) (lv := [(0, .ref a0)]) h (by decide +kernel) RX5 rfl rfl rfl (Nat.le_of_ble_eq_true rfl) (fun P C CI => ?_)
  unfold f_X5_init
  refine z_aload_n C dX5_init_0 0 rfl ?_
  refine z_objInit C zo_X5_3 dX5_init_1 (by decide) (Nat.le_of_ble_eq_true rfl) ?_
  refine z_aload_n C dX5_init_4 0 rfl ?_
  refine z_iconst C dX5_init_5 zi_5 ?_
  refine z_chk (fun q1 => ?_)
  refine z_newarr (t := 0) (ty := .int) (A := .inl (fun _ => 0)) C rfl (fun _ => rfl) (by decide) (fun _ _ h => h) (fun _ _ => rfl) zar_int dX5_init_6 (by decide) q1 (fun h2 => ?_)
  refine z_putF C CI zpf_X5_9 rfl rfl dX5_init_8 (fun h3 => ?_)
  refine z_aload_n C dX5_init_11 0 rfl ?_
  refine z_iconst C dX5_init_12 zi_5 ?_
  refine z_bipush C dX5_init_13 zbi_12 ?_
  refine z_chk (fun q4 => ?_)
  refine z_mna C zml_X5_15 zar_int dX5_init_15 q4 (fun h5 => ?_)
  refine z_putF C CI zpf_X5_17 rfl rfl dX5_init_19 (fun h6 => ?_)
  refine z_aload_n C dX5_init_22 0 rfl ?_
  refine z_iconst C dX5_init_23 zi_5 ?_
  refine z_chk (fun q7 => ?_)
  refine z_newarr (t := 0) (ty := .int) (A := .inl (fun _ => 0)) C rfl (fun _ => rfl) (by decide) (fun _ _ h => h) (fun _ _ => rfl) zar_int dX5_init_24 (by decide) q7 (fun h8 => ?_)
  refine z_putF C CI zpf_X5_20 rfl rfl dX5_init_26 (fun h9 => ?_)
  refine z_aload_n C dX5_init_29 0 rfl ?_
  refine z_bipush C dX5_init_30 zbi_6 ?_
  refine z_chk (fun q10 => ?_)
  refine z_newarr (t := 0) (ty := .int) (A := .inl (fun _ => 0)) C rfl (fun _ => rfl) (by decide) (fun _ _ h => h) (fun _ _ => rfl) zar_int dX5_init_32 (by decide) q10 (fun h11 => ?_)
  refine z_putF C CI zpf_X5_23 rfl rfl dX5_init_34 (fun h12 => ?_)
  refine z_aload_n C dX5_init_37 0 rfl ?_
  refine z_bipush C dX5_init_38 zbi_12 ?_
  refine z_chk (fun q13 => ?_)
  refine z_newarr (t := 0) (ty := .int) (A := .inl (fun _ => 0)) C rfl (fun _ => rfl) (by decide) (fun _ _ h => h) (fun _ _ => rfl) zar_int dX5_init_40 (by decide) q13 (fun h14 => ?_)
  refine z_putF C CI zpf_X5_26 rfl rfl dX5_init_42 (fun h15 => ?_)
  refine z_aload_n C dX5_init_45 0 rfl ?_
  refine z_bipush C dX5_init_46 zbi_12 ?_
  refine z_chk (fun q16 => ?_)
  refine z_newarr (t := 0) (ty := .int) (A := .inl (fun _ => 0)) C rfl (fun _ => rfl) (by decide) (fun _ _ h => h) (fun _ _ => rfl) zar_int dX5_init_48 (by decide) q16 (fun h17 => ?_)
  refine z_putF C CI zpf_X5_29 rfl rfl dX5_init_50 (fun h18 => ?_)
  refine z_aload_n C dX5_init_53 0 rfl ?_
  refine z_bipush C dX5_init_54 zbi_12 ?_
  refine z_chk (fun q19 => ?_)
  refine z_newarr (t := 0) (ty := .int) (A := .inl (fun _ => 0)) C rfl (fun _ => rfl) (by decide) (fun _ _ h => h) (fun _ _ => rfl) zar_int dX5_init_56 (by decide) q19 (fun h20 => ?_)
  refine z_putF C CI zpf_X5_32 rfl rfl dX5_init_58 (fun h21 => ?_)
  refine z_aload_n C dX5_init_61 0 rfl ?_
  refine z_bipush C dX5_init_62 zbi_12 ?_
  refine z_bipush C dX5_init_64 zbi_6 ?_
  refine z_chk (fun q22 => ?_)
  refine z_mna C zml_X5_15 zar_int dX5_init_66 q22 (fun h23 => ?_)
  refine z_putF C CI zpf_X5_35 rfl rfl dX5_init_70 (fun h24 => ?_)
  refine z_aload_n C dX5_init_73 0 rfl ?_
  refine z_iconst C dX5_init_74 zi_4 ?_
  refine z_chk (fun q25 => ?_)
  refine z_newarr (t := 0) (ty := .int) (A := .inl (fun _ => 0)) C rfl (fun _ => rfl) (by decide) (fun _ _ h => h) (fun _ _ => rfl) zar_int dX5_init_75 (by decide) q25 (fun h26 => ?_)
  refine z_putF C CI zpf_X5_38 rfl rfl dX5_init_77 (fun h27 => ?_)
  refine z_aload_n C dX5_init_80 0 rfl ?_
  refine z_iconst C dX5_init_81 zi_2 ?_
  refine z_chk (fun q28 => ?_)
  refine z_newarr (t := 0) (ty := .int) (A := .inl (fun _ => 0)) C rfl (fun _ => rfl) (by decide) (fun _ _ h => h) (fun _ _ => rfl) zar_int dX5_init_82 (by decide) q28 (fun h29 => ?_)
  refine z_putF C CI zpf_X5_41 rfl rfl dX5_init_84 (fun h30 => ?_)
  exact z_returnA C dX5_init_87 ⟨q28.2.2.1, q28.2.2.2⟩
noncomputable def b_X6_init_30 (mc ms : Nat) (k55 : zHp → Nat → Nat → Nat → Option (zHp × Nat)) (a0 : Nat) (rec : Int32 → zHp → Nat → Nat → Nat → Option (zHp × Nat)) (x1 : Int32) (h : zHp) (sz : Nat) (uc : Nat) (us : Nat) : Option (zHp × Nat) :=
  if x1 < (12 : Int32) then ((zgR h a0 6 0).bind fun r10 => zchk (uc + 1 ≤ mc ∧ us + 9 ≤ ms) <| zlet (zup h sz (.inr (0, [.int 0, .int 0, .int 0, .int 0, .int 0, .int 0, .null, .null, .null]))) fun h12 => zchk ((uc + 1) + 3 ≤ mc ∧ (us + 9) + 40 ≤ ms) <| zb2 (f_X0_init 3 40 sz h12 ((sz + 1))) fun h14 z15 => (zsR h14 3 0 r10 x1 sz).bind fun h16 => zlet (x1 + (1 : Int32)) fun v17 => rec v17 h16 z15 (((uc + 1) + 3)) (((us + 9) + 40))) else k55 h sz uc us
noncomputable def l_X6_init_30 (mc ms : Nat) (k55 : zHp → Nat → Nat → Nat → Option (zHp × Nat)) (a0 : Nat) (n : Nat) : Int32 → zHp → Nat → Nat → Nat → Option (zHp × Nat) :=
  Nat.rec (motive := fun _ => Int32 → zHp → Nat → Nat → Nat → Option (zHp × Nat)) (fun _ _ _ _ _ => none) (fun _ rec => b_X6_init_30 mc ms k55 a0 rec) n
theorem l_X6_init_30_s {mc ms : Nat} (k55 : zHp → Nat → Nat → Nat → Option (zHp × Nat)) (a0 : Nat) (n : Nat) (x1 : Int32) (h : zHp) (sz : Nat) (uc : Nat) (us : Nat) : l_X6_init_30 mc ms k55 a0 (n + 1) x1 h sz uc us = b_X6_init_30 mc ms k55 a0 (l_X6_init_30 mc ms k55 a0 n) x1 h sz uc us := rfl
set_option maxHeartbeats 4000000 in
set_option maxRecDepth 100000 in
theorem wl_X6_init_30 {P : zX} {ro : Nat → Nat} {mc ms : Nat} (C : zC P cX6_init RX6 none 2 mc ms 2 ro) {a0 : Nat} {k55 : zHp → Nat → Nat → Nat → Option (zHp × Nat)} (hk55 : ∀ (h : zHp) (sz : Nat) (uc : Nat) (us : Nat), zG P zoVA (k55 h sz uc us) 55 [(0, .ref a0)] [] h sz uc us) : ∀ (n : Nat) (x1 : Int32) (h : zHp) (sz : Nat) (uc : Nat) (us : Nat), zG P zoVA (l_X6_init_30 mc ms k55 a0 n x1 h sz uc us) 30 [(0, .ref a0), (1, .int x1)] [] h sz uc us := by
  intro n
  induction n with
  | zero =>
    intro x1 h sz uc us
    show zG P zoVA none _ _ _ _ _ _ _
    exact z_none
  | succ n ih =>
    intro x1 h sz uc us
    show zG P zoVA (b_X6_init_30 mc ms k55 a0 (l_X6_init_30 mc ms k55 a0 n) x1 h sz uc us) _ _ _ _ _ _ _
    unfold b_X6_init_30
    refine z_iload_n C dX6_init_30 1 rfl ?_
    refine z_bipush C dX6_init_31 zbi_12 ?_
    refine z_icmp_ge C 55 dX6_init_33 (by decide) ?_ ?_
    · refine z_aload_n C dX6_init_36 0 rfl ?_
      refine z_getR C zf_X6_11 dX6_init_37 (fun r10 => ?_)
      refine z_iload_n C dX6_init_40 1 rfl ?_
      refine z_chk (fun q11 => ?_)
      refine z_new C za_X6_9 dX6_init_41 q11 (fun h12 => ?_)
      refine z_dup C dX6_init_44 rfl ?_
      refine z_chk (fun q13 => ?_)
      refine z_callI C (Or.inr ⟨_, zci_X6_24⟩) [] (fun l D tc b0 r h => m_X0_init l D tc ro b0 h) dX6_init_45 rfl rfl (Nat.le_of_ble_eq_true rfl) (by decide) (by decide) q13 (fun h14 z15 => ?_)
      refine z_aastore (t := 3) (ci := 0) (r0 := (RX0, TX0, 9)) C (fun _ => rfl) rfl (by decide) (by decide) dX6_init_48 (fun h16 => ?_)
      refine z_iincL C 1 (fun v17 => [(0, .ref a0), (1, .int v17)]) dX6_init_49 rfl zi_1 (by decide) (fun _ => rfl) (fun v17 => ?_)
      refine z_goto C 30 dX6_init_52 (by decide) ?_
      exact ih _ _ _ _ _
    exact z_sub [0] rfl (hk55 _ _ _ _)
noncomputable def f_X6_init (mc ms : Nat) (a0 : Nat) (hp : zHp) (sz : Nat) : Option (zHp × Nat) :=
  zchk (¬ (12 : Int32) < 0 ∧ (12 : Int32).toNatClampNeg ≤ 60000 ∧ 0 + 1 ≤ mc ∧ 0 + (12 : Int32).toNatClampNeg ≤ ms) <| zlet (zup hp sz (.inl (3, (12 : Int32).toNatClampNeg, .inr (.inr (.inr (.inr (fun _ => none))))))) fun h2 => (zpV h2 a0 6 0 (.ref sz)).bind fun h3 => zchk (¬ (2 : Int32) < 0 ∧ (2 : Int32).toNatClampNeg ≤ 60000 ∧ (0 + 1) + 1 ≤ mc ∧ (0 + (12 : Int32).toNatClampNeg) + (2 : Int32).toNatClampNeg ≤ ms) <| zlet (zup h3 ((sz + 1)) (.inl (0, (2 : Int32).toNatClampNeg, .inl (fun _ => 0)))) fun h5 => (zpV h5 a0 6 1 (.ref (((sz + 1))))).bind fun h6 => zchk (¬ (6 : Int32) < 0 ∧ (6 : Int32).toNatClampNeg ≤ 60000 ∧ ((0 + 1) + 1) + 1 ≤ mc ∧ ((0 + (12 : Int32).toNatClampNeg) + (2 : Int32).toNatClampNeg) + (6 : Int32).toNatClampNeg ≤ ms) <| zlet (zup h6 (((sz + 1) + 1)) (.inl (0, (6 : Int32).toNatClampNeg, .inl (fun _ => 0)))) fun h8 => (zpV h8 a0 6 2 (.ref ((((sz + 1) + 1))))).bind fun h9 => l_X6_init_30 mc ms (fun h18 z19 c20 u21 => (zgR h18 a0 6 1).bind fun r22 => (zsI h18 r22 (0 : Int32) (5 : Int32)).bind fun h23 => (zgR h23 a0 6 1).bind fun r24 => (zsI h23 r24 (1 : Int32) (0 : Int32)).bind fun h25 => (zpV h25 a0 6 4 (.int (5000 : Int32))).bind fun h26 => zchk (c20 ≤ mc ∧ u21 ≤ ms) <| some (h26, z19)) a0 1000000 (0 : Int32) h9 ((((sz + 1) + 1) + 1)) ((((0 + 1) + 1) + 1)) ((((0 + (12 : Int32).toNatClampNeg) + (2 : Int32).toNatClampNeg) + (6 : Int32).toNatClampNeg))
set_option maxHeartbeats 4000000 in
set_option maxRecDepth 100000 in
theorem m_X6_init (l : Launch) (D : va_G) (tc : Nat → ClassId) (ro : Nat → Nat) (b0 : Nat) {mc ms : Nat} {a0 : Nat} {hp : zHp} {sz : Nat} {r : (zHp × Nat)} (h : f_X6_init mc ms a0 hp sz = some r) : zM l yX6_init cX6_init 2 none 2 mc ms [.ref a0] D tc ro b0 hp sz (zoVA r).1 (zoVA r).2.1 (zoVA r).2.2 := by
  refine z_startI (o := zoVA) (lv := [(0, .ref a0)]) h (by decide +kernel) RX6 rfl rfl rfl (Nat.le_of_ble_eq_true rfl) (fun P C CI => ?_)
  unfold f_X6_init
  refine z_aload_n C dX6_init_0 0 rfl ?_
  refine z_objInit C zo_X6_3 dX6_init_1 (by decide) (Nat.le_of_ble_eq_true rfl) ?_
  refine z_aload_n C dX6_init_4 0 rfl ?_
  refine z_bipush C dX6_init_5 zbi_12 ?_
  refine z_chk (fun q1 => ?_)
  refine z_anewarr (t := 3) (Cn := "CountHall$Box") C (fun _ => rfl) (by decide) zal_X6_9 (fun _ h => h.1) dX6_init_7 q1 (fun h2 => ?_)
  refine z_putF C CI zpf_X6_11 rfl rfl dX6_init_10 (fun h3 => ?_)
  refine z_aload_n C dX6_init_13 0 rfl ?_
  refine z_iconst C dX6_init_14 zi_2 ?_
  refine z_chk (fun q4 => ?_)
  refine z_newarr (t := 0) (ty := .int) (A := .inl (fun _ => 0)) C rfl (fun _ => rfl) (by decide) (fun _ _ h => h) (fun _ _ => rfl) zar_int dX6_init_15 (by decide) q4 (fun h5 => ?_)
  refine z_putF C CI zpf_X6_17 rfl rfl dX6_init_17 (fun h6 => ?_)
  refine z_aload_n C dX6_init_20 0 rfl ?_
  refine z_bipush C dX6_init_21 zbi_6 ?_
  refine z_chk (fun q7 => ?_)
  refine z_newarr (t := 0) (ty := .int) (A := .inl (fun _ => 0)) C rfl (fun _ => rfl) (by decide) (fun _ _ h => h) (fun _ _ => rfl) zar_int dX6_init_23 (by decide) q7 (fun h8 => ?_)
  refine z_putF C CI zpf_X6_21 rfl rfl dX6_init_25 (fun h9 => ?_)
  refine z_iconst C dX6_init_28 zi_0 ?_
  refine z_istore_n (lv' := [(0, .ref a0), (1, .int (0 : Int32))]) C dX6_init_29 (by decide) rfl ?_
  refine wl_X6_init_30 C (fun h18 z19 c20 u21 => ?_) _ _ _ _ _ _
  refine z_aload_n C dX6_init_55 0 rfl ?_
  refine z_getR C zf_X6_17 dX6_init_56 (fun r22 => ?_)
  refine z_iconst C dX6_init_59 zi_0 ?_
  refine z_iconst C dX6_init_60 zi_5 ?_
  refine z_iastore C dX6_init_61 (fun h23 => ?_)
  refine z_aload_n C dX6_init_62 0 rfl ?_
  refine z_getR C zf_X6_17 dX6_init_63 (fun r24 => ?_)
  refine z_iconst C dX6_init_66 zi_1 ?_
  refine z_iconst C dX6_init_67 zi_0 ?_
  refine z_iastore C dX6_init_68 (fun h25 => ?_)
  refine z_aload_n C dX6_init_69 0 rfl ?_
  refine z_sipush C dX6_init_70 zsi_5000 ?_
  refine z_putI C zp_X6_25 dX6_init_73 (fun h26 => ?_)
  refine z_chk (fun q27 => ?_)
  exact z_returnA C dX6_init_76 q27
noncomputable def f_X1_init (mc ms : Nat) (a0 : Nat) (hp : zHp) (sz : Nat) : Option (zHp × Nat) :=
  zchk (0 + 1 ≤ mc ∧ 0 + 10 ≤ ms) <| zlet (zup hp sz (.inr (5, [.null, .null, .null, .null, .null, .null, .null, .null, .null, .null]))) fun h2 => zchk ((0 + 1) + 27 ≤ mc ∧ (0 + 10) + 207 ≤ ms) <| zb2 (f_X5_init 27 207 sz h2 ((sz + 1))) fun h4 z5 => (zpV h4 a0 1 0 (.ref sz)).bind fun h6 => zchk (((0 + 1) + 27) + 1 ≤ mc ∧ ((0 + 10) + 207) + 5 ≤ ms) <| zlet (zup h6 z5 (.inr (6, [.null, .null, .null, .int 0, .int 0]))) fun h8 => zchk ((((0 + 1) + 27) + 1) + 51 ≤ mc ∧ (((0 + 10) + 207) + 5) + 608 ≤ ms) <| zb2 (f_X6_init 51 608 z5 h8 ((z5 + 1))) fun h10 z11 => (zpV h10 a0 1 1 (.ref z5)).bind fun h12 => some (h12, z11)
set_option maxHeartbeats 4000000 in
set_option maxRecDepth 100000 in
theorem m_X1_init (l : Launch) (D : va_G) (tc : Nat → ClassId) (ro : Nat → Nat) (b0 : Nat) {mc ms : Nat} {a0 : Nat} {hp : zHp} {sz : Nat} {r : (zHp × Nat)} (h : f_X1_init mc ms a0 hp sz = some r) : zM l yX1_init cX1_init 1 none 3 mc ms [.ref a0] D tc ro b0 hp sz (zoVA r).1 (zoVA r).2.1 (zoVA r).2.2 := by
  refine z_startI (o := zoVA) (lv := [(0, .ref a0)]) h (by decide +kernel) RX1 rfl rfl rfl (Nat.le_of_ble_eq_true rfl) (fun P C CI => ?_)
  unfold f_X1_init
  refine z_aload_n C dX1_init_0 0 rfl ?_
  refine z_objInit C zo_X1_3 dX1_init_1 (by decide) (Nat.le_of_ble_eq_true rfl) ?_
  refine z_aload_n C dX1_init_4 0 rfl ?_
  refine z_chk (fun q1 => ?_)
  refine z_new C za_X1_9 dX1_init_5 q1 (fun h2 => ?_)
  refine z_dup C dX1_init_8 rfl ?_
  refine z_chk (fun q3 => ?_)
  refine z_callI C (Or.inr ⟨_, zci_X1_11⟩) [] (fun l D tc b0 r h => m_X5_init l D tc ro b0 h) dX1_init_9 rfl rfl (Nat.le_of_ble_eq_true rfl) (by decide) (by decide) q3 (fun h4 z5 => ?_)
  refine z_putR C zp_X1_12 rfl rfl dX1_init_12 (fun h6 => ?_)
  refine z_aload_n C dX1_init_15 0 rfl ?_
  refine z_chk (fun q7 => ?_)
  refine z_new C za_X1_18 dX1_init_16 q7 (fun h8 => ?_)
  refine z_dup C dX1_init_19 rfl ?_
  refine z_chk (fun q9 => ?_)
  refine z_callI C (Or.inl zci_X1_20) [] (fun l D tc b0 r h => m_X6_init l D tc ro b0 h) dX1_init_20 rfl rfl (Nat.le_of_ble_eq_true rfl) (by decide) (by decide) q9 (fun h10 z11 => ?_)
  refine z_putF C CI zpf_X1_21 rfl rfl dX1_init_23 (fun h12 => ?_)
  exact z_returnA C dX1_init_26 q9
noncomputable def b_X6_begin_2 (k33 : zHp → Option zHp) (a0 : Nat) (a1 : Nat) (rec : Int32 → zHp → Option zHp) (x2 : Int32) (h : zHp) : Option zHp :=
  (zgR h a1 5 0).bind fun r1 => (zaI h 0 r1 (3 : Int32)).bind fun v2 => if x2 < v2 then ((zgR h a0 6 0).bind fun r3 => (zaR h 3 r3 x2).bind fun r4 => (zgR h a1 5 6).bind fun r5 => (zaI h 0 r5 x2).bind fun v6 => (f_X0_begin r4 v6 h).bind fun h7 => zlet (x2 + (1 : Int32)) fun v8 => rec v8 h7) else k33 h
noncomputable def l_X6_begin_2 (k33 : zHp → Option zHp) (a0 : Nat) (a1 : Nat) (n : Nat) : Int32 → zHp → Option zHp :=
  Nat.rec (motive := fun _ => Int32 → zHp → Option zHp) (fun _ _ => none) (fun _ rec => b_X6_begin_2 k33 a0 a1 rec) n
theorem l_X6_begin_2_s (k33 : zHp → Option zHp) (a0 : Nat) (a1 : Nat) (n : Nat) (x2 : Int32) (h : zHp) : l_X6_begin_2 k33 a0 a1 (n + 1) x2 h = b_X6_begin_2 k33 a0 a1 (l_X6_begin_2 k33 a0 a1 n) x2 h := rfl
set_option maxHeartbeats 4000000 in
set_option maxRecDepth 100000 in
theorem wl_X6_begin_2 {P : zX} {ro : Nat → Nat} {sz : Nat} (C : zC P cX6_begin RX6 none 3 0 0 3 ro) {a0 : Nat} {a1 : Nat} {k33 : zHp → Option zHp} (hk33 : ∀ (h : zHp), zG P (zoV sz) (k33 h) 33 [(0, .ref a0), (1, .ref a1)] [] h sz 0 0) : ∀ (n : Nat) (x2 : Int32) (h : zHp), zG P (zoV sz) (l_X6_begin_2 k33 a0 a1 n x2 h) 2 [(0, .ref a0), (1, .ref a1), (2, .int x2)] [] h sz 0 0 := by
  intro n
  induction n with
  | zero =>
    intro x2 h
    show zG P (zoV sz) none _ _ _ _ _ _ _
    exact z_none
  | succ n ih =>
    intro x2 h
    show zG P (zoV sz) (b_X6_begin_2 k33 a0 a1 (l_X6_begin_2 k33 a0 a1 n) x2 h) _ _ _ _ _ _ _
    unfold b_X6_begin_2
    refine z_iload_n C dX6_begin_2 2 rfl ?_
    refine z_aload_n C dX6_begin_3 1 rfl ?_
    refine z_getR C zf_X6_29 dX6_begin_4 (fun r1 => ?_)
    refine z_iconst C dX6_begin_7 zi_3 ?_
    refine z_iaload C dX6_begin_8 (fun v2 => ?_)
    refine z_icmp_ge C 33 dX6_begin_9 (by decide) ?_ ?_
    · refine z_aload_n C dX6_begin_12 0 rfl ?_
      refine z_getR C zf_X6_11 dX6_begin_13 (fun r3 => ?_)
      refine z_iload_n C dX6_begin_16 2 rfl ?_
      refine z_aaload (t := 3) (ty := .object "CountHall$Box") C (fun _ => rfl) rfl (by decide) dX6_begin_17 (fun r4 => ?_)
      refine z_aload_n C dX6_begin_18 1 rfl ?_
      refine z_getR C zf_X6_34 dX6_begin_19 (fun r5 => ?_)
      refine z_iload_n C dX6_begin_22 2 rfl ?_
      refine z_iaload C dX6_begin_23 (fun v6 => ?_)
      refine z_callVv C zc_X6_37 [.int v6] (fun l D tc b0 r h => m_X0_begin l D tc ro b0 h) dX6_begin_24 rfl rfl (Nat.le_of_ble_eq_true rfl) (by decide) (by decide) ⟨Nat.le_of_ble_eq_true rfl, Nat.le_of_ble_eq_true rfl⟩ (fun h7 => ?_)
      refine z_iincL C 2 (fun v8 => [(0, .ref a0), (1, .ref a1), (2, .int v8)]) dX6_begin_27 rfl zi_1 (by decide) (fun _ => rfl) (fun v8 => ?_)
      refine z_goto C 2 dX6_begin_30 (by decide) ?_
      exact ih _ _
    exact z_sub [0, 1] rfl (hk33 _)
noncomputable def f_X6_begin (a0 : Nat) (a1 : Nat) (hp : zHp) : Option zHp :=
  (zis hp a0 6).bind fun _ => l_X6_begin_2 (fun h9 => (zgR h9 a1 5 9).bind fun r10 => (zgR h9 a0 6 1).bind fun r11 => (zcpI h9 r10 (0 : Int32) r11 (0 : Int32) (2 : Int32)).bind fun h12 => (zpV h12 a0 6 3 (.int (0 : Int32))).bind fun h13 => (zpV h13 a0 6 4 (.int (5000 : Int32))).bind fun h14 => some h14) a0 a1 1000000 (0 : Int32) hp
set_option maxHeartbeats 4000000 in
set_option maxRecDepth 100000 in
theorem m_X6_begin (l : Launch) (D : va_G) (tc : Nat → ClassId) (ro : Nat → Nat) (b0 : Nat) {a0 : Nat} {a1 : Nat} {hp : zHp} {sz : Nat} {r : zHp} (h : f_X6_begin a0 a1 hp = some r) : zis hp a0 6 = some () ∧ zM l yX6_begin cX6_begin 3 none 3 0 0 [.ref a0, .ref a1] D tc ro b0 hp sz ((zoV sz) r).1 ((zoV sz) r).2.1 ((zoV sz) r).2.2 := by
  refine ⟨?_, z_start (o := (zoV sz)) (lv := [(0, .ref a0), (1, .ref a1)]) h (by decide +kernel) RX6 rfl rfl (Nat.le_of_ble_eq_true rfl) (fun P C => ?_)⟩
  · unfold f_X6_begin at h
    cases hc : zis hp a0 6 with
    | none => rw [hc] at h; cases h
    | some u => rfl
  unfold f_X6_begin
  refine z_is ?_
  refine z_iconst C dX6_begin_0 zi_0 ?_
  refine z_istore_n (lv' := [(0, .ref a0), (1, .ref a1), (2, .int (0 : Int32))]) C dX6_begin_1 (by decide) rfl ?_
  refine wl_X6_begin_2 C (fun h9 => ?_) _ _ _
  refine z_aload_n C dX6_begin_33 1 rfl ?_
  refine z_getR C zf_X6_41 dX6_begin_34 (fun r10 => ?_)
  refine z_iconst C dX6_begin_37 zi_0 ?_
  refine z_aload_n C dX6_begin_38 0 rfl ?_
  refine z_getR C zf_X6_17 dX6_begin_39 (fun r11 => ?_)
  refine z_iconst C dX6_begin_42 zi_0 ?_
  refine z_iconst C dX6_begin_43 zi_2 ?_
  refine z_copyI C zy_X6_42 dX6_begin_44 (Nat.le_of_ble_eq_true rfl) (by decide) (fun h12 => ?_)
  refine z_aload_n C dX6_begin_47 0 rfl ?_
  refine z_iconst C dX6_begin_48 zi_0 ?_
  refine z_putI C zp_X6_48 dX6_begin_49 (fun h13 => ?_)
  refine z_aload_n C dX6_begin_52 0 rfl ?_
  refine z_sipush C dX6_begin_53 zsi_5000 ?_
  refine z_putI C zp_X6_25 dX6_begin_56 (fun h14 => ?_)
  exact z_return C dX6_begin_59
noncomputable def f_X1_begin (a0 : Nat) (a1 : Nat) (hp : zHp) : Option zHp :=
  (zis hp a0 1).bind fun _ => (zpV hp a0 1 0 (.ref a1)).bind fun h1 => (zgR h1 a0 1 1).bind fun r2 => (zgR h1 a0 1 0).bind fun r3 => (f_X6_begin r2 r3 h1).bind fun h4 => some h4
set_option maxHeartbeats 4000000 in
set_option maxRecDepth 100000 in
theorem m_X1_begin (l : Launch) (D : va_G) (tc : Nat → ClassId) (ro : Nat → Nat) (b0 : Nat) {a0 : Nat} {a1 : Nat} {hp : zHp} {sz : Nat} {r : zHp} (h : f_X1_begin a0 a1 hp = some r) : zis hp a0 1 = some () ∧ zM l yX1_begin cX1_begin 2 none 4 0 0 [.ref a0, .ref a1] D tc ro b0 hp sz ((zoV sz) r).1 ((zoV sz) r).2.1 ((zoV sz) r).2.2 := by
  refine ⟨?_, z_start (o := (zoV sz)) (lv := [(0, .ref a0), (1, .ref a1)]) h (by decide +kernel) RX1 rfl rfl (Nat.le_of_ble_eq_true rfl) (fun P C => ?_)⟩
  · unfold f_X1_begin at h
    cases hc : zis hp a0 1 with
    | none => rw [hc] at h; cases h
    | some u => rfl
  unfold f_X1_begin
  refine z_is ?_
  refine z_aload_n C dX1_begin_0 0 rfl ?_
  refine z_aload_n C dX1_begin_1 1 rfl ?_
  refine z_putR C zp_X1_12 rfl rfl dX1_begin_2 (fun h1 => ?_)
  refine z_aload_n C dX1_begin_5 0 rfl ?_
  refine z_getR C zf_X1_21 dX1_begin_6 (fun r2 => ?_)
  refine z_aload_n C dX1_begin_9 0 rfl ?_
  refine z_getR C zf_X1_12 dX1_begin_10 (fun r3 => ?_)
  refine z_callVv C zc_X1_25 [.ref r3] (fun l D tc b0 r h => m_X6_begin l D tc ro b0 h) dX1_begin_13 rfl rfl (Nat.le_of_ble_eq_true rfl) (by decide) (by decide) ⟨Nat.le_of_ble_eq_true rfl, Nat.le_of_ble_eq_true rfl⟩ (fun h4 => ?_)
  exact z_return C dX1_begin_16
noncomputable def b_X1_boxOn_2 (k31 : Int32 → Option Int32) (k39 : Option Int32) (a0 : Nat) (x1 : Int32) (hp : zHp) (rec : Int32 → Option Int32) (x2 : Int32) : Option Int32 :=
  (zgR hp a0 1 0).bind fun r1 => (zgR hp r1 5 0).bind fun r2 => (zaI hp 0 r2 (3 : Int32)).bind fun v3 => if x2 < v3 then ((zgR hp a0 1 1).bind fun r4 => (zgR hp r4 6 0).bind fun r5 => (zaR hp 3 r5 x2).bind fun r6 => (zgI hp r6 0 0).bind fun v7 => if v7 = x1 then (k31 x2) else zlet (x2 + (1 : Int32)) fun v8 => rec v8) else k39
noncomputable def l_X1_boxOn_2 (k31 : Int32 → Option Int32) (k39 : Option Int32) (a0 : Nat) (x1 : Int32) (hp : zHp) (n : Nat) : Int32 → Option Int32 :=
  Nat.rec (motive := fun _ => Int32 → Option Int32) (fun _ => none) (fun _ rec => b_X1_boxOn_2 k31 k39 a0 x1 hp rec) n
theorem l_X1_boxOn_2_s (k31 : Int32 → Option Int32) (k39 : Option Int32) (a0 : Nat) (x1 : Int32) (hp : zHp) (n : Nat) (x2 : Int32) : l_X1_boxOn_2 k31 k39 a0 x1 hp (n + 1) x2 = b_X1_boxOn_2 k31 k39 a0 x1 hp (l_X1_boxOn_2 k31 k39 a0 x1 hp n) x2 := rfl
set_option maxHeartbeats 4000000 in
set_option maxRecDepth 100000 in
theorem wl_X1_boxOn_2 {P : zX} {ro : Nat → Nat} {sz : Nat} (C : zC P cX1_boxOn RX1 (some .int) 1 0 0 3 ro) {a0 : Nat} {x1 : Int32} {hp : zHp} {k31 : Int32 → Option Int32} (hk31 : ∀ (x2 : Int32), zG P (zoP sz hp) (k31 x2) 31 [(2, .int x2)] [] hp sz 0 0) {k39 : Option Int32} (hk39 : zG P (zoP sz hp) (k39) 39 [] [] hp sz 0 0) : ∀ (n : Nat) (x2 : Int32), zG P (zoP sz hp) (l_X1_boxOn_2 k31 k39 a0 x1 hp n x2) 2 [(0, .ref a0), (1, .int x1), (2, .int x2)] [] hp sz 0 0 := by
  intro n
  induction n with
  | zero =>
    intro x2
    show zG P (zoP sz hp) none _ _ _ _ _ _ _
    exact z_none
  | succ n ih =>
    intro x2
    show zG P (zoP sz hp) (b_X1_boxOn_2 k31 k39 a0 x1 hp (l_X1_boxOn_2 k31 k39 a0 x1 hp n) x2) _ _ _ _ _ _ _
    unfold b_X1_boxOn_2
    refine z_iload_n C dX1_boxOn_2 2 rfl ?_
    refine z_aload_n C dX1_boxOn_3 0 rfl ?_
    refine z_getR C zf_X1_12 dX1_boxOn_4 (fun r1 => ?_)
    refine z_getR C zf_X1_29 dX1_boxOn_7 (fun r2 => ?_)
    refine z_iconst C dX1_boxOn_10 zi_3 ?_
    refine z_iaload C dX1_boxOn_11 (fun v3 => ?_)
    refine z_icmp_ge C 39 dX1_boxOn_12 (by decide) ?_ ?_
    · refine z_aload_n C dX1_boxOn_15 0 rfl ?_
      refine z_getR C zf_X1_21 dX1_boxOn_16 (fun r4 => ?_)
      refine z_getR C zf_X1_33 dX1_boxOn_19 (fun r5 => ?_)
      refine z_iload_n C dX1_boxOn_22 2 rfl ?_
      refine z_aaload (t := 3) (ty := .object "CountHall$Box") C (fun _ => rfl) rfl (by decide) dX1_boxOn_23 (fun r6 => ?_)
      refine z_getI C zf_X1_37 dX1_boxOn_24 (fun v7 => ?_)
      refine z_iload_n C dX1_boxOn_27 1 rfl ?_
      refine z_icmp_ne C 33 dX1_boxOn_28 (by decide) ?_ ?_
      · exact z_sub [2] rfl (hk31 _)
      refine z_iincL C 2 (fun v8 => [(0, .ref a0), (1, .int x1), (2, .int v8)]) dX1_boxOn_33 rfl zi_1 (by decide) (fun _ => rfl) (fun v8 => ?_)
      refine z_goto C 2 dX1_boxOn_36 (by decide) ?_
      exact ih _
    exact z_sub [] rfl (hk39)
noncomputable def f_X1_boxOn (a0 : Nat) (x1 : Int32) (hp : zHp) : Option Int32 :=
  (zis hp a0 1).bind fun _ => l_X1_boxOn_2 (fun p9 => some p9) (some (-1 : Int32)) a0 x1 hp 1000000 (0 : Int32)
set_option maxHeartbeats 4000000 in
set_option maxRecDepth 100000 in
theorem m_X1_boxOn (l : Launch) (D : va_G) (tc : Nat → ClassId) (ro : Nat → Nat) (b0 : Nat) {a0 : Nat} {x1 : Int32} {hp : zHp} {sz : Nat} {r : Int32} (h : f_X1_boxOn a0 x1 hp = some r) : zis hp a0 1 = some () ∧ zM l yX1_boxOn cX1_boxOn 3 (some .int) 1 0 0 [.ref a0, .int x1] D tc ro b0 hp sz ((zoP sz hp) r).1 ((zoP sz hp) r).2.1 ((zoP sz hp) r).2.2 := by
  refine ⟨?_, z_start (o := (zoP sz hp)) (lv := [(0, .ref a0), (1, .int x1)]) h (by decide +kernel) RX1 rfl rfl (Nat.le_of_ble_eq_true rfl) (fun P C => ?_)⟩
  · unfold f_X1_boxOn at h
    cases hc : zis hp a0 1 with
    | none => rw [hc] at h; cases h
    | some u => rfl
  unfold f_X1_boxOn
  refine z_is ?_
  refine z_iconst C dX1_boxOn_0 zi_0 ?_
  refine z_istore_n (lv' := [(0, .ref a0), (1, .int x1), (2, .int (0 : Int32))]) C dX1_boxOn_1 (by decide) rfl ?_
  refine wl_X1_boxOn_2 C (fun p9 => ?_) ?_ _ _
  · refine z_iload_n C dX1_boxOn_31 0 rfl ?_
    exact z_ireturnP C dX1_boxOn_32
  refine z_iconst C dX1_boxOn_39 zi_m1 ?_
  exact z_ireturnP C dX1_boxOn_40
noncomputable def b_X1_boxesInHall_4 (k43 : Int32 → Option Int32) (a0 : Nat) (hp : zHp) (rec : Int32 → Int32 → Option Int32) (x1 : Int32) (x2 : Int32) : Option Int32 :=
  (zgR hp a0 1 0).bind fun r1 => (zgR hp r1 5 0).bind fun r2 => (zaI hp 0 r2 (3 : Int32)).bind fun v3 => if x2 < v3 then ((zgR hp a0 1 1).bind fun r4 => (zgR hp r4 6 0).bind fun r5 => (zaR hp 3 r5 x2).bind fun r6 => (zgI hp r6 0 0).bind fun v7 => if v7 = (-4 : Int32) then (zlet (x1 + (1 : Int32)) fun v9 => zlet (x2 + (1 : Int32)) fun v10 => rec v9 v10) else zlet (x2 + (1 : Int32)) fun v8 => rec x1 v8) else k43 x1
noncomputable def l_X1_boxesInHall_4 (k43 : Int32 → Option Int32) (a0 : Nat) (hp : zHp) (n : Nat) : Int32 → Int32 → Option Int32 :=
  Nat.rec (motive := fun _ => Int32 → Int32 → Option Int32) (fun _ _ => none) (fun _ rec => b_X1_boxesInHall_4 k43 a0 hp rec) n
theorem l_X1_boxesInHall_4_s (k43 : Int32 → Option Int32) (a0 : Nat) (hp : zHp) (n : Nat) (x1 : Int32) (x2 : Int32) : l_X1_boxesInHall_4 k43 a0 hp (n + 1) x1 x2 = b_X1_boxesInHall_4 k43 a0 hp (l_X1_boxesInHall_4 k43 a0 hp n) x1 x2 := rfl
set_option maxHeartbeats 4000000 in
set_option maxRecDepth 100000 in
theorem wl_X1_boxesInHall_4 {P : zX} {ro : Nat → Nat} {sz : Nat} (C : zC P cX1_boxesInHall RX1 (some .int) 1 0 0 3 ro) {a0 : Nat} {hp : zHp} {k43 : Int32 → Option Int32} (hk43 : ∀ (x1 : Int32), zG P (zoP sz hp) (k43 x1) 43 [(1, .int x1)] [] hp sz 0 0) : ∀ (n : Nat) (x1 : Int32) (x2 : Int32), zG P (zoP sz hp) (l_X1_boxesInHall_4 k43 a0 hp n x1 x2) 4 [(0, .ref a0), (1, .int x1), (2, .int x2)] [] hp sz 0 0 := by
  intro n
  induction n with
  | zero =>
    intro x1 x2
    show zG P (zoP sz hp) none _ _ _ _ _ _ _
    exact z_none
  | succ n ih =>
    intro x1 x2
    show zG P (zoP sz hp) (b_X1_boxesInHall_4 k43 a0 hp (l_X1_boxesInHall_4 k43 a0 hp n) x1 x2) _ _ _ _ _ _ _
    unfold b_X1_boxesInHall_4
    refine z_iload_n C dX1_boxesInHall_4 2 rfl ?_
    refine z_aload_n C dX1_boxesInHall_5 0 rfl ?_
    refine z_getR C zf_X1_12 dX1_boxesInHall_6 (fun r1 => ?_)
    refine z_getR C zf_X1_29 dX1_boxesInHall_9 (fun r2 => ?_)
    refine z_iconst C dX1_boxesInHall_12 zi_3 ?_
    refine z_iaload C dX1_boxesInHall_13 (fun v3 => ?_)
    refine z_icmp_ge C 43 dX1_boxesInHall_14 (by decide) ?_ ?_
    · refine z_aload_n C dX1_boxesInHall_17 0 rfl ?_
      refine z_getR C zf_X1_21 dX1_boxesInHall_18 (fun r4 => ?_)
      refine z_getR C zf_X1_33 dX1_boxesInHall_21 (fun r5 => ?_)
      refine z_iload_n C dX1_boxesInHall_24 2 rfl ?_
      refine z_aaload (t := 3) (ty := .object "CountHall$Box") C (fun _ => rfl) rfl (by decide) dX1_boxesInHall_25 (fun r6 => ?_)
      refine z_getI C zf_X1_37 dX1_boxesInHall_26 (fun v7 => ?_)
      refine z_bipush C dX1_boxesInHall_29 zbi_m4 ?_
      refine z_icmp_ne C 37 dX1_boxesInHall_31 (by decide) ?_ ?_
      · refine z_iincL C 1 (fun v9 => [(0, .ref a0), (1, .int v9), (2, .int x2)]) dX1_boxesInHall_34 rfl zi_1 (by decide) (fun _ => rfl) (fun v9 => ?_)
        refine z_iincL C 2 (fun v10 => [(0, .ref a0), (1, .int v9), (2, .int v10)]) dX1_boxesInHall_37 rfl zi_1 (by decide) (fun _ => rfl) (fun v10 => ?_)
        refine z_goto C 4 dX1_boxesInHall_40 (by decide) ?_
        exact ih _ _
      refine z_iincL C 2 (fun v8 => [(0, .ref a0), (1, .int x1), (2, .int v8)]) dX1_boxesInHall_37 rfl zi_1 (by decide) (fun _ => rfl) (fun v8 => ?_)
      refine z_goto C 4 dX1_boxesInHall_40 (by decide) ?_
      exact ih _ _
    exact z_sub [1] rfl (hk43 _)
noncomputable def f_X1_boxesInHall (a0 : Nat) (hp : zHp) : Option Int32 :=
  (zis hp a0 1).bind fun _ => l_X1_boxesInHall_4 (fun p11 => some p11) a0 hp 1000000 (0 : Int32) (0 : Int32)
set_option maxHeartbeats 4000000 in
set_option maxRecDepth 100000 in
theorem m_X1_boxesInHall (l : Launch) (D : va_G) (tc : Nat → ClassId) (ro : Nat → Nat) (b0 : Nat) {a0 : Nat} {hp : zHp} {sz : Nat} {r : Int32} (h : f_X1_boxesInHall a0 hp = some r) : zis hp a0 1 = some () ∧ zM l yX1_boxesInHall cX1_boxesInHall 3 (some .int) 1 0 0 [.ref a0] D tc ro b0 hp sz ((zoP sz hp) r).1 ((zoP sz hp) r).2.1 ((zoP sz hp) r).2.2 := by
  refine ⟨?_, z_start (o := (zoP sz hp)) (lv := [(0, .ref a0)]) h (by decide +kernel) RX1 rfl rfl (Nat.le_of_ble_eq_true rfl) (fun P C => ?_)⟩
  · unfold f_X1_boxesInHall at h
    cases hc : zis hp a0 1 with
    | none => rw [hc] at h; cases h
    | some u => rfl
  unfold f_X1_boxesInHall
  refine z_is ?_
  refine z_iconst C dX1_boxesInHall_0 zi_0 ?_
  refine z_istore_n (lv' := [(0, .ref a0), (1, .int (0 : Int32))]) C dX1_boxesInHall_1 (by decide) rfl ?_
  refine z_iconst C dX1_boxesInHall_2 zi_0 ?_
  refine z_istore_n (lv' := [(0, .ref a0), (1, .int (0 : Int32)), (2, .int (0 : Int32))]) C dX1_boxesInHall_3 (by decide) rfl ?_
  refine wl_X1_boxesInHall_4 C (fun p11 => ?_) _ _ _
  refine z_iload_n C dX1_boxesInHall_43 0 rfl ?_
  exact z_ireturnP C dX1_boxesInHall_44
noncomputable def f_X5_piles (a0 : Nat) (hp : zHp) : Option Int32 :=
  (zis hp a0 5).bind fun _ => (zgR hp a0 5 0).bind fun r1 => (zaI hp 0 r1 (0 : Int32)).bind fun v2 => some (v2 + (1 : Int32))
set_option maxHeartbeats 4000000 in
set_option maxRecDepth 100000 in
theorem m_X5_piles (l : Launch) (D : va_G) (tc : Nat → ClassId) (ro : Nat → Nat) (b0 : Nat) {a0 : Nat} {hp : zHp} {sz : Nat} {r : Int32} (h : f_X5_piles a0 hp = some r) : zis hp a0 5 = some () ∧ zM l yX5_piles cX5_piles 1 (some .int) 1 0 0 [.ref a0] D tc ro b0 hp sz ((zoP sz hp) r).1 ((zoP sz hp) r).2.1 ((zoP sz hp) r).2.2 := by
  refine ⟨?_, z_start (o := (zoP sz hp)) (lv := [(0, .ref a0)]) h (by decide +kernel) RX5 rfl rfl (Nat.le_of_ble_eq_true rfl) (fun P C => ?_)⟩
  · unfold f_X5_piles at h
    cases hc : zis hp a0 5 with
    | none => rw [hc] at h; cases h
    | some u => rfl
  unfold f_X5_piles
  refine z_is ?_
  refine z_aload_n C dX5_piles_0 0 rfl ?_
  refine z_getR C zf_X5_9 dX5_piles_1 (fun r1 => ?_)
  refine z_iconst C dX5_piles_4 zi_0 ?_
  refine z_iaload C dX5_piles_5 (fun v2 => ?_)
  refine z_iconst C dX5_piles_6 zi_1 ?_
  refine z_iadd C dX5_piles_7 ?_
  exact z_ireturnP C dX5_piles_8
noncomputable def b_X5_slipped_12 (k38 : Int32 → Option Int32) (a0 : Nat) (x1 : Int32) (x2 : Int32) (x3 : Int32) (hp : zHp) (rec : Int32 → Int32 → Option Int32) (x4 : Int32) (x5 : Int32) : Option Int32 :=
  if x5 < x2 then ((zgR hp a0 5 7).bind fun r1 => (zaR hp 5 r1 x1).bind fun r2 => (zaI hp 0 r2 x5).bind fun v3 => zlet (x4 + v3) fun v4 => zlet (x5 + (1 : Int32)) fun v5 => rec v4 v5) else k38 x4
noncomputable def l_X5_slipped_12 (k38 : Int32 → Option Int32) (a0 : Nat) (x1 : Int32) (x2 : Int32) (x3 : Int32) (hp : zHp) (n : Nat) : Int32 → Int32 → Option Int32 :=
  Nat.rec (motive := fun _ => Int32 → Int32 → Option Int32) (fun _ _ => none) (fun _ rec => b_X5_slipped_12 k38 a0 x1 x2 x3 hp rec) n
theorem l_X5_slipped_12_s (k38 : Int32 → Option Int32) (a0 : Nat) (x1 : Int32) (x2 : Int32) (x3 : Int32) (hp : zHp) (n : Nat) (x4 : Int32) (x5 : Int32) : l_X5_slipped_12 k38 a0 x1 x2 x3 hp (n + 1) x4 x5 = b_X5_slipped_12 k38 a0 x1 x2 x3 hp (l_X5_slipped_12 k38 a0 x1 x2 x3 hp n) x4 x5 := rfl
set_option maxHeartbeats 4000000 in
set_option maxRecDepth 100000 in
theorem wl_X5_slipped_12 {P : zX} {ro : Nat → Nat} {sz : Nat} (C : zC P cX5_slipped RX5 (some .int) 1 0 0 6 ro) {a0 : Nat} {x1 : Int32} {x2 : Int32} {x3 : Int32} {hp : zHp} {k38 : Int32 → Option Int32} (hk38 : ∀ (x4 : Int32), zG P (zoP sz hp) (k38 x4) 38 [(0, .ref a0), (1, .int x1), (2, .int x2), (3, .int x3), (4, .int x4)] [] hp sz 0 0) : ∀ (n : Nat) (x4 : Int32) (x5 : Int32), zG P (zoP sz hp) (l_X5_slipped_12 k38 a0 x1 x2 x3 hp n x4 x5) 12 [(0, .ref a0), (1, .int x1), (2, .int x2), (3, .int x3), (4, .int x4), (5, .int x5)] [] hp sz 0 0 := by
  intro n
  induction n with
  | zero =>
    intro x4 x5
    show zG P (zoP sz hp) none _ _ _ _ _ _ _
    exact z_none
  | succ n ih =>
    intro x4 x5
    show zG P (zoP sz hp) (b_X5_slipped_12 k38 a0 x1 x2 x3 hp (l_X5_slipped_12 k38 a0 x1 x2 x3 hp n) x4 x5) _ _ _ _ _ _ _
    unfold b_X5_slipped_12
    refine z_iload C dX5_slipped_12 5 rfl ?_
    refine z_iload_n C dX5_slipped_14 2 rfl ?_
    refine z_icmp_ge C 38 dX5_slipped_15 (by decide) ?_ ?_
    · refine z_iload C dX5_slipped_18 4 rfl ?_
      refine z_aload_n C dX5_slipped_20 0 rfl ?_
      refine z_getR C zf_X5_35 dX5_slipped_21 (fun r1 => ?_)
      refine z_iload_n C dX5_slipped_24 1 rfl ?_
      refine z_aaload (t := 5) (ty := .array .int) C (fun _ => rfl) rfl (by decide) dX5_slipped_25 (fun r2 => ?_)
      refine z_iload C dX5_slipped_26 5 rfl ?_
      refine z_iaload C dX5_slipped_28 (fun v3 => ?_)
      refine z_iadd C dX5_slipped_29 ?_
      refine z_istoreL C (fun v4 => [(0, .ref a0), (1, .int x1), (2, .int x2), (3, .int x3), (4, .int v4), (5, .int x5)]) dX5_slipped_30 (by decide) (fun _ => rfl) (fun v4 => ?_)
      refine z_iincL C 5 (fun v5 => [(0, .ref a0), (1, .int x1), (2, .int x2), (3, .int x3), (4, .int v4), (5, .int v5)]) dX5_slipped_32 rfl zi_1 (by decide) (fun _ => rfl) (fun v5 => ?_)
      refine z_goto C 12 dX5_slipped_35 (by decide) ?_
      exact ih _ _
    exact z_sub [0, 1, 2, 3, 4] rfl (hk38 _)
noncomputable def f_X5_slipped (a0 : Nat) (x1 : Int32) (x2 : Int32) (x3 : Int32) (hp : zHp) : Option Int32 :=
  (zis hp a0 5).bind fun _ => if 0 < x3 then (l_X5_slipped_12 (fun p6 => (zgR hp a0 5 7).bind fun r7 => (zaR hp 5 r7 x1).bind fun r8 => (zaI hp 0 r8 x2).bind fun v9 => (zdiv (p6 + v9) x3).bind fun v10 => (zdiv p6 x3).bind fun v11 => some (v10 - v11)) a0 x1 x2 x3 hp 1000000 (0 : Int32) (0 : Int32)) else some (0 : Int32)
set_option maxHeartbeats 4000000 in
set_option maxRecDepth 100000 in
theorem m_X5_slipped (l : Launch) (D : va_G) (tc : Nat → ClassId) (ro : Nat → Nat) (b0 : Nat) {a0 : Nat} {x1 : Int32} {x2 : Int32} {x3 : Int32} {hp : zHp} {sz : Nat} {r : Int32} (h : f_X5_slipped a0 x1 x2 x3 hp = some r) : zis hp a0 5 = some () ∧ zM l yX5_slipped cX5_slipped 6 (some .int) 1 0 0 [.ref a0, .int x1, .int x2, .int x3] D tc ro b0 hp sz ((zoP sz hp) r).1 ((zoP sz hp) r).2.1 ((zoP sz hp) r).2.2 := by
  refine ⟨?_, z_start (o := (zoP sz hp)) (lv := [(0, .ref a0), (1, .int x1), (2, .int x2), (3, .int x3)]) h (by decide +kernel) RX5 rfl rfl (Nat.le_of_ble_eq_true rfl) (fun P C => ?_)⟩
  · unfold f_X5_slipped at h
    cases hc : zis hp a0 5 with
    | none => rw [hc] at h; cases h
    | some u => rfl
  unfold f_X5_slipped
  refine z_is ?_
  refine z_iload_n C dX5_slipped_0 3 rfl ?_
  refine z_if_gt C 6 dX5_slipped_1 (by decide) ?_ ?_
  · refine z_iconst C dX5_slipped_6 zi_0 ?_
    refine z_istore (lv' := [(0, .ref a0), (1, .int x1), (2, .int x2), (3, .int x3), (4, .int (0 : Int32))]) C dX5_slipped_7 (by decide) rfl ?_
    refine z_iconst C dX5_slipped_9 zi_0 ?_
    refine z_istore (lv' := [(0, .ref a0), (1, .int x1), (2, .int x2), (3, .int x3), (4, .int (0 : Int32)), (5, .int (0 : Int32))]) C dX5_slipped_10 (by decide) rfl ?_
    refine wl_X5_slipped_12 C (fun p6 => ?_) _ _ _
    refine z_iload C dX5_slipped_38 4 rfl ?_
    refine z_aload_n C dX5_slipped_40 0 rfl ?_
    refine z_getR C zf_X5_35 dX5_slipped_41 (fun r7 => ?_)
    refine z_iload_n C dX5_slipped_44 1 rfl ?_
    refine z_aaload (t := 5) (ty := .array .int) C (fun _ => rfl) rfl (by decide) dX5_slipped_45 (fun r8 => ?_)
    refine z_iload_n C dX5_slipped_46 2 rfl ?_
    refine z_iaload C dX5_slipped_47 (fun v9 => ?_)
    refine z_iadd C dX5_slipped_48 ?_
    refine z_iload_n C dX5_slipped_49 3 rfl ?_
    refine z_idiv C dX5_slipped_50 (fun v10 => ?_)
    refine z_iload C dX5_slipped_51 4 rfl ?_
    refine z_iload_n C dX5_slipped_53 3 rfl ?_
    refine z_idiv C dX5_slipped_54 (fun v11 => ?_)
    refine z_isub C dX5_slipped_55 ?_
    exact z_ireturnP C dX5_slipped_56
  refine z_iconst C dX5_slipped_4 zi_0 ?_
  exact z_ireturnP C dX5_slipped_5
noncomputable def j_X5_wouldFind_24 (a0 : Nat) (x2 : Int32) (x3 : Int32) (x4 : Int32) (s0 : Int32) (hp : zHp) : Option Int32 :=
  (zgR hp a0 5 7).bind fun r3 => (zaR hp 5 r3 x2).bind fun r4 => (zaI hp 0 r4 x3).bind fun v5 => (f_X5_slipped a0 x2 x3 x4 hp).bind fun v6 => (f_X5_slipped a0 x2 s0 x4 hp).bind fun v7 => some ((v5 - v6) + v7)
set_option maxHeartbeats 4000000 in
set_option maxRecDepth 100000 in
theorem wj_X5_wouldFind_24 {P : zX} {ro : Nat → Nat} {sz : Nat} (C : zC P cX5_wouldFind RX5 (some .int) 2 0 0 6 ro) {a0 : Nat} {x2 : Int32} {x3 : Int32} {x4 : Int32} {s0 : Int32} {hp : zHp}  : zG P (zoP sz hp) (j_X5_wouldFind_24 a0 x2 x3 x4 s0 hp) 24 [(0, .ref a0), (2, .int x2), (3, .int x3), (4, .int x4)] [.int s0] hp sz 0 0 := by
  unfold j_X5_wouldFind_24
  refine z_istore (lv' := [(0, .ref a0), (2, .int x2), (3, .int x3), (4, .int x4), (5, .int s0)]) C dX5_wouldFind_24 (by decide) rfl ?_
  refine z_aload_n C dX5_wouldFind_26 0 rfl ?_
  refine z_getR C zf_X5_35 dX5_wouldFind_27 (fun r3 => ?_)
  refine z_iload_n C dX5_wouldFind_30 1 rfl ?_
  refine z_aaload (t := 5) (ty := .array .int) C (fun _ => rfl) rfl (by decide) dX5_wouldFind_31 (fun r4 => ?_)
  refine z_iload_n C dX5_wouldFind_32 2 rfl ?_
  refine z_iaload C dX5_wouldFind_33 (fun v5 => ?_)
  refine z_aload_n C dX5_wouldFind_34 0 rfl ?_
  refine z_iload_n C dX5_wouldFind_35 1 rfl ?_
  refine z_iload_n C dX5_wouldFind_36 2 rfl ?_
  refine z_iload C dX5_wouldFind_37 3 rfl ?_
  refine z_callVp C zc_X5_52 [.int x2, .int x3, .int x4] (fun l D tc b0 r h => m_X5_slipped l D tc ro b0 h) dX5_wouldFind_39 rfl rfl (Nat.le_of_ble_eq_true rfl) (by decide) (by decide) ⟨Nat.le_of_ble_eq_true rfl, Nat.le_of_ble_eq_true rfl⟩ (fun v6 => ?_)
  refine z_isub C dX5_wouldFind_42 ?_
  refine z_aload_n C dX5_wouldFind_43 0 rfl ?_
  refine z_iload_n C dX5_wouldFind_44 1 rfl ?_
  refine z_iload C dX5_wouldFind_45 4 rfl ?_
  refine z_iload C dX5_wouldFind_47 3 rfl ?_
  refine z_callVp C zc_X5_52 [.int x2, .int s0, .int x4] (fun l D tc b0 r h => m_X5_slipped l D tc ro b0 h) dX5_wouldFind_49 rfl rfl (Nat.le_of_ble_eq_true rfl) (by decide) (by decide) ⟨Nat.le_of_ble_eq_true rfl, Nat.le_of_ble_eq_true rfl⟩ (fun v7 => ?_)
  refine z_iadd C dX5_wouldFind_52 ?_
  exact z_ireturnP C dX5_wouldFind_53
noncomputable def f_X5_wouldFind (a0 : Nat) (x1 : Int32) (x2 : Int32) (x3 : Int32) (hp : zHp) : Option Int32 :=
  (zis hp a0 5).bind fun _ => (zgR hp a0 5 8).bind fun r1 => (zaI hp 0 r1 x1).bind fun v2 => if x3 = 0 then ((f_X5_piles a0 hp).bind fun v8 => j_X5_wouldFind_24 a0 x2 x3 v2 (v8 - (1 : Int32)) hp) else j_X5_wouldFind_24 a0 x2 x3 v2 (x3 - (1 : Int32)) hp
set_option maxHeartbeats 4000000 in
set_option maxRecDepth 100000 in
theorem m_X5_wouldFind (l : Launch) (D : va_G) (tc : Nat → ClassId) (ro : Nat → Nat) (b0 : Nat) {a0 : Nat} {x1 : Int32} {x2 : Int32} {x3 : Int32} {hp : zHp} {sz : Nat} {r : Int32} (h : f_X5_wouldFind a0 x1 x2 x3 hp = some r) : zis hp a0 5 = some () ∧ zM l yX5_wouldFind cX5_wouldFind 6 (some .int) 2 0 0 [.ref a0, .int x1, .int x2, .int x3] D tc ro b0 hp sz ((zoP sz hp) r).1 ((zoP sz hp) r).2.1 ((zoP sz hp) r).2.2 := by
  refine ⟨?_, z_start (o := (zoP sz hp)) (lv := [(0, .ref a0), (1, .int x1), (2, .int x2), (3, .int x3)]) h (by decide +kernel) RX5 rfl rfl (Nat.le_of_ble_eq_true rfl) (fun P C => ?_)⟩
  · unfold f_X5_wouldFind at h
    cases hc : zis hp a0 5 with
    | none => rw [hc] at h; cases h
    | some u => rfl
  unfold f_X5_wouldFind
  refine z_is ?_
  refine z_aload_n C dX5_wouldFind_0 0 rfl ?_
  refine z_getR C zf_X5_38 dX5_wouldFind_1 (fun r1 => ?_)
  refine z_iload_n C dX5_wouldFind_4 1 rfl ?_
  refine z_iaload C dX5_wouldFind_5 (fun v2 => ?_)
  refine z_istore (lv' := [(0, .ref a0), (1, .int x1), (2, .int x2), (3, .int x3), (4, .int v2)]) C dX5_wouldFind_6 (by decide) rfl ?_
  refine z_iload_n C dX5_wouldFind_8 3 rfl ?_
  refine z_if_ne C 21 dX5_wouldFind_9 (by decide) ?_ ?_
  · refine z_aload_n C dX5_wouldFind_12 0 rfl ?_
    refine z_callVp C zc_X5_44 [] (fun l D tc b0 r h => m_X5_piles l D tc ro b0 h) dX5_wouldFind_13 rfl rfl (Nat.le_of_ble_eq_true rfl) (by decide) (by decide) ⟨Nat.le_of_ble_eq_true rfl, Nat.le_of_ble_eq_true rfl⟩ (fun v8 => ?_)
    refine z_iconst C dX5_wouldFind_16 zi_1 ?_
    refine z_isub C dX5_wouldFind_17 ?_
    refine z_goto C 24 dX5_wouldFind_18 (by decide) ?_
    exact z_sub [0, 2, 3, 4] rfl (wj_X5_wouldFind_24 C)
  refine z_iload_n C dX5_wouldFind_21 3 rfl ?_
  refine z_iconst C dX5_wouldFind_22 zi_1 ?_
  refine z_isub C dX5_wouldFind_23 ?_
  exact z_sub [0, 2, 3, 4] rfl (wj_X5_wouldFind_24 C)
noncomputable def b_X1_addCount_34 (k76 : zHp → Option zHp) (a0 : Nat) (x1 : Int32) (x2 : Int32) (a3 : Nat) (x4 : Int32) (rec : Int32 → zHp → Option zHp) (x5 : Int32) (h : zHp) : Option zHp :=
  (zgR h a0 1 0).bind fun r7 => (f_X5_piles r7 h).bind fun v8 => if x5 < v8 then ((zgR h a3 0 8).bind fun r9 => (zgR h a0 1 0).bind fun r10 => (f_X5_wouldFind r10 x2 x1 x5 h).bind fun v11 => (zsI h r9 ((x4 * (6 : Int32)) + x5) v11).bind fun h12 => zlet (x5 + (1 : Int32)) fun v13 => rec v13 h12) else k76 h
noncomputable def l_X1_addCount_34 (k76 : zHp → Option zHp) (a0 : Nat) (x1 : Int32) (x2 : Int32) (a3 : Nat) (x4 : Int32) (n : Nat) : Int32 → zHp → Option zHp :=
  Nat.rec (motive := fun _ => Int32 → zHp → Option zHp) (fun _ _ => none) (fun _ rec => b_X1_addCount_34 k76 a0 x1 x2 a3 x4 rec) n
theorem l_X1_addCount_34_s (k76 : zHp → Option zHp) (a0 : Nat) (x1 : Int32) (x2 : Int32) (a3 : Nat) (x4 : Int32) (n : Nat) (x5 : Int32) (h : zHp) : l_X1_addCount_34 k76 a0 x1 x2 a3 x4 (n + 1) x5 h = b_X1_addCount_34 k76 a0 x1 x2 a3 x4 (l_X1_addCount_34 k76 a0 x1 x2 a3 x4 n) x5 h := rfl
set_option maxHeartbeats 4000000 in
set_option maxRecDepth 100000 in
theorem wl_X1_addCount_34 {P : zX} {ro : Nat → Nat} {sz : Nat} (C : zC P cX1_addCount RX1 none 5 0 0 6 ro) {a0 : Nat} {x1 : Int32} {x2 : Int32} {a3 : Nat} {x4 : Int32} {k76 : zHp → Option zHp} (hk76 : ∀ (h : zHp), zG P (zoV sz) (k76 h) 76 [(0, .ref a0), (3, .ref a3)] [] h sz 0 0) : ∀ (n : Nat) (x5 : Int32) (h : zHp), zG P (zoV sz) (l_X1_addCount_34 k76 a0 x1 x2 a3 x4 n x5 h) 34 [(0, .ref a0), (1, .int x1), (2, .int x2), (3, .ref a3), (4, .int x4), (5, .int x5)] [] h sz 0 0 := by
  intro n
  induction n with
  | zero =>
    intro x5 h
    show zG P (zoV sz) none _ _ _ _ _ _ _
    exact z_none
  | succ n ih =>
    intro x5 h
    show zG P (zoV sz) (b_X1_addCount_34 k76 a0 x1 x2 a3 x4 (l_X1_addCount_34 k76 a0 x1 x2 a3 x4 n) x5 h) _ _ _ _ _ _ _
    unfold b_X1_addCount_34
    refine z_iload C dX1_addCount_34 5 rfl ?_
    refine z_aload_n C dX1_addCount_36 0 rfl ?_
    refine z_getR C zf_X1_12 dX1_addCount_37 (fun r7 => ?_)
    refine z_callVp C zc_X1_49 [] (fun l D tc b0 r h => m_X5_piles l D tc ro b0 h) dX1_addCount_40 rfl rfl (Nat.le_of_ble_eq_true rfl) (by decide) (by decide) ⟨Nat.le_of_ble_eq_true rfl, Nat.le_of_ble_eq_true rfl⟩ (fun v8 => ?_)
    refine z_icmp_ge C 76 dX1_addCount_43 (by decide) ?_ ?_
    · refine z_aload_n C dX1_addCount_46 3 rfl ?_
      refine z_getR C zf_X1_53 dX1_addCount_47 (fun r9 => ?_)
      refine z_iload C dX1_addCount_50 4 rfl ?_
      refine z_bipush C dX1_addCount_52 zbi_6 ?_
      refine z_imul C dX1_addCount_54 ?_
      refine z_iload C dX1_addCount_55 5 rfl ?_
      refine z_iadd C dX1_addCount_57 ?_
      refine z_aload_n C dX1_addCount_58 0 rfl ?_
      refine z_getR C zf_X1_12 dX1_addCount_59 (fun r10 => ?_)
      refine z_iload_n C dX1_addCount_62 2 rfl ?_
      refine z_iload_n C dX1_addCount_63 1 rfl ?_
      refine z_iload C dX1_addCount_64 5 rfl ?_
      refine z_callVp C zc_X1_56 [.int x2, .int x1, .int x5] (fun l D tc b0 r h => m_X5_wouldFind l D tc ro b0 h) dX1_addCount_66 rfl rfl (Nat.le_of_ble_eq_true rfl) (by decide) (by decide) ⟨Nat.le_of_ble_eq_true rfl, Nat.le_of_ble_eq_true rfl⟩ (fun v11 => ?_)
      refine z_iastore C dX1_addCount_69 (fun h12 => ?_)
      refine z_iincL C 5 (fun v13 => [(0, .ref a0), (1, .int x1), (2, .int x2), (3, .ref a3), (4, .int x4), (5, .int v13)]) dX1_addCount_70 rfl zi_1 (by decide) (fun _ => rfl) (fun v13 => ?_)
      refine z_goto C 34 dX1_addCount_73 (by decide) ?_
      exact ih _ _
    exact z_sub [0, 3] rfl (hk76 _)
noncomputable def f_X1_addCount (a0 : Nat) (x1 : Int32) (x2 : Int32) (hp : zHp) : Option zHp :=
  (zis hp a0 1).bind fun _ => (zgR hp a0 1 1).bind fun r1 => (zgR hp r1 6 0).bind fun r2 => (zaR hp 3 r2 x1).bind fun r3 => (zgI hp r3 0 3).bind fun v4 => if v4 < (4 : Int32) then ((zgR hp r3 0 7).bind fun r5 => (zsI hp r5 v4 x2).bind fun h6 => l_X1_addCount_34 (fun h14 => (zgI h14 r3 0 3).bind fun v15 => (zpV h14 r3 0 3 (.int (v15 + (1 : Int32)))).bind fun h16 => (zgR h16 a0 1 0).bind fun r17 => (f_X5_piles r17 h16).bind fun v18 => (f_X0_chooseValid r3 v18 h16).bind fun h19 => some h19) a0 x1 x2 r3 v4 1000000 (0 : Int32) h6) else some hp
set_option maxHeartbeats 4000000 in
set_option maxRecDepth 100000 in
theorem m_X1_addCount (l : Launch) (D : va_G) (tc : Nat → ClassId) (ro : Nat → Nat) (b0 : Nat) {a0 : Nat} {x1 : Int32} {x2 : Int32} {hp : zHp} {sz : Nat} {r : zHp} (h : f_X1_addCount a0 x1 x2 hp = some r) : zis hp a0 1 = some () ∧ zM l yX1_addCount cX1_addCount 6 none 5 0 0 [.ref a0, .int x1, .int x2] D tc ro b0 hp sz ((zoV sz) r).1 ((zoV sz) r).2.1 ((zoV sz) r).2.2 := by
  refine ⟨?_, z_start (o := (zoV sz)) (lv := [(0, .ref a0), (1, .int x1), (2, .int x2)]) h (by decide +kernel) RX1 rfl rfl (Nat.le_of_ble_eq_true rfl) (fun P C => ?_)⟩
  · unfold f_X1_addCount at h
    cases hc : zis hp a0 1 with
    | none => rw [hc] at h; cases h
    | some u => rfl
  unfold f_X1_addCount
  refine z_is ?_
  refine z_aload_n C dX1_addCount_0 0 rfl ?_
  refine z_getR C zf_X1_21 dX1_addCount_1 (fun r1 => ?_)
  refine z_getR C zf_X1_33 dX1_addCount_4 (fun r2 => ?_)
  refine z_iload_n C dX1_addCount_7 1 rfl ?_
  refine z_aaload (t := 3) (ty := .object "CountHall$Box") C (fun _ => rfl) rfl (by decide) dX1_addCount_8 (fun r3 => ?_)
  refine z_astore_n (lv' := [(0, .ref a0), (1, .int x1), (2, .int x2), (3, .ref r3)]) C dX1_addCount_9 (by decide) rfl ?_
  refine z_aload_n C dX1_addCount_10 3 rfl ?_
  refine z_getI C zf_X1_43 dX1_addCount_11 (fun v4 => ?_)
  refine z_istore (lv' := [(0, .ref a0), (1, .int x1), (2, .int x2), (3, .ref r3), (4, .int v4)]) C dX1_addCount_14 (by decide) rfl ?_
  refine z_iload C dX1_addCount_16 4 rfl ?_
  refine z_iconst C dX1_addCount_18 zi_4 ?_
  refine z_icmp_lt C 23 dX1_addCount_19 (by decide) ?_ ?_
  · refine z_aload_n C dX1_addCount_23 3 rfl ?_
    refine z_getR C zf_X1_46 dX1_addCount_24 (fun r5 => ?_)
    refine z_iload C dX1_addCount_27 4 rfl ?_
    refine z_iload_n C dX1_addCount_29 2 rfl ?_
    refine z_iastore C dX1_addCount_30 (fun h6 => ?_)
    refine z_iconst C dX1_addCount_31 zi_0 ?_
    refine z_istore (lv' := [(0, .ref a0), (1, .int x1), (2, .int x2), (3, .ref r3), (4, .int v4), (5, .int (0 : Int32))]) C dX1_addCount_32 (by decide) rfl ?_
    refine wl_X1_addCount_34 C (fun h14 => ?_) _ _ _
    refine z_aload_n C dX1_addCount_76 1 rfl ?_
    refine z_dup C dX1_addCount_77 rfl ?_
    refine z_getI C zf_X1_43 dX1_addCount_78 (fun v15 => ?_)
    refine z_iconst C dX1_addCount_81 zi_1 ?_
    refine z_iadd C dX1_addCount_82 ?_
    refine z_putI C zp_X1_43 dX1_addCount_83 (fun h16 => ?_)
    refine z_aload_n C dX1_addCount_86 1 rfl ?_
    refine z_aload_n C dX1_addCount_87 0 rfl ?_
    refine z_getR C zf_X1_12 dX1_addCount_88 (fun r17 => ?_)
    refine z_callVp C zc_X1_49 [] (fun l D tc b0 r h => m_X5_piles l D tc ro b0 h) dX1_addCount_91 rfl rfl (Nat.le_of_ble_eq_true rfl) (by decide) (by decide) ⟨Nat.le_of_ble_eq_true rfl, Nat.le_of_ble_eq_true rfl⟩ (fun v18 => ?_)
    refine z_callVv C zc_X1_60 [.int v18] (fun l D tc b0 r h => m_X0_chooseValid l D tc ro b0 h) dX1_addCount_94 rfl rfl (Nat.le_of_ble_eq_true rfl) (by decide) (by decide) ⟨Nat.le_of_ble_eq_true rfl, Nat.le_of_ble_eq_true rfl⟩ (fun h19 => ?_)
    exact z_return C dX1_addCount_97
  exact z_return C dX1_addCount_22
noncomputable def j_X1_boxFor_49 (k74 : Int32 → Option Int32) (k82 : Option Int32) (rec : Int32 → Option Int32) (a0 : Nat) (x1 : Int32) (x2 : Int32) (x3 : Int32) (a4 : Nat) (s0 : Int32) (hp : zHp) : Option Int32 :=
  if s0 = 0 then (zlet (x3 + (1 : Int32)) fun v7 => rec v7) else (zgI hp a4 0 0).bind fun v8 => if v8 = (-4 : Int32) then ((f_X0_bearsGoodSeal a4 hp).bind fun v10 => if v10 = 0 then (zlet (x3 + (1 : Int32)) fun v11 => rec v11) else k74 x3) else zlet (x3 + (1 : Int32)) fun v9 => rec v9
set_option maxHeartbeats 4000000 in
set_option maxRecDepth 100000 in
theorem wj_X1_boxFor_49 {P : zX} {ro : Nat → Nat} {sz : Nat} (C : zC P cX1_boxFor RX1 (some .int) 3 0 0 6 ro) {a0 : Nat} {x1 : Int32} {x2 : Int32} {x3 : Int32} {a4 : Nat} {s0 : Int32} {hp : zHp} {k74 : Int32 → Option Int32} (hk74 : ∀ (x3 : Int32), zG P (zoP sz hp) (k74 x3) 74 [(3, .int x3)] [] hp sz 0 0) {k82 : Option Int32} (hk82 : zG P (zoP sz hp) (k82) 82 [] [] hp sz 0 0) {rec : Int32 → Option Int32} (hrec : ∀ (x3 : Int32), zG P (zoP sz hp) (rec x3) 2 [(0, .ref a0), (1, .int x1), (2, .int x2), (3, .int x3)] [] hp sz 0 0) : zG P (zoP sz hp) (j_X1_boxFor_49 k74 k82 rec a0 x1 x2 x3 a4 s0 hp) 49 [(0, .ref a0), (1, .int x1), (2, .int x2), (3, .int x3), (4, .ref a4)] [.int s0] hp sz 0 0 := by
  unfold j_X1_boxFor_49
  refine z_istore (lv' := [(0, .ref a0), (1, .int x1), (2, .int x2), (3, .int x3), (4, .ref a4), (5, .int s0)]) C dX1_boxFor_49 (by decide) rfl ?_
  refine z_iload C dX1_boxFor_51 5 rfl ?_
  refine z_if_eq C 76 dX1_boxFor_53 (by decide) ?_ ?_
  · refine z_iincL C 3 (fun v7 => [(0, .ref a0), (1, .int x1), (2, .int x2), (3, .int v7), (4, .ref a4), (5, .int s0)]) dX1_boxFor_76 rfl zi_1 (by decide) (fun _ => rfl) (fun v7 => ?_)
    refine z_goto C 2 dX1_boxFor_79 (by decide) ?_
    exact z_sub [0, 1, 2, 3] rfl (hrec _)
  refine z_aload C dX1_boxFor_56 4 rfl ?_
  refine z_getI C zf_X1_37 dX1_boxFor_58 (fun v8 => ?_)
  refine z_bipush C dX1_boxFor_61 zbi_m4 ?_
  refine z_icmp_ne C 76 dX1_boxFor_63 (by decide) ?_ ?_
  · refine z_aload C dX1_boxFor_66 4 rfl ?_
    refine z_callVp C zc_X1_79 [] (fun l D tc b0 r h => m_X0_bearsGoodSeal l D tc ro b0 h) dX1_boxFor_68 rfl rfl (Nat.le_of_ble_eq_true rfl) (by decide) (by decide) ⟨Nat.le_of_ble_eq_true rfl, Nat.le_of_ble_eq_true rfl⟩ (fun v10 => ?_)
    refine z_if_eq C 76 dX1_boxFor_71 (by decide) ?_ ?_
    · refine z_iincL C 3 (fun v11 => [(0, .ref a0), (1, .int x1), (2, .int x2), (3, .int v11), (4, .ref a4), (5, .int s0)]) dX1_boxFor_76 rfl zi_1 (by decide) (fun _ => rfl) (fun v11 => ?_)
      refine z_goto C 2 dX1_boxFor_79 (by decide) ?_
      exact z_sub [0, 1, 2, 3] rfl (hrec _)
    exact z_sub [3] rfl (hk74 _)
  refine z_iincL C 3 (fun v9 => [(0, .ref a0), (1, .int x1), (2, .int x2), (3, .int v9), (4, .ref a4), (5, .int s0)]) dX1_boxFor_76 rfl zi_1 (by decide) (fun _ => rfl) (fun v9 => ?_)
  refine z_goto C 2 dX1_boxFor_79 (by decide) ?_
  exact z_sub [0, 1, 2, 3] rfl (hrec _)
noncomputable def j_X1_boxFor_48 (k74 : Int32 → Option Int32) (k82 : Option Int32) (rec : Int32 → Option Int32) (a0 : Nat) (x1 : Int32) (x2 : Int32) (x3 : Int32) (a4 : Nat) (hp : zHp) : Option Int32 :=
  j_X1_boxFor_49 k74 k82 rec a0 x1 x2 x3 a4 (0 : Int32) hp
set_option maxHeartbeats 4000000 in
set_option maxRecDepth 100000 in
theorem wj_X1_boxFor_48 {P : zX} {ro : Nat → Nat} {sz : Nat} (C : zC P cX1_boxFor RX1 (some .int) 3 0 0 6 ro) {a0 : Nat} {x1 : Int32} {x2 : Int32} {x3 : Int32} {a4 : Nat} {hp : zHp} {k74 : Int32 → Option Int32} (hk74 : ∀ (x3 : Int32), zG P (zoP sz hp) (k74 x3) 74 [(3, .int x3)] [] hp sz 0 0) {k82 : Option Int32} (hk82 : zG P (zoP sz hp) (k82) 82 [] [] hp sz 0 0) {rec : Int32 → Option Int32} (hrec : ∀ (x3 : Int32), zG P (zoP sz hp) (rec x3) 2 [(0, .ref a0), (1, .int x1), (2, .int x2), (3, .int x3)] [] hp sz 0 0) : zG P (zoP sz hp) (j_X1_boxFor_48 k74 k82 rec a0 x1 x2 x3 a4 hp) 48 [(0, .ref a0), (1, .int x1), (2, .int x2), (3, .int x3), (4, .ref a4)] [] hp sz 0 0 := by
  unfold j_X1_boxFor_48
  refine z_iconst C dX1_boxFor_48 zi_0 ?_
  exact wj_X1_boxFor_49 C hk74 hk82 hrec
noncomputable def b_X1_boxFor_2 (k74 : Int32 → Option Int32) (k82 : Option Int32) (a0 : Nat) (x1 : Int32) (x2 : Int32) (hp : zHp) (rec : Int32 → Option Int32) (x3 : Int32) : Option Int32 :=
  (zgR hp a0 1 0).bind fun r1 => (zgR hp r1 5 0).bind fun r2 => (zaI hp 0 r2 (3 : Int32)).bind fun v3 => if x3 < v3 then ((zgR hp a0 1 1).bind fun r4 => (zgR hp r4 6 0).bind fun r5 => (zaR hp 3 r5 x3).bind fun r6 => if ((x2 >>> (x3 &&& 31)) &&& (1 : Int32)) = (1 : Int32) then ((f_X0_wasCountedAt r6 x1 hp).bind fun v12 => if v12 = 0 then (j_X1_boxFor_49 k74 k82 rec a0 x1 x2 x3 r6 (1 : Int32) hp) else j_X1_boxFor_48 k74 k82 rec a0 x1 x2 x3 r6 hp) else j_X1_boxFor_48 k74 k82 rec a0 x1 x2 x3 r6 hp) else k82
noncomputable def l_X1_boxFor_2 (k74 : Int32 → Option Int32) (k82 : Option Int32) (a0 : Nat) (x1 : Int32) (x2 : Int32) (hp : zHp) (n : Nat) : Int32 → Option Int32 :=
  Nat.rec (motive := fun _ => Int32 → Option Int32) (fun _ => none) (fun _ rec => b_X1_boxFor_2 k74 k82 a0 x1 x2 hp rec) n
theorem l_X1_boxFor_2_s (k74 : Int32 → Option Int32) (k82 : Option Int32) (a0 : Nat) (x1 : Int32) (x2 : Int32) (hp : zHp) (n : Nat) (x3 : Int32) : l_X1_boxFor_2 k74 k82 a0 x1 x2 hp (n + 1) x3 = b_X1_boxFor_2 k74 k82 a0 x1 x2 hp (l_X1_boxFor_2 k74 k82 a0 x1 x2 hp n) x3 := rfl
set_option maxHeartbeats 4000000 in
set_option maxRecDepth 100000 in
theorem wl_X1_boxFor_2 {P : zX} {ro : Nat → Nat} {sz : Nat} (C : zC P cX1_boxFor RX1 (some .int) 3 0 0 6 ro) {a0 : Nat} {x1 : Int32} {x2 : Int32} {hp : zHp} {k74 : Int32 → Option Int32} (hk74 : ∀ (x3 : Int32), zG P (zoP sz hp) (k74 x3) 74 [(3, .int x3)] [] hp sz 0 0) {k82 : Option Int32} (hk82 : zG P (zoP sz hp) (k82) 82 [] [] hp sz 0 0) : ∀ (n : Nat) (x3 : Int32), zG P (zoP sz hp) (l_X1_boxFor_2 k74 k82 a0 x1 x2 hp n x3) 2 [(0, .ref a0), (1, .int x1), (2, .int x2), (3, .int x3)] [] hp sz 0 0 := by
  intro n
  induction n with
  | zero =>
    intro x3
    show zG P (zoP sz hp) none _ _ _ _ _ _ _
    exact z_none
  | succ n ih =>
    intro x3
    show zG P (zoP sz hp) (b_X1_boxFor_2 k74 k82 a0 x1 x2 hp (l_X1_boxFor_2 k74 k82 a0 x1 x2 hp n) x3) _ _ _ _ _ _ _
    unfold b_X1_boxFor_2
    refine z_iload_n C dX1_boxFor_2 3 rfl ?_
    refine z_aload_n C dX1_boxFor_3 0 rfl ?_
    refine z_getR C zf_X1_12 dX1_boxFor_4 (fun r1 => ?_)
    refine z_getR C zf_X1_29 dX1_boxFor_7 (fun r2 => ?_)
    refine z_iconst C dX1_boxFor_10 zi_3 ?_
    refine z_iaload C dX1_boxFor_11 (fun v3 => ?_)
    refine z_icmp_ge C 82 dX1_boxFor_12 (by decide) ?_ ?_
    · refine z_aload_n C dX1_boxFor_15 0 rfl ?_
      refine z_getR C zf_X1_21 dX1_boxFor_16 (fun r4 => ?_)
      refine z_getR C zf_X1_33 dX1_boxFor_19 (fun r5 => ?_)
      refine z_iload_n C dX1_boxFor_22 3 rfl ?_
      refine z_aaload (t := 3) (ty := .object "CountHall$Box") C (fun _ => rfl) rfl (by decide) dX1_boxFor_23 (fun r6 => ?_)
      refine z_astore (lv' := [(0, .ref a0), (1, .int x1), (2, .int x2), (3, .int x3), (4, .ref r6)]) C dX1_boxFor_24 (by decide) rfl ?_
      refine z_iload_n C dX1_boxFor_26 2 rfl ?_
      refine z_iload_n C dX1_boxFor_27 3 rfl ?_
      refine z_ishr C dX1_boxFor_28 ?_
      refine z_iconst C dX1_boxFor_29 zi_1 ?_
      refine z_iand C dX1_boxFor_30 ?_
      refine z_iconst C dX1_boxFor_31 zi_1 ?_
      refine z_icmp_ne C 48 dX1_boxFor_32 (by decide) ?_ ?_
      · refine z_aload C dX1_boxFor_35 4 rfl ?_
        refine z_iload_n C dX1_boxFor_37 1 rfl ?_
        refine z_callVp C zc_X1_75 [.int x1] (fun l D tc b0 r h => m_X0_wasCountedAt l D tc ro b0 h) dX1_boxFor_38 rfl rfl (Nat.le_of_ble_eq_true rfl) (by decide) (by decide) ⟨Nat.le_of_ble_eq_true rfl, Nat.le_of_ble_eq_true rfl⟩ (fun v12 => ?_)
        refine z_if_ne C 48 dX1_boxFor_41 (by decide) ?_ ?_
        · refine z_iconst C dX1_boxFor_44 zi_1 ?_
          refine z_goto C 49 dX1_boxFor_45 (by decide) ?_
          exact wj_X1_boxFor_49 C hk74 hk82 ih
        exact wj_X1_boxFor_48 C hk74 hk82 ih
      exact wj_X1_boxFor_48 C hk74 hk82 ih
    exact z_sub [] rfl (hk82)
noncomputable def f_X1_boxFor (a0 : Nat) (x1 : Int32) (x2 : Int32) (hp : zHp) : Option Int32 :=
  (zis hp a0 1).bind fun _ => l_X1_boxFor_2 (fun p13 => some p13) (some (-1 : Int32)) a0 x1 x2 hp 1000000 (0 : Int32)
set_option maxHeartbeats 4000000 in
set_option maxRecDepth 100000 in
theorem m_X1_boxFor (l : Launch) (D : va_G) (tc : Nat → ClassId) (ro : Nat → Nat) (b0 : Nat) {a0 : Nat} {x1 : Int32} {x2 : Int32} {hp : zHp} {sz : Nat} {r : Int32} (h : f_X1_boxFor a0 x1 x2 hp = some r) : zis hp a0 1 = some () ∧ zM l yX1_boxFor cX1_boxFor 6 (some .int) 3 0 0 [.ref a0, .int x1, .int x2] D tc ro b0 hp sz ((zoP sz hp) r).1 ((zoP sz hp) r).2.1 ((zoP sz hp) r).2.2 := by
  refine ⟨?_, z_start (o := (zoP sz hp)) (lv := [(0, .ref a0), (1, .int x1), (2, .int x2)]) h (by decide +kernel) RX1 rfl rfl (Nat.le_of_ble_eq_true rfl) (fun P C => ?_)⟩
  · unfold f_X1_boxFor at h
    cases hc : zis hp a0 1 with
    | none => rw [hc] at h; cases h
    | some u => rfl
  unfold f_X1_boxFor
  refine z_is ?_
  refine z_iconst C dX1_boxFor_0 zi_0 ?_
  refine z_istore_n (lv' := [(0, .ref a0), (1, .int x1), (2, .int x2), (3, .int (0 : Int32))]) C dX1_boxFor_1 (by decide) rfl ?_
  refine wl_X1_boxFor_2 C (fun p13 => ?_) ?_ _ _
  · refine z_iload_n C dX1_boxFor_74 0 rfl ?_
    exact z_ireturnP C dX1_boxFor_75
  refine z_iconst C dX1_boxFor_82 zi_m1 ?_
  exact z_ireturnP C dX1_boxFor_83
noncomputable def j_X1_fillTables_34 (k60 : zHp → Option zHp) (rec : Int32 → zHp → Option zHp) (a0 : Nat) (x1 : Int32) (x2 : Int32) (s0 : Int32) (h : zHp) : Option zHp :=
  if s0 = (-1 : Int32) then (zlet (x2 + (1 : Int32)) fun v5 => rec v5 h) else (zgR h a0 1 1).bind fun r6 => (zgR h r6 6 0).bind fun r7 => (zaR h 3 r7 s0).bind fun r8 => zb2 (f_X0_openOn r8 x2 h) fun v9 h10 => zlet (x2 + (1 : Int32)) fun v11 => rec v11 h10
set_option maxHeartbeats 4000000 in
set_option maxRecDepth 100000 in
theorem wj_X1_fillTables_34 {P : zX} {ro : Nat → Nat} {sz : Nat} (C : zC P cX1_fillTables RX1 none 4 0 0 4 ro) {a0 : Nat} {x1 : Int32} {x2 : Int32} {s0 : Int32} {h : zHp} {k60 : zHp → Option zHp} (hk60 : ∀ (h : zHp), zG P (zoV sz) (k60 h) 60 [] [] h sz 0 0) {rec : Int32 → zHp → Option zHp} (hrec : ∀ (x2 : Int32) (h : zHp), zG P (zoV sz) (rec x2 h) 2 [(0, .ref a0), (1, .int x1), (2, .int x2)] [] h sz 0 0) : zG P (zoV sz) (j_X1_fillTables_34 k60 rec a0 x1 x2 s0 h) 34 [(0, .ref a0), (1, .int x1), (2, .int x2)] [.int s0] h sz 0 0 := by
  unfold j_X1_fillTables_34
  refine z_istore_n (lv' := [(0, .ref a0), (1, .int x1), (2, .int x2), (3, .int s0)]) C dX1_fillTables_34 (by decide) rfl ?_
  refine z_iload_n C dX1_fillTables_35 3 rfl ?_
  refine z_iconst C dX1_fillTables_36 zi_m1 ?_
  refine z_icmp_eq C 54 dX1_fillTables_37 (by decide) ?_ ?_
  · refine z_iincL C 2 (fun v5 => [(0, .ref a0), (1, .int x1), (2, .int v5), (3, .int s0)]) dX1_fillTables_54 rfl zi_1 (by decide) (fun _ => rfl) (fun v5 => ?_)
    refine z_goto C 2 dX1_fillTables_57 (by decide) ?_
    exact z_sub [0, 1, 2] rfl (hrec _ _)
  refine z_aload_n C dX1_fillTables_40 0 rfl ?_
  refine z_getR C zf_X1_21 dX1_fillTables_41 (fun r6 => ?_)
  refine z_getR C zf_X1_33 dX1_fillTables_44 (fun r7 => ?_)
  refine z_iload_n C dX1_fillTables_47 3 rfl ?_
  refine z_aaload (t := 3) (ty := .object "CountHall$Box") C (fun _ => rfl) rfl (by decide) dX1_fillTables_48 (fun r8 => ?_)
  refine z_iload_n C dX1_fillTables_49 2 rfl ?_
  refine z_callVi C zc_X1_72 [.int x2] (fun l D tc b0 r h => m_X0_openOn l D tc ro b0 h) dX1_fillTables_50 rfl rfl (Nat.le_of_ble_eq_true rfl) (by decide) (by decide) ⟨Nat.le_of_ble_eq_true rfl, Nat.le_of_ble_eq_true rfl⟩ (fun v9 h10 => ?_)
  refine z_pop C dX1_fillTables_53 rfl ?_
  refine z_iincL C 2 (fun v11 => [(0, .ref a0), (1, .int x1), (2, .int v11), (3, .int s0)]) dX1_fillTables_54 rfl zi_1 (by decide) (fun _ => rfl) (fun v11 => ?_)
  refine z_goto C 2 dX1_fillTables_57 (by decide) ?_
  exact z_sub [0, 1, 2] rfl (hrec _ _)
noncomputable def b_X1_fillTables_2 (k60 : zHp → Option zHp) (a0 : Nat) (x1 : Int32) (rec : Int32 → zHp → Option zHp) (x2 : Int32) (h : zHp) : Option zHp :=
  (zgR h a0 1 0).bind fun r1 => (zgR h r1 5 0).bind fun r2 => (zaI h 0 r2 (4 : Int32)).bind fun v3 => if x2 < v3 then ((f_X1_boxOn a0 x2 h).bind fun v4 => if v4 = (-1 : Int32) then ((f_X1_boxFor a0 x2 x1 h).bind fun v12 => j_X1_fillTables_34 k60 rec a0 x1 x2 v12 h) else j_X1_fillTables_34 k60 rec a0 x1 x2 (-1 : Int32) h) else k60 h
noncomputable def l_X1_fillTables_2 (k60 : zHp → Option zHp) (a0 : Nat) (x1 : Int32) (n : Nat) : Int32 → zHp → Option zHp :=
  Nat.rec (motive := fun _ => Int32 → zHp → Option zHp) (fun _ _ => none) (fun _ rec => b_X1_fillTables_2 k60 a0 x1 rec) n
theorem l_X1_fillTables_2_s (k60 : zHp → Option zHp) (a0 : Nat) (x1 : Int32) (n : Nat) (x2 : Int32) (h : zHp) : l_X1_fillTables_2 k60 a0 x1 (n + 1) x2 h = b_X1_fillTables_2 k60 a0 x1 (l_X1_fillTables_2 k60 a0 x1 n) x2 h := rfl
set_option maxHeartbeats 4000000 in
set_option maxRecDepth 100000 in
theorem wl_X1_fillTables_2 {P : zX} {ro : Nat → Nat} {sz : Nat} (C : zC P cX1_fillTables RX1 none 4 0 0 4 ro) {a0 : Nat} {x1 : Int32} {k60 : zHp → Option zHp} (hk60 : ∀ (h : zHp), zG P (zoV sz) (k60 h) 60 [] [] h sz 0 0) : ∀ (n : Nat) (x2 : Int32) (h : zHp), zG P (zoV sz) (l_X1_fillTables_2 k60 a0 x1 n x2 h) 2 [(0, .ref a0), (1, .int x1), (2, .int x2)] [] h sz 0 0 := by
  intro n
  induction n with
  | zero =>
    intro x2 h
    show zG P (zoV sz) none _ _ _ _ _ _ _
    exact z_none
  | succ n ih =>
    intro x2 h
    show zG P (zoV sz) (b_X1_fillTables_2 k60 a0 x1 (l_X1_fillTables_2 k60 a0 x1 n) x2 h) _ _ _ _ _ _ _
    unfold b_X1_fillTables_2
    refine z_iload_n C dX1_fillTables_2 2 rfl ?_
    refine z_aload_n C dX1_fillTables_3 0 rfl ?_
    refine z_getR C zf_X1_12 dX1_fillTables_4 (fun r1 => ?_)
    refine z_getR C zf_X1_29 dX1_fillTables_7 (fun r2 => ?_)
    refine z_iconst C dX1_fillTables_10 zi_4 ?_
    refine z_iaload C dX1_fillTables_11 (fun v3 => ?_)
    refine z_icmp_ge C 60 dX1_fillTables_12 (by decide) ?_ ?_
    · refine z_aload_n C dX1_fillTables_15 0 rfl ?_
      refine z_iload_n C dX1_fillTables_16 2 rfl ?_
      refine z_callVp C zc_X1_64 [.int x2] (fun l D tc b0 r h => m_X1_boxOn l D tc ro b0 h) dX1_fillTables_17 rfl rfl (Nat.le_of_ble_eq_true rfl) (by decide) (by decide) ⟨Nat.le_of_ble_eq_true rfl, Nat.le_of_ble_eq_true rfl⟩ (fun v4 => ?_)
      refine z_iconst C dX1_fillTables_20 zi_m1 ?_
      refine z_icmp_ne C 33 dX1_fillTables_21 (by decide) ?_ ?_
      · refine z_aload_n C dX1_fillTables_24 0 rfl ?_
        refine z_iload_n C dX1_fillTables_25 2 rfl ?_
        refine z_iload_n C dX1_fillTables_26 1 rfl ?_
        refine z_callVp C zc_X1_68 [.int x2, .int x1] (fun l D tc b0 r h => m_X1_boxFor l D tc ro b0 h) dX1_fillTables_27 rfl rfl (Nat.le_of_ble_eq_true rfl) (by decide) (by decide) ⟨Nat.le_of_ble_eq_true rfl, Nat.le_of_ble_eq_true rfl⟩ (fun v12 => ?_)
        refine z_goto C 34 dX1_fillTables_30 (by decide) ?_
        exact wj_X1_fillTables_34 C hk60 ih
      refine z_iconst C dX1_fillTables_33 zi_m1 ?_
      exact wj_X1_fillTables_34 C hk60 ih
    exact z_sub [] rfl (hk60 _)
noncomputable def f_X1_fillTables (a0 : Nat) (x1 : Int32) (hp : zHp) : Option zHp :=
  (zis hp a0 1).bind fun _ => l_X1_fillTables_2 (fun h13 => some h13) a0 x1 1000000 (0 : Int32) hp
set_option maxHeartbeats 4000000 in
set_option maxRecDepth 100000 in
theorem m_X1_fillTables (l : Launch) (D : va_G) (tc : Nat → ClassId) (ro : Nat → Nat) (b0 : Nat) {a0 : Nat} {x1 : Int32} {hp : zHp} {sz : Nat} {r : zHp} (h : f_X1_fillTables a0 x1 hp = some r) : zis hp a0 1 = some () ∧ zM l yX1_fillTables cX1_fillTables 4 none 4 0 0 [.ref a0, .int x1] D tc ro b0 hp sz ((zoV sz) r).1 ((zoV sz) r).2.1 ((zoV sz) r).2.2 := by
  refine ⟨?_, z_start (o := (zoV sz)) (lv := [(0, .ref a0), (1, .int x1)]) h (by decide +kernel) RX1 rfl rfl (Nat.le_of_ble_eq_true rfl) (fun P C => ?_)⟩
  · unfold f_X1_fillTables at h
    cases hc : zis hp a0 1 with
    | none => rw [hc] at h; cases h
    | some u => rfl
  unfold f_X1_fillTables
  refine z_is ?_
  refine z_iconst C dX1_fillTables_0 zi_0 ?_
  refine z_istore_n (lv' := [(0, .ref a0), (1, .int x1), (2, .int (0 : Int32))]) C dX1_fillTables_1 (by decide) rfl ?_
  refine wl_X1_fillTables_2 C (fun h13 => ?_) _ _ _
  exact z_return C dX1_fillTables_60
noncomputable def f_X6_sealUp (a0 : Nat) (x1 : Int32) (hp : zHp) : Option zHp :=
  (zis hp a0 6).bind fun _ => (zgR hp a0 6 0).bind fun r1 => (zaR hp 3 r1 x1).bind fun r2 => (zgI hp a0 6 4).bind fun v3 => (zpV hp r2 0 1 (.int v3)).bind fun h4 => (zgI h4 a0 6 4).bind fun v5 => (f_X0_enter r2 v5 h4).bind fun h6 => (zpV h6 r2 0 0 (.int (-4 : Int32))).bind fun h7 => (zgI h7 a0 6 4).bind fun v8 => (zpV h7 a0 6 4 (.int (v8 + (1 : Int32)))).bind fun h9 => some h9
set_option maxHeartbeats 4000000 in
set_option maxRecDepth 100000 in
theorem m_X6_sealUp (l : Launch) (D : va_G) (tc : Nat → ClassId) (ro : Nat → Nat) (b0 : Nat) {a0 : Nat} {x1 : Int32} {hp : zHp} {sz : Nat} {r : zHp} (h : f_X6_sealUp a0 x1 hp = some r) : zis hp a0 6 = some () ∧ zM l yX6_sealUp cX6_sealUp 3 none 2 0 0 [.ref a0, .int x1] D tc ro b0 hp sz ((zoV sz) r).1 ((zoV sz) r).2.1 ((zoV sz) r).2.2 := by
  refine ⟨?_, z_start (o := (zoV sz)) (lv := [(0, .ref a0), (1, .int x1)]) h (by decide +kernel) RX6 rfl rfl (Nat.le_of_ble_eq_true rfl) (fun P C => ?_)⟩
  · unfold f_X6_sealUp at h
    cases hc : zis hp a0 6 with
    | none => rw [hc] at h; cases h
    | some u => rfl
  unfold f_X6_sealUp
  refine z_is ?_
  refine z_aload_n C dX6_sealUp_0 0 rfl ?_
  refine z_getR C zf_X6_11 dX6_sealUp_1 (fun r1 => ?_)
  refine z_iload_n C dX6_sealUp_4 1 rfl ?_
  refine z_aaload (t := 3) (ty := .object "CountHall$Box") C (fun _ => rfl) rfl (by decide) dX6_sealUp_5 (fun r2 => ?_)
  refine z_astore_n (lv' := [(0, .ref a0), (1, .int x1), (2, .ref r2)]) C dX6_sealUp_6 (by decide) rfl ?_
  refine z_aload_n C dX6_sealUp_7 2 rfl ?_
  refine z_aload_n C dX6_sealUp_8 0 rfl ?_
  refine z_getI C zf_X6_25 dX6_sealUp_9 (fun v3 => ?_)
  refine z_putI C zp_X6_55 dX6_sealUp_12 (fun h4 => ?_)
  refine z_aload_n C dX6_sealUp_15 2 rfl ?_
  refine z_aload_n C dX6_sealUp_16 0 rfl ?_
  refine z_getI C zf_X6_25 dX6_sealUp_17 (fun v5 => ?_)
  refine z_callVv C zc_X6_58 [.int v5] (fun l D tc b0 r h => m_X0_enter l D tc ro b0 h) dX6_sealUp_20 rfl rfl (Nat.le_of_ble_eq_true rfl) (by decide) (by decide) ⟨Nat.le_of_ble_eq_true rfl, Nat.le_of_ble_eq_true rfl⟩ (fun h6 => ?_)
  refine z_aload_n C dX6_sealUp_23 2 rfl ?_
  refine z_bipush C dX6_sealUp_24 zbi_m4 ?_
  refine z_putI C zp_X6_61 dX6_sealUp_26 (fun h7 => ?_)
  refine z_aload_n C dX6_sealUp_29 0 rfl ?_
  refine z_dup C dX6_sealUp_30 rfl ?_
  refine z_getI C zf_X6_25 dX6_sealUp_31 (fun v8 => ?_)
  refine z_iconst C dX6_sealUp_34 zi_1 ?_
  refine z_iadd C dX6_sealUp_35 ?_
  refine z_putI C zp_X6_25 dX6_sealUp_36 (fun h9 => ?_)
  exact z_return C dX6_sealUp_39
noncomputable def j_X1_countAndSeal_52 (a3 : Nat) (x4 : Int32) (h : zHp) : Option (Int32 × zHp) :=
  (zgI h a3 0 3).bind fun v8 => some (v8 - x4, h)
set_option maxHeartbeats 4000000 in
set_option maxRecDepth 100000 in
theorem wj_X1_countAndSeal_52 {P : zX} {ro : Nat → Nat} {sz : Nat} (C : zC P cX1_countAndSeal RX1 (some .int) 6 0 0 5 ro) {a3 : Nat} {x4 : Int32} {h : zHp}  : zG P (zoI sz) (j_X1_countAndSeal_52 a3 x4 h) 52 [(3, .ref a3), (4, .int x4)] [] h sz 0 0 := by
  unfold j_X1_countAndSeal_52
  refine z_aload_n C dX1_countAndSeal_52 0 rfl ?_
  refine z_getI C zf_X1_43 dX1_countAndSeal_53 (fun v8 => ?_)
  refine z_iload C dX1_countAndSeal_56 1 rfl ?_
  refine z_isub C dX1_countAndSeal_58 ?_
  exact z_ireturn C dX1_countAndSeal_59
noncomputable def f_X1_countAndSeal (a0 : Nat) (x1 : Int32) (hp : zHp) : Option (Int32 × zHp) :=
  (zis hp a0 1).bind fun _ => (f_X1_boxOn a0 x1 hp).bind fun v1 => if v1 = (-1 : Int32) then (some ((0 : Int32), hp)) else (zgR hp a0 1 1).bind fun r2 => (zgR hp r2 6 0).bind fun r3 => (zaR hp 3 r3 v1).bind fun r4 => (zgI hp r4 0 3).bind fun v5 => (f_X1_addCount a0 v1 x1 hp).bind fun h6 => (zgI h6 r4 0 2).bind fun v7 => if v7 < (12 : Int32) then ((zgR h6 a0 1 1).bind fun r9 => (f_X6_sealUp r9 v1 h6).bind fun h10 => j_X1_countAndSeal_52 r4 v5 h10) else j_X1_countAndSeal_52 r4 v5 h6
set_option maxHeartbeats 4000000 in
set_option maxRecDepth 100000 in
theorem m_X1_countAndSeal (l : Launch) (D : va_G) (tc : Nat → ClassId) (ro : Nat → Nat) (b0 : Nat) {a0 : Nat} {x1 : Int32} {hp : zHp} {sz : Nat} {r : (Int32 × zHp)} (h : f_X1_countAndSeal a0 x1 hp = some r) : zis hp a0 1 = some () ∧ zM l yX1_countAndSeal cX1_countAndSeal 5 (some .int) 6 0 0 [.ref a0, .int x1] D tc ro b0 hp sz ((zoI sz) r).1 ((zoI sz) r).2.1 ((zoI sz) r).2.2 := by
  refine ⟨?_, z_start (o := (zoI sz)) (lv := [(0, .ref a0), (1, .int x1)]) h (by decide +kernel) RX1 rfl rfl (Nat.le_of_ble_eq_true rfl) (fun P C => ?_)⟩
  · unfold f_X1_countAndSeal at h
    cases hc : zis hp a0 1 with
    | none => rw [hc] at h; cases h
    | some u => rfl
  unfold f_X1_countAndSeal
  refine z_is ?_
  refine z_aload_n C dX1_countAndSeal_0 0 rfl ?_
  refine z_iload_n C dX1_countAndSeal_1 1 rfl ?_
  refine z_callVp C zc_X1_64 [.int x1] (fun l D tc b0 r h => m_X1_boxOn l D tc ro b0 h) dX1_countAndSeal_2 rfl rfl (Nat.le_of_ble_eq_true rfl) (by decide) (by decide) ⟨Nat.le_of_ble_eq_true rfl, Nat.le_of_ble_eq_true rfl⟩ (fun v1 => ?_)
  refine z_istore_n (lv' := [(0, .ref a0), (1, .int x1), (2, .int v1)]) C dX1_countAndSeal_5 (by decide) rfl ?_
  refine z_iload_n C dX1_countAndSeal_6 2 rfl ?_
  refine z_iconst C dX1_countAndSeal_7 zi_m1 ?_
  refine z_icmp_ne C 13 dX1_countAndSeal_8 (by decide) ?_ ?_
  · refine z_iconst C dX1_countAndSeal_11 zi_0 ?_
    exact z_ireturn C dX1_countAndSeal_12
  refine z_aload_n C dX1_countAndSeal_13 0 rfl ?_
  refine z_getR C zf_X1_21 dX1_countAndSeal_14 (fun r2 => ?_)
  refine z_getR C zf_X1_33 dX1_countAndSeal_17 (fun r3 => ?_)
  refine z_iload_n C dX1_countAndSeal_20 2 rfl ?_
  refine z_aaload (t := 3) (ty := .object "CountHall$Box") C (fun _ => rfl) rfl (by decide) dX1_countAndSeal_21 (fun r4 => ?_)
  refine z_astore_n (lv' := [(0, .ref a0), (1, .int x1), (2, .int v1), (3, .ref r4)]) C dX1_countAndSeal_22 (by decide) rfl ?_
  refine z_aload_n C dX1_countAndSeal_23 3 rfl ?_
  refine z_getI C zf_X1_43 dX1_countAndSeal_24 (fun v5 => ?_)
  refine z_istore (lv' := [(0, .ref a0), (1, .int x1), (2, .int v1), (3, .ref r4), (4, .int v5)]) C dX1_countAndSeal_27 (by decide) rfl ?_
  refine z_aload_n C dX1_countAndSeal_29 0 rfl ?_
  refine z_iload_n C dX1_countAndSeal_30 2 rfl ?_
  refine z_iload_n C dX1_countAndSeal_31 1 rfl ?_
  refine z_callVv C zc_X1_83 [.int v1, .int x1] (fun l D tc b0 r h => m_X1_addCount l D tc ro b0 h) dX1_countAndSeal_32 rfl rfl (Nat.le_of_ble_eq_true rfl) (by decide) (by decide) ⟨Nat.le_of_ble_eq_true rfl, Nat.le_of_ble_eq_true rfl⟩ (fun h6 => ?_)
  refine z_aload_n C dX1_countAndSeal_35 3 rfl ?_
  refine z_getI C zf_X1_87 dX1_countAndSeal_36 (fun v7 => ?_)
  refine z_bipush C dX1_countAndSeal_39 zbi_12 ?_
  refine z_icmp_ge C 52 dX1_countAndSeal_41 (by decide) ?_ ?_
  · refine z_aload_n C dX1_countAndSeal_44 0 rfl ?_
    refine z_getR C zf_X1_21 dX1_countAndSeal_45 (fun r9 => ?_)
    refine z_iload_n C dX1_countAndSeal_48 2 rfl ?_
    refine z_callVv C zc_X1_90 [.int v1] (fun l D tc b0 r h => m_X6_sealUp l D tc ro b0 h) dX1_countAndSeal_49 rfl rfl (Nat.le_of_ble_eq_true rfl) (by decide) (by decide) ⟨Nat.le_of_ble_eq_true rfl, Nat.le_of_ble_eq_true rfl⟩ (fun h10 => ?_)
    exact z_sub [3, 4] rfl (wj_X1_countAndSeal_52 C)
  exact z_sub [3, 4] rfl (wj_X1_countAndSeal_52 C)
noncomputable def b_X1_papersTooMany_24 (k51 : Int32 → Option Int32) (a0 : Nat) (x1 : Int32) (a2 : Nat) (hp : zHp) (rec : Int32 → Int32 → Option Int32) (x3 : Int32) (x4 : Int32) : Option Int32 :=
  (zgR hp a0 1 0).bind fun r5 => (f_X5_piles r5 hp).bind fun v6 => if x4 < v6 then ((f_X0_foundValidly a2 x4 hp).bind fun v7 => zlet (x3 + v7) fun v8 => zlet (x4 + (1 : Int32)) fun v9 => rec v8 v9) else k51 x3
noncomputable def l_X1_papersTooMany_24 (k51 : Int32 → Option Int32) (a0 : Nat) (x1 : Int32) (a2 : Nat) (hp : zHp) (n : Nat) : Int32 → Int32 → Option Int32 :=
  Nat.rec (motive := fun _ => Int32 → Int32 → Option Int32) (fun _ _ => none) (fun _ rec => b_X1_papersTooMany_24 k51 a0 x1 a2 hp rec) n
theorem l_X1_papersTooMany_24_s (k51 : Int32 → Option Int32) (a0 : Nat) (x1 : Int32) (a2 : Nat) (hp : zHp) (n : Nat) (x3 : Int32) (x4 : Int32) : l_X1_papersTooMany_24 k51 a0 x1 a2 hp (n + 1) x3 x4 = b_X1_papersTooMany_24 k51 a0 x1 a2 hp (l_X1_papersTooMany_24 k51 a0 x1 a2 hp n) x3 x4 := rfl
set_option maxHeartbeats 4000000 in
set_option maxRecDepth 100000 in
theorem wl_X1_papersTooMany_24 {P : zX} {ro : Nat → Nat} {sz : Nat} (C : zC P cX1_papersTooMany RX1 (some .int) 3 0 0 5 ro) {a0 : Nat} {x1 : Int32} {a2 : Nat} {hp : zHp} {k51 : Int32 → Option Int32} (hk51 : ∀ (x3 : Int32), zG P (zoP sz hp) (k51 x3) 51 [(0, .ref a0), (1, .int x1), (3, .int x3)] [] hp sz 0 0) : ∀ (n : Nat) (x3 : Int32) (x4 : Int32), zG P (zoP sz hp) (l_X1_papersTooMany_24 k51 a0 x1 a2 hp n x3 x4) 24 [(0, .ref a0), (1, .int x1), (2, .ref a2), (3, .int x3), (4, .int x4)] [] hp sz 0 0 := by
  intro n
  induction n with
  | zero =>
    intro x3 x4
    show zG P (zoP sz hp) none _ _ _ _ _ _ _
    exact z_none
  | succ n ih =>
    intro x3 x4
    show zG P (zoP sz hp) (b_X1_papersTooMany_24 k51 a0 x1 a2 hp (l_X1_papersTooMany_24 k51 a0 x1 a2 hp n) x3 x4) _ _ _ _ _ _ _
    unfold b_X1_papersTooMany_24
    refine z_iload C dX1_papersTooMany_24 4 rfl ?_
    refine z_aload_n C dX1_papersTooMany_26 0 rfl ?_
    refine z_getR C zf_X1_12 dX1_papersTooMany_27 (fun r5 => ?_)
    refine z_callVp C zc_X1_49 [] (fun l D tc b0 r h => m_X5_piles l D tc ro b0 h) dX1_papersTooMany_30 rfl rfl (Nat.le_of_ble_eq_true rfl) (by decide) (by decide) ⟨Nat.le_of_ble_eq_true rfl, Nat.le_of_ble_eq_true rfl⟩ (fun v6 => ?_)
    refine z_icmp_ge C 51 dX1_papersTooMany_33 (by decide) ?_ ?_
    · refine z_iload_n C dX1_papersTooMany_36 3 rfl ?_
      refine z_aload_n C dX1_papersTooMany_37 2 rfl ?_
      refine z_iload C dX1_papersTooMany_38 4 rfl ?_
      refine z_callVp C zc_X1_93 [.int x4] (fun l D tc b0 r h => m_X0_foundValidly l D tc ro b0 h) dX1_papersTooMany_40 rfl rfl (Nat.le_of_ble_eq_true rfl) (by decide) (by decide) ⟨Nat.le_of_ble_eq_true rfl, Nat.le_of_ble_eq_true rfl⟩ (fun v7 => ?_)
      refine z_iadd C dX1_papersTooMany_43 ?_
      refine z_istore_nL C (fun v8 => [(0, .ref a0), (1, .int x1), (2, .ref a2), (3, .int v8), (4, .int x4)]) dX1_papersTooMany_44 (by decide) (fun _ => rfl) (fun v8 => ?_)
      refine z_iincL C 4 (fun v9 => [(0, .ref a0), (1, .int x1), (2, .ref a2), (3, .int v8), (4, .int v9)]) dX1_papersTooMany_45 rfl zi_1 (by decide) (fun _ => rfl) (fun v9 => ?_)
      refine z_goto C 24 dX1_papersTooMany_48 (by decide) ?_
      exact ih _ _
    exact z_sub [0, 1, 3] rfl (hk51 _)
noncomputable def f_X1_papersTooMany (a0 : Nat) (x1 : Int32) (hp : zHp) : Option Int32 :=
  (zis hp a0 1).bind fun _ => (zgR hp a0 1 1).bind fun r1 => (zgR hp r1 6 0).bind fun r2 => (zaR hp 3 r2 x1).bind fun r3 => (zgI hp r3 0 3).bind fun v4 => if v4 = 0 then (some (0 : Int32)) else l_X1_papersTooMany_24 (fun p10 => (zgR hp a0 1 0).bind fun r11 => (zgR hp r11 5 5).bind fun r12 => (zaI hp 0 r12 x1).bind fun v13 => some (p10 - v13)) a0 x1 r3 hp 1000000 (0 : Int32) (0 : Int32)
set_option maxHeartbeats 4000000 in
set_option maxRecDepth 100000 in
theorem m_X1_papersTooMany (l : Launch) (D : va_G) (tc : Nat → ClassId) (ro : Nat → Nat) (b0 : Nat) {a0 : Nat} {x1 : Int32} {hp : zHp} {sz : Nat} {r : Int32} (h : f_X1_papersTooMany a0 x1 hp = some r) : zis hp a0 1 = some () ∧ zM l yX1_papersTooMany cX1_papersTooMany 5 (some .int) 3 0 0 [.ref a0, .int x1] D tc ro b0 hp sz ((zoP sz hp) r).1 ((zoP sz hp) r).2.1 ((zoP sz hp) r).2.2 := by
  refine ⟨?_, z_start (o := (zoP sz hp)) (lv := [(0, .ref a0), (1, .int x1)]) h (by decide +kernel) RX1 rfl rfl (Nat.le_of_ble_eq_true rfl) (fun P C => ?_)⟩
  · unfold f_X1_papersTooMany at h
    cases hc : zis hp a0 1 with
    | none => rw [hc] at h; cases h
    | some u => rfl
  unfold f_X1_papersTooMany
  refine z_is ?_
  refine z_aload_n C dX1_papersTooMany_0 0 rfl ?_
  refine z_getR C zf_X1_21 dX1_papersTooMany_1 (fun r1 => ?_)
  refine z_getR C zf_X1_33 dX1_papersTooMany_4 (fun r2 => ?_)
  refine z_iload_n C dX1_papersTooMany_7 1 rfl ?_
  refine z_aaload (t := 3) (ty := .object "CountHall$Box") C (fun _ => rfl) rfl (by decide) dX1_papersTooMany_8 (fun r3 => ?_)
  refine z_astore_n (lv' := [(0, .ref a0), (1, .int x1), (2, .ref r3)]) C dX1_papersTooMany_9 (by decide) rfl ?_
  refine z_aload_n C dX1_papersTooMany_10 2 rfl ?_
  refine z_getI C zf_X1_43 dX1_papersTooMany_11 (fun v4 => ?_)
  refine z_if_ne C 19 dX1_papersTooMany_14 (by decide) ?_ ?_
  · refine z_iconst C dX1_papersTooMany_17 zi_0 ?_
    exact z_ireturnP C dX1_papersTooMany_18
  refine z_iconst C dX1_papersTooMany_19 zi_0 ?_
  refine z_istore_n (lv' := [(0, .ref a0), (1, .int x1), (2, .ref r3), (3, .int (0 : Int32))]) C dX1_papersTooMany_20 (by decide) rfl ?_
  refine z_iconst C dX1_papersTooMany_21 zi_0 ?_
  refine z_istore (lv' := [(0, .ref a0), (1, .int x1), (2, .ref r3), (3, .int (0 : Int32)), (4, .int (0 : Int32))]) C dX1_papersTooMany_22 (by decide) rfl ?_
  refine wl_X1_papersTooMany_24 C (fun p10 => ?_) _ _ _
  refine z_iload_n C dX1_papersTooMany_51 2 rfl ?_
  refine z_aload_n C dX1_papersTooMany_52 0 rfl ?_
  refine z_getR C zf_X1_12 dX1_papersTooMany_53 (fun r11 => ?_)
  refine z_getR C zf_X1_96 dX1_papersTooMany_56 (fun r12 => ?_)
  refine z_iload_n C dX1_papersTooMany_59 1 rfl ?_
  refine z_iaload C dX1_papersTooMany_60 (fun v13 => ?_)
  refine z_isub C dX1_papersTooMany_61 ?_
  exact z_ireturnP C dX1_papersTooMany_62
noncomputable def f_X1_isBoxOff (a0 : Nat) (x1 : Int32) (hp : zHp) : Option Int32 :=
  (zis hp a0 1).bind fun _ => (f_X1_papersTooMany a0 x1 hp).bind fun v1 => (zgR hp a0 1 1).bind fun r2 => (zgR hp r2 6 1).bind fun r3 => (zaI hp 0 r3 (1 : Int32)).bind fun v4 => if v4 < (zabs v1) then (some (1 : Int32)) else some (0 : Int32)
set_option maxHeartbeats 4000000 in
set_option maxRecDepth 100000 in
theorem m_X1_isBoxOff (l : Launch) (D : va_G) (tc : Nat → ClassId) (ro : Nat → Nat) (b0 : Nat) {a0 : Nat} {x1 : Int32} {hp : zHp} {sz : Nat} {r : Int32} (h : f_X1_isBoxOff a0 x1 hp = some r) : zis hp a0 1 = some () ∧ zM l yX1_isBoxOff cX1_isBoxOff 2 (some .boolean) 4 0 0 [.ref a0, .int x1] D tc ro b0 hp sz ((zoP sz hp) r).1 ((zoP sz hp) r).2.1 ((zoP sz hp) r).2.2 := by
  refine ⟨?_, z_start (o := (zoP sz hp)) (lv := [(0, .ref a0), (1, .int x1)]) h (by decide +kernel) RX1 rfl rfl (Nat.le_of_ble_eq_true rfl) (fun P C => ?_)⟩
  · unfold f_X1_isBoxOff at h
    cases hc : zis hp a0 1 with
    | none => rw [hc] at h; cases h
    | some u => rfl
  unfold f_X1_isBoxOff
  refine z_is ?_
  refine z_aload_n C dX1_isBoxOff_0 0 rfl ?_
  refine z_iload_n C dX1_isBoxOff_1 1 rfl ?_
  refine z_callVp C zc_X1_99 [.int x1] (fun l D tc b0 r h => m_X1_papersTooMany l D tc ro b0 h) dX1_isBoxOff_2 rfl rfl (Nat.le_of_ble_eq_true rfl) (by decide) (by decide) ⟨Nat.le_of_ble_eq_true rfl, Nat.le_of_ble_eq_true rfl⟩ (fun v1 => ?_)
  refine z_mabs C zm_X1_102 dX1_isBoxOff_5 (Nat.le_of_ble_eq_true rfl) (by decide) ⟨Nat.le_of_ble_eq_true rfl, Nat.le_of_ble_eq_true rfl⟩ ?_
  refine z_aload_n C dX1_isBoxOff_8 0 rfl ?_
  refine z_getR C zf_X1_21 dX1_isBoxOff_9 (fun r2 => ?_)
  refine z_getR C zf_X1_107 dX1_isBoxOff_12 (fun r3 => ?_)
  refine z_iconst C dX1_isBoxOff_15 zi_1 ?_
  refine z_iaload C dX1_isBoxOff_16 (fun v4 => ?_)
  refine z_icmp_le C 24 dX1_isBoxOff_17 (by decide) ?_ ?_
  · refine z_iconst C dX1_isBoxOff_20 zi_1 ?_
    refine z_goto C 25 dX1_isBoxOff_21 (by decide) ?_
    exact z_kreturnP C rfl dX1_isBoxOff_25
  refine z_iconst C dX1_isBoxOff_24 zi_0 ?_
  exact z_kreturnP C rfl dX1_isBoxOff_25
noncomputable def b_X1_foundInWard_5 (k56 : Int32 → Option Int32) (a0 : Nat) (x1 : Int32) (x2 : Int32) (hp : zHp) (rec : Int32 → Int32 → Option Int32) (x3 : Int32) (x4 : Int32) : Option Int32 :=
  (zgR hp a0 1 0).bind fun r1 => (zgR hp r1 5 0).bind fun r2 => (zaI hp 0 r2 (3 : Int32)).bind fun v3 => if x4 < v3 then ((zgR hp a0 1 0).bind fun r4 => (zgR hp r4 5 4).bind fun r5 => (zaI hp 0 r5 x4).bind fun v6 => if v6 = x1 then ((zgR hp a0 1 1).bind fun r8 => (zgR hp r8 6 0).bind fun r9 => (zaR hp 3 r9 x4).bind fun r10 => (f_X0_foundValidly r10 x2 hp).bind fun v11 => zlet (x3 + v11) fun v12 => zlet (x4 + (1 : Int32)) fun v13 => rec v12 v13) else zlet (x4 + (1 : Int32)) fun v7 => rec x3 v7) else k56 x3
noncomputable def l_X1_foundInWard_5 (k56 : Int32 → Option Int32) (a0 : Nat) (x1 : Int32) (x2 : Int32) (hp : zHp) (n : Nat) : Int32 → Int32 → Option Int32 :=
  Nat.rec (motive := fun _ => Int32 → Int32 → Option Int32) (fun _ _ => none) (fun _ rec => b_X1_foundInWard_5 k56 a0 x1 x2 hp rec) n
theorem l_X1_foundInWard_5_s (k56 : Int32 → Option Int32) (a0 : Nat) (x1 : Int32) (x2 : Int32) (hp : zHp) (n : Nat) (x3 : Int32) (x4 : Int32) : l_X1_foundInWard_5 k56 a0 x1 x2 hp (n + 1) x3 x4 = b_X1_foundInWard_5 k56 a0 x1 x2 hp (l_X1_foundInWard_5 k56 a0 x1 x2 hp n) x3 x4 := rfl
set_option maxHeartbeats 4000000 in
set_option maxRecDepth 100000 in
theorem wl_X1_foundInWard_5 {P : zX} {ro : Nat → Nat} {sz : Nat} (C : zC P cX1_foundInWard RX1 (some .int) 3 0 0 5 ro) {a0 : Nat} {x1 : Int32} {x2 : Int32} {hp : zHp} {k56 : Int32 → Option Int32} (hk56 : ∀ (x3 : Int32), zG P (zoP sz hp) (k56 x3) 56 [(3, .int x3)] [] hp sz 0 0) : ∀ (n : Nat) (x3 : Int32) (x4 : Int32), zG P (zoP sz hp) (l_X1_foundInWard_5 k56 a0 x1 x2 hp n x3 x4) 5 [(0, .ref a0), (1, .int x1), (2, .int x2), (3, .int x3), (4, .int x4)] [] hp sz 0 0 := by
  intro n
  induction n with
  | zero =>
    intro x3 x4
    show zG P (zoP sz hp) none _ _ _ _ _ _ _
    exact z_none
  | succ n ih =>
    intro x3 x4
    show zG P (zoP sz hp) (b_X1_foundInWard_5 k56 a0 x1 x2 hp (l_X1_foundInWard_5 k56 a0 x1 x2 hp n) x3 x4) _ _ _ _ _ _ _
    unfold b_X1_foundInWard_5
    refine z_iload C dX1_foundInWard_5 4 rfl ?_
    refine z_aload_n C dX1_foundInWard_7 0 rfl ?_
    refine z_getR C zf_X1_12 dX1_foundInWard_8 (fun r1 => ?_)
    refine z_getR C zf_X1_29 dX1_foundInWard_11 (fun r2 => ?_)
    refine z_iconst C dX1_foundInWard_14 zi_3 ?_
    refine z_iaload C dX1_foundInWard_15 (fun v3 => ?_)
    refine z_icmp_ge C 56 dX1_foundInWard_16 (by decide) ?_ ?_
    · refine z_aload_n C dX1_foundInWard_19 0 rfl ?_
      refine z_getR C zf_X1_12 dX1_foundInWard_20 (fun r4 => ?_)
      refine z_getR C zf_X1_138 dX1_foundInWard_23 (fun r5 => ?_)
      refine z_iload C dX1_foundInWard_26 4 rfl ?_
      refine z_iaload C dX1_foundInWard_28 (fun v6 => ?_)
      refine z_iload_n C dX1_foundInWard_29 1 rfl ?_
      refine z_icmp_ne C 50 dX1_foundInWard_30 (by decide) ?_ ?_
      · refine z_iload_n C dX1_foundInWard_33 3 rfl ?_
        refine z_aload_n C dX1_foundInWard_34 0 rfl ?_
        refine z_getR C zf_X1_21 dX1_foundInWard_35 (fun r8 => ?_)
        refine z_getR C zf_X1_33 dX1_foundInWard_38 (fun r9 => ?_)
        refine z_iload C dX1_foundInWard_41 4 rfl ?_
        refine z_aaload (t := 3) (ty := .object "CountHall$Box") C (fun _ => rfl) rfl (by decide) dX1_foundInWard_43 (fun r10 => ?_)
        refine z_iload_n C dX1_foundInWard_44 2 rfl ?_
        refine z_callVp C zc_X1_93 [.int x2] (fun l D tc b0 r h => m_X0_foundValidly l D tc ro b0 h) dX1_foundInWard_45 rfl rfl (Nat.le_of_ble_eq_true rfl) (by decide) (by decide) ⟨Nat.le_of_ble_eq_true rfl, Nat.le_of_ble_eq_true rfl⟩ (fun v11 => ?_)
        refine z_iadd C dX1_foundInWard_48 ?_
        refine z_istore_nL C (fun v12 => [(0, .ref a0), (1, .int x1), (2, .int x2), (3, .int v12), (4, .int x4)]) dX1_foundInWard_49 (by decide) (fun _ => rfl) (fun v12 => ?_)
        refine z_iincL C 4 (fun v13 => [(0, .ref a0), (1, .int x1), (2, .int x2), (3, .int v12), (4, .int v13)]) dX1_foundInWard_50 rfl zi_1 (by decide) (fun _ => rfl) (fun v13 => ?_)
        refine z_goto C 5 dX1_foundInWard_53 (by decide) ?_
        exact ih _ _
      refine z_iincL C 4 (fun v7 => [(0, .ref a0), (1, .int x1), (2, .int x2), (3, .int x3), (4, .int v7)]) dX1_foundInWard_50 rfl zi_1 (by decide) (fun _ => rfl) (fun v7 => ?_)
      refine z_goto C 5 dX1_foundInWard_53 (by decide) ?_
      exact ih _ _
    exact z_sub [3] rfl (hk56 _)
noncomputable def f_X1_foundInWard (a0 : Nat) (x1 : Int32) (x2 : Int32) (hp : zHp) : Option Int32 :=
  (zis hp a0 1).bind fun _ => l_X1_foundInWard_5 (fun p14 => some p14) a0 x1 x2 hp 1000000 (0 : Int32) (0 : Int32)
set_option maxHeartbeats 4000000 in
set_option maxRecDepth 100000 in
theorem m_X1_foundInWard (l : Launch) (D : va_G) (tc : Nat → ClassId) (ro : Nat → Nat) (b0 : Nat) {a0 : Nat} {x1 : Int32} {x2 : Int32} {hp : zHp} {sz : Nat} {r : Int32} (h : f_X1_foundInWard a0 x1 x2 hp = some r) : zis hp a0 1 = some () ∧ zM l yX1_foundInWard cX1_foundInWard 5 (some .int) 3 0 0 [.ref a0, .int x1, .int x2] D tc ro b0 hp sz ((zoP sz hp) r).1 ((zoP sz hp) r).2.1 ((zoP sz hp) r).2.2 := by
  refine ⟨?_, z_start (o := (zoP sz hp)) (lv := [(0, .ref a0), (1, .int x1), (2, .int x2)]) h (by decide +kernel) RX1 rfl rfl (Nat.le_of_ble_eq_true rfl) (fun P C => ?_)⟩
  · unfold f_X1_foundInWard at h
    cases hc : zis hp a0 1 with
    | none => rw [hc] at h; cases h
    | some u => rfl
  unfold f_X1_foundInWard
  refine z_is ?_
  refine z_iconst C dX1_foundInWard_0 zi_0 ?_
  refine z_istore_n (lv' := [(0, .ref a0), (1, .int x1), (2, .int x2), (3, .int (0 : Int32))]) C dX1_foundInWard_1 (by decide) rfl ?_
  refine z_iconst C dX1_foundInWard_2 zi_0 ?_
  refine z_istore (lv' := [(0, .ref a0), (1, .int x1), (2, .int x2), (3, .int (0 : Int32)), (4, .int (0 : Int32))]) C dX1_foundInWard_3 (by decide) rfl ?_
  refine wl_X1_foundInWard_5 C (fun p14 => ?_) _ _ _
  refine z_iload_n C dX1_foundInWard_56 0 rfl ?_
  exact z_ireturnP C dX1_foundInWard_57
noncomputable def b_X1_partyAhead_7 (k48 : Int32 → Option Int32) (a0 : Nat) (x1 : Int32) (hp : zHp) (rec : Int32 → Int32 → Int32 → Option Int32) (x2 : Int32) (x3 : Int32) (x4 : Int32) : Option Int32 :=
  (zgR hp a0 1 0).bind fun r1 => (zgR hp r1 5 0).bind fun r2 => (zaI hp 0 r2 (0 : Int32)).bind fun v3 => if x4 < v3 then ((f_X1_foundInWard a0 x1 x4 hp).bind fun v4 => if x3 < v4 then (zlet (x4 + (1 : Int32)) fun v6 => rec x4 v4 v6) else zlet (x4 + (1 : Int32)) fun v5 => rec x2 x3 v5) else k48 x2
noncomputable def l_X1_partyAhead_7 (k48 : Int32 → Option Int32) (a0 : Nat) (x1 : Int32) (hp : zHp) (n : Nat) : Int32 → Int32 → Int32 → Option Int32 :=
  Nat.rec (motive := fun _ => Int32 → Int32 → Int32 → Option Int32) (fun _ _ _ => none) (fun _ rec => b_X1_partyAhead_7 k48 a0 x1 hp rec) n
theorem l_X1_partyAhead_7_s (k48 : Int32 → Option Int32) (a0 : Nat) (x1 : Int32) (hp : zHp) (n : Nat) (x2 : Int32) (x3 : Int32) (x4 : Int32) : l_X1_partyAhead_7 k48 a0 x1 hp (n + 1) x2 x3 x4 = b_X1_partyAhead_7 k48 a0 x1 hp (l_X1_partyAhead_7 k48 a0 x1 hp n) x2 x3 x4 := rfl
set_option maxHeartbeats 4000000 in
set_option maxRecDepth 100000 in
theorem wl_X1_partyAhead_7 {P : zX} {ro : Nat → Nat} {sz : Nat} (C : zC P cX1_partyAhead RX1 (some .int) 4 0 0 6 ro) {a0 : Nat} {x1 : Int32} {hp : zHp} {k48 : Int32 → Option Int32} (hk48 : ∀ (x2 : Int32), zG P (zoP sz hp) (k48 x2) 48 [(2, .int x2)] [] hp sz 0 0) : ∀ (n : Nat) (x2 : Int32) (x3 : Int32) (x4 : Int32), zG P (zoP sz hp) (l_X1_partyAhead_7 k48 a0 x1 hp n x2 x3 x4) 7 [(0, .ref a0), (1, .int x1), (2, .int x2), (3, .int x3), (4, .int x4)] [] hp sz 0 0 := by
  intro n
  induction n with
  | zero =>
    intro x2 x3 x4
    show zG P (zoP sz hp) none _ _ _ _ _ _ _
    exact z_none
  | succ n ih =>
    intro x2 x3 x4
    show zG P (zoP sz hp) (b_X1_partyAhead_7 k48 a0 x1 hp (l_X1_partyAhead_7 k48 a0 x1 hp n) x2 x3 x4) _ _ _ _ _ _ _
    unfold b_X1_partyAhead_7
    refine z_iload C dX1_partyAhead_7 4 rfl ?_
    refine z_aload_n C dX1_partyAhead_9 0 rfl ?_
    refine z_getR C zf_X1_12 dX1_partyAhead_10 (fun r1 => ?_)
    refine z_getR C zf_X1_29 dX1_partyAhead_13 (fun r2 => ?_)
    refine z_iconst C dX1_partyAhead_16 zi_0 ?_
    refine z_iaload C dX1_partyAhead_17 (fun v3 => ?_)
    refine z_icmp_ge C 48 dX1_partyAhead_18 (by decide) ?_ ?_
    · refine z_aload_n C dX1_partyAhead_21 0 rfl ?_
      refine z_iload_n C dX1_partyAhead_22 1 rfl ?_
      refine z_iload C dX1_partyAhead_23 4 rfl ?_
      refine z_callVp C zc_X1_141 [.int x1, .int x4] (fun l D tc b0 r h => m_X1_foundInWard l D tc ro b0 h) dX1_partyAhead_25 rfl rfl (Nat.le_of_ble_eq_true rfl) (by decide) (by decide) ⟨Nat.le_of_ble_eq_true rfl, Nat.le_of_ble_eq_true rfl⟩ (fun v4 => ?_)
      refine z_istore (lv' := [(0, .ref a0), (1, .int x1), (2, .int x2), (3, .int x3), (4, .int x4), (5, .int v4)]) C dX1_partyAhead_28 (by decide) rfl ?_
      refine z_iload C dX1_partyAhead_30 5 rfl ?_
      refine z_iload_n C dX1_partyAhead_32 3 rfl ?_
      refine z_icmp_le C 42 dX1_partyAhead_33 (by decide) ?_ ?_
      · refine z_iload C dX1_partyAhead_36 5 rfl ?_
        refine z_istore_n (lv' := [(0, .ref a0), (1, .int x1), (2, .int x2), (3, .int v4), (4, .int x4), (5, .int v4)]) C dX1_partyAhead_38 (by decide) rfl ?_
        refine z_iload C dX1_partyAhead_39 4 rfl ?_
        refine z_istore_n (lv' := [(0, .ref a0), (1, .int x1), (2, .int x4), (3, .int v4), (4, .int x4), (5, .int v4)]) C dX1_partyAhead_41 (by decide) rfl ?_
        refine z_iincL C 4 (fun v6 => [(0, .ref a0), (1, .int x1), (2, .int x4), (3, .int v4), (4, .int v6), (5, .int v4)]) dX1_partyAhead_42 rfl zi_1 (by decide) (fun _ => rfl) (fun v6 => ?_)
        refine z_goto C 7 dX1_partyAhead_45 (by decide) ?_
        exact z_sub [0, 1, 2, 3, 4] rfl (ih _ _ _)
      refine z_iincL C 4 (fun v5 => [(0, .ref a0), (1, .int x1), (2, .int x2), (3, .int x3), (4, .int v5), (5, .int v4)]) dX1_partyAhead_42 rfl zi_1 (by decide) (fun _ => rfl) (fun v5 => ?_)
      refine z_goto C 7 dX1_partyAhead_45 (by decide) ?_
      exact z_sub [0, 1, 2, 3, 4] rfl (ih _ _ _)
    exact z_sub [2] rfl (hk48 _)
noncomputable def f_X1_partyAhead (a0 : Nat) (x1 : Int32) (hp : zHp) : Option Int32 :=
  (zis hp a0 1).bind fun _ => l_X1_partyAhead_7 (fun p7 => some p7) a0 x1 hp 1000000 (-1 : Int32) (0 : Int32) (0 : Int32)
set_option maxHeartbeats 4000000 in
set_option maxRecDepth 100000 in
theorem m_X1_partyAhead (l : Launch) (D : va_G) (tc : Nat → ClassId) (ro : Nat → Nat) (b0 : Nat) {a0 : Nat} {x1 : Int32} {hp : zHp} {sz : Nat} {r : Int32} (h : f_X1_partyAhead a0 x1 hp = some r) : zis hp a0 1 = some () ∧ zM l yX1_partyAhead cX1_partyAhead 6 (some .int) 4 0 0 [.ref a0, .int x1] D tc ro b0 hp sz ((zoP sz hp) r).1 ((zoP sz hp) r).2.1 ((zoP sz hp) r).2.2 := by
  refine ⟨?_, z_start (o := (zoP sz hp)) (lv := [(0, .ref a0), (1, .int x1)]) h (by decide +kernel) RX1 rfl rfl (Nat.le_of_ble_eq_true rfl) (fun P C => ?_)⟩
  · unfold f_X1_partyAhead at h
    cases hc : zis hp a0 1 with
    | none => rw [hc] at h; cases h
    | some u => rfl
  unfold f_X1_partyAhead
  refine z_is ?_
  refine z_iconst C dX1_partyAhead_0 zi_m1 ?_
  refine z_istore_n (lv' := [(0, .ref a0), (1, .int x1), (2, .int (-1 : Int32))]) C dX1_partyAhead_1 (by decide) rfl ?_
  refine z_iconst C dX1_partyAhead_2 zi_0 ?_
  refine z_istore_n (lv' := [(0, .ref a0), (1, .int x1), (2, .int (-1 : Int32)), (3, .int (0 : Int32))]) C dX1_partyAhead_3 (by decide) rfl ?_
  refine z_iconst C dX1_partyAhead_4 zi_0 ?_
  refine z_istore (lv' := [(0, .ref a0), (1, .int x1), (2, .int (-1 : Int32)), (3, .int (0 : Int32)), (4, .int (0 : Int32))]) C dX1_partyAhead_5 (by decide) rfl ?_
  refine wl_X1_partyAhead_7 C (fun p7 => ?_) _ _ _ _
  refine z_iload_n C dX1_partyAhead_48 0 rfl ?_
  exact z_ireturnP C dX1_partyAhead_49
noncomputable def b_X1_lead_7 (k54 : Int32 → Int32 → Option Int32) (a0 : Nat) (x1 : Int32) (hp : zHp) (rec : Int32 → Int32 → Int32 → Option Int32) (x2 : Int32) (x3 : Int32) (x4 : Int32) : Option Int32 :=
  (zgR hp a0 1 0).bind fun r1 => (zgR hp r1 5 0).bind fun r2 => (zaI hp 0 r2 (0 : Int32)).bind fun v3 => if x4 < v3 then ((f_X1_foundInWard a0 x1 x4 hp).bind fun v4 => zlet (zmax x3 (zmin v4 x2)) fun v5 => zlet (zmax x2 v4) fun v6 => zlet (x4 + (1 : Int32)) fun v7 => rec v6 v5 v7) else k54 x2 x3
noncomputable def l_X1_lead_7 (k54 : Int32 → Int32 → Option Int32) (a0 : Nat) (x1 : Int32) (hp : zHp) (n : Nat) : Int32 → Int32 → Int32 → Option Int32 :=
  Nat.rec (motive := fun _ => Int32 → Int32 → Int32 → Option Int32) (fun _ _ _ => none) (fun _ rec => b_X1_lead_7 k54 a0 x1 hp rec) n
theorem l_X1_lead_7_s (k54 : Int32 → Int32 → Option Int32) (a0 : Nat) (x1 : Int32) (hp : zHp) (n : Nat) (x2 : Int32) (x3 : Int32) (x4 : Int32) : l_X1_lead_7 k54 a0 x1 hp (n + 1) x2 x3 x4 = b_X1_lead_7 k54 a0 x1 hp (l_X1_lead_7 k54 a0 x1 hp n) x2 x3 x4 := rfl
set_option maxHeartbeats 4000000 in
set_option maxRecDepth 100000 in
theorem wl_X1_lead_7 {P : zX} {ro : Nat → Nat} {sz : Nat} (C : zC P cX1_lead RX1 (some .int) 4 0 0 6 ro) {a0 : Nat} {x1 : Int32} {hp : zHp} {k54 : Int32 → Int32 → Option Int32} (hk54 : ∀ (x2 : Int32) (x3 : Int32), zG P (zoP sz hp) (k54 x2 x3) 54 [(2, .int x2), (3, .int x3)] [] hp sz 0 0) : ∀ (n : Nat) (x2 : Int32) (x3 : Int32) (x4 : Int32), zG P (zoP sz hp) (l_X1_lead_7 k54 a0 x1 hp n x2 x3 x4) 7 [(0, .ref a0), (1, .int x1), (2, .int x2), (3, .int x3), (4, .int x4)] [] hp sz 0 0 := by
  intro n
  induction n with
  | zero =>
    intro x2 x3 x4
    show zG P (zoP sz hp) none _ _ _ _ _ _ _
    exact z_none
  | succ n ih =>
    intro x2 x3 x4
    show zG P (zoP sz hp) (b_X1_lead_7 k54 a0 x1 hp (l_X1_lead_7 k54 a0 x1 hp n) x2 x3 x4) _ _ _ _ _ _ _
    unfold b_X1_lead_7
    refine z_iload C dX1_lead_7 4 rfl ?_
    refine z_aload_n C dX1_lead_9 0 rfl ?_
    refine z_getR C zf_X1_12 dX1_lead_10 (fun r1 => ?_)
    refine z_getR C zf_X1_29 dX1_lead_13 (fun r2 => ?_)
    refine z_iconst C dX1_lead_16 zi_0 ?_
    refine z_iaload C dX1_lead_17 (fun v3 => ?_)
    refine z_icmp_ge C 54 dX1_lead_18 (by decide) ?_ ?_
    · refine z_aload_n C dX1_lead_21 0 rfl ?_
      refine z_iload_n C dX1_lead_22 1 rfl ?_
      refine z_iload C dX1_lead_23 4 rfl ?_
      refine z_callVp C zc_X1_141 [.int x1, .int x4] (fun l D tc b0 r h => m_X1_foundInWard l D tc ro b0 h) dX1_lead_25 rfl rfl (Nat.le_of_ble_eq_true rfl) (by decide) (by decide) ⟨Nat.le_of_ble_eq_true rfl, Nat.le_of_ble_eq_true rfl⟩ (fun v4 => ?_)
      refine z_istore (lv' := [(0, .ref a0), (1, .int x1), (2, .int x2), (3, .int x3), (4, .int x4), (5, .int v4)]) C dX1_lead_28 (by decide) rfl ?_
      refine z_iload_n C dX1_lead_30 3 rfl ?_
      refine z_iload C dX1_lead_31 5 rfl ?_
      refine z_iload_n C dX1_lead_33 2 rfl ?_
      refine z_mmin C zm_X1_144 dX1_lead_34 (Nat.le_of_ble_eq_true rfl) (by decide) ⟨Nat.le_of_ble_eq_true rfl, Nat.le_of_ble_eq_true rfl⟩ ?_
      refine z_mmax C zm_X1_147 dX1_lead_37 (Nat.le_of_ble_eq_true rfl) (by decide) ⟨Nat.le_of_ble_eq_true rfl, Nat.le_of_ble_eq_true rfl⟩ ?_
      refine z_istore_nL C (fun v5 => [(0, .ref a0), (1, .int x1), (2, .int x2), (3, .int v5), (4, .int x4), (5, .int v4)]) dX1_lead_40 (by decide) (fun _ => rfl) (fun v5 => ?_)
      refine z_iload_n C dX1_lead_41 2 rfl ?_
      refine z_iload C dX1_lead_42 5 rfl ?_
      refine z_mmax C zm_X1_147 dX1_lead_44 (Nat.le_of_ble_eq_true rfl) (by decide) ⟨Nat.le_of_ble_eq_true rfl, Nat.le_of_ble_eq_true rfl⟩ ?_
      refine z_istore_nL C (fun v6 => [(0, .ref a0), (1, .int x1), (2, .int v6), (3, .int v5), (4, .int x4), (5, .int v4)]) dX1_lead_47 (by decide) (fun _ => rfl) (fun v6 => ?_)
      refine z_iincL C 4 (fun v7 => [(0, .ref a0), (1, .int x1), (2, .int v6), (3, .int v5), (4, .int v7), (5, .int v4)]) dX1_lead_48 rfl zi_1 (by decide) (fun _ => rfl) (fun v7 => ?_)
      refine z_goto C 7 dX1_lead_51 (by decide) ?_
      exact z_sub [0, 1, 2, 3, 4] rfl (ih _ _ _)
    exact z_sub [2, 3] rfl (hk54 _ _)
noncomputable def f_X1_lead (a0 : Nat) (x1 : Int32) (hp : zHp) : Option Int32 :=
  (zis hp a0 1).bind fun _ => l_X1_lead_7 (fun p8 p9 => some (p8 - p9)) a0 x1 hp 1000000 (0 : Int32) (0 : Int32) (0 : Int32)
set_option maxHeartbeats 4000000 in
set_option maxRecDepth 100000 in
theorem m_X1_lead (l : Launch) (D : va_G) (tc : Nat → ClassId) (ro : Nat → Nat) (b0 : Nat) {a0 : Nat} {x1 : Int32} {hp : zHp} {sz : Nat} {r : Int32} (h : f_X1_lead a0 x1 hp = some r) : zis hp a0 1 = some () ∧ zM l yX1_lead cX1_lead 6 (some .int) 4 0 0 [.ref a0, .int x1] D tc ro b0 hp sz ((zoP sz hp) r).1 ((zoP sz hp) r).2.1 ((zoP sz hp) r).2.2 := by
  refine ⟨?_, z_start (o := (zoP sz hp)) (lv := [(0, .ref a0), (1, .int x1)]) h (by decide +kernel) RX1 rfl rfl (Nat.le_of_ble_eq_true rfl) (fun P C => ?_)⟩
  · unfold f_X1_lead at h
    cases hc : zis hp a0 1 with
    | none => rw [hc] at h; cases h
    | some u => rfl
  unfold f_X1_lead
  refine z_is ?_
  refine z_iconst C dX1_lead_0 zi_0 ?_
  refine z_istore_n (lv' := [(0, .ref a0), (1, .int x1), (2, .int (0 : Int32))]) C dX1_lead_1 (by decide) rfl ?_
  refine z_iconst C dX1_lead_2 zi_0 ?_
  refine z_istore_n (lv' := [(0, .ref a0), (1, .int x1), (2, .int (0 : Int32)), (3, .int (0 : Int32))]) C dX1_lead_3 (by decide) rfl ?_
  refine z_iconst C dX1_lead_4 zi_0 ?_
  refine z_istore (lv' := [(0, .ref a0), (1, .int x1), (2, .int (0 : Int32)), (3, .int (0 : Int32)), (4, .int (0 : Int32))]) C dX1_lead_5 (by decide) rfl ?_
  refine wl_X1_lead_7 C (fun p8 p9 => ?_) _ _ _ _
  refine z_iload_n C dX1_lead_54 0 rfl ?_
  refine z_iload_n C dX1_lead_55 1 rfl ?_
  refine z_isub C dX1_lead_56 ?_
  exact z_ireturnP C dX1_lead_57
