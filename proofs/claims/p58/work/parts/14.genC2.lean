noncomputable def f_X4_readKnownName (ro : Nat → Nat) (a0 : Nat) (x1 : Int32) (hp : zHp) : Option (Int32 × zHp) :=
  (zis hp a0 4).bind fun _ => (zgR hp a0 4 0).bind fun r1 => (f_X3_isName ro r1 hp).bind fun v2 => if v2 = 0 then (some ((-11 : Int32), hp)) else (zgR hp a0 4 1).bind fun r3 => (zgR hp a0 4 0).bind fun r4 => (f_X3_packed r4 hp).bind fun v5 => (f_X5_find r3 x1 v5 hp).bind fun v6 => if v6 = (-1 : Int32) then (some ((-13 : Int32), hp)) else (zgR hp a0 4 0).bind fun r7 => (f_X3_next r7 hp).bind fun h8 => some (v6, h8)
set_option maxHeartbeats 4000000 in
set_option maxRecDepth 100000 in
theorem m_X4_readKnownName (l : Launch) (D : va_G) (tc : Nat → ClassId) (ro : Nat → Nat) (b0 : Nat) {a0 : Nat} {x1 : Int32} {hp : zHp} {sz : Nat} {r : (Int32 × zHp)} (h : f_X4_readKnownName ro a0 x1 hp = some r) : zis hp a0 4 = some () ∧ zM l yX4_readKnownName cX4_readKnownName 3 (some .int) 7 0 0 [.ref a0, .int x1] D tc ro b0 hp sz ((zoI sz) r).1 ((zoI sz) r).2.1 ((zoI sz) r).2.2 := by
  refine ⟨?_, z_start (o := (zoI sz)) (lv := [(0, .ref a0), (1, .int x1)]) h (by decide +kernel) RX4 rfl rfl (Nat.le_of_ble_eq_true rfl) (fun P C => ?_)⟩
  · unfold f_X4_readKnownName at h
    cases hc : zis hp a0 4 with
    | none => rw [hc] at h; cases h
    | some u => rfl
  unfold f_X4_readKnownName
  refine z_is ?_
  refine z_aload_n C dX4_readKnownName_0 0 rfl ?_
  refine z_getR C zf_X4_12 dX4_readKnownName_1 (fun r1 => ?_)
  refine z_callVp C zc_X4_150 [] (fun l D tc b0 r h => m_X3_isName l D tc ro b0 h) dX4_readKnownName_4 rfl rfl (Nat.le_of_ble_eq_true rfl) (by decide) (by decide) ⟨Nat.le_of_ble_eq_true rfl, Nat.le_of_ble_eq_true rfl⟩ (fun v2 => ?_)
  refine z_if_ne C 13 dX4_readKnownName_7 (by decide) ?_ ?_
  · refine z_bipush C dX4_readKnownName_10 zbi_m11 ?_
    exact z_ireturn C dX4_readKnownName_12
  refine z_aload_n C dX4_readKnownName_13 0 rfl ?_
  refine z_getR C zf_X4_21 dX4_readKnownName_14 (fun r3 => ?_)
  refine z_iload_n C dX4_readKnownName_17 1 rfl ?_
  refine z_aload_n C dX4_readKnownName_18 0 rfl ?_
  refine z_getR C zf_X4_12 dX4_readKnownName_19 (fun r4 => ?_)
  refine z_callVp C zc_X4_154 [] (fun l D tc b0 r h => m_X3_packed l D tc ro b0 h) dX4_readKnownName_22 rfl rfl (Nat.le_of_ble_eq_true rfl) (by decide) (by decide) ⟨Nat.le_of_ble_eq_true rfl, Nat.le_of_ble_eq_true rfl⟩ (fun v5 => ?_)
  refine z_callVp C zc_X4_157 [.int x1, .int v5] (fun l D tc b0 r h => m_X5_find l D tc ro b0 h) dX4_readKnownName_25 rfl rfl (Nat.le_of_ble_eq_true rfl) (by decide) (by decide) ⟨Nat.le_of_ble_eq_true rfl, Nat.le_of_ble_eq_true rfl⟩ (fun v6 => ?_)
  refine z_istore_n (lv' := [(0, .ref a0), (1, .int x1), (2, .int v6)]) C dX4_readKnownName_28 (by decide) rfl ?_
  refine z_iload_n C dX4_readKnownName_29 2 rfl ?_
  refine z_iconst C dX4_readKnownName_30 zi_m1 ?_
  refine z_icmp_ne C 37 dX4_readKnownName_31 (by decide) ?_ ?_
  · refine z_bipush C dX4_readKnownName_34 zbi_m13 ?_
    exact z_ireturn C dX4_readKnownName_36
  refine z_aload_n C dX4_readKnownName_37 0 rfl ?_
  refine z_getR C zf_X4_12 dX4_readKnownName_38 (fun r7 => ?_)
  refine z_callVv C zc_X4_52 [] (fun l D tc b0 r h => m_X3_next l D tc ro b0 h) dX4_readKnownName_41 rfl rfl (Nat.le_of_ble_eq_true rfl) (by decide) (by decide) ⟨Nat.le_of_ble_eq_true rfl, Nat.le_of_ble_eq_true rfl⟩ (fun h8 => ?_)
  refine z_iload_n C dX4_readKnownName_44 2 rfl ?_
  exact z_ireturn C dX4_readKnownName_45
noncomputable def j_X4_readRegion_46 (ro : Nat → Nat) (a0 : Nat) (x1 : Int32) (x2 : Int32) (h : zHp) : Option (Int32 × zHp) :=
  (zgR h a0 4 1).bind fun r5 => (zgR h r5 5 2).bind fun r6 => (zgR h a0 4 1).bind fun r7 => (zgR h r7 5 0).bind fun r8 => (zaI h 0 r8 (1 : Int32)).bind fun v9 => (zsI h r6 v9 x2).bind fun h10 => zb2 (f_X4_add a0 (1 : Int32) x1 h10) fun v11 h12 => some (v11, h12)
set_option maxHeartbeats 4000000 in
set_option maxRecDepth 100000 in
theorem wj_X4_readRegion_46 {P : zX} {ro : Nat → Nat} {sz : Nat} (C : zC P cX4_readRegion RX4 (some .int) 8 0 0 3 ro) {a0 : Nat} {x1 : Int32} {x2 : Int32} {h : zHp}  : zG P (zoI sz) (j_X4_readRegion_46 ro a0 x1 x2 h) 46 [(0, .ref a0), (1, .int x1), (2, .int x2)] [] h sz 0 0 := by
  unfold j_X4_readRegion_46
  refine z_aload_n C dX4_readRegion_46 0 rfl ?_
  refine z_getR C zf_X4_21 dX4_readRegion_47 (fun r5 => ?_)
  refine z_getR C zf_X4_106 dX4_readRegion_50 (fun r6 => ?_)
  refine z_aload_n C dX4_readRegion_53 0 rfl ?_
  refine z_getR C zf_X4_21 dX4_readRegion_54 (fun r7 => ?_)
  refine z_getR C zf_X4_89 dX4_readRegion_57 (fun r8 => ?_)
  refine z_iconst C dX4_readRegion_60 zi_1 ?_
  refine z_iaload C dX4_readRegion_61 (fun v9 => ?_)
  refine z_iload_n C dX4_readRegion_62 2 rfl ?_
  refine z_iastore C dX4_readRegion_63 (fun h10 => ?_)
  refine z_aload_n C dX4_readRegion_64 0 rfl ?_
  refine z_iconst C dX4_readRegion_65 zi_1 ?_
  refine z_iload_n C dX4_readRegion_66 1 rfl ?_
  refine z_callVi C zc_X4_97 [.int (1 : Int32), .int x1] (fun l D tc b0 r h => m_X4_add l D tc ro b0 h) dX4_readRegion_67 rfl rfl (Nat.le_of_ble_eq_true rfl) (by decide) (by decide) ⟨Nat.le_of_ble_eq_true rfl, Nat.le_of_ble_eq_true rfl⟩ (fun v11 h12 => ?_)
  exact z_ireturn C dX4_readRegion_70
noncomputable def f_X4_readRegion (ro : Nat → Nat) (a0 : Nat) (hp : zHp) : Option (Int32 × zHp) :=
  (zis hp a0 4).bind fun _ => zb2 (f_X4_readNewName ro a0 (1 : Int32) (5 : Int32) hp) fun v1 h2 => if v1 < 0 then (some (v1, h2)) else (zgR h2 a0 4 0).bind fun r3 => (f_X3_spells r3 (ro 9) h2).bind fun v4 => if v4 = 0 then (j_X4_readRegion_46 ro a0 v1 (-1 : Int32) h2) else (zgR h2 a0 4 0).bind fun r13 => (f_X3_next r13 h2).bind fun h14 => zb2 (f_X4_readKnownName ro a0 (1 : Int32) h14) fun v15 h16 => if v15 < 0 then (some (v15, h16)) else j_X4_readRegion_46 ro a0 v1 v15 h16
set_option maxHeartbeats 4000000 in
set_option maxRecDepth 100000 in
theorem m_X4_readRegion (l : Launch) (D : va_G) (tc : Nat → ClassId) (ro : Nat → Nat) (b0 : Nat) {a0 : Nat} {hp : zHp} {sz : Nat} {r : (Int32 × zHp)} (h : f_X4_readRegion ro a0 hp = some r) : zis hp a0 4 = some () ∧ zM l yX4_readRegion cX4_readRegion 3 (some .int) 8 0 0 [.ref a0] D tc ro b0 hp sz ((zoI sz) r).1 ((zoI sz) r).2.1 ((zoI sz) r).2.2 := by
  refine ⟨?_, z_start (o := (zoI sz)) (lv := [(0, .ref a0)]) h (by decide +kernel) RX4 rfl rfl (Nat.le_of_ble_eq_true rfl) (fun P C => ?_)⟩
  · unfold f_X4_readRegion at h
    cases hc : zis hp a0 4 with
    | none => rw [hc] at h; cases h
    | some u => rfl
  unfold f_X4_readRegion
  refine z_is ?_
  refine z_aload_n C dX4_readRegion_0 0 rfl ?_
  refine z_iconst C dX4_readRegion_1 zi_1 ?_
  refine z_iconst C dX4_readRegion_2 zi_5 ?_
  refine z_callVi C zc_X4_93 [.int (1 : Int32), .int (5 : Int32)] (fun l D tc b0 r h => m_X4_readNewName l D tc ro b0 h) dX4_readRegion_3 rfl rfl (Nat.le_of_ble_eq_true rfl) (by decide) (by decide) ⟨Nat.le_of_ble_eq_true rfl, Nat.le_of_ble_eq_true rfl⟩ (fun v1 h2 => ?_)
  refine z_istore_n (lv' := [(0, .ref a0), (1, .int v1)]) C dX4_readRegion_6 (by decide) rfl ?_
  refine z_iload_n C dX4_readRegion_7 1 rfl ?_
  refine z_if_ge C 13 dX4_readRegion_8 (by decide) ?_ ?_
  · refine z_iload_n C dX4_readRegion_11 1 rfl ?_
    exact z_ireturn C dX4_readRegion_12
  refine z_iconst C dX4_readRegion_13 zi_m1 ?_
  refine z_istore_n (lv' := [(0, .ref a0), (1, .int v1), (2, .int (-1 : Int32))]) C dX4_readRegion_14 (by decide) rfl ?_
  refine z_aload_n C dX4_readRegion_15 0 rfl ?_
  refine z_getR C zf_X4_12 dX4_readRegion_16 (fun r3 => ?_)
  refine z_ldcS C 9 rfl dX4_readRegion_19 ?_
  refine z_callVp C zc_X4_57 [.ref (ro 9)] (fun l D tc b0 r h => m_X3_spells l D tc ro b0 h) dX4_readRegion_21 rfl rfl (Nat.le_of_ble_eq_true rfl) (by decide) (by decide) ⟨Nat.le_of_ble_eq_true rfl, Nat.le_of_ble_eq_true rfl⟩ (fun v4 => ?_)
  refine z_if_eq C 46 dX4_readRegion_24 (by decide) ?_ ?_
  · exact wj_X4_readRegion_46 C
  refine z_aload_n C dX4_readRegion_27 0 rfl ?_
  refine z_getR C zf_X4_12 dX4_readRegion_28 (fun r13 => ?_)
  refine z_callVv C zc_X4_52 [] (fun l D tc b0 r h => m_X3_next l D tc ro b0 h) dX4_readRegion_31 rfl rfl (Nat.le_of_ble_eq_true rfl) (by decide) (by decide) ⟨Nat.le_of_ble_eq_true rfl, Nat.le_of_ble_eq_true rfl⟩ (fun h14 => ?_)
  refine z_aload_n C dX4_readRegion_34 0 rfl ?_
  refine z_iconst C dX4_readRegion_35 zi_1 ?_
  refine z_callVi C zc_X4_102 [.int (1 : Int32)] (fun l D tc b0 r h => m_X4_readKnownName l D tc ro b0 h) dX4_readRegion_36 rfl rfl (Nat.le_of_ble_eq_true rfl) (by decide) (by decide) ⟨Nat.le_of_ble_eq_true rfl, Nat.le_of_ble_eq_true rfl⟩ (fun v15 h16 => ?_)
  refine z_istore_n (lv' := [(0, .ref a0), (1, .int v1), (2, .int v15)]) C dX4_readRegion_39 (by decide) rfl ?_
  refine z_iload_n C dX4_readRegion_40 2 rfl ?_
  refine z_if_ge C 46 dX4_readRegion_41 (by decide) ?_ ?_
  · refine z_iload_n C dX4_readRegion_44 2 rfl ?_
    exact z_ireturn C dX4_readRegion_45
  exact wj_X4_readRegion_46 C
noncomputable def f_X4_readWard (ro : Nat → Nat) (a0 : Nat) (hp : zHp) : Option (Int32 × zHp) :=
  (zis hp a0 4).bind fun _ => zb2 (f_X4_readNewName ro a0 (2 : Int32) (6 : Int32) hp) fun v1 h2 => if v1 < 0 then (some (v1, h2)) else zb2 (f_X4_readKnownName ro a0 (1 : Int32) h2) fun v3 h4 => if v3 < 0 then (some (v3, h4)) else (zgR h4 a0 4 1).bind fun r5 => (zgR h4 r5 5 3).bind fun r6 => (zgR h4 a0 4 1).bind fun r7 => (zgR h4 r7 5 0).bind fun r8 => (zaI h4 0 r8 (2 : Int32)).bind fun v9 => (zsI h4 r6 v9 v3).bind fun h10 => zb2 (f_X4_add a0 (2 : Int32) v1 h10) fun v11 h12 => some (v11, h12)
set_option maxHeartbeats 4000000 in
set_option maxRecDepth 100000 in
theorem m_X4_readWard (l : Launch) (D : va_G) (tc : Nat → ClassId) (ro : Nat → Nat) (b0 : Nat) {a0 : Nat} {hp : zHp} {sz : Nat} {r : (Int32 × zHp)} (h : f_X4_readWard ro a0 hp = some r) : zis hp a0 4 = some () ∧ zM l yX4_readWard cX4_readWard 3 (some .int) 8 0 0 [.ref a0] D tc ro b0 hp sz ((zoI sz) r).1 ((zoI sz) r).2.1 ((zoI sz) r).2.2 := by
  refine ⟨?_, z_start (o := (zoI sz)) (lv := [(0, .ref a0)]) h (by decide +kernel) RX4 rfl rfl (Nat.le_of_ble_eq_true rfl) (fun P C => ?_)⟩
  · unfold f_X4_readWard at h
    cases hc : zis hp a0 4 with
    | none => rw [hc] at h; cases h
    | some u => rfl
  unfold f_X4_readWard
  refine z_is ?_
  refine z_aload_n C dX4_readWard_0 0 rfl ?_
  refine z_iconst C dX4_readWard_1 zi_2 ?_
  refine z_bipush C dX4_readWard_2 zbi_6 ?_
  refine z_callVi C zc_X4_93 [.int (2 : Int32), .int (6 : Int32)] (fun l D tc b0 r h => m_X4_readNewName l D tc ro b0 h) dX4_readWard_4 rfl rfl (Nat.le_of_ble_eq_true rfl) (by decide) (by decide) ⟨Nat.le_of_ble_eq_true rfl, Nat.le_of_ble_eq_true rfl⟩ (fun v1 h2 => ?_)
  refine z_istore_n (lv' := [(0, .ref a0), (1, .int v1)]) C dX4_readWard_7 (by decide) rfl ?_
  refine z_iload_n C dX4_readWard_8 1 rfl ?_
  refine z_if_ge C 14 dX4_readWard_9 (by decide) ?_ ?_
  · refine z_iload_n C dX4_readWard_12 1 rfl ?_
    exact z_ireturn C dX4_readWard_13
  refine z_aload_n C dX4_readWard_14 0 rfl ?_
  refine z_iconst C dX4_readWard_15 zi_1 ?_
  refine z_callVi C zc_X4_102 [.int (1 : Int32)] (fun l D tc b0 r h => m_X4_readKnownName l D tc ro b0 h) dX4_readWard_16 rfl rfl (Nat.le_of_ble_eq_true rfl) (by decide) (by decide) ⟨Nat.le_of_ble_eq_true rfl, Nat.le_of_ble_eq_true rfl⟩ (fun v3 h4 => ?_)
  refine z_istore_n (lv' := [(0, .ref a0), (1, .int v1), (2, .int v3)]) C dX4_readWard_19 (by decide) rfl ?_
  refine z_iload_n C dX4_readWard_20 2 rfl ?_
  refine z_if_ge C 26 dX4_readWard_21 (by decide) ?_ ?_
  · refine z_iload_n C dX4_readWard_24 2 rfl ?_
    exact z_ireturn C dX4_readWard_25
  refine z_aload_n C dX4_readWard_26 0 rfl ?_
  refine z_getR C zf_X4_21 dX4_readWard_27 (fun r5 => ?_)
  refine z_getR C zf_X4_109 dX4_readWard_30 (fun r6 => ?_)
  refine z_aload_n C dX4_readWard_33 0 rfl ?_
  refine z_getR C zf_X4_21 dX4_readWard_34 (fun r7 => ?_)
  refine z_getR C zf_X4_89 dX4_readWard_37 (fun r8 => ?_)
  refine z_iconst C dX4_readWard_40 zi_2 ?_
  refine z_iaload C dX4_readWard_41 (fun v9 => ?_)
  refine z_iload_n C dX4_readWard_42 2 rfl ?_
  refine z_iastore C dX4_readWard_43 (fun h10 => ?_)
  refine z_aload_n C dX4_readWard_44 0 rfl ?_
  refine z_iconst C dX4_readWard_45 zi_2 ?_
  refine z_iload_n C dX4_readWard_46 1 rfl ?_
  refine z_callVi C zc_X4_97 [.int (2 : Int32), .int v1] (fun l D tc b0 r h => m_X4_add l D tc ro b0 h) dX4_readWard_47 rfl rfl (Nat.le_of_ble_eq_true rfl) (by decide) (by decide) ⟨Nat.le_of_ble_eq_true rfl, Nat.le_of_ble_eq_true rfl⟩ (fun v11 h12 => ?_)
  exact z_ireturn C dX4_readWard_50
noncomputable def f_X4_readInteger (a0 : Nat) (x1 : Int32) (x2 : Int32) (hp : zHp) : Option (Int32 × zHp) :=
  (zis hp a0 4).bind fun _ => (zgR hp a0 4 0).bind fun r1 => (zgI hp r1 3 3).bind fun v2 => if v2 = (2 : Int32) then ((zgR hp a0 4 0).bind fun r3 => (f_X3_value r3 hp).bind fun v4 => if v4 < x1 then (some ((-12 : Int32), hp)) else if x2 < v4 then (some ((-12 : Int32), hp)) else (zgR hp a0 4 0).bind fun r5 => (f_X3_next r5 hp).bind fun h6 => some (v4, h6)) else some ((-11 : Int32), hp)
set_option maxHeartbeats 4000000 in
set_option maxRecDepth 100000 in
theorem m_X4_readInteger (l : Launch) (D : va_G) (tc : Nat → ClassId) (ro : Nat → Nat) (b0 : Nat) {a0 : Nat} {x1 : Int32} {x2 : Int32} {hp : zHp} {sz : Nat} {r : (Int32 × zHp)} (h : f_X4_readInteger a0 x1 x2 hp = some r) : zis hp a0 4 = some () ∧ zM l yX4_readInteger cX4_readInteger 4 (some .int) 3 0 0 [.ref a0, .int x1, .int x2] D tc ro b0 hp sz ((zoI sz) r).1 ((zoI sz) r).2.1 ((zoI sz) r).2.2 := by
  refine ⟨?_, z_start (o := (zoI sz)) (lv := [(0, .ref a0), (1, .int x1), (2, .int x2)]) h (by decide +kernel) RX4 rfl rfl (Nat.le_of_ble_eq_true rfl) (fun P C => ?_)⟩
  · unfold f_X4_readInteger at h
    cases hc : zis hp a0 4 with
    | none => rw [hc] at h; cases h
    | some u => rfl
  unfold f_X4_readInteger
  refine z_is ?_
  refine z_aload_n C dX4_readInteger_0 0 rfl ?_
  refine z_getR C zf_X4_12 dX4_readInteger_1 (fun r1 => ?_)
  refine z_getI C zf_X4_39 dX4_readInteger_4 (fun v2 => ?_)
  refine z_iconst C dX4_readInteger_7 zi_2 ?_
  refine z_icmp_eq C 14 dX4_readInteger_8 (by decide) ?_ ?_
  · refine z_aload_n C dX4_readInteger_14 0 rfl ?_
    refine z_getR C zf_X4_12 dX4_readInteger_15 (fun r3 => ?_)
    refine z_callVp C zc_X4_160 [] (fun l D tc b0 r h => m_X3_value l D tc ro b0 h) dX4_readInteger_18 rfl rfl (Nat.le_of_ble_eq_true rfl) (by decide) (by decide) ⟨Nat.le_of_ble_eq_true rfl, Nat.le_of_ble_eq_true rfl⟩ (fun v4 => ?_)
    refine z_istore_n (lv' := [(0, .ref a0), (1, .int x1), (2, .int x2), (3, .int v4)]) C dX4_readInteger_21 (by decide) rfl ?_
    refine z_iload_n C dX4_readInteger_22 3 rfl ?_
    refine z_iload_n C dX4_readInteger_23 1 rfl ?_
    refine z_icmp_lt C 32 dX4_readInteger_24 (by decide) ?_ ?_
    · refine z_bipush C dX4_readInteger_32 zbi_m12 ?_
      exact z_ireturn C dX4_readInteger_34
    refine z_iload_n C dX4_readInteger_27 3 rfl ?_
    refine z_iload_n C dX4_readInteger_28 2 rfl ?_
    refine z_icmp_le C 35 dX4_readInteger_29 (by decide) ?_ ?_
    · refine z_bipush C dX4_readInteger_32 zbi_m12 ?_
      exact z_ireturn C dX4_readInteger_34
    refine z_aload_n C dX4_readInteger_35 0 rfl ?_
    refine z_getR C zf_X4_12 dX4_readInteger_36 (fun r5 => ?_)
    refine z_callVv C zc_X4_52 [] (fun l D tc b0 r h => m_X3_next l D tc ro b0 h) dX4_readInteger_39 rfl rfl (Nat.le_of_ble_eq_true rfl) (by decide) (by decide) ⟨Nat.le_of_ble_eq_true rfl, Nat.le_of_ble_eq_true rfl⟩ (fun h6 => ?_)
    refine z_iload_n C dX4_readInteger_42 3 rfl ?_
    exact z_ireturn C dX4_readInteger_43
  refine z_bipush C dX4_readInteger_11 zbi_m11 ?_
  exact z_ireturn C dX4_readInteger_13
noncomputable def b_X4_readPapers_2 (k26 : Int32 → zHp → Option (Int32 × zHp)) (k46 : zHp → Option (Int32 × zHp)) (a0 : Nat) (x1 : Int32) (rec : Int32 → zHp → Option (Int32 × zHp)) (x2 : Int32) (h : zHp) : Option (Int32 × zHp) :=
  (zgR h a0 4 1).bind fun r1 => (f_X5_piles r1 h).bind fun v2 => if x2 < v2 then (zb2 (f_X4_readInteger a0 (0 : Int32) (300 : Int32) h) fun v3 h4 => if v3 < 0 then (k26 v3 h4) else (zgR h4 a0 4 1).bind fun r5 => (zgR h4 r5 5 7).bind fun r6 => (zaR h4 5 r6 x1).bind fun r7 => (zsI h4 r7 x2 v3).bind fun h8 => zlet (x2 + (1 : Int32)) fun v9 => rec v9 h8) else k46 h
noncomputable def l_X4_readPapers_2 (k26 : Int32 → zHp → Option (Int32 × zHp)) (k46 : zHp → Option (Int32 × zHp)) (a0 : Nat) (x1 : Int32) (n : Nat) : Int32 → zHp → Option (Int32 × zHp) :=
  Nat.rec (motive := fun _ => Int32 → zHp → Option (Int32 × zHp)) (fun _ _ => none) (fun _ rec => b_X4_readPapers_2 k26 k46 a0 x1 rec) n
theorem l_X4_readPapers_2_s (k26 : Int32 → zHp → Option (Int32 × zHp)) (k46 : zHp → Option (Int32 × zHp)) (a0 : Nat) (x1 : Int32) (n : Nat) (x2 : Int32) (h : zHp) : l_X4_readPapers_2 k26 k46 a0 x1 (n + 1) x2 h = b_X4_readPapers_2 k26 k46 a0 x1 (l_X4_readPapers_2 k26 k46 a0 x1 n) x2 h := rfl
set_option maxHeartbeats 4000000 in
set_option maxRecDepth 100000 in
theorem wl_X4_readPapers_2 {P : zX} {ro : Nat → Nat} {sz : Nat} (C : zC P cX4_readPapers RX4 (some .int) 4 0 0 4 ro) {a0 : Nat} {x1 : Int32} {k26 : Int32 → zHp → Option (Int32 × zHp)} (hk26 : ∀ (x3 : Int32) (h : zHp), zG P (zoI sz) (k26 x3 h) 26 [(3, .int x3)] [] h sz 0 0) {k46 : zHp → Option (Int32 × zHp)} (hk46 : ∀ (h : zHp), zG P (zoI sz) (k46 h) 46 [] [] h sz 0 0) : ∀ (n : Nat) (x2 : Int32) (h : zHp), zG P (zoI sz) (l_X4_readPapers_2 k26 k46 a0 x1 n x2 h) 2 [(0, .ref a0), (1, .int x1), (2, .int x2)] [] h sz 0 0 := by
  intro n
  induction n with
  | zero =>
    intro x2 h
    show zG P (zoI sz) none _ _ _ _ _ _ _
    exact z_none
  | succ n ih =>
    intro x2 h
    show zG P (zoI sz) (b_X4_readPapers_2 k26 k46 a0 x1 (l_X4_readPapers_2 k26 k46 a0 x1 n) x2 h) _ _ _ _ _ _ _
    unfold b_X4_readPapers_2
    refine z_iload_n C dX4_readPapers_2 2 rfl ?_
    refine z_aload_n C dX4_readPapers_3 0 rfl ?_
    refine z_getR C zf_X4_21 dX4_readPapers_4 (fun r1 => ?_)
    refine z_callVp C zc_X4_127 [] (fun l D tc b0 r h => m_X5_piles l D tc ro b0 h) dX4_readPapers_7 rfl rfl (Nat.le_of_ble_eq_true rfl) (by decide) (by decide) ⟨Nat.le_of_ble_eq_true rfl, Nat.le_of_ble_eq_true rfl⟩ (fun v2 => ?_)
    refine z_icmp_ge C 46 dX4_readPapers_10 (by decide) ?_ ?_
    · refine z_aload_n C dX4_readPapers_13 0 rfl ?_
      refine z_iconst C dX4_readPapers_14 zi_0 ?_
      refine z_sipush C dX4_readPapers_15 zsi_300 ?_
      refine z_callVi C zc_X4_112 [.int (0 : Int32), .int (300 : Int32)] (fun l D tc b0 r h => m_X4_readInteger l D tc ro b0 h) dX4_readPapers_18 rfl rfl (Nat.le_of_ble_eq_true rfl) (by decide) (by decide) ⟨Nat.le_of_ble_eq_true rfl, Nat.le_of_ble_eq_true rfl⟩ (fun v3 h4 => ?_)
      refine z_istore_n (lv' := [(0, .ref a0), (1, .int x1), (2, .int x2), (3, .int v3)]) C dX4_readPapers_21 (by decide) rfl ?_
      refine z_iload_n C dX4_readPapers_22 3 rfl ?_
      refine z_if_ge C 28 dX4_readPapers_23 (by decide) ?_ ?_
      · exact z_sub [3] rfl (hk26 _ _)
      refine z_aload_n C dX4_readPapers_28 0 rfl ?_
      refine z_getR C zf_X4_21 dX4_readPapers_29 (fun r5 => ?_)
      refine z_getR C zf_X4_130 dX4_readPapers_32 (fun r6 => ?_)
      refine z_iload_n C dX4_readPapers_35 1 rfl ?_
      refine z_aaload (t := 5) (ty := .array .int) C (fun _ => rfl) rfl (by decide) dX4_readPapers_36 (fun r7 => ?_)
      refine z_iload_n C dX4_readPapers_37 2 rfl ?_
      refine z_iload_n C dX4_readPapers_38 3 rfl ?_
      refine z_iastore C dX4_readPapers_39 (fun h8 => ?_)
      refine z_iincL C 2 (fun v9 => [(0, .ref a0), (1, .int x1), (2, .int v9), (3, .int v3)]) dX4_readPapers_40 rfl zi_1 (by decide) (fun _ => rfl) (fun v9 => ?_)
      refine z_goto C 2 dX4_readPapers_43 (by decide) ?_
      exact z_sub [0, 1, 2] rfl (ih _ _)
    exact z_sub [] rfl (hk46 _)
noncomputable def f_X4_readPapers (a0 : Nat) (x1 : Int32) (hp : zHp) : Option (Int32 × zHp) :=
  (zis hp a0 4).bind fun _ => l_X4_readPapers_2 (fun p10 h11 => some (p10, h11)) (fun h12 => some ((0 : Int32), h12)) a0 x1 1000000 (0 : Int32) hp
set_option maxHeartbeats 4000000 in
set_option maxRecDepth 100000 in
theorem m_X4_readPapers (l : Launch) (D : va_G) (tc : Nat → ClassId) (ro : Nat → Nat) (b0 : Nat) {a0 : Nat} {x1 : Int32} {hp : zHp} {sz : Nat} {r : (Int32 × zHp)} (h : f_X4_readPapers a0 x1 hp = some r) : zis hp a0 4 = some () ∧ zM l yX4_readPapers cX4_readPapers 4 (some .int) 4 0 0 [.ref a0, .int x1] D tc ro b0 hp sz ((zoI sz) r).1 ((zoI sz) r).2.1 ((zoI sz) r).2.2 := by
  refine ⟨?_, z_start (o := (zoI sz)) (lv := [(0, .ref a0), (1, .int x1)]) h (by decide +kernel) RX4 rfl rfl (Nat.le_of_ble_eq_true rfl) (fun P C => ?_)⟩
  · unfold f_X4_readPapers at h
    cases hc : zis hp a0 4 with
    | none => rw [hc] at h; cases h
    | some u => rfl
  unfold f_X4_readPapers
  refine z_is ?_
  refine z_iconst C dX4_readPapers_0 zi_0 ?_
  refine z_istore_n (lv' := [(0, .ref a0), (1, .int x1), (2, .int (0 : Int32))]) C dX4_readPapers_1 (by decide) rfl ?_
  refine wl_X4_readPapers_2 C (fun p10 h11 => ?_) (fun h12 => ?_) _ _ _
  · refine z_iload_n C dX4_readPapers_26 0 rfl ?_
    exact z_ireturn C dX4_readPapers_27
  refine z_iconst C dX4_readPapers_46 zi_0 ?_
  exact z_ireturn C dX4_readPapers_47
noncomputable def f_X4_readBox (ro : Nat → Nat) (a0 : Nat) (hp : zHp) : Option (Int32 × zHp) :=
  (zis hp a0 4).bind fun _ => zb2 (f_X4_readNewName ro a0 (3 : Int32) (12 : Int32) hp) fun v1 h2 => if v1 < 0 then (some (v1, h2)) else zb2 (f_X4_readKnownName ro a0 (2 : Int32) h2) fun v3 h4 => if v3 < 0 then (some (v3, h4)) else zb2 (f_X4_readInteger a0 (0 : Int32) (999 : Int32) h4) fun v5 h6 => if v5 < 0 then (some (v5, h6)) else zb2 (f_X4_readInteger a0 (1 : Int32) (9999 : Int32) h6) fun v7 h8 => if v7 < 0 then (some (v7, h8)) else (zgR h8 a0 4 1).bind fun r9 => (zgR h8 r9 5 0).bind fun r10 => (zaI h8 0 r10 (3 : Int32)).bind fun v11 => (zgR h8 a0 4 1).bind fun r12 => (zgR h8 r12 5 4).bind fun r13 => (zsI h8 r13 v11 v3).bind fun h14 => (zgR h14 a0 4 1).bind fun r15 => (zgR h14 r15 5 5).bind fun r16 => (zsI h14 r16 v11 v5).bind fun h17 => (zgR h17 a0 4 1).bind fun r18 => (zgR h17 r18 5 6).bind fun r19 => (zsI h17 r19 v11 v7).bind fun h20 => zb2 (f_X4_readPapers a0 v11 h20) fun v21 h22 => if v21 < 0 then (some (v21, h22)) else zb2 (f_X4_add a0 (3 : Int32) v1 h22) fun v23 h24 => some (v23, h24)
set_option maxHeartbeats 4000000 in
set_option maxRecDepth 100000 in
theorem m_X4_readBox (l : Launch) (D : va_G) (tc : Nat → ClassId) (ro : Nat → Nat) (b0 : Nat) {a0 : Nat} {hp : zHp} {sz : Nat} {r : (Int32 × zHp)} (h : f_X4_readBox ro a0 hp = some r) : zis hp a0 4 = some () ∧ zM l yX4_readBox cX4_readBox 7 (some .int) 8 0 0 [.ref a0] D tc ro b0 hp sz ((zoI sz) r).1 ((zoI sz) r).2.1 ((zoI sz) r).2.2 := by
  refine ⟨?_, z_start (o := (zoI sz)) (lv := [(0, .ref a0)]) h (by decide +kernel) RX4 rfl rfl (Nat.le_of_ble_eq_true rfl) (fun P C => ?_)⟩
  · unfold f_X4_readBox at h
    cases hc : zis hp a0 4 with
    | none => rw [hc] at h; cases h
    | some u => rfl
  unfold f_X4_readBox
  refine z_is ?_
  refine z_aload_n C dX4_readBox_0 0 rfl ?_
  refine z_iconst C dX4_readBox_1 zi_3 ?_
  refine z_bipush C dX4_readBox_2 zbi_12 ?_
  refine z_callVi C zc_X4_93 [.int (3 : Int32), .int (12 : Int32)] (fun l D tc b0 r h => m_X4_readNewName l D tc ro b0 h) dX4_readBox_4 rfl rfl (Nat.le_of_ble_eq_true rfl) (by decide) (by decide) ⟨Nat.le_of_ble_eq_true rfl, Nat.le_of_ble_eq_true rfl⟩ (fun v1 h2 => ?_)
  refine z_istore_n (lv' := [(0, .ref a0), (1, .int v1)]) C dX4_readBox_7 (by decide) rfl ?_
  refine z_iload_n C dX4_readBox_8 1 rfl ?_
  refine z_if_ge C 14 dX4_readBox_9 (by decide) ?_ ?_
  · refine z_iload_n C dX4_readBox_12 1 rfl ?_
    exact z_ireturn C dX4_readBox_13
  refine z_aload_n C dX4_readBox_14 0 rfl ?_
  refine z_iconst C dX4_readBox_15 zi_2 ?_
  refine z_callVi C zc_X4_102 [.int (2 : Int32)] (fun l D tc b0 r h => m_X4_readKnownName l D tc ro b0 h) dX4_readBox_16 rfl rfl (Nat.le_of_ble_eq_true rfl) (by decide) (by decide) ⟨Nat.le_of_ble_eq_true rfl, Nat.le_of_ble_eq_true rfl⟩ (fun v3 h4 => ?_)
  refine z_istore_n (lv' := [(0, .ref a0), (1, .int v1), (2, .int v3)]) C dX4_readBox_19 (by decide) rfl ?_
  refine z_iload_n C dX4_readBox_20 2 rfl ?_
  refine z_if_ge C 26 dX4_readBox_21 (by decide) ?_ ?_
  · refine z_iload_n C dX4_readBox_24 2 rfl ?_
    exact z_ireturn C dX4_readBox_25
  refine z_aload_n C dX4_readBox_26 0 rfl ?_
  refine z_iconst C dX4_readBox_27 zi_0 ?_
  refine z_sipush C dX4_readBox_28 zsi_999 ?_
  refine z_callVi C zc_X4_112 [.int (0 : Int32), .int (999 : Int32)] (fun l D tc b0 r h => m_X4_readInteger l D tc ro b0 h) dX4_readBox_31 rfl rfl (Nat.le_of_ble_eq_true rfl) (by decide) (by decide) ⟨Nat.le_of_ble_eq_true rfl, Nat.le_of_ble_eq_true rfl⟩ (fun v5 h6 => ?_)
  refine z_istore_n (lv' := [(0, .ref a0), (1, .int v1), (2, .int v3), (3, .int v5)]) C dX4_readBox_34 (by decide) rfl ?_
  refine z_iload_n C dX4_readBox_35 3 rfl ?_
  refine z_if_ge C 41 dX4_readBox_36 (by decide) ?_ ?_
  · refine z_iload_n C dX4_readBox_39 3 rfl ?_
    exact z_ireturn C dX4_readBox_40
  refine z_aload_n C dX4_readBox_41 0 rfl ?_
  refine z_iconst C dX4_readBox_42 zi_1 ?_
  refine z_sipush C dX4_readBox_43 zsi_9999 ?_
  refine z_callVi C zc_X4_112 [.int (1 : Int32), .int (9999 : Int32)] (fun l D tc b0 r h => m_X4_readInteger l D tc ro b0 h) dX4_readBox_46 rfl rfl (Nat.le_of_ble_eq_true rfl) (by decide) (by decide) ⟨Nat.le_of_ble_eq_true rfl, Nat.le_of_ble_eq_true rfl⟩ (fun v7 h8 => ?_)
  refine z_istore (lv' := [(0, .ref a0), (1, .int v1), (2, .int v3), (3, .int v5), (4, .int v7)]) C dX4_readBox_49 (by decide) rfl ?_
  refine z_iload C dX4_readBox_51 4 rfl ?_
  refine z_if_ge C 59 dX4_readBox_53 (by decide) ?_ ?_
  · refine z_iload C dX4_readBox_56 4 rfl ?_
    exact z_ireturn C dX4_readBox_58
  refine z_aload_n C dX4_readBox_59 0 rfl ?_
  refine z_getR C zf_X4_21 dX4_readBox_60 (fun r9 => ?_)
  refine z_getR C zf_X4_89 dX4_readBox_63 (fun r10 => ?_)
  refine z_iconst C dX4_readBox_66 zi_3 ?_
  refine z_iaload C dX4_readBox_67 (fun v11 => ?_)
  refine z_istore (lv' := [(0, .ref a0), (1, .int v1), (2, .int v3), (3, .int v5), (4, .int v7), (5, .int v11)]) C dX4_readBox_68 (by decide) rfl ?_
  refine z_aload_n C dX4_readBox_70 0 rfl ?_
  refine z_getR C zf_X4_21 dX4_readBox_71 (fun r12 => ?_)
  refine z_getR C zf_X4_115 dX4_readBox_74 (fun r13 => ?_)
  refine z_iload C dX4_readBox_77 5 rfl ?_
  refine z_iload_n C dX4_readBox_79 2 rfl ?_
  refine z_iastore C dX4_readBox_80 (fun h14 => ?_)
  refine z_aload_n C dX4_readBox_81 0 rfl ?_
  refine z_getR C zf_X4_21 dX4_readBox_82 (fun r15 => ?_)
  refine z_getR C zf_X4_118 dX4_readBox_85 (fun r16 => ?_)
  refine z_iload C dX4_readBox_88 5 rfl ?_
  refine z_iload_n C dX4_readBox_90 3 rfl ?_
  refine z_iastore C dX4_readBox_91 (fun h17 => ?_)
  refine z_aload_n C dX4_readBox_92 0 rfl ?_
  refine z_getR C zf_X4_21 dX4_readBox_93 (fun r18 => ?_)
  refine z_getR C zf_X4_121 dX4_readBox_96 (fun r19 => ?_)
  refine z_iload C dX4_readBox_99 5 rfl ?_
  refine z_iload C dX4_readBox_101 4 rfl ?_
  refine z_iastore C dX4_readBox_103 (fun h20 => ?_)
  refine z_aload_n C dX4_readBox_104 0 rfl ?_
  refine z_iload C dX4_readBox_105 5 rfl ?_
  refine z_callVi C zc_X4_124 [.int v11] (fun l D tc b0 r h => m_X4_readPapers l D tc ro b0 h) dX4_readBox_107 rfl rfl (Nat.le_of_ble_eq_true rfl) (by decide) (by decide) ⟨Nat.le_of_ble_eq_true rfl, Nat.le_of_ble_eq_true rfl⟩ (fun v21 h22 => ?_)
  refine z_istore (lv' := [(0, .ref a0), (1, .int v1), (2, .int v3), (3, .int v5), (4, .int v7), (5, .int v11), (6, .int v21)]) C dX4_readBox_110 (by decide) rfl ?_
  refine z_iload C dX4_readBox_112 6 rfl ?_
  refine z_if_ge C 122 dX4_readBox_114 (by decide) ?_ ?_
  · refine z_iload C dX4_readBox_117 6 rfl ?_
    refine z_goto C 128 dX4_readBox_119 (by decide) ?_
    exact z_ireturn C dX4_readBox_128
  refine z_aload_n C dX4_readBox_122 0 rfl ?_
  refine z_iconst C dX4_readBox_123 zi_3 ?_
  refine z_iload_n C dX4_readBox_124 1 rfl ?_
  refine z_callVi C zc_X4_97 [.int (3 : Int32), .int v1] (fun l D tc b0 r h => m_X4_add l D tc ro b0 h) dX4_readBox_125 rfl rfl (Nat.le_of_ble_eq_true rfl) (by decide) (by decide) ⟨Nat.le_of_ble_eq_true rfl, Nat.le_of_ble_eq_true rfl⟩ (fun v23 h24 => ?_)
  exact z_ireturn C dX4_readBox_128
noncomputable def f_X4_readTable (a0 : Nat) (hp : zHp) : Option (Int32 × zHp) :=
  (zis hp a0 4).bind fun _ => zb2 (f_X4_beginThing a0 (4 : Int32) (4 : Int32) hp) fun v1 h2 => if v1 < 0 then (some (v1, h2)) else zb2 (f_X4_readInteger a0 (0 : Int32) (99 : Int32) h2) fun v3 h4 => if v3 < 0 then (some (v3, h4)) else (zgR h4 a0 4 1).bind fun r5 => (zgR h4 r5 5 8).bind fun r6 => (zgR h4 a0 4 1).bind fun r7 => (zgR h4 r7 5 0).bind fun r8 => (zaI h4 0 r8 (4 : Int32)).bind fun v9 => (zsI h4 r6 v9 v3).bind fun h10 => (zgR h10 a0 4 1).bind fun r11 => (zgR h10 r11 5 0).bind fun r12 => (zaI h10 0 r12 (4 : Int32)).bind fun v13 => (zsI h10 r12 (4 : Int32) (v13 + (1 : Int32))).bind fun h14 => some ((0 : Int32), h14)
set_option maxHeartbeats 4000000 in
set_option maxRecDepth 100000 in
theorem m_X4_readTable (l : Launch) (D : va_G) (tc : Nat → ClassId) (ro : Nat → Nat) (b0 : Nat) {a0 : Nat} {hp : zHp} {sz : Nat} {r : (Int32 × zHp)} (h : f_X4_readTable a0 hp = some r) : zis hp a0 4 = some () ∧ zM l yX4_readTable cX4_readTable 3 (some .int) 4 0 0 [.ref a0] D tc ro b0 hp sz ((zoI sz) r).1 ((zoI sz) r).2.1 ((zoI sz) r).2.2 := by
  refine ⟨?_, z_start (o := (zoI sz)) (lv := [(0, .ref a0)]) h (by decide +kernel) RX4 rfl rfl (Nat.le_of_ble_eq_true rfl) (fun P C => ?_)⟩
  · unfold f_X4_readTable at h
    cases hc : zis hp a0 4 with
    | none => rw [hc] at h; cases h
    | some u => rfl
  unfold f_X4_readTable
  refine z_is ?_
  refine z_aload_n C dX4_readTable_0 0 rfl ?_
  refine z_iconst C dX4_readTable_1 zi_4 ?_
  refine z_iconst C dX4_readTable_2 zi_4 ?_
  refine z_callVi C zc_X4_134 [.int (4 : Int32), .int (4 : Int32)] (fun l D tc b0 r h => m_X4_beginThing l D tc ro b0 h) dX4_readTable_3 rfl rfl (Nat.le_of_ble_eq_true rfl) (by decide) (by decide) ⟨Nat.le_of_ble_eq_true rfl, Nat.le_of_ble_eq_true rfl⟩ (fun v1 h2 => ?_)
  refine z_istore_n (lv' := [(0, .ref a0), (1, .int v1)]) C dX4_readTable_6 (by decide) rfl ?_
  refine z_iload_n C dX4_readTable_7 1 rfl ?_
  refine z_if_ge C 13 dX4_readTable_8 (by decide) ?_ ?_
  · refine z_iload_n C dX4_readTable_11 1 rfl ?_
    exact z_ireturn C dX4_readTable_12
  refine z_aload_n C dX4_readTable_13 0 rfl ?_
  refine z_iconst C dX4_readTable_14 zi_0 ?_
  refine z_bipush C dX4_readTable_15 zbi_99 ?_
  refine z_callVi C zc_X4_112 [.int (0 : Int32), .int (99 : Int32)] (fun l D tc b0 r h => m_X4_readInteger l D tc ro b0 h) dX4_readTable_17 rfl rfl (Nat.le_of_ble_eq_true rfl) (by decide) (by decide) ⟨Nat.le_of_ble_eq_true rfl, Nat.le_of_ble_eq_true rfl⟩ (fun v3 h4 => ?_)
  refine z_istore_n (lv' := [(0, .ref a0), (1, .int v1), (2, .int v3)]) C dX4_readTable_20 (by decide) rfl ?_
  refine z_iload_n C dX4_readTable_21 2 rfl ?_
  refine z_if_ge C 27 dX4_readTable_22 (by decide) ?_ ?_
  · refine z_iload_n C dX4_readTable_25 2 rfl ?_
    exact z_ireturn C dX4_readTable_26
  refine z_aload_n C dX4_readTable_27 0 rfl ?_
  refine z_getR C zf_X4_21 dX4_readTable_28 (fun r5 => ?_)
  refine z_getR C zf_X4_137 dX4_readTable_31 (fun r6 => ?_)
  refine z_aload_n C dX4_readTable_34 0 rfl ?_
  refine z_getR C zf_X4_21 dX4_readTable_35 (fun r7 => ?_)
  refine z_getR C zf_X4_89 dX4_readTable_38 (fun r8 => ?_)
  refine z_iconst C dX4_readTable_41 zi_4 ?_
  refine z_iaload C dX4_readTable_42 (fun v9 => ?_)
  refine z_iload_n C dX4_readTable_43 2 rfl ?_
  refine z_iastore C dX4_readTable_44 (fun h10 => ?_)
  refine z_aload_n C dX4_readTable_45 0 rfl ?_
  refine z_getR C zf_X4_21 dX4_readTable_46 (fun r11 => ?_)
  refine z_getR C zf_X4_89 dX4_readTable_49 (fun r12 => ?_)
  refine z_iconst C dX4_readTable_52 zi_4 ?_
  refine z_dup2 C dX4_readTable_53 rfl rfl ?_
  refine z_iaload C dX4_readTable_54 (fun v13 => ?_)
  refine z_iconst C dX4_readTable_55 zi_1 ?_
  refine z_iadd C dX4_readTable_56 ?_
  refine z_iastore C dX4_readTable_57 (fun h14 => ?_)
  refine z_iconst C dX4_readTable_58 zi_0 ?_
  exact z_ireturn C dX4_readTable_59
noncomputable def f_X7_mostOf (x0 : Int32) (hp : zHp) : Option Int32 :=
  if x0 = 0 then (some (50 : Int32)) else some (9 : Int32)
set_option maxHeartbeats 4000000 in
set_option maxRecDepth 100000 in
theorem m_X7_mostOf (l : Launch) (D : va_G) (tc : Nat → ClassId) (ro : Nat → Nat) (b0 : Nat) {x0 : Int32} {hp : zHp} {sz : Nat} {r : Int32} (h : f_X7_mostOf x0 hp = some r) : zM l yX7_mostOf cX7_mostOf 1 (some .int) 1 0 0 [.int x0] D tc ro b0 hp sz ((zoP sz hp) r).1 ((zoP sz hp) r).2.1 ((zoP sz hp) r).2.2 := by
  refine z_start (o := (zoP sz hp)) (lv := [(0, .int x0)]) h (by decide +kernel) RX7 rfl rfl (Nat.le_of_ble_eq_true rfl) (fun P C => ?_)
  unfold f_X7_mostOf
  refine z_iload_n C dX7_mostOf_0 0 rfl ?_
  refine z_if_ne C 9 dX7_mostOf_1 (by decide) ?_ ?_
  · refine z_bipush C dX7_mostOf_4 zbi_50 ?_
    refine z_goto C 11 dX7_mostOf_6 (by decide) ?_
    exact z_ireturnP C dX7_mostOf_11
  refine z_bipush C dX7_mostOf_9 zbi_9 ?_
  exact z_ireturnP C dX7_mostOf_11
noncomputable def j_X4_readSetting_51 (ro : Nat → Nat) (a0 : Nat) (s0 : Int32) (h : zHp) : Option (Int32 × zHp) :=
  (zgI h a0 4 2).bind fun v7 => if ((v7 >>> (s0 &&& 31)) &&& (1 : Int32)) = (1 : Int32) then (some ((-14 : Int32), h)) else (zgR h a0 4 0).bind fun r8 => (f_X3_next r8 h).bind fun h9 => (f_X7_mostOf s0 h9).bind fun v10 => zb2 (f_X4_readInteger a0 (0 : Int32) v10 h9) fun v11 h12 => if v11 < 0 then (some (v11, h12)) else (zgI h12 a0 4 2).bind fun v13 => (zpV h12 a0 4 2 (.int (v13 ||| ((1 : Int32) <<< (s0 &&& 31))))).bind fun h14 => (zgR h14 a0 4 1).bind fun r15 => (zgR h14 r15 5 9).bind fun r16 => (zsI h14 r16 s0 v11).bind fun h17 => some ((0 : Int32), h17)
set_option maxHeartbeats 4000000 in
set_option maxRecDepth 100000 in
theorem wj_X4_readSetting_51 {P : zX} {ro : Nat → Nat} {sz : Nat} (C : zC P cX4_readSetting RX4 (some .int) 6 0 0 3 ro) {a0 : Nat} {s0 : Int32} {h : zHp}  : zG P (zoI sz) (j_X4_readSetting_51 ro a0 s0 h) 51 [(0, .ref a0)] [.int s0] h sz 0 0 := by
  unfold j_X4_readSetting_51
  refine z_istore_n (lv' := [(0, .ref a0), (1, .int s0)]) C dX4_readSetting_51 (by decide) rfl ?_
  refine z_aload_n C dX4_readSetting_52 0 rfl ?_
  refine z_getI C zf_X4_32 dX4_readSetting_53 (fun v7 => ?_)
  refine z_iload_n C dX4_readSetting_56 1 rfl ?_
  refine z_ishr C dX4_readSetting_57 ?_
  refine z_iconst C dX4_readSetting_58 zi_1 ?_
  refine z_iand C dX4_readSetting_59 ?_
  refine z_iconst C dX4_readSetting_60 zi_1 ?_
  refine z_icmp_ne C 67 dX4_readSetting_61 (by decide) ?_ ?_
  · refine z_bipush C dX4_readSetting_64 zbi_m14 ?_
    exact z_ireturn C dX4_readSetting_66
  refine z_aload_n C dX4_readSetting_67 0 rfl ?_
  refine z_getR C zf_X4_12 dX4_readSetting_68 (fun r8 => ?_)
  refine z_callVv C zc_X4_52 [] (fun l D tc b0 r h => m_X3_next l D tc ro b0 h) dX4_readSetting_71 rfl rfl (Nat.le_of_ble_eq_true rfl) (by decide) (by decide) ⟨Nat.le_of_ble_eq_true rfl, Nat.le_of_ble_eq_true rfl⟩ (fun h9 => ?_)
  refine z_aload_n C dX4_readSetting_74 0 rfl ?_
  refine z_iconst C dX4_readSetting_75 zi_0 ?_
  refine z_iload_n C dX4_readSetting_76 1 rfl ?_
  refine z_callNp C zn_X4_144 [.int s0] (fun l D tc b0 r h => m_X7_mostOf l D tc ro b0 h) dX4_readSetting_77 rfl rfl (Nat.le_of_ble_eq_true rfl) (by decide) (by decide) ⟨Nat.le_of_ble_eq_true rfl, Nat.le_of_ble_eq_true rfl⟩ (fun v10 => ?_)
  refine z_callVi C zc_X4_112 [.int (0 : Int32), .int v10] (fun l D tc b0 r h => m_X4_readInteger l D tc ro b0 h) dX4_readSetting_80 rfl rfl (Nat.le_of_ble_eq_true rfl) (by decide) (by decide) ⟨Nat.le_of_ble_eq_true rfl, Nat.le_of_ble_eq_true rfl⟩ (fun v11 h12 => ?_)
  refine z_istore_n (lv' := [(0, .ref a0), (1, .int s0), (2, .int v11)]) C dX4_readSetting_83 (by decide) rfl ?_
  refine z_iload_n C dX4_readSetting_84 2 rfl ?_
  refine z_if_ge C 90 dX4_readSetting_85 (by decide) ?_ ?_
  · refine z_iload_n C dX4_readSetting_88 2 rfl ?_
    exact z_ireturn C dX4_readSetting_89
  refine z_aload_n C dX4_readSetting_90 0 rfl ?_
  refine z_dup C dX4_readSetting_91 rfl ?_
  refine z_getI C zf_X4_32 dX4_readSetting_92 (fun v13 => ?_)
  refine z_iconst C dX4_readSetting_95 zi_1 ?_
  refine z_iload_n C dX4_readSetting_96 1 rfl ?_
  refine z_ishl C dX4_readSetting_97 ?_
  refine z_ior C dX4_readSetting_98 ?_
  refine z_putI C zp_X4_32 dX4_readSetting_99 (fun h14 => ?_)
  refine z_aload_n C dX4_readSetting_102 0 rfl ?_
  refine z_getR C zf_X4_21 dX4_readSetting_103 (fun r15 => ?_)
  refine z_getR C zf_X4_147 dX4_readSetting_106 (fun r16 => ?_)
  refine z_iload_n C dX4_readSetting_109 1 rfl ?_
  refine z_iload_n C dX4_readSetting_110 2 rfl ?_
  refine z_iastore C dX4_readSetting_111 (fun h17 => ?_)
  refine z_iconst C dX4_readSetting_112 zi_0 ?_
  exact z_ireturn C dX4_readSetting_113
noncomputable def j_X4_readSetting_34 (ro : Nat → Nat) (a0 : Nat) (h : zHp) : Option (Int32 × zHp) :=
  (zgR h a0 4 0).bind fun r5 => (f_X3_spells r5 (ro 14) h).bind fun v6 => if v6 = 0 then (j_X4_readSetting_51 ro a0 (1 : Int32) h) else j_X4_readSetting_51 ro a0 (0 : Int32) h
set_option maxHeartbeats 4000000 in
set_option maxRecDepth 100000 in
theorem wj_X4_readSetting_34 {P : zX} {ro : Nat → Nat} {sz : Nat} (C : zC P cX4_readSetting RX4 (some .int) 6 0 0 3 ro) {a0 : Nat} {h : zHp}  : zG P (zoI sz) (j_X4_readSetting_34 ro a0 h) 34 [(0, .ref a0)] [] h sz 0 0 := by
  unfold j_X4_readSetting_34
  refine z_aload_n C dX4_readSetting_34 0 rfl ?_
  refine z_getR C zf_X4_12 dX4_readSetting_35 (fun r5 => ?_)
  refine z_ldcS C 14 rfl dX4_readSetting_38 ?_
  refine z_callVp C zc_X4_57 [.ref (ro 14)] (fun l D tc b0 r h => m_X3_spells l D tc ro b0 h) dX4_readSetting_40 rfl rfl (Nat.le_of_ble_eq_true rfl) (by decide) (by decide) ⟨Nat.le_of_ble_eq_true rfl, Nat.le_of_ble_eq_true rfl⟩ (fun v6 => ?_)
  refine z_if_eq C 50 dX4_readSetting_43 (by decide) ?_ ?_
  · refine z_iconst C dX4_readSetting_50 zi_1 ?_
    exact wj_X4_readSetting_51 C
  refine z_iconst C dX4_readSetting_46 zi_0 ?_
  refine z_goto C 51 dX4_readSetting_47 (by decide) ?_
  exact wj_X4_readSetting_51 C
noncomputable def f_X4_readSetting (ro : Nat → Nat) (a0 : Nat) (hp : zHp) : Option (Int32 × zHp) :=
  (zis hp a0 4).bind fun _ => (zgR hp a0 4 0).bind fun r1 => (f_X3_next r1 hp).bind fun h2 => (zgR h2 a0 4 0).bind fun r3 => (f_X3_spells r3 (ro 14) h2).bind fun v4 => if v4 = 0 then ((zgR h2 a0 4 0).bind fun r18 => (f_X3_spells r18 (ro 15) h2).bind fun v19 => if v19 = 0 then (some ((-11 : Int32), h2)) else j_X4_readSetting_34 ro a0 h2) else j_X4_readSetting_34 ro a0 h2
set_option maxHeartbeats 4000000 in
set_option maxRecDepth 100000 in
theorem m_X4_readSetting (l : Launch) (D : va_G) (tc : Nat → ClassId) (ro : Nat → Nat) (b0 : Nat) {a0 : Nat} {hp : zHp} {sz : Nat} {r : (Int32 × zHp)} (h : f_X4_readSetting ro a0 hp = some r) : zis hp a0 4 = some () ∧ zM l yX4_readSetting cX4_readSetting 3 (some .int) 6 0 0 [.ref a0] D tc ro b0 hp sz ((zoI sz) r).1 ((zoI sz) r).2.1 ((zoI sz) r).2.2 := by
  refine ⟨?_, z_start (o := (zoI sz)) (lv := [(0, .ref a0)]) h (by decide +kernel) RX4 rfl rfl (Nat.le_of_ble_eq_true rfl) (fun P C => ?_)⟩
  · unfold f_X4_readSetting at h
    cases hc : zis hp a0 4 with
    | none => rw [hc] at h; cases h
    | some u => rfl
  unfold f_X4_readSetting
  refine z_is ?_
  refine z_aload_n C dX4_readSetting_0 0 rfl ?_
  refine z_getR C zf_X4_12 dX4_readSetting_1 (fun r1 => ?_)
  refine z_callVv C zc_X4_52 [] (fun l D tc b0 r h => m_X3_next l D tc ro b0 h) dX4_readSetting_4 rfl rfl (Nat.le_of_ble_eq_true rfl) (by decide) (by decide) ⟨Nat.le_of_ble_eq_true rfl, Nat.le_of_ble_eq_true rfl⟩ (fun h2 => ?_)
  refine z_aload_n C dX4_readSetting_7 0 rfl ?_
  refine z_getR C zf_X4_12 dX4_readSetting_8 (fun r3 => ?_)
  refine z_ldcS C 14 rfl dX4_readSetting_11 ?_
  refine z_callVp C zc_X4_57 [.ref (ro 14)] (fun l D tc b0 r h => m_X3_spells l D tc ro b0 h) dX4_readSetting_13 rfl rfl (Nat.le_of_ble_eq_true rfl) (by decide) (by decide) ⟨Nat.le_of_ble_eq_true rfl, Nat.le_of_ble_eq_true rfl⟩ (fun v4 => ?_)
  refine z_if_ne C 34 dX4_readSetting_16 (by decide) ?_ ?_
  · refine z_aload_n C dX4_readSetting_19 0 rfl ?_
    refine z_getR C zf_X4_12 dX4_readSetting_20 (fun r18 => ?_)
    refine z_ldcS C 15 rfl dX4_readSetting_23 ?_
    refine z_callVp C zc_X4_57 [.ref (ro 15)] (fun l D tc b0 r h => m_X3_spells l D tc ro b0 h) dX4_readSetting_25 rfl rfl (Nat.le_of_ble_eq_true rfl) (by decide) (by decide) ⟨Nat.le_of_ble_eq_true rfl, Nat.le_of_ble_eq_true rfl⟩ (fun v19 => ?_)
    refine z_if_ne C 34 dX4_readSetting_28 (by decide) ?_ ?_
    · refine z_bipush C dX4_readSetting_31 zbi_m11 ?_
      exact z_ireturn C dX4_readSetting_33
    exact wj_X4_readSetting_34 C
  exact wj_X4_readSetting_34 C
noncomputable def f_X4_readDeclaration (ro : Nat → Nat) (a0 : Nat) (hp : zHp) : Option (Int32 × zHp) :=
  (zis hp a0 4).bind fun _ => (zgR hp a0 4 0).bind fun r1 => (f_X3_spells r1 (ro 0) hp).bind fun v2 => if v2 = 0 then ((zgR hp a0 4 0).bind fun r3 => (f_X3_spells r3 (ro 8) hp).bind fun v4 => if v4 = 0 then ((zgR hp a0 4 0).bind fun r5 => (f_X3_spells r5 (ro 10) hp).bind fun v6 => if v6 = 0 then ((zgR hp a0 4 0).bind fun r7 => (f_X3_spells r7 (ro 11) hp).bind fun v8 => if v8 = 0 then ((zgR hp a0 4 0).bind fun r9 => (f_X3_spells r9 (ro 12) hp).bind fun v10 => if v10 = 0 then ((zgR hp a0 4 0).bind fun r11 => (f_X3_spells r11 (ro 13) hp).bind fun v12 => if v12 = 0 then (some ((-11 : Int32), hp)) else zb2 (f_X4_readSetting ro a0 hp) fun v13 h14 => some (v13, h14)) else zb2 (f_X4_readTable a0 hp) fun v15 h16 => some (v15, h16)) else zb2 (f_X4_readBox ro a0 hp) fun v17 h18 => some (v17, h18)) else zb2 (f_X4_readWard ro a0 hp) fun v19 h20 => some (v19, h20)) else zb2 (f_X4_readRegion ro a0 hp) fun v21 h22 => some (v21, h22)) else zb2 (f_X4_readParty ro a0 hp) fun v23 h24 => some (v23, h24)
set_option maxHeartbeats 4000000 in
set_option maxRecDepth 100000 in
theorem m_X4_readDeclaration (l : Launch) (D : va_G) (tc : Nat → ClassId) (ro : Nat → Nat) (b0 : Nat) {a0 : Nat} {hp : zHp} {sz : Nat} {r : (Int32 × zHp)} (h : f_X4_readDeclaration ro a0 hp = some r) : zis hp a0 4 = some () ∧ zM l yX4_readDeclaration cX4_readDeclaration 1 (some .int) 9 0 0 [.ref a0] D tc ro b0 hp sz ((zoI sz) r).1 ((zoI sz) r).2.1 ((zoI sz) r).2.2 := by
  refine ⟨?_, z_start (o := (zoI sz)) (lv := [(0, .ref a0)]) h (by decide +kernel) RX4 rfl rfl (Nat.le_of_ble_eq_true rfl) (fun P C => ?_)⟩
  · unfold f_X4_readDeclaration at h
    cases hc : zis hp a0 4 with
    | none => rw [hc] at h; cases h
    | some u => rfl
  unfold f_X4_readDeclaration
  refine z_is ?_
  refine z_aload_n C dX4_readDeclaration_0 0 rfl ?_
  refine z_getR C zf_X4_12 dX4_readDeclaration_1 (fun r1 => ?_)
  refine z_ldcS C 0 rfl dX4_readDeclaration_4 ?_
  refine z_callVp C zc_X4_57 [.ref (ro 0)] (fun l D tc b0 r h => m_X3_spells l D tc ro b0 h) dX4_readDeclaration_6 rfl rfl (Nat.le_of_ble_eq_true rfl) (by decide) (by decide) ⟨Nat.le_of_ble_eq_true rfl, Nat.le_of_ble_eq_true rfl⟩ (fun v2 => ?_)
  refine z_if_eq C 17 dX4_readDeclaration_9 (by decide) ?_ ?_
  · refine z_aload_n C dX4_readDeclaration_17 0 rfl ?_
    refine z_getR C zf_X4_12 dX4_readDeclaration_18 (fun r3 => ?_)
    refine z_ldcS C 8 rfl dX4_readDeclaration_21 ?_
    refine z_callVp C zc_X4_57 [.ref (ro 8)] (fun l D tc b0 r h => m_X3_spells l D tc ro b0 h) dX4_readDeclaration_23 rfl rfl (Nat.le_of_ble_eq_true rfl) (by decide) (by decide) ⟨Nat.le_of_ble_eq_true rfl, Nat.le_of_ble_eq_true rfl⟩ (fun v4 => ?_)
    refine z_if_eq C 34 dX4_readDeclaration_26 (by decide) ?_ ?_
    · refine z_aload_n C dX4_readDeclaration_34 0 rfl ?_
      refine z_getR C zf_X4_12 dX4_readDeclaration_35 (fun r5 => ?_)
      refine z_ldcS C 10 rfl dX4_readDeclaration_38 ?_
      refine z_callVp C zc_X4_57 [.ref (ro 10)] (fun l D tc b0 r h => m_X3_spells l D tc ro b0 h) dX4_readDeclaration_40 rfl rfl (Nat.le_of_ble_eq_true rfl) (by decide) (by decide) ⟨Nat.le_of_ble_eq_true rfl, Nat.le_of_ble_eq_true rfl⟩ (fun v6 => ?_)
      refine z_if_eq C 51 dX4_readDeclaration_43 (by decide) ?_ ?_
      · refine z_aload_n C dX4_readDeclaration_51 0 rfl ?_
        refine z_getR C zf_X4_12 dX4_readDeclaration_52 (fun r7 => ?_)
        refine z_ldcS C 11 rfl dX4_readDeclaration_55 ?_
        refine z_callVp C zc_X4_57 [.ref (ro 11)] (fun l D tc b0 r h => m_X3_spells l D tc ro b0 h) dX4_readDeclaration_57 rfl rfl (Nat.le_of_ble_eq_true rfl) (by decide) (by decide) ⟨Nat.le_of_ble_eq_true rfl, Nat.le_of_ble_eq_true rfl⟩ (fun v8 => ?_)
        refine z_if_eq C 68 dX4_readDeclaration_60 (by decide) ?_ ?_
        · refine z_aload_n C dX4_readDeclaration_68 0 rfl ?_
          refine z_getR C zf_X4_12 dX4_readDeclaration_69 (fun r9 => ?_)
          refine z_ldcS C 12 rfl dX4_readDeclaration_72 ?_
          refine z_callVp C zc_X4_57 [.ref (ro 12)] (fun l D tc b0 r h => m_X3_spells l D tc ro b0 h) dX4_readDeclaration_74 rfl rfl (Nat.le_of_ble_eq_true rfl) (by decide) (by decide) ⟨Nat.le_of_ble_eq_true rfl, Nat.le_of_ble_eq_true rfl⟩ (fun v10 => ?_)
          refine z_if_eq C 85 dX4_readDeclaration_77 (by decide) ?_ ?_
          · refine z_aload_n C dX4_readDeclaration_85 0 rfl ?_
            refine z_getR C zf_X4_12 dX4_readDeclaration_86 (fun r11 => ?_)
            refine z_ldcS C 13 rfl dX4_readDeclaration_89 ?_
            refine z_callVp C zc_X4_57 [.ref (ro 13)] (fun l D tc b0 r h => m_X3_spells l D tc ro b0 h) dX4_readDeclaration_91 rfl rfl (Nat.le_of_ble_eq_true rfl) (by decide) (by decide) ⟨Nat.le_of_ble_eq_true rfl, Nat.le_of_ble_eq_true rfl⟩ (fun v12 => ?_)
            refine z_if_eq C 104 dX4_readDeclaration_94 (by decide) ?_ ?_
            · refine z_bipush C dX4_readDeclaration_104 zbi_m11 ?_
              exact z_ireturn C dX4_readDeclaration_106
            refine z_aload_n C dX4_readDeclaration_97 0 rfl ?_
            refine z_callVi C zc_X4_86 [] (fun l D tc b0 r h => m_X4_readSetting l D tc ro b0 h) dX4_readDeclaration_98 rfl rfl (Nat.le_of_ble_eq_true rfl) (by decide) (by decide) ⟨Nat.le_of_ble_eq_true rfl, Nat.le_of_ble_eq_true rfl⟩ (fun v13 h14 => ?_)
            refine z_goto C 106 dX4_readDeclaration_101 (by decide) ?_
            exact z_ireturn C dX4_readDeclaration_106
          refine z_aload_n C dX4_readDeclaration_80 0 rfl ?_
          refine z_callVi C zc_X4_81 [] (fun l D tc b0 r h => m_X4_readTable l D tc ro b0 h) dX4_readDeclaration_81 rfl rfl (Nat.le_of_ble_eq_true rfl) (by decide) (by decide) ⟨Nat.le_of_ble_eq_true rfl, Nat.le_of_ble_eq_true rfl⟩ (fun v15 h16 => ?_)
          exact z_ireturn C dX4_readDeclaration_84
        refine z_aload_n C dX4_readDeclaration_63 0 rfl ?_
        refine z_callVi C zc_X4_76 [] (fun l D tc b0 r h => m_X4_readBox l D tc ro b0 h) dX4_readDeclaration_64 rfl rfl (Nat.le_of_ble_eq_true rfl) (by decide) (by decide) ⟨Nat.le_of_ble_eq_true rfl, Nat.le_of_ble_eq_true rfl⟩ (fun v17 h18 => ?_)
        exact z_ireturn C dX4_readDeclaration_67
      refine z_aload_n C dX4_readDeclaration_46 0 rfl ?_
      refine z_callVi C zc_X4_71 [] (fun l D tc b0 r h => m_X4_readWard l D tc ro b0 h) dX4_readDeclaration_47 rfl rfl (Nat.le_of_ble_eq_true rfl) (by decide) (by decide) ⟨Nat.le_of_ble_eq_true rfl, Nat.le_of_ble_eq_true rfl⟩ (fun v19 h20 => ?_)
      exact z_ireturn C dX4_readDeclaration_50
    refine z_aload_n C dX4_readDeclaration_29 0 rfl ?_
    refine z_callVi C zc_X4_66 [] (fun l D tc b0 r h => m_X4_readRegion l D tc ro b0 h) dX4_readDeclaration_30 rfl rfl (Nat.le_of_ble_eq_true rfl) (by decide) (by decide) ⟨Nat.le_of_ble_eq_true rfl, Nat.le_of_ble_eq_true rfl⟩ (fun v21 h22 => ?_)
    exact z_ireturn C dX4_readDeclaration_33
  refine z_aload_n C dX4_readDeclaration_12 0 rfl ?_
  refine z_callVi C zc_X4_61 [] (fun l D tc b0 r h => m_X4_readParty l D tc ro b0 h) dX4_readDeclaration_13 rfl rfl (Nat.le_of_ble_eq_true rfl) (by decide) (by decide) ⟨Nat.le_of_ble_eq_true rfl, Nat.le_of_ble_eq_true rfl⟩ (fun v23 h24 => ?_)
  exact z_ireturn C dX4_readDeclaration_16
noncomputable def f_X4_readSemicolon (a0 : Nat) (hp : zHp) : Option (Int32 × zHp) :=
  (zis hp a0 4).bind fun _ => (zgR hp a0 4 0).bind fun r1 => (zgI hp r1 3 3).bind fun v2 => if v2 = (3 : Int32) then ((zgR hp a0 4 0).bind fun r3 => (f_X3_next r3 hp).bind fun h4 => some ((0 : Int32), h4)) else some ((-11 : Int32), hp)
set_option maxHeartbeats 4000000 in
set_option maxRecDepth 100000 in
theorem m_X4_readSemicolon (l : Launch) (D : va_G) (tc : Nat → ClassId) (ro : Nat → Nat) (b0 : Nat) {a0 : Nat} {hp : zHp} {sz : Nat} {r : (Int32 × zHp)} (h : f_X4_readSemicolon a0 hp = some r) : zis hp a0 4 = some () ∧ zM l yX4_readSemicolon cX4_readSemicolon 1 (some .int) 3 0 0 [.ref a0] D tc ro b0 hp sz ((zoI sz) r).1 ((zoI sz) r).2.1 ((zoI sz) r).2.2 := by
  refine ⟨?_, z_start (o := (zoI sz)) (lv := [(0, .ref a0)]) h (by decide +kernel) RX4 rfl rfl (Nat.le_of_ble_eq_true rfl) (fun P C => ?_)⟩
  · unfold f_X4_readSemicolon at h
    cases hc : zis hp a0 4 with
    | none => rw [hc] at h; cases h
    | some u => rfl
  unfold f_X4_readSemicolon
  refine z_is ?_
  refine z_aload_n C dX4_readSemicolon_0 0 rfl ?_
  refine z_getR C zf_X4_12 dX4_readSemicolon_1 (fun r1 => ?_)
  refine z_getI C zf_X4_39 dX4_readSemicolon_4 (fun v2 => ?_)
  refine z_iconst C dX4_readSemicolon_7 zi_3 ?_
  refine z_icmp_eq C 14 dX4_readSemicolon_8 (by decide) ?_ ?_
  · refine z_aload_n C dX4_readSemicolon_14 0 rfl ?_
    refine z_getR C zf_X4_12 dX4_readSemicolon_15 (fun r3 => ?_)
    refine z_callVv C zc_X4_52 [] (fun l D tc b0 r h => m_X3_next l D tc ro b0 h) dX4_readSemicolon_18 rfl rfl (Nat.le_of_ble_eq_true rfl) (by decide) (by decide) ⟨Nat.le_of_ble_eq_true rfl, Nat.le_of_ble_eq_true rfl⟩ (fun h4 => ?_)
    refine z_iconst C dX4_readSemicolon_21 zi_0 ?_
    exact z_ireturn C dX4_readSemicolon_22
  refine z_bipush C dX4_readSemicolon_11 zbi_m11 ?_
  exact z_ireturn C dX4_readSemicolon_13
noncomputable def j_X4_readText_56 (ro : Nat → Nat) (k60 : Int32 → zHp → Option (Int32 × zHp)) (k79 : Int32 → zHp → Option (Int32 × zHp)) (rec : Int32 → zHp → Option (Int32 × zHp)) (a0 : Nat) (x1 : Int32) (x2 : Int32) (x3 : Int32) (h : zHp) : Option (Int32 × zHp) :=
  if x3 < 0 then (k60 x3 h) else zlet (x2 + (1 : Int32)) fun v11 => rec v11 h
set_option maxHeartbeats 4000000 in
set_option maxRecDepth 100000 in
theorem wj_X4_readText_56 {P : zX} {ro : Nat → Nat} {sz : Nat} (C : zC P cX4_readText RX4 (some .int) 10 0 0 4 ro) {a0 : Nat} {x1 : Int32} {x2 : Int32} {x3 : Int32} {h : zHp} {k60 : Int32 → zHp → Option (Int32 × zHp)} (hk60 : ∀ (x3 : Int32) (h : zHp), zG P (zoI sz) (k60 x3 h) 60 [(0, .ref a0), (3, .int x3)] [] h sz 0 0) {k79 : Int32 → zHp → Option (Int32 × zHp)} (hk79 : ∀ (x2 : Int32) (h : zHp), zG P (zoI sz) (k79 x2 h) 79 [(2, .int x2)] [] h sz 0 0) {rec : Int32 → zHp → Option (Int32 × zHp)} (hrec : ∀ (x2 : Int32) (h : zHp), zG P (zoI sz) (rec x2 h) 27 [(0, .ref a0), (1, .int x1), (2, .int x2)] [] h sz 0 0) : zG P (zoI sz) (j_X4_readText_56 ro k60 k79 rec a0 x1 x2 x3 h) 56 [(0, .ref a0), (1, .int x1), (2, .int x2), (3, .int x3)] [] h sz 0 0 := by
  unfold j_X4_readText_56
  refine z_iload_n C dX4_readText_56 3 rfl ?_
  refine z_if_ge C 73 dX4_readText_57 (by decide) ?_ ?_
  · exact z_sub [0, 3] rfl (hk60 _ _)
  refine z_iincL C 2 (fun v11 => [(0, .ref a0), (1, .int x1), (2, .int v11), (3, .int x3)]) dX4_readText_73 rfl zi_1 (by decide) (fun _ => rfl) (fun v11 => ?_)
  refine z_goto C 27 dX4_readText_76 (by decide) ?_
  exact z_sub [0, 1, 2] rfl (hrec _ _)
noncomputable def b_X4_readText_27 (ro : Nat → Nat) (k60 : Int32 → zHp → Option (Int32 × zHp)) (k79 : Int32 → zHp → Option (Int32 × zHp)) (a0 : Nat) (x1 : Int32) (rec : Int32 → zHp → Option (Int32 × zHp)) (x2 : Int32) (h : zHp) : Option (Int32 × zHp) :=
  if x1 < x2 then (k79 x2 h) else (zgR h a0 4 0).bind fun r7 => (zgI h r7 3 3).bind fun v8 => if v8 = 0 then (k79 x2 h) else zb2 (f_X4_readDeclaration ro a0 h) fun v9 h10 => if v9 < 0 then (j_X4_readText_56 ro k60 k79 rec a0 x1 x2 v9 h10) else zb2 (f_X4_readSemicolon a0 h10) fun v12 h13 => j_X4_readText_56 ro k60 k79 rec a0 x1 x2 v12 h13
noncomputable def l_X4_readText_27 (ro : Nat → Nat) (k60 : Int32 → zHp → Option (Int32 × zHp)) (k79 : Int32 → zHp → Option (Int32 × zHp)) (a0 : Nat) (x1 : Int32) (n : Nat) : Int32 → zHp → Option (Int32 × zHp) :=
  Nat.rec (motive := fun _ => Int32 → zHp → Option (Int32 × zHp)) (fun _ _ => none) (fun _ rec => b_X4_readText_27 ro k60 k79 a0 x1 rec) n
theorem l_X4_readText_27_s {ro : Nat → Nat} (k60 : Int32 → zHp → Option (Int32 × zHp)) (k79 : Int32 → zHp → Option (Int32 × zHp)) (a0 : Nat) (x1 : Int32) (n : Nat) (x2 : Int32) (h : zHp) : l_X4_readText_27 ro k60 k79 a0 x1 (n + 1) x2 h = b_X4_readText_27 ro k60 k79 a0 x1 (l_X4_readText_27 ro k60 k79 a0 x1 n) x2 h := rfl
set_option maxHeartbeats 4000000 in
set_option maxRecDepth 100000 in
theorem wl_X4_readText_27 {P : zX} {ro : Nat → Nat} {sz : Nat} (C : zC P cX4_readText RX4 (some .int) 10 0 0 4 ro) {a0 : Nat} {x1 : Int32} {k60 : Int32 → zHp → Option (Int32 × zHp)} (hk60 : ∀ (x3 : Int32) (h : zHp), zG P (zoI sz) (k60 x3 h) 60 [(0, .ref a0), (3, .int x3)] [] h sz 0 0) {k79 : Int32 → zHp → Option (Int32 × zHp)} (hk79 : ∀ (x2 : Int32) (h : zHp), zG P (zoI sz) (k79 x2 h) 79 [(2, .int x2)] [] h sz 0 0) : ∀ (n : Nat) (x2 : Int32) (h : zHp), zG P (zoI sz) (l_X4_readText_27 ro k60 k79 a0 x1 n x2 h) 27 [(0, .ref a0), (1, .int x1), (2, .int x2)] [] h sz 0 0 := by
  intro n
  induction n with
  | zero =>
    intro x2 h
    show zG P (zoI sz) none _ _ _ _ _ _ _
    exact z_none
  | succ n ih =>
    intro x2 h
    show zG P (zoI sz) (b_X4_readText_27 ro k60 k79 a0 x1 (l_X4_readText_27 ro k60 k79 a0 x1 n) x2 h) _ _ _ _ _ _ _
    unfold b_X4_readText_27
    refine z_iload_n C dX4_readText_27 2 rfl ?_
    refine z_iload_n C dX4_readText_28 1 rfl ?_
    refine z_icmp_gt C 79 dX4_readText_29 (by decide) ?_ ?_
    · exact z_sub [2] rfl (hk79 _ _)
    refine z_aload_n C dX4_readText_32 0 rfl ?_
    refine z_getR C zf_X4_12 dX4_readText_33 (fun r7 => ?_)
    refine z_getI C zf_X4_39 dX4_readText_36 (fun v8 => ?_)
    refine z_if_eq C 79 dX4_readText_39 (by decide) ?_ ?_
    · exact z_sub [2] rfl (hk79 _ _)
    refine z_aload_n C dX4_readText_42 0 rfl ?_
    refine z_callVi C zc_X4_42 [] (fun l D tc b0 r h => m_X4_readDeclaration l D tc ro b0 h) dX4_readText_43 rfl rfl (Nat.le_of_ble_eq_true rfl) (by decide) (by decide) ⟨Nat.le_of_ble_eq_true rfl, Nat.le_of_ble_eq_true rfl⟩ (fun v9 h10 => ?_)
    refine z_istore_n (lv' := [(0, .ref a0), (1, .int x1), (2, .int x2), (3, .int v9)]) C dX4_readText_46 (by decide) rfl ?_
    refine z_iload_n C dX4_readText_47 3 rfl ?_
    refine z_if_lt C 56 dX4_readText_48 (by decide) ?_ ?_
    · exact wj_X4_readText_56 C hk60 hk79 ih
    refine z_aload_n C dX4_readText_51 0 rfl ?_
    refine z_callVi C zc_X4_46 [] (fun l D tc b0 r h => m_X4_readSemicolon l D tc ro b0 h) dX4_readText_52 rfl rfl (Nat.le_of_ble_eq_true rfl) (by decide) (by decide) ⟨Nat.le_of_ble_eq_true rfl, Nat.le_of_ble_eq_true rfl⟩ (fun v12 h13 => ?_)
    refine z_istore_n (lv' := [(0, .ref a0), (1, .int x1), (2, .int x2), (3, .int v12)]) C dX4_readText_55 (by decide) rfl ?_
    exact wj_X4_readText_56 C hk60 hk79 ih
noncomputable def f_X4_readText (ro : Nat → Nat) (a0 : Nat) (x1 : Int32) (hp : zHp) : Option (Int32 × zHp) :=
  (zis hp a0 4).bind fun _ => (zgR hp a0 4 1).bind fun r1 => (f_X5_clear r1 hp).bind fun h2 => (zpV h2 a0 4 2 (.int (0 : Int32))).bind fun h3 => (zpV h3 a0 4 3 (.int (-1 : Int32))).bind fun h4 => (zgR h4 a0 4 0).bind fun r5 => (f_X3_beginText r5 x1 h4).bind fun h6 => l_X4_readText_27 ro (fun p14 h15 => (zgR h15 a0 4 0).bind fun r16 => (zgI h15 r16 3 4).bind fun v17 => (zpV h15 a0 4 3 (.int v17)).bind fun h18 => some (p14, h18)) (fun p19 h20 => some (p19, h20)) a0 x1 1000000 (0 : Int32) h6
set_option maxHeartbeats 4000000 in
set_option maxRecDepth 100000 in
theorem m_X4_readText (l : Launch) (D : va_G) (tc : Nat → ClassId) (ro : Nat → Nat) (b0 : Nat) {a0 : Nat} {x1 : Int32} {hp : zHp} {sz : Nat} {r : (Int32 × zHp)} (h : f_X4_readText ro a0 x1 hp = some r) : zis hp a0 4 = some () ∧ zM l yX4_readText cX4_readText 4 (some .int) 10 0 0 [.ref a0, .int x1] D tc ro b0 hp sz ((zoI sz) r).1 ((zoI sz) r).2.1 ((zoI sz) r).2.2 := by
  refine ⟨?_, z_start (o := (zoI sz)) (lv := [(0, .ref a0), (1, .int x1)]) h (by decide +kernel) RX4 rfl rfl (Nat.le_of_ble_eq_true rfl) (fun P C => ?_)⟩
  · unfold f_X4_readText at h
    cases hc : zis hp a0 4 with
    | none => rw [hc] at h; cases h
    | some u => rfl
  unfold f_X4_readText
  refine z_is ?_
  refine z_aload_n C dX4_readText_0 0 rfl ?_
  refine z_getR C zf_X4_21 dX4_readText_1 (fun r1 => ?_)
  refine z_callVv C zc_X4_29 [] (fun l D tc b0 r h => m_X5_clear l D tc ro b0 h) dX4_readText_4 rfl rfl (Nat.le_of_ble_eq_true rfl) (by decide) (by decide) ⟨Nat.le_of_ble_eq_true rfl, Nat.le_of_ble_eq_true rfl⟩ (fun h2 => ?_)
  refine z_aload_n C dX4_readText_7 0 rfl ?_
  refine z_iconst C dX4_readText_8 zi_0 ?_
  refine z_putI C zp_X4_32 dX4_readText_9 (fun h3 => ?_)
  refine z_aload_n C dX4_readText_12 0 rfl ?_
  refine z_iconst C dX4_readText_13 zi_m1 ?_
  refine z_putI C zp_X4_25 dX4_readText_14 (fun h4 => ?_)
  refine z_aload_n C dX4_readText_17 0 rfl ?_
  refine z_getR C zf_X4_12 dX4_readText_18 (fun r5 => ?_)
  refine z_iload_n C dX4_readText_21 1 rfl ?_
  refine z_callVv C zc_X4_35 [.int x1] (fun l D tc b0 r h => m_X3_beginText l D tc ro b0 h) dX4_readText_22 rfl rfl (Nat.le_of_ble_eq_true rfl) (by decide) (by decide) ⟨Nat.le_of_ble_eq_true rfl, Nat.le_of_ble_eq_true rfl⟩ (fun h6 => ?_)
  refine z_iconst C dX4_readText_25 zi_0 ?_
  refine z_istore_n (lv' := [(0, .ref a0), (1, .int x1), (2, .int (0 : Int32))]) C dX4_readText_26 (by decide) rfl ?_
  refine wl_X4_readText_27 C (fun p14 h15 => ?_) (fun p19 h20 => ?_) _ _ _
  · refine z_aload_n C dX4_readText_60 0 rfl ?_
    refine z_aload_n C dX4_readText_61 0 rfl ?_
    refine z_getR C zf_X4_12 dX4_readText_62 (fun r16 => ?_)
    refine z_getI C zf_X4_49 dX4_readText_65 (fun v17 => ?_)
    refine z_putI C zp_X4_25 dX4_readText_68 (fun h18 => ?_)
    refine z_iload_n C dX4_readText_71 1 rfl ?_
    exact z_ireturn C dX4_readText_72
  refine z_iload_n C dX4_readText_79 0 rfl ?_
  exact z_ireturn C dX4_readText_80
noncomputable def f_X5_has (a0 : Nat) (x1 : Int32) (x2 : Int32) (hp : zHp) : Option Int32 :=
  (zis hp a0 5).bind fun _ => if x2 < 0 then (some (0 : Int32)) else (zgR hp a0 5 0).bind fun r1 => (zaI hp 0 r1 x1).bind fun v2 => if x2 < v2 then (some (1 : Int32)) else some (0 : Int32)
set_option maxHeartbeats 4000000 in
set_option maxRecDepth 100000 in
theorem m_X5_has (l : Launch) (D : va_G) (tc : Nat → ClassId) (ro : Nat → Nat) (b0 : Nat) {a0 : Nat} {x1 : Int32} {x2 : Int32} {hp : zHp} {sz : Nat} {r : Int32} (h : f_X5_has a0 x1 x2 hp = some r) : zis hp a0 5 = some () ∧ zM l yX5_has cX5_has 3 (some .boolean) 1 0 0 [.ref a0, .int x1, .int x2] D tc ro b0 hp sz ((zoP sz hp) r).1 ((zoP sz hp) r).2.1 ((zoP sz hp) r).2.2 := by
  refine ⟨?_, z_start (o := (zoP sz hp)) (lv := [(0, .ref a0), (1, .int x1), (2, .int x2)]) h (by decide +kernel) RX5 rfl rfl (Nat.le_of_ble_eq_true rfl) (fun P C => ?_)⟩
  · unfold f_X5_has at h
    cases hc : zis hp a0 5 with
    | none => rw [hc] at h; cases h
    | some u => rfl
  unfold f_X5_has
  refine z_is ?_
  refine z_iload_n C dX5_has_0 2 rfl ?_
  refine z_if_lt C 18 dX5_has_1 (by decide) ?_ ?_
  · refine z_iconst C dX5_has_18 zi_0 ?_
    exact z_kreturnP C rfl dX5_has_19
  refine z_iload_n C dX5_has_4 2 rfl ?_
  refine z_aload_n C dX5_has_5 0 rfl ?_
  refine z_getR C zf_X5_9 dX5_has_6 (fun r1 => ?_)
  refine z_iload_n C dX5_has_9 1 rfl ?_
  refine z_iaload C dX5_has_10 (fun v2 => ?_)
  refine z_icmp_ge C 18 dX5_has_11 (by decide) ?_ ?_
  · refine z_iconst C dX5_has_14 zi_1 ?_
    refine z_goto C 19 dX5_has_15 (by decide) ?_
    exact z_kreturnP C rfl dX5_has_19
  refine z_iconst C dX5_has_18 zi_0 ?_
  exact z_kreturnP C rfl dX5_has_19
noncomputable def f_X5_hasPile (a0 : Nat) (x1 : Int32) (hp : zHp) : Option Int32 :=
  (zis hp a0 5).bind fun _ => if x1 < 0 then (some (0 : Int32)) else (f_X5_piles a0 hp).bind fun v1 => if x1 < v1 then (some (1 : Int32)) else some (0 : Int32)
set_option maxHeartbeats 4000000 in
set_option maxRecDepth 100000 in
theorem m_X5_hasPile (l : Launch) (D : va_G) (tc : Nat → ClassId) (ro : Nat → Nat) (b0 : Nat) {a0 : Nat} {x1 : Int32} {hp : zHp} {sz : Nat} {r : Int32} (h : f_X5_hasPile a0 x1 hp = some r) : zis hp a0 5 = some () ∧ zM l yX5_hasPile cX5_hasPile 2 (some .boolean) 2 0 0 [.ref a0, .int x1] D tc ro b0 hp sz ((zoP sz hp) r).1 ((zoP sz hp) r).2.1 ((zoP sz hp) r).2.2 := by
  refine ⟨?_, z_start (o := (zoP sz hp)) (lv := [(0, .ref a0), (1, .int x1)]) h (by decide +kernel) RX5 rfl rfl (Nat.le_of_ble_eq_true rfl) (fun P C => ?_)⟩
  · unfold f_X5_hasPile at h
    cases hc : zis hp a0 5 with
    | none => rw [hc] at h; cases h
    | some u => rfl
  unfold f_X5_hasPile
  refine z_is ?_
  refine z_iload_n C dX5_hasPile_0 1 rfl ?_
  refine z_if_lt C 16 dX5_hasPile_1 (by decide) ?_ ?_
  · refine z_iconst C dX5_hasPile_16 zi_0 ?_
    exact z_kreturnP C rfl dX5_hasPile_17
  refine z_iload_n C dX5_hasPile_4 1 rfl ?_
  refine z_aload_n C dX5_hasPile_5 0 rfl ?_
  refine z_callVp C zc_X5_44 [] (fun l D tc b0 r h => m_X5_piles l D tc ro b0 h) dX5_hasPile_6 rfl rfl (Nat.le_of_ble_eq_true rfl) (by decide) (by decide) ⟨Nat.le_of_ble_eq_true rfl, Nat.le_of_ble_eq_true rfl⟩ (fun v1 => ?_)
  refine z_icmp_ge C 16 dX5_hasPile_9 (by decide) ?_ ?_
  · refine z_iconst C dX5_hasPile_12 zi_1 ?_
    refine z_goto C 17 dX5_hasPile_13 (by decide) ?_
    exact z_kreturnP C rfl dX5_hasPile_17
  refine z_iconst C dX5_hasPile_16 zi_0 ?_
  exact z_kreturnP C rfl dX5_hasPile_17
noncomputable def b_X5_wouldFindTruth_2 (k28 : Option Int32) (k36 : Option Int32) (a0 : Nat) (x1 : Int32) (x2 : Int32) (hp : zHp) (rec : Int32 → Option Int32) (x3 : Int32) : Option Int32 :=
  (f_X5_piles a0 hp).bind fun v1 => if x3 < v1 then ((f_X5_wouldFind a0 x1 x2 x3 hp).bind fun v2 => (zgR hp a0 5 7).bind fun r3 => (zaR hp 5 r3 x2).bind fun r4 => (zaI hp 0 r4 x3).bind fun v5 => if v2 = v5 then (zlet (x3 + (1 : Int32)) fun v6 => rec v6) else k28) else k36
noncomputable def l_X5_wouldFindTruth_2 (k28 : Option Int32) (k36 : Option Int32) (a0 : Nat) (x1 : Int32) (x2 : Int32) (hp : zHp) (n : Nat) : Int32 → Option Int32 :=
  Nat.rec (motive := fun _ => Int32 → Option Int32) (fun _ => none) (fun _ rec => b_X5_wouldFindTruth_2 k28 k36 a0 x1 x2 hp rec) n
theorem l_X5_wouldFindTruth_2_s (k28 : Option Int32) (k36 : Option Int32) (a0 : Nat) (x1 : Int32) (x2 : Int32) (hp : zHp) (n : Nat) (x3 : Int32) : l_X5_wouldFindTruth_2 k28 k36 a0 x1 x2 hp (n + 1) x3 = b_X5_wouldFindTruth_2 k28 k36 a0 x1 x2 hp (l_X5_wouldFindTruth_2 k28 k36 a0 x1 x2 hp n) x3 := rfl
set_option maxHeartbeats 4000000 in
set_option maxRecDepth 100000 in
theorem wl_X5_wouldFindTruth_2 {P : zX} {ro : Nat → Nat} {sz : Nat} (C : zC P cX5_wouldFindTruth RX5 (some .boolean) 3 0 0 4 ro) {a0 : Nat} {x1 : Int32} {x2 : Int32} {hp : zHp} {k28 : Option Int32} (hk28 : zG P (zoP sz hp) (k28) 28 [] [] hp sz 0 0) {k36 : Option Int32} (hk36 : zG P (zoP sz hp) (k36) 36 [] [] hp sz 0 0) : ∀ (n : Nat) (x3 : Int32), zG P (zoP sz hp) (l_X5_wouldFindTruth_2 k28 k36 a0 x1 x2 hp n x3) 2 [(0, .ref a0), (1, .int x1), (2, .int x2), (3, .int x3)] [] hp sz 0 0 := by
  intro n
  induction n with
  | zero =>
    intro x3
    show zG P (zoP sz hp) none _ _ _ _ _ _ _
    exact z_none
  | succ n ih =>
    intro x3
    show zG P (zoP sz hp) (b_X5_wouldFindTruth_2 k28 k36 a0 x1 x2 hp (l_X5_wouldFindTruth_2 k28 k36 a0 x1 x2 hp n) x3) _ _ _ _ _ _ _
    unfold b_X5_wouldFindTruth_2
    refine z_iload_n C dX5_wouldFindTruth_2 3 rfl ?_
    refine z_aload_n C dX5_wouldFindTruth_3 0 rfl ?_
    refine z_callVp C zc_X5_44 [] (fun l D tc b0 r h => m_X5_piles l D tc ro b0 h) dX5_wouldFindTruth_4 rfl rfl (Nat.le_of_ble_eq_true rfl) (by decide) (by decide) ⟨Nat.le_of_ble_eq_true rfl, Nat.le_of_ble_eq_true rfl⟩ (fun v1 => ?_)
    refine z_icmp_ge C 36 dX5_wouldFindTruth_7 (by decide) ?_ ?_
    · refine z_aload_n C dX5_wouldFindTruth_10 0 rfl ?_
      refine z_iload_n C dX5_wouldFindTruth_11 1 rfl ?_
      refine z_iload_n C dX5_wouldFindTruth_12 2 rfl ?_
      refine z_iload_n C dX5_wouldFindTruth_13 3 rfl ?_
      refine z_callVp C zc_X5_56 [.int x1, .int x2, .int x3] (fun l D tc b0 r h => m_X5_wouldFind l D tc ro b0 h) dX5_wouldFindTruth_14 rfl rfl (Nat.le_of_ble_eq_true rfl) (by decide) (by decide) ⟨Nat.le_of_ble_eq_true rfl, Nat.le_of_ble_eq_true rfl⟩ (fun v2 => ?_)
      refine z_aload_n C dX5_wouldFindTruth_17 0 rfl ?_
      refine z_getR C zf_X5_35 dX5_wouldFindTruth_18 (fun r3 => ?_)
      refine z_iload_n C dX5_wouldFindTruth_21 2 rfl ?_
      refine z_aaload (t := 5) (ty := .array .int) C (fun _ => rfl) rfl (by decide) dX5_wouldFindTruth_22 (fun r4 => ?_)
      refine z_iload_n C dX5_wouldFindTruth_23 3 rfl ?_
      refine z_iaload C dX5_wouldFindTruth_24 (fun v5 => ?_)
      refine z_icmp_eq C 30 dX5_wouldFindTruth_25 (by decide) ?_ ?_
      · refine z_iincL C 3 (fun v6 => [(0, .ref a0), (1, .int x1), (2, .int x2), (3, .int v6)]) dX5_wouldFindTruth_30 rfl zi_1 (by decide) (fun _ => rfl) (fun v6 => ?_)
        refine z_goto C 2 dX5_wouldFindTruth_33 (by decide) ?_
        exact ih _
      exact z_sub [] rfl (hk28)
    exact z_sub [] rfl (hk36)
noncomputable def f_X5_wouldFindTruth (a0 : Nat) (x1 : Int32) (x2 : Int32) (hp : zHp) : Option Int32 :=
  (zis hp a0 5).bind fun _ => l_X5_wouldFindTruth_2 (some (0 : Int32)) (some (1 : Int32)) a0 x1 x2 hp 1000000 (0 : Int32)
set_option maxHeartbeats 4000000 in
set_option maxRecDepth 100000 in
theorem m_X5_wouldFindTruth (l : Launch) (D : va_G) (tc : Nat → ClassId) (ro : Nat → Nat) (b0 : Nat) {a0 : Nat} {x1 : Int32} {x2 : Int32} {hp : zHp} {sz : Nat} {r : Int32} (h : f_X5_wouldFindTruth a0 x1 x2 hp = some r) : zis hp a0 5 = some () ∧ zM l yX5_wouldFindTruth cX5_wouldFindTruth 4 (some .boolean) 3 0 0 [.ref a0, .int x1, .int x2] D tc ro b0 hp sz ((zoP sz hp) r).1 ((zoP sz hp) r).2.1 ((zoP sz hp) r).2.2 := by
  refine ⟨?_, z_start (o := (zoP sz hp)) (lv := [(0, .ref a0), (1, .int x1), (2, .int x2)]) h (by decide +kernel) RX5 rfl rfl (Nat.le_of_ble_eq_true rfl) (fun P C => ?_)⟩
  · unfold f_X5_wouldFindTruth at h
    cases hc : zis hp a0 5 with
    | none => rw [hc] at h; cases h
    | some u => rfl
  unfold f_X5_wouldFindTruth
  refine z_is ?_
  refine z_iconst C dX5_wouldFindTruth_0 zi_0 ?_
  refine z_istore_n (lv' := [(0, .ref a0), (1, .int x1), (2, .int x2), (3, .int (0 : Int32))]) C dX5_wouldFindTruth_1 (by decide) rfl ?_
  refine wl_X5_wouldFindTruth_2 C ?_ ?_ _ _
  · refine z_iconst C dX5_wouldFindTruth_28 zi_0 ?_
    exact z_kreturnP C rfl dX5_wouldFindTruth_29
  refine z_iconst C dX5_wouldFindTruth_36 zi_1 ?_
  exact z_kreturnP C rfl dX5_wouldFindTruth_37
noncomputable def f_X6_addDeclared (a0 : Nat) (x1 : Int32) (hp : zHp) : Option zHp :=
  (zis hp a0 6).bind fun _ => (zgI hp a0 6 3).bind fun v1 => if v1 < (6 : Int32) then ((zgR hp a0 6 2).bind fun r2 => (zgI hp a0 6 3).bind fun v3 => (zsI hp r2 v3 x1).bind fun h4 => (zgI h4 a0 6 3).bind fun v5 => (zpV h4 a0 6 3 (.int (v5 + (1 : Int32)))).bind fun h6 => some h6) else some hp
set_option maxHeartbeats 4000000 in
set_option maxRecDepth 100000 in
theorem m_X6_addDeclared (l : Launch) (D : va_G) (tc : Nat → ClassId) (ro : Nat → Nat) (b0 : Nat) {a0 : Nat} {x1 : Int32} {hp : zHp} {sz : Nat} {r : zHp} (h : f_X6_addDeclared a0 x1 hp = some r) : zis hp a0 6 = some () ∧ zM l yX6_addDeclared cX6_addDeclared 2 none 1 0 0 [.ref a0, .int x1] D tc ro b0 hp sz ((zoV sz) r).1 ((zoV sz) r).2.1 ((zoV sz) r).2.2 := by
  refine ⟨?_, z_start (o := (zoV sz)) (lv := [(0, .ref a0), (1, .int x1)]) h (by decide +kernel) RX6 rfl rfl (Nat.le_of_ble_eq_true rfl) (fun P C => ?_)⟩
  · unfold f_X6_addDeclared at h
    cases hc : zis hp a0 6 with
    | none => rw [hc] at h; cases h
    | some u => rfl
  unfold f_X6_addDeclared
  refine z_is ?_
  refine z_aload_n C dX6_addDeclared_0 0 rfl ?_
  refine z_getI C zf_X6_48 dX6_addDeclared_1 (fun v1 => ?_)
  refine z_bipush C dX6_addDeclared_4 zbi_6 ?_
  refine z_icmp_ge C 29 dX6_addDeclared_6 (by decide) ?_ ?_
  · refine z_aload_n C dX6_addDeclared_9 0 rfl ?_
    refine z_getR C zf_X6_21 dX6_addDeclared_10 (fun r2 => ?_)
    refine z_aload_n C dX6_addDeclared_13 0 rfl ?_
    refine z_getI C zf_X6_48 dX6_addDeclared_14 (fun v3 => ?_)
    refine z_iload_n C dX6_addDeclared_17 1 rfl ?_
    refine z_iastore C dX6_addDeclared_18 (fun h4 => ?_)
    refine z_aload_n C dX6_addDeclared_19 0 rfl ?_
    refine z_dup C dX6_addDeclared_20 rfl ?_
    refine z_getI C zf_X6_48 dX6_addDeclared_21 (fun v5 => ?_)
    refine z_iconst C dX6_addDeclared_24 zi_1 ?_
    refine z_iadd C dX6_addDeclared_25 ?_
    refine z_putI C zp_X6_48 dX6_addDeclared_26 (fun h6 => ?_)
    exact z_return C dX6_addDeclared_29
  exact z_return C dX6_addDeclared_29
noncomputable def f_X7_init (mc ms : Nat) (a0 : Nat) (hp : zHp) (sz : Nat) : Option (zHp × Nat) :=
  zchk (0 + 1 ≤ mc ∧ 0 + 4 ≤ ms) <| zlet (zup hp sz (.inr (4, [.null, .null, .int 0, .int 0]))) fun h2 => zchk ((0 + 1) + 30 ≤ mc ∧ (0 + 4) + 1123 ≤ ms) <| zb2 (f_X4_init 30 1123 sz h2 ((sz + 1))) fun h4 z5 => (zpV h4 a0 7 0 (.ref sz)).bind fun h6 => zchk (((0 + 1) + 30) + 1 ≤ mc ∧ ((0 + 4) + 1123) + 2 ≤ ms) <| zlet (zup h6 z5 (.inr (1, [.null, .null]))) fun h8 => zchk ((((0 + 1) + 30) + 1) + 80 ≤ mc ∧ (((0 + 4) + 1123) + 2) + 830 ≤ ms) <| zb2 (f_X1_init 80 830 z5 h8 ((z5 + 1))) fun h10 z11 => (zpV h10 a0 7 1 (.ref z5)).bind fun h12 => zchk (((((0 + 1) + 30) + 1) + 80) + 1 ≤ mc ∧ ((((0 + 4) + 1123) + 2) + 830) + 2 ≤ ms) <| zlet (zup h12 z11 (.inr (2, [.null, .int 0]))) fun h14 => zchk ((((((0 + 1) + 30) + 1) + 80) + 1) + 521 ≤ mc ∧ (((((0 + 4) + 1123) + 2) + 830) + 2) + 6140 ≤ ms) <| zb2 (f_X2_init 521 6140 z11 h14 ((z11 + 1))) fun h16 z17 => (zpV h16 a0 7 2 (.ref z11)).bind fun h18 => zchk (((((((0 + 1) + 30) + 1) + 80) + 1) + 521) + 1 ≤ mc ∧ ((((((0 + 4) + 1123) + 2) + 830) + 2) + 6140) + 4 ≤ ms) <| zlet (zup h18 z17 (.inr (9, [.null, .int 0, .int 0, .int 0]))) fun h20 => zchk ((((((((0 + 1) + 30) + 1) + 80) + 1) + 521) + 1) + 1 ≤ mc ∧ (((((((0 + 4) + 1123) + 2) + 830) + 2) + 6140) + 4) + 16 ≤ ms) <| zb2 (f_J4_init_da8c8 1 16 z17 h20 ((z17 + 1))) fun h22 z23 => (zpV h22 a0 7 3 (.ref z17)).bind fun h24 => (zpV h24 a0 7 4 (.int (-1 : Int32))).bind fun h25 => some (h25, z23)
set_option maxHeartbeats 4000000 in
set_option maxRecDepth 100000 in
theorem m_X7_init (l : Launch) (D : va_G) (tc : Nat → ClassId) (ro : Nat → Nat) (b0 : Nat) {mc ms : Nat} {a0 : Nat} {hp : zHp} {sz : Nat} {r : (zHp × Nat)} (h : f_X7_init mc ms a0 hp sz = some r) : zM l yX7_init cX7_init 1 none 4 mc ms [.ref a0] D tc ro b0 hp sz (zoVA r).1 (zoVA r).2.1 (zoVA r).2.2 := by
  refine z_startI (o := zoVA) (lv := [(0, .ref a0)]) h (by decide +kernel) RX7 rfl rfl rfl (Nat.le_of_ble_eq_true rfl) (fun P C CI => ?_)
  unfold f_X7_init
  refine z_aload_n C dX7_init_0 0 rfl ?_
  refine z_objInit C zo_X7_3 dX7_init_1 (by decide) (Nat.le_of_ble_eq_true rfl) ?_
  refine z_aload_n C dX7_init_4 0 rfl ?_
  refine z_chk (fun q1 => ?_)
  refine z_new C za_X7_9 dX7_init_5 q1 (fun h2 => ?_)
  refine z_dup C dX7_init_8 rfl ?_
  refine z_chk (fun q3 => ?_)
  refine z_callI C (Or.inr ⟨_, zci_X7_11⟩) [] (fun l D tc b0 r h => m_X4_init l D tc ro b0 h) dX7_init_9 rfl rfl (Nat.le_of_ble_eq_true rfl) (by decide) (by decide) q3 (fun h4 z5 => ?_)
  refine z_putF C CI zpf_X7_12 rfl rfl dX7_init_12 (fun h6 => ?_)
  refine z_aload_n C dX7_init_15 0 rfl ?_
  refine z_chk (fun q7 => ?_)
  refine z_new C za_X7_16 dX7_init_16 q7 (fun h8 => ?_)
  refine z_dup C dX7_init_19 rfl ?_
  refine z_chk (fun q9 => ?_)
  refine z_callI C (Or.inr ⟨_, zci_X7_18⟩) [] (fun l D tc b0 r h => m_X1_init l D tc ro b0 h) dX7_init_20 rfl rfl (Nat.le_of_ble_eq_true rfl) (by decide) (by decide) q9 (fun h10 z11 => ?_)
  refine z_putF C CI zpf_X7_19 rfl rfl dX7_init_23 (fun h12 => ?_)
  refine z_aload_n C dX7_init_26 0 rfl ?_
  refine z_chk (fun q13 => ?_)
  refine z_new C za_X7_23 dX7_init_27 q13 (fun h14 => ?_)
  refine z_dup C dX7_init_30 rfl ?_
  refine z_chk (fun q15 => ?_)
  refine z_callI C (Or.inl zci_X7_25) [] (fun l D tc b0 r h => m_X2_init l D tc ro b0 h) dX7_init_31 rfl rfl (Nat.le_of_ble_eq_true rfl) (by decide) (by decide) q15 (fun h16 z17 => ?_)
  refine z_putF C CI zpf_X7_26 rfl rfl dX7_init_34 (fun h18 => ?_)
  refine z_aload_n C dX7_init_37 0 rfl ?_
  refine z_chk (fun q19 => ?_)
  refine z_new C za_X7_30 dX7_init_38 q19 (fun h20 => ?_)
  refine z_dup C dX7_init_41 rfl ?_
  refine z_chk (fun q21 => ?_)
  refine z_callI C (Or.inl zci_X7_32) [] (fun l D tc b0 r h => m_J4_init_da8c8 l D tc ro b0 h) dX7_init_42 rfl rfl (Nat.le_of_ble_eq_true rfl) (by decide) (by decide) q21 (fun h22 z23 => ?_)
  refine z_putF C CI zpf_X7_33 rfl rfl dX7_init_45 (fun h24 => ?_)
  refine z_aload_n C dX7_init_48 0 rfl ?_
  refine z_iconst C dX7_init_49 zi_m1 ?_
  refine z_putI C zp_X7_37 dX7_init_50 (fun h25 => ?_)
  exact z_returnA C dX7_init_53 q21
noncomputable def f_X7_feed (a0 : Nat) (x1 : Int32) (x2 : Int32) (x3 : Int32) (x4 : Int32) (x5 : Int32) (hp : zHp) : Option (Int32 × zHp) :=
  (zis hp a0 7).bind fun _ => (zgR hp a0 7 0).bind fun r1 => (zgR hp r1 4 0).bind fun r2 => (zgI hp r2 3 1).bind fun v3 => if (900 : Int32) < (v3 + (20 : Int32)) then (some ((-5 : Int32), hp)) else (f_X3_append r2 x1 hp).bind fun h4 => (f_X3_append r2 x2 h4).bind fun h5 => (f_X3_append r2 x3 h5).bind fun h6 => (f_X3_append r2 x4 h6).bind fun h7 => (f_X3_append r2 x5 h7).bind fun h8 => (zgI h8 r2 3 1).bind fun v9 => some (v9, h8)
set_option maxHeartbeats 4000000 in
set_option maxRecDepth 100000 in
theorem m_X7_feed (l : Launch) (D : va_G) (tc : Nat → ClassId) (ro : Nat → Nat) (b0 : Nat) {a0 : Nat} {x1 : Int32} {x2 : Int32} {x3 : Int32} {x4 : Int32} {x5 : Int32} {hp : zHp} {sz : Nat} {r : (Int32 × zHp)} (h : f_X7_feed a0 x1 x2 x3 x4 x5 hp = some r) : zis hp a0 7 = some () ∧ zM l yX7_feed cX7_feed 7 (some .int) 2 0 0 [.ref a0, .int x1, .int x2, .int x3, .int x4, .int x5] D tc ro b0 hp sz ((zoI sz) r).1 ((zoI sz) r).2.1 ((zoI sz) r).2.2 := by
  refine ⟨?_, z_start (o := (zoI sz)) (lv := [(0, .ref a0), (1, .int x1), (2, .int x2), (3, .int x3), (4, .int x4), (5, .int x5)]) h (by decide +kernel) RX7 rfl rfl (Nat.le_of_ble_eq_true rfl) (fun P C => ?_)⟩
  · unfold f_X7_feed at h
    cases hc : zis hp a0 7 with
    | none => rw [hc] at h; cases h
    | some u => rfl
  unfold f_X7_feed
  refine z_is ?_
  refine z_aload_n C dX7_feed_0 0 rfl ?_
  refine z_getR C zf_X7_12 dX7_feed_1 (fun r1 => ?_)
  refine z_getR C zf_X7_41 dX7_feed_4 (fun r2 => ?_)
  refine z_astore (lv' := [(0, .ref a0), (1, .int x1), (2, .int x2), (3, .int x3), (4, .int x4), (5, .int x5), (6, .ref r2)]) C dX7_feed_7 (by decide) rfl ?_
  refine z_aload C dX7_feed_9 6 rfl ?_
  refine z_getI C zf_X7_45 dX7_feed_11 (fun v3 => ?_)
  refine z_bipush C dX7_feed_14 zbi_20 ?_
  refine z_iadd C dX7_feed_16 ?_
  refine z_sipush C dX7_feed_17 zsi_900 ?_
  refine z_icmp_le C 26 dX7_feed_20 (by decide) ?_ ?_
  · refine z_bipush C dX7_feed_23 zbi_m5 ?_
    exact z_ireturn C dX7_feed_25
  refine z_aload C dX7_feed_26 6 rfl ?_
  refine z_iload_n C dX7_feed_28 1 rfl ?_
  refine z_callVv C zc_X7_50 [.int x1] (fun l D tc b0 r h => m_X3_append l D tc ro b0 h) dX7_feed_29 rfl rfl (Nat.le_of_ble_eq_true rfl) (by decide) (by decide) ⟨Nat.le_of_ble_eq_true rfl, Nat.le_of_ble_eq_true rfl⟩ (fun h4 => ?_)
  refine z_aload C dX7_feed_32 6 rfl ?_
  refine z_iload_n C dX7_feed_34 2 rfl ?_
  refine z_callVv C zc_X7_50 [.int x2] (fun l D tc b0 r h => m_X3_append l D tc ro b0 h) dX7_feed_35 rfl rfl (Nat.le_of_ble_eq_true rfl) (by decide) (by decide) ⟨Nat.le_of_ble_eq_true rfl, Nat.le_of_ble_eq_true rfl⟩ (fun h5 => ?_)
  refine z_aload C dX7_feed_38 6 rfl ?_
  refine z_iload_n C dX7_feed_40 3 rfl ?_
  refine z_callVv C zc_X7_50 [.int x3] (fun l D tc b0 r h => m_X3_append l D tc ro b0 h) dX7_feed_41 rfl rfl (Nat.le_of_ble_eq_true rfl) (by decide) (by decide) ⟨Nat.le_of_ble_eq_true rfl, Nat.le_of_ble_eq_true rfl⟩ (fun h6 => ?_)
  refine z_aload C dX7_feed_44 6 rfl ?_
  refine z_iload C dX7_feed_46 4 rfl ?_
  refine z_callVv C zc_X7_50 [.int x4] (fun l D tc b0 r h => m_X3_append l D tc ro b0 h) dX7_feed_48 rfl rfl (Nat.le_of_ble_eq_true rfl) (by decide) (by decide) ⟨Nat.le_of_ble_eq_true rfl, Nat.le_of_ble_eq_true rfl⟩ (fun h7 => ?_)
  refine z_aload C dX7_feed_51 6 rfl ?_
  refine z_iload C dX7_feed_53 5 rfl ?_
  refine z_callVv C zc_X7_50 [.int x5] (fun l D tc b0 r h => m_X3_append l D tc ro b0 h) dX7_feed_55 rfl rfl (Nat.le_of_ble_eq_true rfl) (by decide) (by decide) ⟨Nat.le_of_ble_eq_true rfl, Nat.le_of_ble_eq_true rfl⟩ (fun h8 => ?_)
  refine z_aload C dX7_feed_58 6 rfl ?_
  refine z_getI C zf_X7_45 dX7_feed_60 (fun v9 => ?_)
  exact z_ireturn C dX7_feed_63
noncomputable def f_X7_load (ro : Nat → Nat) (a0 : Nat) (x1 : Int32) (hp : zHp) : Option (Int32 × zHp) :=
  (zis hp a0 7).bind fun _ => if x1 < 0 then (some ((-2 : Int32), hp)) else (zgR hp a0 7 0).bind fun r1 => (zgR hp r1 4 0).bind fun r2 => (zgI hp r2 3 1).bind fun v3 => if v3 < x1 then (some ((-2 : Int32), hp)) else (zgR hp a0 7 0).bind fun r4 => zb2 (f_X4_readText ro r4 x1 hp) fun v5 h6 => (zgR h6 a0 7 0).bind fun r7 => (zgI h6 r7 4 3).bind fun v8 => (zpV h6 a0 7 4 (.int v8)).bind fun h9 => if v5 < 0 then (some (v5, h9)) else (zgR h9 a0 7 1).bind fun r10 => (zgR h9 a0 7 0).bind fun r11 => (zgR h9 a0 7 1).bind fun r12 => (zgR h9 r12 1 0).bind fun r13 => zb2 (f_X4_exchange r11 r13 h9) fun r14 h15 => (f_X1_begin r10 r14 h15).bind fun h16 => (zgR h16 a0 7 2).bind fun r17 => (zpV h16 r17 2 1 (.int (0 : Int32))).bind fun h18 => some (v5, h18)
set_option maxHeartbeats 4000000 in
set_option maxRecDepth 100000 in
theorem m_X7_load (l : Launch) (D : va_G) (tc : Nat → ClassId) (ro : Nat → Nat) (b0 : Nat) {a0 : Nat} {x1 : Int32} {hp : zHp} {sz : Nat} {r : (Int32 × zHp)} (h : f_X7_load ro a0 x1 hp = some r) : zis hp a0 7 = some () ∧ zM l yX7_load cX7_load 3 (some .int) 11 0 0 [.ref a0, .int x1] D tc ro b0 hp sz ((zoI sz) r).1 ((zoI sz) r).2.1 ((zoI sz) r).2.2 := by
  refine ⟨?_, z_start (o := (zoI sz)) (lv := [(0, .ref a0), (1, .int x1)]) h (by decide +kernel) RX7 rfl rfl (Nat.le_of_ble_eq_true rfl) (fun P C => ?_)⟩
  · unfold f_X7_load at h
    cases hc : zis hp a0 7 with
    | none => rw [hc] at h; cases h
    | some u => rfl
  unfold f_X7_load
  refine z_is ?_
  refine z_iload_n C dX7_load_0 1 rfl ?_
  refine z_if_lt C 18 dX7_load_1 (by decide) ?_ ?_
  · refine z_bipush C dX7_load_18 zbi_m2 ?_
    exact z_ireturn C dX7_load_20
  refine z_iload_n C dX7_load_4 1 rfl ?_
  refine z_aload_n C dX7_load_5 0 rfl ?_
  refine z_getR C zf_X7_12 dX7_load_6 (fun r1 => ?_)
  refine z_getR C zf_X7_41 dX7_load_9 (fun r2 => ?_)
  refine z_getI C zf_X7_45 dX7_load_12 (fun v3 => ?_)
  refine z_icmp_le C 21 dX7_load_15 (by decide) ?_ ?_
  · refine z_bipush C dX7_load_18 zbi_m2 ?_
    exact z_ireturn C dX7_load_20
  refine z_aload_n C dX7_load_21 0 rfl ?_
  refine z_getR C zf_X7_12 dX7_load_22 (fun r4 => ?_)
  refine z_iload_n C dX7_load_25 1 rfl ?_
  refine z_callVi C zc_X7_54 [.int x1] (fun l D tc b0 r h => m_X4_readText l D tc ro b0 h) dX7_load_26 rfl rfl (Nat.le_of_ble_eq_true rfl) (by decide) (by decide) ⟨Nat.le_of_ble_eq_true rfl, Nat.le_of_ble_eq_true rfl⟩ (fun v5 h6 => ?_)
  refine z_istore_n (lv' := [(0, .ref a0), (1, .int x1), (2, .int v5)]) C dX7_load_29 (by decide) rfl ?_
  refine z_aload_n C dX7_load_30 0 rfl ?_
  refine z_aload_n C dX7_load_31 0 rfl ?_
  refine z_getR C zf_X7_12 dX7_load_32 (fun r7 => ?_)
  refine z_getI C zf_X7_58 dX7_load_35 (fun v8 => ?_)
  refine z_putI C zp_X7_37 dX7_load_38 (fun h9 => ?_)
  refine z_iload_n C dX7_load_41 2 rfl ?_
  refine z_if_lt C 74 dX7_load_42 (by decide) ?_ ?_
  · refine z_iload_n C dX7_load_74 2 rfl ?_
    exact z_ireturn C dX7_load_75
  refine z_aload_n C dX7_load_45 0 rfl ?_
  refine z_getR C zf_X7_19 dX7_load_46 (fun r10 => ?_)
  refine z_aload_n C dX7_load_49 0 rfl ?_
  refine z_getR C zf_X7_12 dX7_load_50 (fun r11 => ?_)
  refine z_aload_n C dX7_load_53 0 rfl ?_
  refine z_getR C zf_X7_19 dX7_load_54 (fun r12 => ?_)
  refine z_getR C zf_X7_61 dX7_load_57 (fun r13 => ?_)
  refine z_callVr C zc_X7_65 [.ref r13] (fun l D tc b0 r h => m_X4_exchange l D tc ro b0 h) dX7_load_60 rfl rfl (Nat.le_of_ble_eq_true rfl) (by decide) (by decide) ⟨Nat.le_of_ble_eq_true rfl, Nat.le_of_ble_eq_true rfl⟩ (fun r14 h15 => ?_)
  refine z_callVv C zc_X7_69 [.ref r14] (fun l D tc b0 r h => m_X1_begin l D tc ro b0 h) dX7_load_63 rfl rfl (Nat.le_of_ble_eq_true rfl) (by decide) (by decide) ⟨Nat.le_of_ble_eq_true rfl, Nat.le_of_ble_eq_true rfl⟩ (fun h16 => ?_)
  refine z_aload_n C dX7_load_66 0 rfl ?_
  refine z_getR C zf_X7_26 dX7_load_67 (fun r17 => ?_)
  refine z_iconst C dX7_load_70 zi_0 ?_
  refine z_putI C zp_X7_73 dX7_load_71 (fun h18 => ?_)
  refine z_iload_n C dX7_load_74 2 rfl ?_
  exact z_ireturn C dX7_load_75
noncomputable def f_X7_count (a0 : Nat) (x1 : Int32) (hp : zHp) : Option Int32 :=
  (zis hp a0 7).bind fun _ => if x1 < 0 then (some (-2 : Int32)) else if (4 : Int32) < x1 then (some (-2 : Int32)) else (zgR hp a0 7 1).bind fun r1 => (zgR hp r1 1 0).bind fun r2 => (zgR hp r2 5 0).bind fun r3 => (zaI hp 0 r3 x1).bind fun v4 => some v4
set_option maxHeartbeats 4000000 in
set_option maxRecDepth 100000 in
theorem m_X7_count (l : Launch) (D : va_G) (tc : Nat → ClassId) (ro : Nat → Nat) (b0 : Nat) {a0 : Nat} {x1 : Int32} {hp : zHp} {sz : Nat} {r : Int32} (h : f_X7_count a0 x1 hp = some r) : zis hp a0 7 = some () ∧ zM l yX7_count cX7_count 2 (some .int) 1 0 0 [.ref a0, .int x1] D tc ro b0 hp sz ((zoP sz hp) r).1 ((zoP sz hp) r).2.1 ((zoP sz hp) r).2.2 := by
  refine ⟨?_, z_start (o := (zoP sz hp)) (lv := [(0, .ref a0), (1, .int x1)]) h (by decide +kernel) RX7 rfl rfl (Nat.le_of_ble_eq_true rfl) (fun P C => ?_)⟩
  · unfold f_X7_count at h
    cases hc : zis hp a0 7 with
    | none => rw [hc] at h; cases h
    | some u => rfl
  unfold f_X7_count
  refine z_is ?_
  refine z_iload_n C dX7_count_0 1 rfl ?_
  refine z_if_lt C 24 dX7_count_1 (by decide) ?_ ?_
  · refine z_bipush C dX7_count_24 zbi_m2 ?_
    exact z_ireturnP C dX7_count_26
  refine z_iload_n C dX7_count_4 1 rfl ?_
  refine z_iconst C dX7_count_5 zi_4 ?_
  refine z_icmp_gt C 24 dX7_count_6 (by decide) ?_ ?_
  · refine z_bipush C dX7_count_24 zbi_m2 ?_
    exact z_ireturnP C dX7_count_26
  refine z_aload_n C dX7_count_9 0 rfl ?_
  refine z_getR C zf_X7_19 dX7_count_10 (fun r1 => ?_)
  refine z_getR C zf_X7_61 dX7_count_13 (fun r2 => ?_)
  refine z_getR C zf_X7_76 dX7_count_16 (fun r3 => ?_)
  refine z_iload_n C dX7_count_19 1 rfl ?_
  refine z_iaload C dX7_count_20 (fun v4 => ?_)
  refine z_goto C 26 dX7_count_21 (by decide) ?_
  exact z_ireturnP C dX7_count_26
noncomputable def f_X7_isSetting (x0 : Int32) (hp : zHp) : Option Int32 :=
  if x0 = 0 then (some (1 : Int32)) else if x0 = (1 : Int32) then (some (1 : Int32)) else some (0 : Int32)
set_option maxHeartbeats 4000000 in
set_option maxRecDepth 100000 in
theorem m_X7_isSetting (l : Launch) (D : va_G) (tc : Nat → ClassId) (ro : Nat → Nat) (b0 : Nat) {x0 : Int32} {hp : zHp} {sz : Nat} {r : Int32} (h : f_X7_isSetting x0 hp = some r) : zM l yX7_isSetting cX7_isSetting 1 (some .boolean) 1 0 0 [.int x0] D tc ro b0 hp sz ((zoP sz hp) r).1 ((zoP sz hp) r).2.1 ((zoP sz hp) r).2.2 := by
  refine z_start (o := (zoP sz hp)) (lv := [(0, .int x0)]) h (by decide +kernel) RX7 rfl rfl (Nat.le_of_ble_eq_true rfl) (fun P C => ?_)
  unfold f_X7_isSetting
  refine z_iload_n C dX7_isSetting_0 0 rfl ?_
  refine z_if_eq C 9 dX7_isSetting_1 (by decide) ?_ ?_
  · refine z_iconst C dX7_isSetting_9 zi_1 ?_
    refine z_goto C 14 dX7_isSetting_10 (by decide) ?_
    exact z_kreturnP C rfl dX7_isSetting_14
  refine z_iload_n C dX7_isSetting_4 0 rfl ?_
  refine z_iconst C dX7_isSetting_5 zi_1 ?_
  refine z_icmp_ne C 13 dX7_isSetting_6 (by decide) ?_ ?_
  · refine z_iconst C dX7_isSetting_9 zi_1 ?_
    refine z_goto C 14 dX7_isSetting_10 (by decide) ?_
    exact z_kreturnP C rfl dX7_isSetting_14
  refine z_iconst C dX7_isSetting_13 zi_0 ?_
  exact z_kreturnP C rfl dX7_isSetting_14
noncomputable def f_X7_getSetting (a0 : Nat) (x1 : Int32) (hp : zHp) : Option Int32 :=
  (zis hp a0 7).bind fun _ => (f_X7_isSetting x1 hp).bind fun v1 => if v1 = 0 then (some (-2 : Int32)) else (zgR hp a0 7 1).bind fun r2 => (zgR hp r2 1 1).bind fun r3 => (zgR hp r3 6 1).bind fun r4 => (zaI hp 0 r4 x1).bind fun v5 => some v5
set_option maxHeartbeats 4000000 in
set_option maxRecDepth 100000 in
theorem m_X7_getSetting (l : Launch) (D : va_G) (tc : Nat → ClassId) (ro : Nat → Nat) (b0 : Nat) {a0 : Nat} {x1 : Int32} {hp : zHp} {sz : Nat} {r : Int32} (h : f_X7_getSetting a0 x1 hp = some r) : zis hp a0 7 = some () ∧ zM l yX7_getSetting cX7_getSetting 2 (some .int) 2 0 0 [.ref a0, .int x1] D tc ro b0 hp sz ((zoP sz hp) r).1 ((zoP sz hp) r).2.1 ((zoP sz hp) r).2.2 := by
  refine ⟨?_, z_start (o := (zoP sz hp)) (lv := [(0, .ref a0), (1, .int x1)]) h (by decide +kernel) RX7 rfl rfl (Nat.le_of_ble_eq_true rfl) (fun P C => ?_)⟩
  · unfold f_X7_getSetting at h
    cases hc : zis hp a0 7 with
    | none => rw [hc] at h; cases h
    | some u => rfl
  unfold f_X7_getSetting
  refine z_is ?_
  refine z_iload_n C dX7_getSetting_0 1 rfl ?_
  refine z_callSp C zs_X7_86 [.int x1] (fun l D tc b0 r h => m_X7_isSetting l D tc ro b0 h) dX7_getSetting_1 rfl rfl (Nat.le_of_ble_eq_true rfl) (by decide) (by decide) ⟨Nat.le_of_ble_eq_true rfl, Nat.le_of_ble_eq_true rfl⟩ (fun v1 => ?_)
  refine z_if_eq C 22 dX7_getSetting_4 (by decide) ?_ ?_
  · refine z_bipush C dX7_getSetting_22 zbi_m2 ?_
    exact z_ireturnP C dX7_getSetting_24
  refine z_aload_n C dX7_getSetting_7 0 rfl ?_
  refine z_getR C zf_X7_19 dX7_getSetting_8 (fun r2 => ?_)
  refine z_getR C zf_X7_90 dX7_getSetting_11 (fun r3 => ?_)
  refine z_getR C zf_X7_94 dX7_getSetting_14 (fun r4 => ?_)
  refine z_iload_n C dX7_getSetting_17 1 rfl ?_
  refine z_iaload C dX7_getSetting_18 (fun v5 => ?_)
  refine z_goto C 24 dX7_getSetting_19 (by decide) ?_
  exact z_ireturnP C dX7_getSetting_24
noncomputable def f_X7_demand (a0 : Nat) (x1 : Int32) (x2 : Int32) (hp : zHp) : Option Unit :=
  (zis hp a0 7).bind fun _ => (zgR hp a0 7 1).bind fun r1 => (zgR hp r1 1 0).bind fun r2 => (f_X5_has r2 x1 x2 hp).bind fun v3 => if v3 = 0 then (none) else some ()
set_option maxHeartbeats 4000000 in
set_option maxRecDepth 100000 in
theorem m_X7_demand (l : Launch) (D : va_G) (tc : Nat → ClassId) (ro : Nat → Nat) (b0 : Nat) {a0 : Nat} {x1 : Int32} {x2 : Int32} {hp : zHp} {sz : Nat} {r : Unit} (h : f_X7_demand a0 x1 x2 hp = some r) : zis hp a0 7 = some () ∧ zM l yX7_demand cX7_demand 3 none 2 0 0 [.ref a0, .int x1, .int x2] D tc ro b0 hp sz ((zoPU sz hp) r).1 ((zoPU sz hp) r).2.1 ((zoPU sz hp) r).2.2 := by
  refine ⟨?_, z_start (o := (zoPU sz hp)) (lv := [(0, .ref a0), (1, .int x1), (2, .int x2)]) h (by decide +kernel) RX7 rfl rfl (Nat.le_of_ble_eq_true rfl) (fun P C => ?_)⟩
  · unfold f_X7_demand at h
    cases hc : zis hp a0 7 with
    | none => rw [hc] at h; cases h
    | some u => rfl
  unfold f_X7_demand
  refine z_is ?_
  refine z_aload_n C dX7_demand_0 0 rfl ?_
  refine z_getR C zf_X7_19 dX7_demand_1 (fun r1 => ?_)
  refine z_getR C zf_X7_61 dX7_demand_4 (fun r2 => ?_)
  refine z_iload_n C dX7_demand_7 1 rfl ?_
  refine z_iload_n C dX7_demand_8 2 rfl ?_
  refine z_callVp C zc_X7_224 [.int x1, .int x2] (fun l D tc b0 r h => m_X5_has l D tc ro b0 h) dX7_demand_9 rfl rfl (Nat.le_of_ble_eq_true rfl) (by decide) (by decide) ⟨Nat.le_of_ble_eq_true rfl, Nat.le_of_ble_eq_true rfl⟩ (fun v3 => ?_)
  refine z_if_ne C 26 dX7_demand_12 (by decide) ?_ ?_
  · exact z_none
  exact z_returnP C dX7_demand_26
noncomputable def f_X7_boxProperty (a0 : Nat) (x1 : Int32) (x2 : Int32) (hp : zHp) : Option Int32 :=
  (zis hp a0 7).bind fun _ => (f_X7_demand a0 (3 : Int32) x1 hp).bind fun _ => if x2 = (0 : Int32) then ((zgR hp a0 7 1).bind fun r1 => (zgR hp r1 1 0).bind fun r2 => (zgR hp r2 5 4).bind fun r3 => (zaI hp 0 r3 x1).bind fun v4 => some v4) else if x2 = (1 : Int32) then ((zgR hp a0 7 1).bind fun r6 => (zgR hp r6 1 0).bind fun r7 => (zgR hp r7 5 5).bind fun r8 => (zaI hp 0 r8 x1).bind fun v9 => some v9) else if x2 = (2 : Int32) then ((zgR hp a0 7 1).bind fun r11 => (zgR hp r11 1 1).bind fun r12 => (zgR hp r12 6 0).bind fun r13 => (zaR hp 3 r13 x1).bind fun r14 => (zgI hp r14 0 1).bind fun v15 => some v15) else if x2 = (3 : Int32) then ((zgR hp a0 7 1).bind fun r17 => (zgR hp r17 1 1).bind fun r18 => (zgR hp r18 6 0).bind fun r19 => (zaR hp 3 r19 x1).bind fun r20 => (zgI hp r20 0 3).bind fun v21 => some v21) else some (-2 : Int32)
set_option maxHeartbeats 4000000 in
set_option maxRecDepth 100000 in
theorem m_X7_boxProperty (l : Launch) (D : va_G) (tc : Nat → ClassId) (ro : Nat → Nat) (b0 : Nat) {a0 : Nat} {x1 : Int32} {x2 : Int32} {hp : zHp} {sz : Nat} {r : Int32} (h : f_X7_boxProperty a0 x1 x2 hp = some r) : zis hp a0 7 = some () ∧ zM l yX7_boxProperty cX7_boxProperty 3 (some .int) 3 0 0 [.ref a0, .int x1, .int x2] D tc ro b0 hp sz ((zoP sz hp) r).1 ((zoP sz hp) r).2.1 ((zoP sz hp) r).2.2 := by
  refine ⟨?_, z_start (o := (zoP sz hp)) (lv := [(0, .ref a0), (1, .int x1), (2, .int x2)]) h (by decide +kernel) RX7 rfl rfl (Nat.le_of_ble_eq_true rfl) (fun P C => ?_)⟩
  · unfold f_X7_boxProperty at h
    cases hc : zis hp a0 7 with
    | none => rw [hc] at h; cases h
    | some u => rfl
  unfold f_X7_boxProperty
  refine z_is ?_
  refine z_aload_n C dX7_boxProperty_0 0 rfl ?_
  refine z_iconst C dX7_boxProperty_1 zi_3 ?_
  refine z_iload_n C dX7_boxProperty_2 1 rfl ?_
  refine z_callVpu C zc_X7_99 [.int (3 : Int32), .int x1] (fun l D tc b0 r h => m_X7_demand l D tc ro b0 h) dX7_boxProperty_3 rfl rfl (Nat.le_of_ble_eq_true rfl) (by decide) (by decide) ⟨Nat.le_of_ble_eq_true rfl, Nat.le_of_ble_eq_true rfl⟩ (fun _ => ?_)
  refine z_iload_n C dX7_boxProperty_6 2 rfl ?_
  refine z_case (off := 29) C (0 : Int32) 36 dX7_boxProperty_7 (by decide) (by decide) (by decide) (by decide) ?_ (fun n5 => ?_)
  · refine z_aload_n C dX7_boxProperty_36 0 rfl ?_
    refine z_getR C zf_X7_19 dX7_boxProperty_37 (fun r1 => ?_)
    refine z_getR C zf_X7_61 dX7_boxProperty_40 (fun r2 => ?_)
    refine z_getR C zf_X7_116 dX7_boxProperty_43 (fun r3 => ?_)
    refine z_iload_n C dX7_boxProperty_46 1 rfl ?_
    refine z_iaload C dX7_boxProperty_47 (fun v4 => ?_)
    exact z_ireturnP C dX7_boxProperty_48
  refine z_case (off := 42) C (1 : Int32) 49 dX7_boxProperty_7 (by decide) (by decide) (by decide) (by decide) ?_ (fun n10 => ?_)
  · refine z_aload_n C dX7_boxProperty_49 0 rfl ?_
    refine z_getR C zf_X7_19 dX7_boxProperty_50 (fun r6 => ?_)
    refine z_getR C zf_X7_61 dX7_boxProperty_53 (fun r7 => ?_)
    refine z_getR C zf_X7_119 dX7_boxProperty_56 (fun r8 => ?_)
    refine z_iload_n C dX7_boxProperty_59 1 rfl ?_
    refine z_iaload C dX7_boxProperty_60 (fun v9 => ?_)
    exact z_ireturnP C dX7_boxProperty_61
  refine z_case (off := 55) C (2 : Int32) 62 dX7_boxProperty_7 (by decide) (by decide) (by decide) (by decide) ?_ (fun n16 => ?_)
  · refine z_aload_n C dX7_boxProperty_62 0 rfl ?_
    refine z_getR C zf_X7_19 dX7_boxProperty_63 (fun r11 => ?_)
    refine z_getR C zf_X7_90 dX7_boxProperty_66 (fun r12 => ?_)
    refine z_getR C zf_X7_122 dX7_boxProperty_69 (fun r13 => ?_)
    refine z_iload_n C dX7_boxProperty_72 1 rfl ?_
    refine z_aaload (t := 3) (ty := .object "CountHall$Box") C (fun _ => rfl) rfl (by decide) dX7_boxProperty_73 (fun r14 => ?_)
    refine z_getI C zf_X7_126 dX7_boxProperty_74 (fun v15 => ?_)
    exact z_ireturnP C dX7_boxProperty_77
  refine z_case (off := 71) C (3 : Int32) 78 dX7_boxProperty_7 (by decide) (by decide) (by decide) (by decide) ?_ (fun n22 => ?_)
  · refine z_aload_n C dX7_boxProperty_78 0 rfl ?_
    refine z_getR C zf_X7_19 dX7_boxProperty_79 (fun r17 => ?_)
    refine z_getR C zf_X7_90 dX7_boxProperty_82 (fun r18 => ?_)
    refine z_getR C zf_X7_122 dX7_boxProperty_85 (fun r19 => ?_)
    refine z_iload_n C dX7_boxProperty_88 1 rfl ?_
    refine z_aaload (t := 3) (ty := .object "CountHall$Box") C (fun _ => rfl) rfl (by decide) dX7_boxProperty_89 (fun r20 => ?_)
    refine z_getI C zf_X7_131 dX7_boxProperty_90 (fun v21 => ?_)
    exact z_ireturnP C dX7_boxProperty_93
  refine z_dflt C 94 dX7_boxProperty_7 (by have t0 := lv_neT n5 (show (0 : Int32).toInt = 0 by decide); have t1 := lv_neT n10 (show (1 : Int32).toInt = 1 by decide); have t2 := lv_neT n16 (show (2 : Int32).toInt = 2 by decide); have t3 := lv_neT n22 (show (3 : Int32).toInt = 3 by decide); omega) (by decide) ?_
  refine z_bipush C dX7_boxProperty_94 zbi_m2 ?_
  exact z_ireturnP C dX7_boxProperty_96
noncomputable def f_X7_placeOf (a0 : Nat) (x1 : Int32) (hp : zHp) : Option Int32 :=
  (zis hp a0 7).bind fun _ => (f_X7_demand a0 (3 : Int32) x1 hp).bind fun _ => (zgR hp a0 7 1).bind fun r1 => (zgR hp r1 1 1).bind fun r2 => (zgR hp r2 6 0).bind fun r3 => (zaR hp 3 r3 x1).bind fun r4 => (zgI hp r4 0 0).bind fun v5 => some v5
set_option maxHeartbeats 4000000 in
set_option maxRecDepth 100000 in
theorem m_X7_placeOf (l : Launch) (D : va_G) (tc : Nat → ClassId) (ro : Nat → Nat) (b0 : Nat) {a0 : Nat} {x1 : Int32} {hp : zHp} {sz : Nat} {r : Int32} (h : f_X7_placeOf a0 x1 hp = some r) : zis hp a0 7 = some () ∧ zM l yX7_placeOf cX7_placeOf 2 (some .int) 3 0 0 [.ref a0, .int x1] D tc ro b0 hp sz ((zoP sz hp) r).1 ((zoP sz hp) r).2.1 ((zoP sz hp) r).2.2 := by
  refine ⟨?_, z_start (o := (zoP sz hp)) (lv := [(0, .ref a0), (1, .int x1)]) h (by decide +kernel) RX7 rfl rfl (Nat.le_of_ble_eq_true rfl) (fun P C => ?_)⟩
  · unfold f_X7_placeOf at h
    cases hc : zis hp a0 7 with
    | none => rw [hc] at h; cases h
    | some u => rfl
  unfold f_X7_placeOf
  refine z_is ?_
  refine z_aload_n C dX7_placeOf_0 0 rfl ?_
  refine z_iconst C dX7_placeOf_1 zi_3 ?_
  refine z_iload_n C dX7_placeOf_2 1 rfl ?_
  refine z_callVpu C zc_X7_99 [.int (3 : Int32), .int x1] (fun l D tc b0 r h => m_X7_demand l D tc ro b0 h) dX7_placeOf_3 rfl rfl (Nat.le_of_ble_eq_true rfl) (by decide) (by decide) ⟨Nat.le_of_ble_eq_true rfl, Nat.le_of_ble_eq_true rfl⟩ (fun _ => ?_)
  refine z_aload_n C dX7_placeOf_6 0 rfl ?_
  refine z_getR C zf_X7_19 dX7_placeOf_7 (fun r1 => ?_)
  refine z_getR C zf_X7_90 dX7_placeOf_10 (fun r2 => ?_)
  refine z_getR C zf_X7_122 dX7_placeOf_13 (fun r3 => ?_)
  refine z_iload_n C dX7_placeOf_16 1 rfl ?_
  refine z_aaload (t := 3) (ty := .object "CountHall$Box") C (fun _ => rfl) rfl (by decide) dX7_placeOf_17 (fun r4 => ?_)
  refine z_getI C zf_X7_134 dX7_placeOf_18 (fun v5 => ?_)
  exact z_ireturnP C dX7_placeOf_21
noncomputable def f_X7_papers (a0 : Nat) (x1 : Int32) (x2 : Int32) (hp : zHp) : Option Int32 :=
  (zis hp a0 7).bind fun _ => (f_X7_demand a0 (3 : Int32) x1 hp).bind fun _ => (zgR hp a0 7 1).bind fun r1 => (zgR hp r1 1 0).bind fun r2 => (f_X5_hasPile r2 x2 hp).bind fun v3 => if v3 = 0 then (some (-2 : Int32)) else (zgR hp a0 7 1).bind fun r4 => (zgR hp r4 1 0).bind fun r5 => (zgR hp r5 5 7).bind fun r6 => (zaR hp 5 r6 x1).bind fun r7 => (zaI hp 0 r7 x2).bind fun v8 => some v8
set_option maxHeartbeats 4000000 in
set_option maxRecDepth 100000 in
theorem m_X7_papers (l : Launch) (D : va_G) (tc : Nat → ClassId) (ro : Nat → Nat) (b0 : Nat) {a0 : Nat} {x1 : Int32} {x2 : Int32} {hp : zHp} {sz : Nat} {r : Int32} (h : f_X7_papers a0 x1 x2 hp = some r) : zis hp a0 7 = some () ∧ zM l yX7_papers cX7_papers 3 (some .int) 3 0 0 [.ref a0, .int x1, .int x2] D tc ro b0 hp sz ((zoP sz hp) r).1 ((zoP sz hp) r).2.1 ((zoP sz hp) r).2.2 := by
  refine ⟨?_, z_start (o := (zoP sz hp)) (lv := [(0, .ref a0), (1, .int x1), (2, .int x2)]) h (by decide +kernel) RX7 rfl rfl (Nat.le_of_ble_eq_true rfl) (fun P C => ?_)⟩
  · unfold f_X7_papers at h
    cases hc : zis hp a0 7 with
    | none => rw [hc] at h; cases h
    | some u => rfl
  unfold f_X7_papers
  refine z_is ?_
  refine z_aload_n C dX7_papers_0 0 rfl ?_
  refine z_iconst C dX7_papers_1 zi_3 ?_
  refine z_iload_n C dX7_papers_2 1 rfl ?_
  refine z_callVpu C zc_X7_99 [.int (3 : Int32), .int x1] (fun l D tc b0 r h => m_X7_demand l D tc ro b0 h) dX7_papers_3 rfl rfl (Nat.le_of_ble_eq_true rfl) (by decide) (by decide) ⟨Nat.le_of_ble_eq_true rfl, Nat.le_of_ble_eq_true rfl⟩ (fun _ => ?_)
  refine z_aload_n C dX7_papers_6 0 rfl ?_
  refine z_getR C zf_X7_19 dX7_papers_7 (fun r1 => ?_)
  refine z_getR C zf_X7_61 dX7_papers_10 (fun r2 => ?_)
  refine z_iload_n C dX7_papers_13 2 rfl ?_
  refine z_callVp C zc_X7_137 [.int x2] (fun l D tc b0 r h => m_X5_hasPile l D tc ro b0 h) dX7_papers_14 rfl rfl (Nat.le_of_ble_eq_true rfl) (by decide) (by decide) ⟨Nat.le_of_ble_eq_true rfl, Nat.le_of_ble_eq_true rfl⟩ (fun v3 => ?_)
  refine z_if_eq C 37 dX7_papers_17 (by decide) ?_ ?_
  · refine z_bipush C dX7_papers_37 zbi_m2 ?_
    exact z_ireturnP C dX7_papers_39
  refine z_aload_n C dX7_papers_20 0 rfl ?_
  refine z_getR C zf_X7_19 dX7_papers_21 (fun r4 => ?_)
  refine z_getR C zf_X7_61 dX7_papers_24 (fun r5 => ?_)
  refine z_getR C zf_X7_140 dX7_papers_27 (fun r6 => ?_)
  refine z_iload_n C dX7_papers_30 1 rfl ?_
  refine z_aaload (t := 5) (ty := .array .int) C (fun _ => rfl) rfl (by decide) dX7_papers_31 (fun r7 => ?_)
  refine z_iload_n C dX7_papers_32 2 rfl ?_
  refine z_iaload C dX7_papers_33 (fun v8 => ?_)
  refine z_goto C 39 dX7_papers_34 (by decide) ?_
  exact z_ireturnP C dX7_papers_39
noncomputable def f_X7_slipOf (a0 : Nat) (x1 : Int32) (hp : zHp) : Option Int32 :=
  (zis hp a0 7).bind fun _ => (f_X7_demand a0 (4 : Int32) x1 hp).bind fun _ => (zgR hp a0 7 1).bind fun r1 => (zgR hp r1 1 0).bind fun r2 => (zgR hp r2 5 8).bind fun r3 => (zaI hp 0 r3 x1).bind fun v4 => some v4
set_option maxHeartbeats 4000000 in
set_option maxRecDepth 100000 in
theorem m_X7_slipOf (l : Launch) (D : va_G) (tc : Nat → ClassId) (ro : Nat → Nat) (b0 : Nat) {a0 : Nat} {x1 : Int32} {hp : zHp} {sz : Nat} {r : Int32} (h : f_X7_slipOf a0 x1 hp = some r) : zis hp a0 7 = some () ∧ zM l yX7_slipOf cX7_slipOf 2 (some .int) 3 0 0 [.ref a0, .int x1] D tc ro b0 hp sz ((zoP sz hp) r).1 ((zoP sz hp) r).2.1 ((zoP sz hp) r).2.2 := by
  refine ⟨?_, z_start (o := (zoP sz hp)) (lv := [(0, .ref a0), (1, .int x1)]) h (by decide +kernel) RX7 rfl rfl (Nat.le_of_ble_eq_true rfl) (fun P C => ?_)⟩
  · unfold f_X7_slipOf at h
    cases hc : zis hp a0 7 with
    | none => rw [hc] at h; cases h
    | some u => rfl
  unfold f_X7_slipOf
  refine z_is ?_
  refine z_aload_n C dX7_slipOf_0 0 rfl ?_
  refine z_iconst C dX7_slipOf_1 zi_4 ?_
  refine z_iload_n C dX7_slipOf_2 1 rfl ?_
  refine z_callVpu C zc_X7_99 [.int (4 : Int32), .int x1] (fun l D tc b0 r h => m_X7_demand l D tc ro b0 h) dX7_slipOf_3 rfl rfl (Nat.le_of_ble_eq_true rfl) (by decide) (by decide) ⟨Nat.le_of_ble_eq_true rfl, Nat.le_of_ble_eq_true rfl⟩ (fun _ => ?_)
  refine z_aload_n C dX7_slipOf_6 0 rfl ?_
  refine z_getR C zf_X7_19 dX7_slipOf_7 (fun r1 => ?_)
  refine z_getR C zf_X7_61 dX7_slipOf_10 (fun r2 => ?_)
  refine z_getR C zf_X7_157 dX7_slipOf_13 (fun r3 => ?_)
  refine z_iload_n C dX7_slipOf_16 1 rfl ?_
  refine z_iaload C dX7_slipOf_17 (fun v4 => ?_)
  exact z_ireturnP C dX7_slipOf_18
noncomputable def f_X7_counted (a0 : Nat) (x1 : Int32) (x2 : Int32) (x3 : Int32) (hp : zHp) : Option Int32 :=
  (zis hp a0 7).bind fun _ => (f_X7_demand a0 (3 : Int32) x1 hp).bind fun _ => (zgR hp a0 7 1).bind fun r1 => (zgR hp r1 1 1).bind fun r2 => (zgR hp r2 6 0).bind fun r3 => (zaR hp 3 r3 x1).bind fun r4 => (f_X0_hasCount r4 x2 hp).bind fun v5 => if v5 = 0 then (some (-1 : Int32)) else (zgR hp a0 7 1).bind fun r6 => (zgR hp r6 1 0).bind fun r7 => (f_X5_hasPile r7 x3 hp).bind fun v8 => if v8 = 0 then (some (-2 : Int32)) else (f_X0_foundBy r4 x2 x3 hp).bind fun v9 => some v9
set_option maxHeartbeats 4000000 in
set_option maxRecDepth 100000 in
theorem m_X7_counted (l : Launch) (D : va_G) (tc : Nat → ClassId) (ro : Nat → Nat) (b0 : Nat) {a0 : Nat} {x1 : Int32} {x2 : Int32} {x3 : Int32} {hp : zHp} {sz : Nat} {r : Int32} (h : f_X7_counted a0 x1 x2 x3 hp = some r) : zis hp a0 7 = some () ∧ zM l yX7_counted cX7_counted 5 (some .int) 3 0 0 [.ref a0, .int x1, .int x2, .int x3] D tc ro b0 hp sz ((zoP sz hp) r).1 ((zoP sz hp) r).2.1 ((zoP sz hp) r).2.2 := by
  refine ⟨?_, z_start (o := (zoP sz hp)) (lv := [(0, .ref a0), (1, .int x1), (2, .int x2), (3, .int x3)]) h (by decide +kernel) RX7 rfl rfl (Nat.le_of_ble_eq_true rfl) (fun P C => ?_)⟩
  · unfold f_X7_counted at h
    cases hc : zis hp a0 7 with
    | none => rw [hc] at h; cases h
    | some u => rfl
  unfold f_X7_counted
  refine z_is ?_
  refine z_aload_n C dX7_counted_0 0 rfl ?_
  refine z_iconst C dX7_counted_1 zi_3 ?_
  refine z_iload_n C dX7_counted_2 1 rfl ?_
  refine z_callVpu C zc_X7_99 [.int (3 : Int32), .int x1] (fun l D tc b0 r h => m_X7_demand l D tc ro b0 h) dX7_counted_3 rfl rfl (Nat.le_of_ble_eq_true rfl) (by decide) (by decide) ⟨Nat.le_of_ble_eq_true rfl, Nat.le_of_ble_eq_true rfl⟩ (fun _ => ?_)
  refine z_aload_n C dX7_counted_6 0 rfl ?_
  refine z_getR C zf_X7_19 dX7_counted_7 (fun r1 => ?_)
  refine z_getR C zf_X7_90 dX7_counted_10 (fun r2 => ?_)
  refine z_getR C zf_X7_122 dX7_counted_13 (fun r3 => ?_)
  refine z_iload_n C dX7_counted_16 1 rfl ?_
  refine z_aaload (t := 3) (ty := .object "CountHall$Box") C (fun _ => rfl) rfl (by decide) dX7_counted_17 (fun r4 => ?_)
  refine z_astore (lv' := [(0, .ref a0), (1, .int x1), (2, .int x2), (3, .int x3), (4, .ref r4)]) C dX7_counted_18 (by decide) rfl ?_
  refine z_aload C dX7_counted_20 4 rfl ?_
  refine z_iload_n C dX7_counted_22 2 rfl ?_
  refine z_callVp C zc_X7_160 [.int x2] (fun l D tc b0 r h => m_X0_hasCount l D tc ro b0 h) dX7_counted_23 rfl rfl (Nat.le_of_ble_eq_true rfl) (by decide) (by decide) ⟨Nat.le_of_ble_eq_true rfl, Nat.le_of_ble_eq_true rfl⟩ (fun v5 => ?_)
  refine z_if_ne C 31 dX7_counted_26 (by decide) ?_ ?_
  · refine z_iconst C dX7_counted_29 zi_m1 ?_
    exact z_ireturnP C dX7_counted_30
  refine z_aload_n C dX7_counted_31 0 rfl ?_
  refine z_getR C zf_X7_19 dX7_counted_32 (fun r6 => ?_)
  refine z_getR C zf_X7_61 dX7_counted_35 (fun r7 => ?_)
  refine z_iload_n C dX7_counted_38 3 rfl ?_
  refine z_callVp C zc_X7_137 [.int x3] (fun l D tc b0 r h => m_X5_hasPile l D tc ro b0 h) dX7_counted_39 rfl rfl (Nat.le_of_ble_eq_true rfl) (by decide) (by decide) ⟨Nat.le_of_ble_eq_true rfl, Nat.le_of_ble_eq_true rfl⟩ (fun v8 => ?_)
  refine z_if_eq C 55 dX7_counted_42 (by decide) ?_ ?_
  · refine z_bipush C dX7_counted_55 zbi_m2 ?_
    exact z_ireturnP C dX7_counted_57
  refine z_aload C dX7_counted_45 4 rfl ?_
  refine z_iload_n C dX7_counted_47 2 rfl ?_
  refine z_iload_n C dX7_counted_48 3 rfl ?_
  refine z_callVp C zc_X7_163 [.int x2, .int x3] (fun l D tc b0 r h => m_X0_foundBy l D tc ro b0 h) dX7_counted_49 rfl rfl (Nat.le_of_ble_eq_true rfl) (by decide) (by decide) ⟨Nat.le_of_ble_eq_true rfl, Nat.le_of_ble_eq_true rfl⟩ (fun v9 => ?_)
  refine z_goto C 57 dX7_counted_52 (by decide) ?_
  exact z_ireturnP C dX7_counted_57
noncomputable def f_X7_countedAt (a0 : Nat) (x1 : Int32) (x2 : Int32) (hp : zHp) : Option Int32 :=
  (zis hp a0 7).bind fun _ => (f_X7_demand a0 (3 : Int32) x1 hp).bind fun _ => (zgR hp a0 7 1).bind fun r1 => (zgR hp r1 1 1).bind fun r2 => (zgR hp r2 6 0).bind fun r3 => (zaR hp 3 r3 x1).bind fun r4 => (f_X0_hasCount r4 x2 hp).bind fun v5 => if v5 = 0 then (some (-1 : Int32)) else (zgR hp r4 0 7).bind fun r6 => (zaI hp 0 r6 x2).bind fun v7 => some v7
set_option maxHeartbeats 4000000 in
set_option maxRecDepth 100000 in
theorem m_X7_countedAt (l : Launch) (D : va_G) (tc : Nat → ClassId) (ro : Nat → Nat) (b0 : Nat) {a0 : Nat} {x1 : Int32} {x2 : Int32} {hp : zHp} {sz : Nat} {r : Int32} (h : f_X7_countedAt a0 x1 x2 hp = some r) : zis hp a0 7 = some () ∧ zM l yX7_countedAt cX7_countedAt 4 (some .int) 3 0 0 [.ref a0, .int x1, .int x2] D tc ro b0 hp sz ((zoP sz hp) r).1 ((zoP sz hp) r).2.1 ((zoP sz hp) r).2.2 := by
  refine ⟨?_, z_start (o := (zoP sz hp)) (lv := [(0, .ref a0), (1, .int x1), (2, .int x2)]) h (by decide +kernel) RX7 rfl rfl (Nat.le_of_ble_eq_true rfl) (fun P C => ?_)⟩
  · unfold f_X7_countedAt at h
    cases hc : zis hp a0 7 with
    | none => rw [hc] at h; cases h
    | some u => rfl
  unfold f_X7_countedAt
  refine z_is ?_
  refine z_aload_n C dX7_countedAt_0 0 rfl ?_
  refine z_iconst C dX7_countedAt_1 zi_3 ?_
  refine z_iload_n C dX7_countedAt_2 1 rfl ?_
  refine z_callVpu C zc_X7_99 [.int (3 : Int32), .int x1] (fun l D tc b0 r h => m_X7_demand l D tc ro b0 h) dX7_countedAt_3 rfl rfl (Nat.le_of_ble_eq_true rfl) (by decide) (by decide) ⟨Nat.le_of_ble_eq_true rfl, Nat.le_of_ble_eq_true rfl⟩ (fun _ => ?_)
  refine z_aload_n C dX7_countedAt_6 0 rfl ?_
  refine z_getR C zf_X7_19 dX7_countedAt_7 (fun r1 => ?_)
  refine z_getR C zf_X7_90 dX7_countedAt_10 (fun r2 => ?_)
  refine z_getR C zf_X7_122 dX7_countedAt_13 (fun r3 => ?_)
  refine z_iload_n C dX7_countedAt_16 1 rfl ?_
  refine z_aaload (t := 3) (ty := .object "CountHall$Box") C (fun _ => rfl) rfl (by decide) dX7_countedAt_17 (fun r4 => ?_)
  refine z_astore_n (lv' := [(0, .ref a0), (1, .int x1), (2, .int x2), (3, .ref r4)]) C dX7_countedAt_18 (by decide) rfl ?_
  refine z_aload_n C dX7_countedAt_19 3 rfl ?_
  refine z_iload_n C dX7_countedAt_20 2 rfl ?_
  refine z_callVp C zc_X7_160 [.int x2] (fun l D tc b0 r h => m_X0_hasCount l D tc ro b0 h) dX7_countedAt_21 rfl rfl (Nat.le_of_ble_eq_true rfl) (by decide) (by decide) ⟨Nat.le_of_ble_eq_true rfl, Nat.le_of_ble_eq_true rfl⟩ (fun v5 => ?_)
  refine z_if_eq C 36 dX7_countedAt_24 (by decide) ?_ ?_
  · refine z_iconst C dX7_countedAt_36 zi_m1 ?_
    exact z_ireturnP C dX7_countedAt_37
  refine z_aload_n C dX7_countedAt_27 3 rfl ?_
  refine z_getR C zf_X7_166 dX7_countedAt_28 (fun r6 => ?_)
  refine z_iload_n C dX7_countedAt_31 2 rfl ?_
  refine z_iaload C dX7_countedAt_32 (fun v7 => ?_)
  refine z_goto C 37 dX7_countedAt_33 (by decide) ?_
  exact z_ireturnP C dX7_countedAt_37
noncomputable def f_X7_wouldCount (a0 : Nat) (x1 : Int32) (x2 : Int32) (x3 : Int32) (hp : zHp) : Option Int32 :=
  (zis hp a0 7).bind fun _ => (f_X7_demand a0 (4 : Int32) x1 hp).bind fun _ => (f_X7_demand a0 (3 : Int32) x2 hp).bind fun _ => (zgR hp a0 7 1).bind fun r1 => (zgR hp r1 1 0).bind fun r2 => (f_X5_hasPile r2 x3 hp).bind fun v3 => if v3 = 0 then (some (-2 : Int32)) else (zgR hp a0 7 1).bind fun r4 => (zgR hp r4 1 0).bind fun r5 => (f_X5_wouldFind r5 x1 x2 x3 hp).bind fun v6 => some v6
set_option maxHeartbeats 4000000 in
set_option maxRecDepth 100000 in
theorem m_X7_wouldCount (l : Launch) (D : va_G) (tc : Nat → ClassId) (ro : Nat → Nat) (b0 : Nat) {a0 : Nat} {x1 : Int32} {x2 : Int32} {x3 : Int32} {hp : zHp} {sz : Nat} {r : Int32} (h : f_X7_wouldCount a0 x1 x2 x3 hp = some r) : zis hp a0 7 = some () ∧ zM l yX7_wouldCount cX7_wouldCount 4 (some .int) 3 0 0 [.ref a0, .int x1, .int x2, .int x3] D tc ro b0 hp sz ((zoP sz hp) r).1 ((zoP sz hp) r).2.1 ((zoP sz hp) r).2.2 := by
  refine ⟨?_, z_start (o := (zoP sz hp)) (lv := [(0, .ref a0), (1, .int x1), (2, .int x2), (3, .int x3)]) h (by decide +kernel) RX7 rfl rfl (Nat.le_of_ble_eq_true rfl) (fun P C => ?_)⟩
  · unfold f_X7_wouldCount at h
    cases hc : zis hp a0 7 with
    | none => rw [hc] at h; cases h
    | some u => rfl
  unfold f_X7_wouldCount
  refine z_is ?_
  refine z_aload_n C dX7_wouldCount_0 0 rfl ?_
  refine z_iconst C dX7_wouldCount_1 zi_4 ?_
  refine z_iload_n C dX7_wouldCount_2 1 rfl ?_
  refine z_callVpu C zc_X7_99 [.int (4 : Int32), .int x1] (fun l D tc b0 r h => m_X7_demand l D tc ro b0 h) dX7_wouldCount_3 rfl rfl (Nat.le_of_ble_eq_true rfl) (by decide) (by decide) ⟨Nat.le_of_ble_eq_true rfl, Nat.le_of_ble_eq_true rfl⟩ (fun _ => ?_)
  refine z_aload_n C dX7_wouldCount_6 0 rfl ?_
  refine z_iconst C dX7_wouldCount_7 zi_3 ?_
  refine z_iload_n C dX7_wouldCount_8 2 rfl ?_
  refine z_callVpu C zc_X7_99 [.int (3 : Int32), .int x2] (fun l D tc b0 r h => m_X7_demand l D tc ro b0 h) dX7_wouldCount_9 rfl rfl (Nat.le_of_ble_eq_true rfl) (by decide) (by decide) ⟨Nat.le_of_ble_eq_true rfl, Nat.le_of_ble_eq_true rfl⟩ (fun _ => ?_)
  refine z_aload_n C dX7_wouldCount_12 0 rfl ?_
  refine z_getR C zf_X7_19 dX7_wouldCount_13 (fun r1 => ?_)
  refine z_getR C zf_X7_61 dX7_wouldCount_16 (fun r2 => ?_)
  refine z_iload_n C dX7_wouldCount_19 3 rfl ?_
  refine z_callVp C zc_X7_137 [.int x3] (fun l D tc b0 r h => m_X5_hasPile l D tc ro b0 h) dX7_wouldCount_20 rfl rfl (Nat.le_of_ble_eq_true rfl) (by decide) (by decide) ⟨Nat.le_of_ble_eq_true rfl, Nat.le_of_ble_eq_true rfl⟩ (fun v3 => ?_)
  refine z_if_eq C 42 dX7_wouldCount_23 (by decide) ?_ ?_
  · refine z_bipush C dX7_wouldCount_42 zbi_m2 ?_
    exact z_ireturnP C dX7_wouldCount_44
  refine z_aload_n C dX7_wouldCount_26 0 rfl ?_
  refine z_getR C zf_X7_19 dX7_wouldCount_27 (fun r4 => ?_)
  refine z_getR C zf_X7_61 dX7_wouldCount_30 (fun r5 => ?_)
  refine z_iload_n C dX7_wouldCount_33 1 rfl ?_
  refine z_iload_n C dX7_wouldCount_34 2 rfl ?_
  refine z_iload_n C dX7_wouldCount_35 3 rfl ?_
  refine z_callVp C zc_X7_169 [.int x1, .int x2, .int x3] (fun l D tc b0 r h => m_X5_wouldFind l D tc ro b0 h) dX7_wouldCount_36 rfl rfl (Nat.le_of_ble_eq_true rfl) (by decide) (by decide) ⟨Nat.le_of_ble_eq_true rfl, Nat.le_of_ble_eq_true rfl⟩ (fun v6 => ?_)
  refine z_goto C 44 dX7_wouldCount_39 (by decide) ?_
  exact z_ireturnP C dX7_wouldCount_44
noncomputable def f_X7_isConfirmed (a0 : Nat) (x1 : Int32) (hp : zHp) : Option Int32 :=
  (zis hp a0 7).bind fun _ => (f_X7_demand a0 (3 : Int32) x1 hp).bind fun _ => (zgR hp a0 7 1).bind fun r1 => (zgR hp r1 1 1).bind fun r2 => (zgR hp r2 6 0).bind fun r3 => (zaR hp 3 r3 x1).bind fun r4 => (zgI hp r4 0 5).bind fun v5 => zrNp .boolean v5
set_option maxHeartbeats 4000000 in
set_option maxRecDepth 100000 in
theorem m_X7_isConfirmed (l : Launch) (D : va_G) (tc : Nat → ClassId) (ro : Nat → Nat) (b0 : Nat) {a0 : Nat} {x1 : Int32} {hp : zHp} {sz : Nat} {r : Int32} (h : f_X7_isConfirmed a0 x1 hp = some r) : zis hp a0 7 = some () ∧ zM l yX7_isConfirmed cX7_isConfirmed 2 (some .boolean) 3 0 0 [.ref a0, .int x1] D tc ro b0 hp sz ((zoP sz hp) r).1 ((zoP sz hp) r).2.1 ((zoP sz hp) r).2.2 := by
  refine ⟨?_, z_start (o := (zoP sz hp)) (lv := [(0, .ref a0), (1, .int x1)]) h (by decide +kernel) RX7 rfl rfl (Nat.le_of_ble_eq_true rfl) (fun P C => ?_)⟩
  · unfold f_X7_isConfirmed at h
    cases hc : zis hp a0 7 with
    | none => rw [hc] at h; cases h
    | some u => rfl
  unfold f_X7_isConfirmed
  refine z_is ?_
  refine z_aload_n C dX7_isConfirmed_0 0 rfl ?_
  refine z_iconst C dX7_isConfirmed_1 zi_3 ?_
  refine z_iload_n C dX7_isConfirmed_2 1 rfl ?_
  refine z_callVpu C zc_X7_99 [.int (3 : Int32), .int x1] (fun l D tc b0 r h => m_X7_demand l D tc ro b0 h) dX7_isConfirmed_3 rfl rfl (Nat.le_of_ble_eq_true rfl) (by decide) (by decide) ⟨Nat.le_of_ble_eq_true rfl, Nat.le_of_ble_eq_true rfl⟩ (fun _ => ?_)
  refine z_aload_n C dX7_isConfirmed_6 0 rfl ?_
  refine z_getR C zf_X7_19 dX7_isConfirmed_7 (fun r1 => ?_)
  refine z_getR C zf_X7_90 dX7_isConfirmed_10 (fun r2 => ?_)
  refine z_getR C zf_X7_122 dX7_isConfirmed_13 (fun r3 => ?_)
  refine z_iload_n C dX7_isConfirmed_16 1 rfl ?_
  refine z_aaload (t := 3) (ty := .object "CountHall$Box") C (fun _ => rfl) rfl (by decide) dX7_isConfirmed_17 (fun r4 => ?_)
  refine z_getI C zf_X7_173 dX7_isConfirmed_18 (fun v5 => ?_)
  exact z_nreturnP C (by simp) dX7_isConfirmed_21
noncomputable def f_X7_result (a0 : Nat) (x1 : Int32) (x2 : Int32) (hp : zHp) : Option Int32 :=
  (zis hp a0 7).bind fun _ => (f_X7_demand a0 (3 : Int32) x1 hp).bind fun _ => (zgR hp a0 7 1).bind fun r1 => (zgR hp r1 1 1).bind fun r2 => (zgR hp r2 6 0).bind fun r3 => (zaR hp 3 r3 x1).bind fun r4 => (zgI hp r4 0 3).bind fun v5 => if v5 = 0 then (some (-1 : Int32)) else (zgR hp a0 7 1).bind fun r6 => (zgR hp r6 1 0).bind fun r7 => (f_X5_hasPile r7 x2 hp).bind fun v8 => if v8 = 0 then (some (-2 : Int32)) else (f_X0_foundValidly r4 x2 hp).bind fun v9 => some v9
set_option maxHeartbeats 4000000 in
set_option maxRecDepth 100000 in
theorem m_X7_result (l : Launch) (D : va_G) (tc : Nat → ClassId) (ro : Nat → Nat) (b0 : Nat) {a0 : Nat} {x1 : Int32} {x2 : Int32} {hp : zHp} {sz : Nat} {r : Int32} (h : f_X7_result a0 x1 x2 hp = some r) : zis hp a0 7 = some () ∧ zM l yX7_result cX7_result 4 (some .int) 3 0 0 [.ref a0, .int x1, .int x2] D tc ro b0 hp sz ((zoP sz hp) r).1 ((zoP sz hp) r).2.1 ((zoP sz hp) r).2.2 := by
  refine ⟨?_, z_start (o := (zoP sz hp)) (lv := [(0, .ref a0), (1, .int x1), (2, .int x2)]) h (by decide +kernel) RX7 rfl rfl (Nat.le_of_ble_eq_true rfl) (fun P C => ?_)⟩
  · unfold f_X7_result at h
    cases hc : zis hp a0 7 with
    | none => rw [hc] at h; cases h
    | some u => rfl
  unfold f_X7_result
  refine z_is ?_
  refine z_aload_n C dX7_result_0 0 rfl ?_
  refine z_iconst C dX7_result_1 zi_3 ?_
  refine z_iload_n C dX7_result_2 1 rfl ?_
  refine z_callVpu C zc_X7_99 [.int (3 : Int32), .int x1] (fun l D tc b0 r h => m_X7_demand l D tc ro b0 h) dX7_result_3 rfl rfl (Nat.le_of_ble_eq_true rfl) (by decide) (by decide) ⟨Nat.le_of_ble_eq_true rfl, Nat.le_of_ble_eq_true rfl⟩ (fun _ => ?_)
  refine z_aload_n C dX7_result_6 0 rfl ?_
  refine z_getR C zf_X7_19 dX7_result_7 (fun r1 => ?_)
  refine z_getR C zf_X7_90 dX7_result_10 (fun r2 => ?_)
  refine z_getR C zf_X7_122 dX7_result_13 (fun r3 => ?_)
  refine z_iload_n C dX7_result_16 1 rfl ?_
  refine z_aaload (t := 3) (ty := .object "CountHall$Box") C (fun _ => rfl) rfl (by decide) dX7_result_17 (fun r4 => ?_)
  refine z_astore_n (lv' := [(0, .ref a0), (1, .int x1), (2, .int x2), (3, .ref r4)]) C dX7_result_18 (by decide) rfl ?_
  refine z_aload_n C dX7_result_19 3 rfl ?_
  refine z_getI C zf_X7_131 dX7_result_20 (fun v5 => ?_)
  refine z_if_ne C 28 dX7_result_23 (by decide) ?_ ?_
  · refine z_iconst C dX7_result_26 zi_m1 ?_
    exact z_ireturnP C dX7_result_27
  refine z_aload_n C dX7_result_28 0 rfl ?_
  refine z_getR C zf_X7_19 dX7_result_29 (fun r6 => ?_)
  refine z_getR C zf_X7_61 dX7_result_32 (fun r7 => ?_)
  refine z_iload_n C dX7_result_35 2 rfl ?_
  refine z_callVp C zc_X7_137 [.int x2] (fun l D tc b0 r h => m_X5_hasPile l D tc ro b0 h) dX7_result_36 rfl rfl (Nat.le_of_ble_eq_true rfl) (by decide) (by decide) ⟨Nat.le_of_ble_eq_true rfl, Nat.le_of_ble_eq_true rfl⟩ (fun v8 => ?_)
  refine z_if_eq C 50 dX7_result_39 (by decide) ?_ ?_
  · refine z_bipush C dX7_result_50 zbi_m2 ?_
    exact z_ireturnP C dX7_result_52
  refine z_aload_n C dX7_result_42 3 rfl ?_
  refine z_iload_n C dX7_result_43 2 rfl ?_
  refine z_callVp C zc_X7_177 [.int x2] (fun l D tc b0 r h => m_X0_foundValidly l D tc ro b0 h) dX7_result_44 rfl rfl (Nat.le_of_ble_eq_true rfl) (by decide) (by decide) ⟨Nat.le_of_ble_eq_true rfl, Nat.le_of_ble_eq_true rfl⟩ (fun v9 => ?_)
  refine z_goto C 52 dX7_result_47 (by decide) ?_
  exact z_ireturnP C dX7_result_52
noncomputable def f_X7_surplus (a0 : Nat) (x1 : Int32) (hp : zHp) : Option Int32 :=
  (zis hp a0 7).bind fun _ => (f_X7_demand a0 (3 : Int32) x1 hp).bind fun _ => (zgR hp a0 7 1).bind fun r1 => (f_X1_papersTooMany r1 x1 hp).bind fun v2 => some v2
set_option maxHeartbeats 4000000 in
set_option maxRecDepth 100000 in
theorem m_X7_surplus (l : Launch) (D : va_G) (tc : Nat → ClassId) (ro : Nat → Nat) (b0 : Nat) {a0 : Nat} {x1 : Int32} {hp : zHp} {sz : Nat} {r : Int32} (h : f_X7_surplus a0 x1 hp = some r) : zis hp a0 7 = some () ∧ zM l yX7_surplus cX7_surplus 2 (some .int) 4 0 0 [.ref a0, .int x1] D tc ro b0 hp sz ((zoP sz hp) r).1 ((zoP sz hp) r).2.1 ((zoP sz hp) r).2.2 := by
  refine ⟨?_, z_start (o := (zoP sz hp)) (lv := [(0, .ref a0), (1, .int x1)]) h (by decide +kernel) RX7 rfl rfl (Nat.le_of_ble_eq_true rfl) (fun P C => ?_)⟩
  · unfold f_X7_surplus at h
    cases hc : zis hp a0 7 with
    | none => rw [hc] at h; cases h
    | some u => rfl
  unfold f_X7_surplus
  refine z_is ?_
  refine z_aload_n C dX7_surplus_0 0 rfl ?_
  refine z_iconst C dX7_surplus_1 zi_3 ?_
  refine z_iload_n C dX7_surplus_2 1 rfl ?_
  refine z_callVpu C zc_X7_99 [.int (3 : Int32), .int x1] (fun l D tc b0 r h => m_X7_demand l D tc ro b0 h) dX7_surplus_3 rfl rfl (Nat.le_of_ble_eq_true rfl) (by decide) (by decide) ⟨Nat.le_of_ble_eq_true rfl, Nat.le_of_ble_eq_true rfl⟩ (fun _ => ?_)
  refine z_aload_n C dX7_surplus_6 0 rfl ?_
  refine z_getR C zf_X7_19 dX7_surplus_7 (fun r1 => ?_)
  refine z_iload_n C dX7_surplus_10 1 rfl ?_
  refine z_callVp C zc_X7_180 [.int x1] (fun l D tc b0 r h => m_X1_papersTooMany l D tc ro b0 h) dX7_surplus_11 rfl rfl (Nat.le_of_ble_eq_true rfl) (by decide) (by decide) ⟨Nat.le_of_ble_eq_true rfl, Nat.le_of_ble_eq_true rfl⟩ (fun v2 => ?_)
  exact z_ireturnP C dX7_surplus_14
noncomputable def f_X7_isOff (a0 : Nat) (x1 : Int32) (hp : zHp) : Option Int32 :=
  (zis hp a0 7).bind fun _ => (f_X7_demand a0 (3 : Int32) x1 hp).bind fun _ => (zgR hp a0 7 1).bind fun r1 => (f_X1_isBoxOff r1 x1 hp).bind fun v2 => zrNp .boolean v2
set_option maxHeartbeats 4000000 in
set_option maxRecDepth 100000 in
theorem m_X7_isOff (l : Launch) (D : va_G) (tc : Nat → ClassId) (ro : Nat → Nat) (b0 : Nat) {a0 : Nat} {x1 : Int32} {hp : zHp} {sz : Nat} {r : Int32} (h : f_X7_isOff a0 x1 hp = some r) : zis hp a0 7 = some () ∧ zM l yX7_isOff cX7_isOff 2 (some .boolean) 5 0 0 [.ref a0, .int x1] D tc ro b0 hp sz ((zoP sz hp) r).1 ((zoP sz hp) r).2.1 ((zoP sz hp) r).2.2 := by
  refine ⟨?_, z_start (o := (zoP sz hp)) (lv := [(0, .ref a0), (1, .int x1)]) h (by decide +kernel) RX7 rfl rfl (Nat.le_of_ble_eq_true rfl) (fun P C => ?_)⟩
  · unfold f_X7_isOff at h
    cases hc : zis hp a0 7 with
    | none => rw [hc] at h; cases h
    | some u => rfl
  unfold f_X7_isOff
  refine z_is ?_
  refine z_aload_n C dX7_isOff_0 0 rfl ?_
  refine z_iconst C dX7_isOff_1 zi_3 ?_
  refine z_iload_n C dX7_isOff_2 1 rfl ?_
  refine z_callVpu C zc_X7_99 [.int (3 : Int32), .int x1] (fun l D tc b0 r h => m_X7_demand l D tc ro b0 h) dX7_isOff_3 rfl rfl (Nat.le_of_ble_eq_true rfl) (by decide) (by decide) ⟨Nat.le_of_ble_eq_true rfl, Nat.le_of_ble_eq_true rfl⟩ (fun _ => ?_)
  refine z_aload_n C dX7_isOff_6 0 rfl ?_
  refine z_getR C zf_X7_19 dX7_isOff_7 (fun r1 => ?_)
  refine z_iload_n C dX7_isOff_10 1 rfl ?_
  refine z_callVp C zc_X7_183 [.int x1] (fun l D tc b0 r h => m_X1_isBoxOff l D tc ro b0 h) dX7_isOff_11 rfl rfl (Nat.le_of_ble_eq_true rfl) (by decide) (by decide) ⟨Nat.le_of_ble_eq_true rfl, Nat.le_of_ble_eq_true rfl⟩ (fun v2 => ?_)
  exact z_nreturnP C (by simp) dX7_isOff_14
noncomputable def f_X7_wardVotes (a0 : Nat) (x1 : Int32) (x2 : Int32) (hp : zHp) : Option Int32 :=
  (zis hp a0 7).bind fun _ => (f_X7_demand a0 (2 : Int32) x1 hp).bind fun _ => (zgR hp a0 7 1).bind fun r1 => (zgR hp r1 1 0).bind fun r2 => (f_X5_hasPile r2 x2 hp).bind fun v3 => if v3 = 0 then (some (-2 : Int32)) else (zgR hp a0 7 1).bind fun r4 => (f_X1_foundInWard r4 x1 x2 hp).bind fun v5 => some v5
set_option maxHeartbeats 4000000 in
set_option maxRecDepth 100000 in
theorem m_X7_wardVotes (l : Launch) (D : va_G) (tc : Nat → ClassId) (ro : Nat → Nat) (b0 : Nat) {a0 : Nat} {x1 : Int32} {x2 : Int32} {hp : zHp} {sz : Nat} {r : Int32} (h : f_X7_wardVotes a0 x1 x2 hp = some r) : zis hp a0 7 = some () ∧ zM l yX7_wardVotes cX7_wardVotes 3 (some .int) 4 0 0 [.ref a0, .int x1, .int x2] D tc ro b0 hp sz ((zoP sz hp) r).1 ((zoP sz hp) r).2.1 ((zoP sz hp) r).2.2 := by
  refine ⟨?_, z_start (o := (zoP sz hp)) (lv := [(0, .ref a0), (1, .int x1), (2, .int x2)]) h (by decide +kernel) RX7 rfl rfl (Nat.le_of_ble_eq_true rfl) (fun P C => ?_)⟩
  · unfold f_X7_wardVotes at h
    cases hc : zis hp a0 7 with
    | none => rw [hc] at h; cases h
    | some u => rfl
  unfold f_X7_wardVotes
  refine z_is ?_
  refine z_aload_n C dX7_wardVotes_0 0 rfl ?_
  refine z_iconst C dX7_wardVotes_1 zi_2 ?_
  refine z_iload_n C dX7_wardVotes_2 1 rfl ?_
  refine z_callVpu C zc_X7_99 [.int (2 : Int32), .int x1] (fun l D tc b0 r h => m_X7_demand l D tc ro b0 h) dX7_wardVotes_3 rfl rfl (Nat.le_of_ble_eq_true rfl) (by decide) (by decide) ⟨Nat.le_of_ble_eq_true rfl, Nat.le_of_ble_eq_true rfl⟩ (fun _ => ?_)
  refine z_aload_n C dX7_wardVotes_6 0 rfl ?_
  refine z_getR C zf_X7_19 dX7_wardVotes_7 (fun r1 => ?_)
  refine z_getR C zf_X7_61 dX7_wardVotes_10 (fun r2 => ?_)
  refine z_iload_n C dX7_wardVotes_13 2 rfl ?_
  refine z_callVp C zc_X7_137 [.int x2] (fun l D tc b0 r h => m_X5_hasPile l D tc ro b0 h) dX7_wardVotes_14 rfl rfl (Nat.le_of_ble_eq_true rfl) (by decide) (by decide) ⟨Nat.le_of_ble_eq_true rfl, Nat.le_of_ble_eq_true rfl⟩ (fun v3 => ?_)
  refine z_if_eq C 32 dX7_wardVotes_17 (by decide) ?_ ?_
  · refine z_bipush C dX7_wardVotes_32 zbi_m2 ?_
    exact z_ireturnP C dX7_wardVotes_34
  refine z_aload_n C dX7_wardVotes_20 0 rfl ?_
  refine z_getR C zf_X7_19 dX7_wardVotes_21 (fun r4 => ?_)
  refine z_iload_n C dX7_wardVotes_24 1 rfl ?_
  refine z_iload_n C dX7_wardVotes_25 2 rfl ?_
  refine z_callVp C zc_X7_186 [.int x1, .int x2] (fun l D tc b0 r h => m_X1_foundInWard l D tc ro b0 h) dX7_wardVotes_26 rfl rfl (Nat.le_of_ble_eq_true rfl) (by decide) (by decide) ⟨Nat.le_of_ble_eq_true rfl, Nat.le_of_ble_eq_true rfl⟩ (fun v5 => ?_)
  refine z_goto C 34 dX7_wardVotes_29 (by decide) ?_
  exact z_ireturnP C dX7_wardVotes_34
noncomputable def f_X7_leader (a0 : Nat) (x1 : Int32) (hp : zHp) : Option Int32 :=
  (zis hp a0 7).bind fun _ => (f_X7_demand a0 (2 : Int32) x1 hp).bind fun _ => (zgR hp a0 7 1).bind fun r1 => (f_X1_partyAhead r1 x1 hp).bind fun v2 => some v2
set_option maxHeartbeats 4000000 in
set_option maxRecDepth 100000 in
theorem m_X7_leader (l : Launch) (D : va_G) (tc : Nat → ClassId) (ro : Nat → Nat) (b0 : Nat) {a0 : Nat} {x1 : Int32} {hp : zHp} {sz : Nat} {r : Int32} (h : f_X7_leader a0 x1 hp = some r) : zis hp a0 7 = some () ∧ zM l yX7_leader cX7_leader 2 (some .int) 5 0 0 [.ref a0, .int x1] D tc ro b0 hp sz ((zoP sz hp) r).1 ((zoP sz hp) r).2.1 ((zoP sz hp) r).2.2 := by
  refine ⟨?_, z_start (o := (zoP sz hp)) (lv := [(0, .ref a0), (1, .int x1)]) h (by decide +kernel) RX7 rfl rfl (Nat.le_of_ble_eq_true rfl) (fun P C => ?_)⟩
  · unfold f_X7_leader at h
    cases hc : zis hp a0 7 with
    | none => rw [hc] at h; cases h
    | some u => rfl
  unfold f_X7_leader
  refine z_is ?_
  refine z_aload_n C dX7_leader_0 0 rfl ?_
  refine z_iconst C dX7_leader_1 zi_2 ?_
  refine z_iload_n C dX7_leader_2 1 rfl ?_
  refine z_callVpu C zc_X7_99 [.int (2 : Int32), .int x1] (fun l D tc b0 r h => m_X7_demand l D tc ro b0 h) dX7_leader_3 rfl rfl (Nat.le_of_ble_eq_true rfl) (by decide) (by decide) ⟨Nat.le_of_ble_eq_true rfl, Nat.le_of_ble_eq_true rfl⟩ (fun _ => ?_)
  refine z_aload_n C dX7_leader_6 0 rfl ?_
  refine z_getR C zf_X7_19 dX7_leader_7 (fun r1 => ?_)
  refine z_iload_n C dX7_leader_10 1 rfl ?_
  refine z_callVp C zc_X7_189 [.int x1] (fun l D tc b0 r h => m_X1_partyAhead l D tc ro b0 h) dX7_leader_11 rfl rfl (Nat.le_of_ble_eq_true rfl) (by decide) (by decide) ⟨Nat.le_of_ble_eq_true rfl, Nat.le_of_ble_eq_true rfl⟩ (fun v2 => ?_)
  exact z_ireturnP C dX7_leader_14
noncomputable def f_X7_margin (a0 : Nat) (x1 : Int32) (hp : zHp) : Option Int32 :=
  (zis hp a0 7).bind fun _ => (f_X7_demand a0 (2 : Int32) x1 hp).bind fun _ => (zgR hp a0 7 1).bind fun r1 => (f_X1_lead r1 x1 hp).bind fun v2 => some v2
set_option maxHeartbeats 4000000 in
set_option maxRecDepth 100000 in
theorem m_X7_margin (l : Launch) (D : va_G) (tc : Nat → ClassId) (ro : Nat → Nat) (b0 : Nat) {a0 : Nat} {x1 : Int32} {hp : zHp} {sz : Nat} {r : Int32} (h : f_X7_margin a0 x1 hp = some r) : zis hp a0 7 = some () ∧ zM l yX7_margin cX7_margin 2 (some .int) 5 0 0 [.ref a0, .int x1] D tc ro b0 hp sz ((zoP sz hp) r).1 ((zoP sz hp) r).2.1 ((zoP sz hp) r).2.2 := by
  refine ⟨?_, z_start (o := (zoP sz hp)) (lv := [(0, .ref a0), (1, .int x1)]) h (by decide +kernel) RX7 rfl rfl (Nat.le_of_ble_eq_true rfl) (fun P C => ?_)⟩
  · unfold f_X7_margin at h
    cases hc : zis hp a0 7 with
    | none => rw [hc] at h; cases h
    | some u => rfl
  unfold f_X7_margin
  refine z_is ?_
  refine z_aload_n C dX7_margin_0 0 rfl ?_
  refine z_iconst C dX7_margin_1 zi_2 ?_
  refine z_iload_n C dX7_margin_2 1 rfl ?_
  refine z_callVpu C zc_X7_99 [.int (2 : Int32), .int x1] (fun l D tc b0 r h => m_X7_demand l D tc ro b0 h) dX7_margin_3 rfl rfl (Nat.le_of_ble_eq_true rfl) (by decide) (by decide) ⟨Nat.le_of_ble_eq_true rfl, Nat.le_of_ble_eq_true rfl⟩ (fun _ => ?_)
  refine z_aload_n C dX7_margin_6 0 rfl ?_
  refine z_getR C zf_X7_19 dX7_margin_7 (fun r1 => ?_)
  refine z_iload_n C dX7_margin_10 1 rfl ?_
  refine z_callVp C zc_X7_192 [.int x1] (fun l D tc b0 r h => m_X1_lead l D tc ro b0 h) dX7_margin_11 rfl rfl (Nat.le_of_ble_eq_true rfl) (by decide) (by decide) ⟨Nat.le_of_ble_eq_true rfl, Nat.le_of_ble_eq_true rfl⟩ (fun v2 => ?_)
  exact z_ireturnP C dX7_margin_14
noncomputable def f_X7_isClose (a0 : Nat) (x1 : Int32) (hp : zHp) : Option Int32 :=
  (zis hp a0 7).bind fun _ => (f_X7_demand a0 (2 : Int32) x1 hp).bind fun _ => (zgR hp a0 7 1).bind fun r1 => (f_X1_isWardClose r1 x1 hp).bind fun v2 => zrNp .boolean v2
set_option maxHeartbeats 4000000 in
set_option maxRecDepth 100000 in
theorem m_X7_isClose (l : Launch) (D : va_G) (tc : Nat → ClassId) (ro : Nat → Nat) (b0 : Nat) {a0 : Nat} {x1 : Int32} {hp : zHp} {sz : Nat} {r : Int32} (h : f_X7_isClose a0 x1 hp = some r) : zis hp a0 7 = some () ∧ zM l yX7_isClose cX7_isClose 2 (some .boolean) 6 0 0 [.ref a0, .int x1] D tc ro b0 hp sz ((zoP sz hp) r).1 ((zoP sz hp) r).2.1 ((zoP sz hp) r).2.2 := by
  refine ⟨?_, z_start (o := (zoP sz hp)) (lv := [(0, .ref a0), (1, .int x1)]) h (by decide +kernel) RX7 rfl rfl (Nat.le_of_ble_eq_true rfl) (fun P C => ?_)⟩
  · unfold f_X7_isClose at h
    cases hc : zis hp a0 7 with
    | none => rw [hc] at h; cases h
    | some u => rfl
  unfold f_X7_isClose
  refine z_is ?_
  refine z_aload_n C dX7_isClose_0 0 rfl ?_
  refine z_iconst C dX7_isClose_1 zi_2 ?_
  refine z_iload_n C dX7_isClose_2 1 rfl ?_
  refine z_callVpu C zc_X7_99 [.int (2 : Int32), .int x1] (fun l D tc b0 r h => m_X7_demand l D tc ro b0 h) dX7_isClose_3 rfl rfl (Nat.le_of_ble_eq_true rfl) (by decide) (by decide) ⟨Nat.le_of_ble_eq_true rfl, Nat.le_of_ble_eq_true rfl⟩ (fun _ => ?_)
  refine z_aload_n C dX7_isClose_6 0 rfl ?_
  refine z_getR C zf_X7_19 dX7_isClose_7 (fun r1 => ?_)
  refine z_iload_n C dX7_isClose_10 1 rfl ?_
  refine z_callVp C zc_X7_195 [.int x1] (fun l D tc b0 r h => m_X1_isWardClose l D tc ro b0 h) dX7_isClose_11 rfl rfl (Nat.le_of_ble_eq_true rfl) (by decide) (by decide) ⟨Nat.le_of_ble_eq_true rfl, Nat.le_of_ble_eq_true rfl⟩ (fun v2 => ?_)
  exact z_nreturnP C (by simp) dX7_isClose_14
