noncomputable def f_J0_coder_7d493 (a0 : Nat) (hp : zHp) : Option Int32 :=
  (zis hp a0 20).bind fun _ => if (1 : Int32) = 0 then (some (1 : Int32)) else (zgI hp a0 20 1).bind fun v1 => zrNp .byte v1
set_option maxHeartbeats 4000000 in
set_option maxRecDepth 100000 in
theorem m_J0_coder_7d493 (l : Launch) (D : va_G) (tc : Nat → ClassId) (ro : Nat → Nat) (b0 : Nat) {a0 : Nat} {hp : zHp} {sz : Nat} {r : Int32} (h : f_J0_coder_7d493 a0 hp = some r) : zis hp a0 20 = some () ∧ zM l yJ0_coder_7d493 cJ0_coder_7d493 1 (some .byte) 1 0 0 [.ref a0] D tc ro b0 hp sz ((zoP sz hp) r).1 ((zoP sz hp) r).2.1 ((zoP sz hp) r).2.2 := by
  refine ⟨?_, z_start (o := (zoP sz hp)) (lv := [(0, .ref a0)]) h (by decide +kernel) RJ0 rfl rfl (Nat.le_of_ble_eq_true rfl) (fun P C => ?_)⟩
  · unfold f_J0_coder_7d493 at h
    cases hc : zis hp a0 20 with
    | none => rw [hc] at h; cases h
    | some u => rfl
  unfold f_J0_coder_7d493
  refine z_is ?_
  refine z_getCS C zg_J0_38 dJ0_coder_7d493_0 ?_
  refine z_if_eq C 13 dJ0_coder_7d493_3 (by decide) ?_ ?_
  · refine z_iconst C dJ0_coder_7d493_13 zi_1 ?_
    exact z_kreturnP C rfl dJ0_coder_7d493_14
  refine z_aload_n C dJ0_coder_7d493_6 0 rfl ?_
  refine z_getSI C zf_J0_15 dJ0_coder_7d493_7 (fun v1 => ?_)
  refine z_goto C 14 dJ0_coder_7d493_10 (by decide) ?_
  exact z_nreturnP C (by simp) dJ0_coder_7d493_14
noncomputable def f_J0_length_8abf5 (a0 : Nat) (hp : zHp) : Option Int32 :=
  (zis hp a0 20).bind fun _ => (zgR hp a0 20 0).bind fun r1 => (zlen hp 1 r1).bind fun v2 => (f_J0_coder_7d493 a0 hp).bind fun v3 => some (v2 >>> (v3 &&& 31))
set_option maxHeartbeats 4000000 in
set_option maxRecDepth 100000 in
theorem m_J0_length_8abf5 (l : Launch) (D : va_G) (tc : Nat → ClassId) (ro : Nat → Nat) (b0 : Nat) {a0 : Nat} {hp : zHp} {sz : Nat} {r : Int32} (h : f_J0_length_8abf5 a0 hp = some r) : zis hp a0 20 = some () ∧ zM l yJ0_length_8abf5 cJ0_length_8abf5 1 (some .int) 2 0 0 [.ref a0] D tc ro b0 hp sz ((zoP sz hp) r).1 ((zoP sz hp) r).2.1 ((zoP sz hp) r).2.2 := by
  refine ⟨?_, z_start (o := (zoP sz hp)) (lv := [(0, .ref a0)]) h (by decide +kernel) RJ0 rfl rfl (Nat.le_of_ble_eq_true rfl) (fun P C => ?_)⟩
  · unfold f_J0_length_8abf5 at h
    cases hc : zis hp a0 20 with
    | none => rw [hc] at h; cases h
    | some u => rfl
  unfold f_J0_length_8abf5
  refine z_is ?_
  refine z_aload_n C dJ0_length_8abf5_0 0 rfl ?_
  refine z_getSR C zf_J0_9 dJ0_length_8abf5_1 (fun r1 => ?_)
  refine z_arraylength (t := 1) (ty := .byte) C (fun _ => rfl) (by decide) dJ0_length_8abf5_4 (fun v2 => ?_)
  refine z_aload_n C dJ0_length_8abf5_5 0 rfl ?_
  refine z_callVp C zc_J0_335 [] (fun l D tc b0 r h => m_J0_coder_7d493 l D tc ro b0 h) dJ0_length_8abf5_6 rfl rfl (Nat.le_of_ble_eq_true rfl) (by decide) (by decide) ⟨Nat.le_of_ble_eq_true rfl, Nat.le_of_ble_eq_true rfl⟩ (fun v3 => ?_)
  refine z_ishr C dJ0_length_8abf5_9 ?_
  exact z_ireturnP C dJ0_length_8abf5_10
noncomputable def f_J0_isLatin1_aae02 (a0 : Nat) (hp : zHp) : Option Int32 :=
  (zis hp a0 20).bind fun _ => if (1 : Int32) = 0 then (some (0 : Int32)) else (zgI hp a0 20 1).bind fun v1 => if v1 = 0 then (some (1 : Int32)) else some (0 : Int32)
set_option maxHeartbeats 4000000 in
set_option maxRecDepth 100000 in
theorem m_J0_isLatin1_aae02 (l : Launch) (D : va_G) (tc : Nat → ClassId) (ro : Nat → Nat) (b0 : Nat) {a0 : Nat} {hp : zHp} {sz : Nat} {r : Int32} (h : f_J0_isLatin1_aae02 a0 hp = some r) : zis hp a0 20 = some () ∧ zM l yJ0_isLatin1_aae02 cJ0_isLatin1_aae02 1 (some .boolean) 1 0 0 [.ref a0] D tc ro b0 hp sz ((zoP sz hp) r).1 ((zoP sz hp) r).2.1 ((zoP sz hp) r).2.2 := by
  refine ⟨?_, z_start (o := (zoP sz hp)) (lv := [(0, .ref a0)]) h (by decide +kernel) RJ0 rfl rfl (Nat.le_of_ble_eq_true rfl) (fun P C => ?_)⟩
  · unfold f_J0_isLatin1_aae02 at h
    cases hc : zis hp a0 20 with
    | none => rw [hc] at h; cases h
    | some u => rfl
  unfold f_J0_isLatin1_aae02
  refine z_is ?_
  refine z_getCS C zg_J0_38 dJ0_isLatin1_aae02_0 ?_
  refine z_if_eq C 17 dJ0_isLatin1_aae02_3 (by decide) ?_ ?_
  · refine z_iconst C dJ0_isLatin1_aae02_17 zi_0 ?_
    exact z_kreturnP C rfl dJ0_isLatin1_aae02_18
  refine z_aload_n C dJ0_isLatin1_aae02_6 0 rfl ?_
  refine z_getSI C zf_J0_15 dJ0_isLatin1_aae02_7 (fun v1 => ?_)
  refine z_if_ne C 17 dJ0_isLatin1_aae02_10 (by decide) ?_ ?_
  · refine z_iconst C dJ0_isLatin1_aae02_13 zi_1 ?_
    refine z_goto C 18 dJ0_isLatin1_aae02_14 (by decide) ?_
    exact z_kreturnP C rfl dJ0_isLatin1_aae02_18
  refine z_iconst C dJ0_isLatin1_aae02_17 zi_0 ?_
  exact z_kreturnP C rfl dJ0_isLatin1_aae02_18
noncomputable def f_J3_checkIndex_8e157 (x0 : Int32) (x1 : Int32) (hp : zHp) : Option Int32 :=
  if x0 < 0 then (none) else if x0 < x1 then (some x0) else none
set_option maxHeartbeats 4000000 in
set_option maxRecDepth 100000 in
theorem m_J3_checkIndex_8e157 (l : Launch) (D : va_G) (tc : Nat → ClassId) (ro : Nat → Nat) (b0 : Nat) {x0 : Int32} {x1 : Int32} {a2 : Nat} {hp : zHp} {sz : Nat} {r : Int32} (h : f_J3_checkIndex_8e157 x0 x1 hp = some r) : zM l yJ3_checkIndex_8e157 cJ3_checkIndex_8e157 3 (some .int) 1 0 0 [.int x0, .int x1, .ref a2] D tc ro b0 hp sz ((zoP sz hp) r).1 ((zoP sz hp) r).2.1 ((zoP sz hp) r).2.2 := by
  refine z_start (o := (zoP sz hp)) (lv := [(0, .int x0), (1, .int x1), (2, .ref a2)]) h (by decide +kernel) RJ3 rfl rfl (Nat.le_of_ble_eq_true rfl) (fun P C => ?_)
  unfold f_J3_checkIndex_8e157
  refine z_iload_n C dJ3_checkIndex_8e157_0 0 rfl ?_
  refine z_if_lt C 9 dJ3_checkIndex_8e157_1 (by decide) ?_ ?_
  · exact z_none
  refine z_iload_n C dJ3_checkIndex_8e157_4 0 rfl ?_
  refine z_iload_n C dJ3_checkIndex_8e157_5 1 rfl ?_
  refine z_icmp_lt C 16 dJ3_checkIndex_8e157_6 (by decide) ?_ ?_
  · refine z_iload_n C dJ3_checkIndex_8e157_16 0 rfl ?_
    exact z_ireturnP C dJ3_checkIndex_8e157_17
  exact z_none
set_option maxHeartbeats 4000000 in
set_option maxRecDepth 100000 in
theorem m_J3_checkIndex_8e157_n (l : Launch) (D : va_G) (tc : Nat → ClassId) (ro : Nat → Nat) (b0 : Nat) {x0 : Int32} {x1 : Int32} {hp : zHp} {sz : Nat} {r : Int32} (h : f_J3_checkIndex_8e157 x0 x1 hp = some r) : zM l yJ3_checkIndex_8e157 cJ3_checkIndex_8e157 3 (some .int) 1 0 0 [.int x0, .int x1, .null] D tc ro b0 hp sz ((zoP sz hp) r).1 ((zoP sz hp) r).2.1 ((zoP sz hp) r).2.2 := by
  refine z_start (o := (zoP sz hp)) (lv := [(0, .int x0), (1, .int x1), (2, .null)]) h (by decide +kernel) RJ3 rfl rfl (Nat.le_of_ble_eq_true rfl) (fun P C => ?_)
  unfold f_J3_checkIndex_8e157
  refine z_iload_n C dJ3_checkIndex_8e157_0 0 rfl ?_
  refine z_if_lt C 9 dJ3_checkIndex_8e157_1 (by decide) ?_ ?_
  · exact z_none
  refine z_iload_n C dJ3_checkIndex_8e157_4 0 rfl ?_
  refine z_iload_n C dJ3_checkIndex_8e157_5 1 rfl ?_
  refine z_icmp_lt C 16 dJ3_checkIndex_8e157_6 (by decide) ?_ ?_
  · refine z_iload_n C dJ3_checkIndex_8e157_16 0 rfl ?_
    exact z_ireturnP C dJ3_checkIndex_8e157_17
  exact z_none
noncomputable def f_J0_checkIndex_df160 (x0 : Int32) (x1 : Int32) (hp : zHp) : Option Unit :=
  (f_J3_checkIndex_8e157 x0 x1 hp).bind fun v1 => some ()
set_option maxHeartbeats 4000000 in
set_option maxRecDepth 100000 in
theorem m_J0_checkIndex_df160 (l : Launch) (D : va_G) (tc : Nat → ClassId) (ro : Nat → Nat) (b0 : Nat) {x0 : Int32} {x1 : Int32} {hp : zHp} {sz : Nat} {r : Unit} (h : f_J0_checkIndex_df160 x0 x1 hp = some r) : zM l yJ0_checkIndex_df160 cJ0_checkIndex_df160 2 none 2 0 0 [.int x0, .int x1] D tc ro b0 hp sz ((zoPU sz hp) r).1 ((zoPU sz hp) r).2.1 ((zoPU sz hp) r).2.2 := by
  refine z_start (o := (zoPU sz hp)) (lv := [(0, .int x0), (1, .int x1)]) h (by decide +kernel) RJ0 rfl rfl (Nat.le_of_ble_eq_true rfl) (fun P C => ?_)
  unfold f_J0_checkIndex_df160
  refine z_iload_n C dJ0_checkIndex_df160_0 0 rfl ?_
  refine z_iload_n C dJ0_checkIndex_df160_1 1 rfl ?_
  refine z_getFmt C zg_J0_1053 dJ0_checkIndex_df160_2 ?_ (fun t => ?_)
  · refine z_callSp C zs_J0_1059 [.int x0, .int x1, .null] (fun l D tc b0 r h => m_J3_checkIndex_8e157_n l D tc ro b0 h) dJ0_checkIndex_df160_5 rfl rfl (Nat.le_of_ble_eq_true rfl) (by decide) (by decide) ⟨Nat.le_of_ble_eq_true rfl, Nat.le_of_ble_eq_true rfl⟩ (fun v1 => ?_)
    refine z_pop C dJ0_checkIndex_df160_8 rfl ?_
    exact z_returnP C dJ0_checkIndex_df160_9
  refine z_callSp C zs_J0_1059 [.int x0, .int x1, .ref t] (fun l D tc b0 r h => m_J3_checkIndex_8e157 l D tc ro b0 h) dJ0_checkIndex_df160_5 rfl rfl (Nat.le_of_ble_eq_true rfl) (by decide) (by decide) ⟨Nat.le_of_ble_eq_true rfl, Nat.le_of_ble_eq_true rfl⟩ (fun v1 => ?_)
  refine z_pop C dJ0_checkIndex_df160_8 rfl ?_
  exact z_returnP C dJ0_checkIndex_df160_9
noncomputable def f_J1_charAt_3b067 (a0 : Nat) (x1 : Int32) (hp : zHp) : Option Int32 :=
  (zlen hp 1 a0).bind fun v1 => (f_J0_checkIndex_df160 x1 v1 hp).bind fun _ => (zaI hp 1 a0 x1).bind fun v2 => zrNp .char (((v2 &&& (255 : Int32)).toUInt32 % 65536).toInt32)
set_option maxHeartbeats 4000000 in
set_option maxRecDepth 100000 in
theorem m_J1_charAt_3b067 (l : Launch) (D : va_G) (tc : Nat → ClassId) (ro : Nat → Nat) (b0 : Nat) {a0 : Nat} {x1 : Int32} {hp : zHp} {sz : Nat} {r : Int32} (h : f_J1_charAt_3b067 a0 x1 hp = some r) : zM l yJ1_charAt_3b067 cJ1_charAt_3b067 2 (some .char) 3 0 0 [.ref a0, .int x1] D tc ro b0 hp sz ((zoP sz hp) r).1 ((zoP sz hp) r).2.1 ((zoP sz hp) r).2.2 := by
  refine z_start (o := (zoP sz hp)) (lv := [(0, .ref a0), (1, .int x1)]) h (by decide +kernel) RJ1 rfl rfl (Nat.le_of_ble_eq_true rfl) (fun P C => ?_)
  unfold f_J1_charAt_3b067
  refine z_iload_n C dJ1_charAt_3b067_0 1 rfl ?_
  refine z_aload_n C dJ1_charAt_3b067_1 0 rfl ?_
  refine z_arraylength (t := 1) (ty := .byte) C (fun _ => rfl) (by decide) dJ1_charAt_3b067_2 (fun v1 => ?_)
  refine z_callSpu C zs_J1_9 [.int x1, .int v1] (fun l D tc b0 r h => m_J0_checkIndex_df160 l D tc ro b0 h) dJ1_charAt_3b067_3 rfl rfl (Nat.le_of_ble_eq_true rfl) (by decide) (by decide) ⟨Nat.le_of_ble_eq_true rfl, Nat.le_of_ble_eq_true rfl⟩ (fun _ => ?_)
  refine z_aload_n C dJ1_charAt_3b067_6 0 rfl ?_
  refine z_iload_n C dJ1_charAt_3b067_7 1 rfl ?_
  refine z_baload C dJ1_charAt_3b067_8 (fun v2 => ?_)
  refine z_sipush C dJ1_charAt_3b067_9 zsi_255 ?_
  refine z_iand C dJ1_charAt_3b067_12 ?_
  refine z_i2c C dJ1_charAt_3b067_13 ?_
  exact z_nreturnP C (by simp) dJ1_charAt_3b067_14
noncomputable def f_J0_charAt_5068e (a0 : Nat) (x1 : Int32) (hp : zHp) : Option Int32 :=
  (zis hp a0 20).bind fun _ => (f_J0_isLatin1_aae02 a0 hp).bind fun v1 => if v1 = 0 then ((zgR hp a0 20 0).bind fun r2 => none) else (zgR hp a0 20 0).bind fun r3 => (f_J1_charAt_3b067 r3 x1 hp).bind fun v4 => zrNp .char v4
set_option maxHeartbeats 4000000 in
set_option maxRecDepth 100000 in
theorem m_J0_charAt_5068e (l : Launch) (D : va_G) (tc : Nat → ClassId) (ro : Nat → Nat) (b0 : Nat) {a0 : Nat} {x1 : Int32} {hp : zHp} {sz : Nat} {r : Int32} (h : f_J0_charAt_5068e a0 x1 hp = some r) : zis hp a0 20 = some () ∧ zM l yJ0_charAt_5068e cJ0_charAt_5068e 2 (some .char) 4 0 0 [.ref a0, .int x1] D tc ro b0 hp sz ((zoP sz hp) r).1 ((zoP sz hp) r).2.1 ((zoP sz hp) r).2.2 := by
  refine ⟨?_, z_start (o := (zoP sz hp)) (lv := [(0, .ref a0), (1, .int x1)]) h (by decide +kernel) RJ0 rfl rfl (Nat.le_of_ble_eq_true rfl) (fun P C => ?_)⟩
  · unfold f_J0_charAt_5068e at h
    cases hc : zis hp a0 20 with
    | none => rw [hc] at h; cases h
    | some u => rfl
  unfold f_J0_charAt_5068e
  refine z_is ?_
  refine z_aload_n C dJ0_charAt_5068e_0 0 rfl ?_
  refine z_callVp C zc_J0_492 [] (fun l D tc b0 r h => m_J0_isLatin1_aae02 l D tc ro b0 h) dJ0_charAt_5068e_1 rfl rfl (Nat.le_of_ble_eq_true rfl) (by decide) (by decide) ⟨Nat.le_of_ble_eq_true rfl, Nat.le_of_ble_eq_true rfl⟩ (fun v1 => ?_)
  refine z_if_eq C 16 dJ0_charAt_5068e_4 (by decide) ?_ ?_
  · refine z_aload_n C dJ0_charAt_5068e_16 0 rfl ?_
    refine z_getSR C zf_J0_9 dJ0_charAt_5068e_17 (fun r2 => ?_)
    refine z_iload_n C dJ0_charAt_5068e_20 1 rfl ?_
    exact z_none
  refine z_aload_n C dJ0_charAt_5068e_7 0 rfl ?_
  refine z_getSR C zf_J0_9 dJ0_charAt_5068e_8 (fun r3 => ?_)
  refine z_iload_n C dJ0_charAt_5068e_11 1 rfl ?_
  refine z_callSp C zs_J0_495 [.ref r3, .int x1] (fun l D tc b0 r h => m_J1_charAt_3b067 l D tc ro b0 h) dJ0_charAt_5068e_12 rfl rfl (Nat.le_of_ble_eq_true rfl) (by decide) (by decide) ⟨Nat.le_of_ble_eq_true rfl, Nat.le_of_ble_eq_true rfl⟩ (fun v4 => ?_)
  exact z_nreturnP C (by simp) dJ0_charAt_5068e_15
