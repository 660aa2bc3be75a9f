noncomputable def f_J5_getValue_6d5f1 (mc ms : Nat) (a0 : Nat) (hp : zHp) (sz : Nat) : Option (Nat × zHp × Nat) :=
  (zis hp a0 9).bind fun _ => (zgR hp a0 9 0).bind fun r1 => some (r1, hp, sz)
set_option maxHeartbeats 4000000 in
set_option maxRecDepth 100000 in
theorem m_J5_getValue_6d5f1 (l : Launch) (D : va_G) (tc : Nat → ClassId) (ro : Nat → Nat) (b0 : Nat) {mc ms : Nat} {a0 : Nat} {hp : zHp} {sz : Nat} {r : (Nat × zHp × Nat)} (h : f_J5_getValue_6d5f1 mc ms a0 hp sz = some r) : zis hp a0 9 = some () ∧ zM l yJ5_getValue_6d5f1 cJ5_getValue_6d5f1 1 (some (.array .byte)) 1 mc ms [.ref a0] D tc ro b0 hp sz (zoRA r).1 (zoRA r).2.1 (zoRA r).2.2 := by
  refine ⟨?_, z_start (o := zoRA) (lv := [(0, .ref a0)]) h (by decide +kernel) RJ5 rfl rfl (Nat.le_of_ble_eq_true rfl) (fun P C => ?_)⟩
  · unfold f_J5_getValue_6d5f1 at h
    cases hc : zis hp a0 9 with
    | none => rw [hc] at h; cases h
    | some u => rfl
  unfold f_J5_getValue_6d5f1
  refine z_is ?_
  refine z_aload_n C dJ5_getValue_6d5f1_0 0 rfl ?_
  refine z_getR C zf_J5_15 dJ5_getValue_6d5f1_1 (fun r1 => ?_)
  exact z_areturnA C (Or.inr ⟨_, rfl⟩) dJ5_getValue_6d5f1_4 ⟨Nat.zero_le _, Nat.zero_le _⟩
noncomputable def f_J7_checkLength_df160 (x0 : Int32) (x1 : Int32) (hp : zHp) : Option Unit :=
  if x1 < x0 then (none) else some ()
set_option maxHeartbeats 4000000 in
set_option maxRecDepth 100000 in
theorem m_J7_checkLength_df160 (l : Launch) (D : va_G) (tc : Nat → ClassId) (ro : Nat → Nat) (b0 : Nat) {x0 : Int32} {x1 : Int32} {hp : zHp} {sz : Nat} {r : Unit} (h : f_J7_checkLength_df160 x0 x1 hp = some r) : zM l yJ7_checkLength_df160 cJ7_checkLength_df160 2 none 1 0 0 [.int x0, .int x1] D tc ro b0 hp sz ((zoPU sz hp) r).1 ((zoPU sz hp) r).2.1 ((zoPU sz hp) r).2.2 := by
  refine z_start (o := (zoPU sz hp)) (lv := [(0, .int x0), (1, .int x1)]) h (by decide +kernel) RJ7 rfl rfl (Nat.le_of_ble_eq_true rfl) (fun P C => ?_)
  unfold f_J7_checkLength_df160
  refine z_iload_n C dJ7_checkLength_df160_0 1 rfl ?_
  refine z_iload_n C dJ7_checkLength_df160_1 0 rfl ?_
  refine z_icmp_ge C 37 dJ7_checkLength_df160_2 (by decide) ?_ ?_
  · exact z_none
  exact z_returnP C dJ7_checkLength_df160_37
noncomputable def f_J0_coder_7d493 (a0 : Nat) (hp : zHp) : Option Int32 :=
  (zis hp a0 20).bind fun _ => if (1 : Int32) = 0 then (some (1 : Int32)) else (zgI hp a0 20 1).bind fun v1 => zrNp .byte v1
set_option maxHeartbeats 4000000 in
set_option maxRecDepth 100000 in
theorem m_J0_coder_7d493 (l : Launch) (D : va_G) (tc : Nat → ClassId) (ro : Nat → Nat) (b0 : Nat) {a0 : Nat} {hp : zHp} {sz : Nat} {r : Int32} (h : f_J0_coder_7d493 a0 hp = some r) : zis hp a0 20 = some () ∧ zM l yJ0_coder_7d493 cJ0_coder_7d493 1 (some .byte) 1 0 0 [.ref a0] D tc ro b0 hp sz ((zoP sz hp) r).1 ((zoP sz hp) r).2.1 ((zoP sz hp) r).2.2 := by
  refine ⟨?_, z_start (o := (zoP sz hp)) (lv := [(0, .ref a0)]) h (by decide +kernel) RJ0 rfl rfl (Nat.le_of_ble_eq_true rfl) (fun P C => ?_)⟩
  · unfold f_J0_coder_7d493 at h
    cases hc : zis hp a0 20 with
    | none => rw [hc] at h; cases h
    | some u => rfl
  unfold f_J0_coder_7d493
  refine z_is ?_
  refine z_getCS C zg_J0_38 dJ0_coder_7d493_0 ?_
  refine z_if_eq C 13 dJ0_coder_7d493_3 (by decide) ?_ ?_
  · refine z_iconst C dJ0_coder_7d493_13 zi_1 ?_
    exact z_kreturnP C rfl dJ0_coder_7d493_14
  refine z_aload_n C dJ0_coder_7d493_6 0 rfl ?_
  refine z_getSI C zf_J0_15 dJ0_coder_7d493_7 (fun v1 => ?_)
  refine z_goto C 14 dJ0_coder_7d493_10 (by decide) ?_
  exact z_nreturnP C (by simp) dJ0_coder_7d493_14
noncomputable def f_J0_length_8abf5 (a0 : Nat) (hp : zHp) : Option Int32 :=
  (zis hp a0 20).bind fun _ => (zgR hp a0 20 0).bind fun r1 => (zlen hp 1 r1).bind fun v2 => (f_J0_coder_7d493 a0 hp).bind fun v3 => some (v2 >>> (v3 &&& 31))
set_option maxHeartbeats 4000000 in
set_option maxRecDepth 100000 in
theorem m_J0_length_8abf5 (l : Launch) (D : va_G) (tc : Nat → ClassId) (ro : Nat → Nat) (b0 : Nat) {a0 : Nat} {hp : zHp} {sz : Nat} {r : Int32} (h : f_J0_length_8abf5 a0 hp = some r) : zis hp a0 20 = some () ∧ zM l yJ0_length_8abf5 cJ0_length_8abf5 1 (some .int) 2 0 0 [.ref a0] D tc ro b0 hp sz ((zoP sz hp) r).1 ((zoP sz hp) r).2.1 ((zoP sz hp) r).2.2 := by
  refine ⟨?_, z_start (o := (zoP sz hp)) (lv := [(0, .ref a0)]) h (by decide +kernel) RJ0 rfl rfl (Nat.le_of_ble_eq_true rfl) (fun P C => ?_)⟩
  · unfold f_J0_length_8abf5 at h
    cases hc : zis hp a0 20 with
    | none => rw [hc] at h; cases h
    | some u => rfl
  unfold f_J0_length_8abf5
  refine z_is ?_
  refine z_aload_n C dJ0_length_8abf5_0 0 rfl ?_
  refine z_getSR C zf_J0_9 dJ0_length_8abf5_1 (fun r1 => ?_)
  refine z_arraylength (t := 1) (ty := .byte) C (fun _ => rfl) (by decide) dJ0_length_8abf5_4 (fun v2 => ?_)
  refine z_aload_n C dJ0_length_8abf5_5 0 rfl ?_
  refine z_callVp C zc_J0_335 [] (fun l D tc b0 r h => m_J0_coder_7d493 l D tc ro b0 h) dJ0_length_8abf5_6 rfl rfl (Nat.le_of_ble_eq_true rfl) (by decide) (by decide) ⟨Nat.le_of_ble_eq_true rfl, Nat.le_of_ble_eq_true rfl⟩ (fun v3 => ?_)
  refine z_ishr C dJ0_length_8abf5_9 ?_
  exact z_ireturnP C dJ0_length_8abf5_10
noncomputable def f_J0_isLatin1_aae02 (a0 : Nat) (hp : zHp) : Option Int32 :=
  (zis hp a0 20).bind fun _ => if (1 : Int32) = 0 then (some (0 : Int32)) else (zgI hp a0 20 1).bind fun v1 => if v1 = 0 then (some (1 : Int32)) else some (0 : Int32)
set_option maxHeartbeats 4000000 in
set_option maxRecDepth 100000 in
theorem m_J0_isLatin1_aae02 (l : Launch) (D : va_G) (tc : Nat → ClassId) (ro : Nat → Nat) (b0 : Nat) {a0 : Nat} {hp : zHp} {sz : Nat} {r : Int32} (h : f_J0_isLatin1_aae02 a0 hp = some r) : zis hp a0 20 = some () ∧ zM l yJ0_isLatin1_aae02 cJ0_isLatin1_aae02 1 (some .boolean) 1 0 0 [.ref a0] D tc ro b0 hp sz ((zoP sz hp) r).1 ((zoP sz hp) r).2.1 ((zoP sz hp) r).2.2 := by
  refine ⟨?_, z_start (o := (zoP sz hp)) (lv := [(0, .ref a0)]) h (by decide +kernel) RJ0 rfl rfl (Nat.le_of_ble_eq_true rfl) (fun P C => ?_)⟩
  · unfold f_J0_isLatin1_aae02 at h
    cases hc : zis hp a0 20 with
    | none => rw [hc] at h; cases h
    | some u => rfl
  unfold f_J0_isLatin1_aae02
  refine z_is ?_
  refine z_getCS C zg_J0_38 dJ0_isLatin1_aae02_0 ?_
  refine z_if_eq C 17 dJ0_isLatin1_aae02_3 (by decide) ?_ ?_
  · refine z_iconst C dJ0_isLatin1_aae02_17 zi_0 ?_
    exact z_kreturnP C rfl dJ0_isLatin1_aae02_18
  refine z_aload_n C dJ0_isLatin1_aae02_6 0 rfl ?_
  refine z_getSI C zf_J0_15 dJ0_isLatin1_aae02_7 (fun v1 => ?_)
  refine z_if_ne C 17 dJ0_isLatin1_aae02_10 (by decide) ?_ ?_
  · refine z_iconst C dJ0_isLatin1_aae02_13 zi_1 ?_
    refine z_goto C 18 dJ0_isLatin1_aae02_14 (by decide) ?_
    exact z_kreturnP C rfl dJ0_isLatin1_aae02_18
  refine z_iconst C dJ0_isLatin1_aae02_17 zi_0 ?_
  exact z_kreturnP C rfl dJ0_isLatin1_aae02_18
noncomputable def f_J3_checkIndex_8e157 (x0 : Int32) (x1 : Int32) (hp : zHp) : Option Int32 :=
  if x0 < 0 then (none) else if x0 < x1 then (some x0) else none
set_option maxHeartbeats 4000000 in
set_option maxRecDepth 100000 in
theorem m_J3_checkIndex_8e157 (l : Launch) (D : va_G) (tc : Nat → ClassId) (ro : Nat → Nat) (b0 : Nat) {x0 : Int32} {x1 : Int32} {a2 : Nat} {hp : zHp} {sz : Nat} {r : Int32} (h : f_J3_checkIndex_8e157 x0 x1 hp = some r) : zM l yJ3_checkIndex_8e157 cJ3_checkIndex_8e157 3 (some .int) 1 0 0 [.int x0, .int x1, .ref a2] D tc ro b0 hp sz ((zoP sz hp) r).1 ((zoP sz hp) r).2.1 ((zoP sz hp) r).2.2 := by
  refine z_start (o := (zoP sz hp)) (lv := [(0, .int x0), (1, .int x1), (2, .ref a2)]) h (by decide +kernel) RJ3 rfl rfl (Nat.le_of_ble_eq_true rfl) (fun P C => ?_)
  unfold f_J3_checkIndex_8e157
  refine z_iload_n C dJ3_checkIndex_8e157_0 0 rfl ?_
  refine z_if_lt C 9 dJ3_checkIndex_8e157_1 (by decide) ?_ ?_
  · exact z_none
  refine z_iload_n C dJ3_checkIndex_8e157_4 0 rfl ?_
  refine z_iload_n C dJ3_checkIndex_8e157_5 1 rfl ?_
  refine z_icmp_lt C 16 dJ3_checkIndex_8e157_6 (by decide) ?_ ?_
  · refine z_iload_n C dJ3_checkIndex_8e157_16 0 rfl ?_
    exact z_ireturnP C dJ3_checkIndex_8e157_17
  exact z_none
set_option maxHeartbeats 4000000 in
set_option maxRecDepth 100000 in
theorem m_J3_checkIndex_8e157_n (l : Launch) (D : va_G) (tc : Nat → ClassId) (ro : Nat → Nat) (b0 : Nat) {x0 : Int32} {x1 : Int32} {hp : zHp} {sz : Nat} {r : Int32} (h : f_J3_checkIndex_8e157 x0 x1 hp = some r) : zM l yJ3_checkIndex_8e157 cJ3_checkIndex_8e157 3 (some .int) 1 0 0 [.int x0, .int x1, .null] D tc ro b0 hp sz ((zoP sz hp) r).1 ((zoP sz hp) r).2.1 ((zoP sz hp) r).2.2 := by
  refine z_start (o := (zoP sz hp)) (lv := [(0, .int x0), (1, .int x1), (2, .null)]) h (by decide +kernel) RJ3 rfl rfl (Nat.le_of_ble_eq_true rfl) (fun P C => ?_)
  unfold f_J3_checkIndex_8e157
  refine z_iload_n C dJ3_checkIndex_8e157_0 0 rfl ?_
  refine z_if_lt C 9 dJ3_checkIndex_8e157_1 (by decide) ?_ ?_
  · exact z_none
  refine z_iload_n C dJ3_checkIndex_8e157_4 0 rfl ?_
  refine z_iload_n C dJ3_checkIndex_8e157_5 1 rfl ?_
  refine z_icmp_lt C 16 dJ3_checkIndex_8e157_6 (by decide) ?_ ?_
  · refine z_iload_n C dJ3_checkIndex_8e157_16 0 rfl ?_
    exact z_ireturnP C dJ3_checkIndex_8e157_17
  exact z_none
noncomputable def f_J0_checkIndex_df160 (x0 : Int32) (x1 : Int32) (hp : zHp) : Option Unit :=
  (f_J3_checkIndex_8e157 x0 x1 hp).bind fun v1 => some ()
set_option maxHeartbeats 4000000 in
set_option maxRecDepth 100000 in
theorem m_J0_checkIndex_df160 (l : Launch) (D : va_G) (tc : Nat → ClassId) (ro : Nat → Nat) (b0 : Nat) {x0 : Int32} {x1 : Int32} {hp : zHp} {sz : Nat} {r : Unit} (h : f_J0_checkIndex_df160 x0 x1 hp = some r) : zM l yJ0_checkIndex_df160 cJ0_checkIndex_df160 2 none 2 0 0 [.int x0, .int x1] D tc ro b0 hp sz ((zoPU sz hp) r).1 ((zoPU sz hp) r).2.1 ((zoPU sz hp) r).2.2 := by
  refine z_start (o := (zoPU sz hp)) (lv := [(0, .int x0), (1, .int x1)]) h (by decide +kernel) RJ0 rfl rfl (Nat.le_of_ble_eq_true rfl) (fun P C => ?_)
  unfold f_J0_checkIndex_df160
  refine z_iload_n C dJ0_checkIndex_df160_0 0 rfl ?_
  refine z_iload_n C dJ0_checkIndex_df160_1 1 rfl ?_
  refine z_getFmt C zg_J0_1053 dJ0_checkIndex_df160_2 ?_ (fun t => ?_)
  · refine z_callSp C zs_J0_1059 [.int x0, .int x1, .null] (fun l D tc b0 r h => m_J3_checkIndex_8e157_n l D tc ro b0 h) dJ0_checkIndex_df160_5 rfl rfl (Nat.le_of_ble_eq_true rfl) (by decide) (by decide) ⟨Nat.le_of_ble_eq_true rfl, Nat.le_of_ble_eq_true rfl⟩ (fun v1 => ?_)
    refine z_pop C dJ0_checkIndex_df160_8 rfl ?_
    exact z_returnP C dJ0_checkIndex_df160_9
  refine z_callSp C zs_J0_1059 [.int x0, .int x1, .ref t] (fun l D tc b0 r h => m_J3_checkIndex_8e157 l D tc ro b0 h) dJ0_checkIndex_df160_5 rfl rfl (Nat.le_of_ble_eq_true rfl) (by decide) (by decide) ⟨Nat.le_of_ble_eq_true rfl, Nat.le_of_ble_eq_true rfl⟩ (fun v1 => ?_)
  refine z_pop C dJ0_checkIndex_df160_8 rfl ?_
  exact z_returnP C dJ0_checkIndex_df160_9
noncomputable def f_J1_charAt_3b067 (a0 : Nat) (x1 : Int32) (hp : zHp) : Option Int32 :=
  (zlen hp 1 a0).bind fun v1 => (f_J0_checkIndex_df160 x1 v1 hp).bind fun _ => (zaI hp 1 a0 x1).bind fun v2 => zrNp .char (((v2 &&& (255 : Int32)).toUInt32 % 65536).toInt32)
set_option maxHeartbeats 4000000 in
set_option maxRecDepth 100000 in
theorem m_J1_charAt_3b067 (l : Launch) (D : va_G) (tc : Nat → ClassId) (ro : Nat → Nat) (b0 : Nat) {a0 : Nat} {x1 : Int32} {hp : zHp} {sz : Nat} {r : Int32} (h : f_J1_charAt_3b067 a0 x1 hp = some r) : zM l yJ1_charAt_3b067 cJ1_charAt_3b067 2 (some .char) 3 0 0 [.ref a0, .int x1] D tc ro b0 hp sz ((zoP sz hp) r).1 ((zoP sz hp) r).2.1 ((zoP sz hp) r).2.2 := by
  refine z_start (o := (zoP sz hp)) (lv := [(0, .ref a0), (1, .int x1)]) h (by decide +kernel) RJ1 rfl rfl (Nat.le_of_ble_eq_true rfl) (fun P C => ?_)
  unfold f_J1_charAt_3b067
  refine z_iload_n C dJ1_charAt_3b067_0 1 rfl ?_
  refine z_aload_n C dJ1_charAt_3b067_1 0 rfl ?_
  refine z_arraylength (t := 1) (ty := .byte) C (fun _ => rfl) (by decide) dJ1_charAt_3b067_2 (fun v1 => ?_)
  refine z_callSpu C zs_J1_9 [.int x1, .int v1] (fun l D tc b0 r h => m_J0_checkIndex_df160 l D tc ro b0 h) dJ1_charAt_3b067_3 rfl rfl (Nat.le_of_ble_eq_true rfl) (by decide) (by decide) ⟨Nat.le_of_ble_eq_true rfl, Nat.le_of_ble_eq_true rfl⟩ (fun _ => ?_)
  refine z_aload_n C dJ1_charAt_3b067_6 0 rfl ?_
  refine z_iload_n C dJ1_charAt_3b067_7 1 rfl ?_
  refine z_baload C dJ1_charAt_3b067_8 (fun v2 => ?_)
  refine z_sipush C dJ1_charAt_3b067_9 zsi_255 ?_
  refine z_iand C dJ1_charAt_3b067_12 ?_
  refine z_i2c C dJ1_charAt_3b067_13 ?_
  exact z_nreturnP C (by simp) dJ1_charAt_3b067_14
noncomputable def f_J0_charAt_5068e (a0 : Nat) (x1 : Int32) (hp : zHp) : Option Int32 :=
  (zis hp a0 20).bind fun _ => (f_J0_isLatin1_aae02 a0 hp).bind fun v1 => if v1 = 0 then ((zgR hp a0 20 0).bind fun r2 => none) else (zgR hp a0 20 0).bind fun r3 => (f_J1_charAt_3b067 r3 x1 hp).bind fun v4 => zrNp .char v4
set_option maxHeartbeats 4000000 in
set_option maxRecDepth 100000 in
theorem m_J0_charAt_5068e (l : Launch) (D : va_G) (tc : Nat → ClassId) (ro : Nat → Nat) (b0 : Nat) {a0 : Nat} {x1 : Int32} {hp : zHp} {sz : Nat} {r : Int32} (h : f_J0_charAt_5068e a0 x1 hp = some r) : zis hp a0 20 = some () ∧ zM l yJ0_charAt_5068e cJ0_charAt_5068e 2 (some .char) 4 0 0 [.ref a0, .int x1] D tc ro b0 hp sz ((zoP sz hp) r).1 ((zoP sz hp) r).2.1 ((zoP sz hp) r).2.2 := by
  refine ⟨?_, z_start (o := (zoP sz hp)) (lv := [(0, .ref a0), (1, .int x1)]) h (by decide +kernel) RJ0 rfl rfl (Nat.le_of_ble_eq_true rfl) (fun P C => ?_)⟩
  · unfold f_J0_charAt_5068e at h
    cases hc : zis hp a0 20 with
    | none => rw [hc] at h; cases h
    | some u => rfl
  unfold f_J0_charAt_5068e
  refine z_is ?_
  refine z_aload_n C dJ0_charAt_5068e_0 0 rfl ?_
  refine z_callVp C zc_J0_492 [] (fun l D tc b0 r h => m_J0_isLatin1_aae02 l D tc ro b0 h) dJ0_charAt_5068e_1 rfl rfl (Nat.le_of_ble_eq_true rfl) (by decide) (by decide) ⟨Nat.le_of_ble_eq_true rfl, Nat.le_of_ble_eq_true rfl⟩ (fun v1 => ?_)
  refine z_if_eq C 16 dJ0_charAt_5068e_4 (by decide) ?_ ?_
  · refine z_aload_n C dJ0_charAt_5068e_16 0 rfl ?_
    refine z_getSR C zf_J0_9 dJ0_charAt_5068e_17 (fun r2 => ?_)
    refine z_iload_n C dJ0_charAt_5068e_20 1 rfl ?_
    exact z_none
  refine z_aload_n C dJ0_charAt_5068e_7 0 rfl ?_
  refine z_getSR C zf_J0_9 dJ0_charAt_5068e_8 (fun r3 => ?_)
  refine z_iload_n C dJ0_charAt_5068e_11 1 rfl ?_
  refine z_callSp C zs_J0_495 [.ref r3, .int x1] (fun l D tc b0 r h => m_J1_charAt_3b067 l D tc ro b0 h) dJ0_charAt_5068e_12 rfl rfl (Nat.le_of_ble_eq_true rfl) (by decide) (by decide) ⟨Nat.le_of_ble_eq_true rfl, Nat.le_of_ble_eq_true rfl⟩ (fun v4 => ?_)
  exact z_nreturnP C (by simp) dJ0_charAt_5068e_15
noncomputable def f_J5_init_d00df (mc ms : Nat) (a0 : Nat) (x1 : Int32) (hp : zHp) (sz : Nat) : Option (zHp × Nat) :=
  if (1 : Int32) = 0 then (none) else zchk (¬ x1 < 0 ∧ x1.toNatClampNeg ≤ 60000 ∧ 0 + 1 ≤ mc ∧ 0 + x1.toNatClampNeg ≤ ms) <| zlet (zup hp sz (.inl (1, x1.toNatClampNeg, .inl (fun _ => 0)))) fun h2 => (zpV h2 a0 9 0 (.ref sz)).bind fun h3 => (zpB h3 a0 9 1 (0 : Int32)).bind fun h4 => some (h4, (sz + 1))
set_option maxHeartbeats 4000000 in
set_option maxRecDepth 100000 in
theorem m_J5_init_d00df (l : Launch) (D : va_G) (tc : Nat → ClassId) (ro : Nat → Nat) (b0 : Nat) {mc ms : Nat} {a0 : Nat} {x1 : Int32} {hp : zHp} {sz : Nat} {r : (zHp × Nat)} (h : f_J5_init_d00df mc ms a0 x1 hp sz = some r) : zM l yJ5_init_d00df cJ5_init_d00df 2 none 1 mc ms [.ref a0, .int x1] D tc ro b0 hp sz (zoVA r).1 (zoVA r).2.1 (zoVA r).2.2 := by
  refine z_startI (o := zoVA) (lv := [(0, .ref a0), (1, .int x1)]) h (by decide +kernel) RJ5 rfl rfl rfl (Nat.le_of_ble_eq_true rfl) (fun P C CI => ?_)
  unfold f_J5_init_d00df
  refine z_aload_n C dJ5_init_d00df_0 0 rfl ?_
  refine z_objInit C zo_J5_3 dJ5_init_d00df_1 (by decide) (Nat.le_of_ble_eq_true rfl) ?_
  refine z_getCS C zg_J5_18 dJ5_init_d00df_4 ?_
  refine z_if_eq C 25 dJ5_init_d00df_7 (by decide) ?_ ?_
  · refine z_aload_n C dJ5_init_d00df_25 0 rfl ?_
    refine z_iload_n C dJ5_init_d00df_26 1 rfl ?_
    exact z_none
  refine z_aload_n C dJ5_init_d00df_10 0 rfl ?_
  refine z_iload_n C dJ5_init_d00df_11 1 rfl ?_
  refine z_chk (fun q1 => ?_)
  refine z_newarr (t := 1) (ty := .byte) (A := .inl (fun _ => 0)) C rfl (fun _ => rfl) (by decide) (fun _ _ h => h) (fun _ _ => rfl) zar_byte dJ5_init_d00df_12 (by decide) q1 (fun h2 => ?_)
  refine z_putR C zp_J5_15 rfl rfl dJ5_init_d00df_14 (fun h3 => ?_)
  refine z_aload_n C dJ5_init_d00df_17 0 rfl ?_
  refine z_iconst C dJ5_init_d00df_18 zi_0 ?_
  refine z_putB C zp_J5_22 dJ5_init_d00df_19 (fun h4 => ?_)
  refine z_goto C 38 dJ5_init_d00df_22 (by decide) ?_
  exact z_returnA C dJ5_init_d00df_38 ⟨q1.2.2.1, q1.2.2.2⟩
noncomputable def f_J4_init_da8c8 (mc ms : Nat) (a0 : Nat) (hp : zHp) (sz : Nat) : Option (zHp × Nat) :=
  zchk (0 + 1 ≤ mc ∧ 0 + 16 ≤ ms) <| zb2 (f_J5_init_d00df 1 16 a0 (16 : Int32) hp sz) fun h2 z3 => some (h2, z3)
set_option maxHeartbeats 4000000 in
set_option maxRecDepth 100000 in
theorem m_J4_init_da8c8 (l : Launch) (D : va_G) (tc : Nat → ClassId) (ro : Nat → Nat) (b0 : Nat) {mc ms : Nat} {a0 : Nat} {hp : zHp} {sz : Nat} {r : (zHp × Nat)} (h : f_J4_init_da8c8 mc ms a0 hp sz = some r) : zM l yJ4_init_da8c8 cJ4_init_da8c8 1 none 2 mc ms [.ref a0] D tc ro b0 hp sz (zoVA r).1 (zoVA r).2.1 (zoVA r).2.2 := by
  refine z_startI (o := zoVA) (lv := [(0, .ref a0)]) h (by decide +kernel) RJ4 rfl rfl rfl (Nat.le_of_ble_eq_true rfl) (fun P C CI => ?_)
  unfold f_J4_init_da8c8
  refine z_aload_n C dJ4_init_da8c8_0 0 rfl ?_
  refine z_bipush C dJ4_init_da8c8_1 zbi_16 ?_
  refine z_chk (fun q1 => ?_)
  refine z_callI C (Or.inl zci_J4_1) [.int (16 : Int32)] (fun l D tc b0 r h => m_J5_init_d00df l D tc ro b0 h) dJ4_init_da8c8_3 rfl rfl (Nat.le_of_ble_eq_true rfl) (by decide) (by decide) q1 (fun h2 z3 => ?_)
  exact z_returnA C dJ4_init_da8c8_6 q1
noncomputable def f_J7_copyOf_9075b (mc ms : Nat) (a0 : Nat) (x1 : Int32) (hp : zHp) (sz : Nat) : Option (Nat × zHp × Nat) :=
  (zlen hp 1 a0).bind fun v1 => if x1 = v1 then (none) else zchk (¬ x1 < 0 ∧ x1.toNatClampNeg ≤ 60000 ∧ 0 + 1 ≤ mc ∧ 0 + x1.toNatClampNeg ≤ ms) <| zlet (zup hp sz (.inl (1, x1.toNatClampNeg, .inl (fun _ => 0)))) fun h3 => (zlen h3 1 a0).bind fun v4 => (zcpB h3 a0 (0 : Int32) sz (0 : Int32) (zmin v4 x1)).bind fun h5 => some (sz, h5, (sz + 1))
set_option maxHeartbeats 4000000 in
set_option maxRecDepth 100000 in
theorem m_J7_copyOf_9075b (l : Launch) (D : va_G) (tc : Nat → ClassId) (ro : Nat → Nat) (b0 : Nat) {mc ms : Nat} {a0 : Nat} {x1 : Int32} {hp : zHp} {sz : Nat} {r : (Nat × zHp × Nat)} (h : f_J7_copyOf_9075b mc ms a0 x1 hp sz = some r) : zM l yJ7_copyOf_9075b cJ7_copyOf_9075b 3 (some (.array .byte)) 1 mc ms [.ref a0, .int x1] D tc ro b0 hp sz (zoRA r).1 (zoRA r).2.1 (zoRA r).2.2 := by
  refine z_start (o := zoRA) (lv := [(0, .ref a0), (1, .int x1)]) h (by decide +kernel) RJ7 rfl rfl (Nat.le_of_ble_eq_true rfl) (fun P C => ?_)
  unfold f_J7_copyOf_9075b
  refine z_iload_n C dJ7_copyOf_9075b_0 1 rfl ?_
  refine z_aload_n C dJ7_copyOf_9075b_1 0 rfl ?_
  refine z_arraylength (t := 1) (ty := .byte) C (fun _ => rfl) (by decide) dJ7_copyOf_9075b_2 (fun v1 => ?_)
  refine z_icmp_ne C 14 dJ7_copyOf_9075b_3 (by decide) ?_ ?_
  · refine z_aload_n C dJ7_copyOf_9075b_6 0 rfl ?_
    exact z_none
  refine z_iload_n C dJ7_copyOf_9075b_14 1 rfl ?_
  refine z_chk (fun q2 => ?_)
  refine z_newarr (t := 1) (ty := .byte) (A := .inl (fun _ => 0)) C rfl (fun _ => rfl) (by decide) (fun _ _ h => h) (fun _ _ => rfl) zar_byte dJ7_copyOf_9075b_15 (by decide) q2 (fun h3 => ?_)
  refine z_astore_n (lv' := [(0, .ref a0), (1, .int x1), (2, .ref sz)]) C dJ7_copyOf_9075b_17 (by decide) rfl ?_
  refine z_aload_n C dJ7_copyOf_9075b_18 0 rfl ?_
  refine z_iconst C dJ7_copyOf_9075b_19 zi_0 ?_
  refine z_aload_n C dJ7_copyOf_9075b_20 2 rfl ?_
  refine z_iconst C dJ7_copyOf_9075b_21 zi_0 ?_
  refine z_aload_n C dJ7_copyOf_9075b_22 0 rfl ?_
  refine z_arraylength (t := 1) (ty := .byte) C (fun _ => rfl) (by decide) dJ7_copyOf_9075b_23 (fun v4 => ?_)
  refine z_iload_n C dJ7_copyOf_9075b_24 1 rfl ?_
  refine z_mmin C zm_J7_304 dJ7_copyOf_9075b_25 (Nat.le_of_ble_eq_true rfl) (by decide) ⟨q2.2.2.1, q2.2.2.2⟩ ?_
  refine z_copyB C zy_J7_150 dJ7_copyOf_9075b_28 (Nat.le_of_ble_eq_true rfl) (by decide) (fun h5 => ?_)
  refine z_aload_n C dJ7_copyOf_9075b_31 2 rfl ?_
  exact z_areturnA C (Or.inr ⟨_, rfl⟩) dJ7_copyOf_9075b_32 ⟨q2.2.2.1, q2.2.2.2⟩
noncomputable def j_J8_newLength_cabcc_21 (x0 : Int32) (x1 : Int32) (hp : zHp) : Option Int32 :=
  none
set_option maxHeartbeats 4000000 in
set_option maxRecDepth 100000 in
theorem wj_J8_newLength_cabcc_21 {P : zX} {ro : Nat → Nat} {sz : Nat} (C : zC P cJ8_newLength_cabcc RJ8 (some .int) 1 0 0 4 ro) {x0 : Int32} {x1 : Int32} {hp : zHp}  : zG P (zoP sz hp) (j_J8_newLength_cabcc_21 x0 x1 hp) 21 [(0, .int x0), (1, .int x1)] [] hp sz 0 0 := by
  unfold j_J8_newLength_cabcc_21
  refine z_iload_n C dJ8_newLength_cabcc_21 0 rfl ?_
  refine z_iload_n C dJ8_newLength_cabcc_22 1 rfl ?_
  exact z_none
noncomputable def f_J8_newLength_cabcc (x0 : Int32) (x1 : Int32) (x2 : Int32) (hp : zHp) : Option Int32 :=
  zlet (x0 + (zmax x1 x2)) fun v1 => if (0 : Int32) < v1 then (if (2147483639 : Int32) < v1 then (j_J8_newLength_cabcc_21 x0 x1 hp) else some v1) else j_J8_newLength_cabcc_21 x0 x1 hp
set_option maxHeartbeats 4000000 in
set_option maxRecDepth 100000 in
theorem m_J8_newLength_cabcc (l : Launch) (D : va_G) (tc : Nat → ClassId) (ro : Nat → Nat) (b0 : Nat) {x0 : Int32} {x1 : Int32} {x2 : Int32} {hp : zHp} {sz : Nat} {r : Int32} (h : f_J8_newLength_cabcc x0 x1 x2 hp = some r) : zM l yJ8_newLength_cabcc cJ8_newLength_cabcc 4 (some .int) 1 0 0 [.int x0, .int x1, .int x2] D tc ro b0 hp sz ((zoP sz hp) r).1 ((zoP sz hp) r).2.1 ((zoP sz hp) r).2.2 := by
  refine z_start (o := (zoP sz hp)) (lv := [(0, .int x0), (1, .int x1), (2, .int x2)]) h (by decide +kernel) RJ8 rfl rfl (Nat.le_of_ble_eq_true rfl) (fun P C => ?_)
  unfold f_J8_newLength_cabcc
  refine z_iload_n C dJ8_newLength_cabcc_0 0 rfl ?_
  refine z_iload_n C dJ8_newLength_cabcc_1 1 rfl ?_
  refine z_iload_n C dJ8_newLength_cabcc_2 2 rfl ?_
  refine z_mmax C zm_J8_194 dJ8_newLength_cabcc_3 (Nat.le_of_ble_eq_true rfl) (by decide) ⟨Nat.le_of_ble_eq_true rfl, Nat.le_of_ble_eq_true rfl⟩ ?_
  refine z_iadd C dJ8_newLength_cabcc_6 ?_
  refine z_istore_nL C (fun v1 => [(0, .int x0), (1, .int x1), (2, .int x2), (3, .int v1)]) dJ8_newLength_cabcc_7 (by decide) (fun _ => rfl) (fun v1 => ?_)
  refine z_iconst C dJ8_newLength_cabcc_8 zi_0 ?_
  refine z_iload_n C dJ8_newLength_cabcc_9 3 rfl ?_
  refine z_icmp_ge C 21 dJ8_newLength_cabcc_10 (by decide) ?_ ?_
  · refine z_iload_n C dJ8_newLength_cabcc_13 3 rfl ?_
    refine z_ldcI C zk_J8_200 dJ8_newLength_cabcc_14 ?_
    refine z_icmp_gt C 21 dJ8_newLength_cabcc_16 (by decide) ?_ ?_
    · exact z_sub [0, 1] rfl (wj_J8_newLength_cabcc_21 C)
    refine z_iload_n C dJ8_newLength_cabcc_19 3 rfl ?_
    exact z_ireturnP C dJ8_newLength_cabcc_20
  exact z_sub [0, 1] rfl (wj_J8_newLength_cabcc_21 C)
noncomputable def f_J5_newCapacity_0f7a4 (a0 : Nat) (x1 : Int32) (hp : zHp) : Option Int32 :=
  (zis hp a0 9).bind fun _ => (zgR hp a0 9 0).bind fun r1 => (zlen hp 1 r1).bind fun v2 => (zgI hp a0 9 1).bind fun v3 => zlet (x1 <<< (v3 &&& 31)) fun v4 => zlet (v4 - v2) fun v5 => (zgI hp a0 9 1).bind fun v6 => (f_J8_newLength_cabcc v2 v5 (v2 + ((2 : Int32) <<< (v6 &&& 31))) hp).bind fun v7 => if v7 = (2147483647 : Int32) then (none) else (zgI hp a0 9 1).bind fun v8 => some (v7 >>> (v8 &&& 31))
set_option maxHeartbeats 4000000 in
set_option maxRecDepth 100000 in
theorem m_J5_newCapacity_0f7a4 (l : Launch) (D : va_G) (tc : Nat → ClassId) (ro : Nat → Nat) (b0 : Nat) {a0 : Nat} {x1 : Int32} {hp : zHp} {sz : Nat} {r : Int32} (h : f_J5_newCapacity_0f7a4 a0 x1 hp = some r) : zis hp a0 9 = some () ∧ zM l yJ5_newCapacity_0f7a4 cJ5_newCapacity_0f7a4 6 (some .int) 2 0 0 [.ref a0, .int x1] D tc ro b0 hp sz ((zoP sz hp) r).1 ((zoP sz hp) r).2.1 ((zoP sz hp) r).2.2 := by
  refine ⟨?_, z_start (o := (zoP sz hp)) (lv := [(0, .ref a0), (1, .int x1)]) h (by decide +kernel) RJ5 rfl rfl (Nat.le_of_ble_eq_true rfl) (fun P C => ?_)⟩
  · unfold f_J5_newCapacity_0f7a4 at h
    cases hc : zis hp a0 9 with
    | none => rw [hc] at h; cases h
    | some u => rfl
  unfold f_J5_newCapacity_0f7a4
  refine z_is ?_
  refine z_aload_n C dJ5_newCapacity_0f7a4_0 0 rfl ?_
  refine z_getR C zf_J5_15 dJ5_newCapacity_0f7a4_1 (fun r1 => ?_)
  refine z_arraylength (t := 1) (ty := .byte) C (fun _ => rfl) (by decide) dJ5_newCapacity_0f7a4_4 (fun v2 => ?_)
  refine z_istore_n (lv' := [(0, .ref a0), (1, .int x1), (2, .int v2)]) C dJ5_newCapacity_0f7a4_5 (by decide) rfl ?_
  refine z_iload_n C dJ5_newCapacity_0f7a4_6 1 rfl ?_
  refine z_aload_n C dJ5_newCapacity_0f7a4_7 0 rfl ?_
  refine z_getI C zf_J5_22 dJ5_newCapacity_0f7a4_8 (fun v3 => ?_)
  refine z_ishl C dJ5_newCapacity_0f7a4_11 ?_
  refine z_istore_nL C (fun v4 => [(0, .ref a0), (1, .int x1), (2, .int v2), (3, .int v4)]) dJ5_newCapacity_0f7a4_12 (by decide) (fun _ => rfl) (fun v4 => ?_)
  refine z_iload_n C dJ5_newCapacity_0f7a4_13 3 rfl ?_
  refine z_iload_n C dJ5_newCapacity_0f7a4_14 2 rfl ?_
  refine z_isub C dJ5_newCapacity_0f7a4_15 ?_
  refine z_istoreL C (fun v5 => [(0, .ref a0), (1, .int x1), (2, .int v2), (3, .int v4), (4, .int v5)]) dJ5_newCapacity_0f7a4_16 (by decide) (fun _ => rfl) (fun v5 => ?_)
  refine z_iload_n C dJ5_newCapacity_0f7a4_18 2 rfl ?_
  refine z_iload C dJ5_newCapacity_0f7a4_19 4 rfl ?_
  refine z_iload_n C dJ5_newCapacity_0f7a4_21 2 rfl ?_
  refine z_iconst C dJ5_newCapacity_0f7a4_22 zi_2 ?_
  refine z_aload_n C dJ5_newCapacity_0f7a4_23 0 rfl ?_
  refine z_getI C zf_J5_22 dJ5_newCapacity_0f7a4_24 (fun v6 => ?_)
  refine z_ishl C dJ5_newCapacity_0f7a4_27 ?_
  refine z_iadd C dJ5_newCapacity_0f7a4_28 ?_
  refine z_callSp C zs_J5_114 [.int v2, .int v5, .int (v2 + ((2 : Int32) <<< (v6 &&& 31)))] (fun l D tc b0 r h => m_J8_newLength_cabcc l D tc ro b0 h) dJ5_newCapacity_0f7a4_29 rfl rfl (Nat.le_of_ble_eq_true rfl) (by decide) (by decide) ⟨Nat.le_of_ble_eq_true rfl, Nat.le_of_ble_eq_true rfl⟩ (fun v7 => ?_)
  refine z_istore (lv' := [(0, .ref a0), (1, .int x1), (2, .int v2), (3, .int v4), (4, .int v5), (5, .int v7)]) C dJ5_newCapacity_0f7a4_32 (by decide) rfl ?_
  refine z_iload C dJ5_newCapacity_0f7a4_34 5 rfl ?_
  refine z_ldcI C zk_J5_39 dJ5_newCapacity_0f7a4_36 ?_
  refine z_icmp_ne C 51 dJ5_newCapacity_0f7a4_38 (by decide) ?_ ?_
  · exact z_none
  refine z_iload C dJ5_newCapacity_0f7a4_51 5 rfl ?_
  refine z_aload_n C dJ5_newCapacity_0f7a4_53 0 rfl ?_
  refine z_getI C zf_J5_22 dJ5_newCapacity_0f7a4_54 (fun v8 => ?_)
  refine z_ishr C dJ5_newCapacity_0f7a4_57 ?_
  exact z_ireturnP C dJ5_newCapacity_0f7a4_58
noncomputable def f_J5_ensureCapacityInternal_d00df (mc ms : Nat) (a0 : Nat) (x1 : Int32) (hp : zHp) (sz : Nat) : Option (zHp × Nat) :=
  (zis hp a0 9).bind fun _ => (zgR hp a0 9 0).bind fun r1 => (zlen hp 1 r1).bind fun v2 => (zgI hp a0 9 1).bind fun v3 => zlet (v2 >>> (v3 &&& 31)) fun v4 => if 0 < (x1 - v4) then ((zgR hp a0 9 0).bind fun r5 => (f_J5_newCapacity_0f7a4 a0 x1 hp).bind fun v6 => (zgI hp a0 9 1).bind fun v7 => zchk (0 + mc ≤ mc ∧ 0 + ms ≤ ms) <| zb3 (f_J7_copyOf_9075b mc ms r5 (v6 <<< (v7 &&& 31)) hp sz) fun r11 h9 z10 => (zpV h9 a0 9 0 (.ref r11)).bind fun h12 => some (h12, z10)) else some (hp, sz)
set_option maxHeartbeats 4000000 in
set_option maxRecDepth 100000 in
theorem m_J5_ensureCapacityInternal_d00df (l : Launch) (D : va_G) (tc : Nat → ClassId) (ro : Nat → Nat) (b0 : Nat) {mc ms : Nat} {a0 : Nat} {x1 : Int32} {hp : zHp} {sz : Nat} {r : (zHp × Nat)} (h : f_J5_ensureCapacityInternal_d00df mc ms a0 x1 hp sz = some r) : zis hp a0 9 = some () ∧ zM l yJ5_ensureCapacityInternal_d00df cJ5_ensureCapacityInternal_d00df 3 none 3 mc ms [.ref a0, .int x1] D tc ro b0 hp sz (zoVA r).1 (zoVA r).2.1 (zoVA r).2.2 := by
  refine ⟨?_, z_start (o := zoVA) (lv := [(0, .ref a0), (1, .int x1)]) h (by decide +kernel) RJ5 rfl rfl (Nat.le_of_ble_eq_true rfl) (fun P C => ?_)⟩
  · unfold f_J5_ensureCapacityInternal_d00df at h
    cases hc : zis hp a0 9 with
    | none => rw [hc] at h; cases h
    | some u => rfl
  unfold f_J5_ensureCapacityInternal_d00df
  refine z_is ?_
  refine z_aload_n C dJ5_ensureCapacityInternal_d00df_0 0 rfl ?_
  refine z_getR C zf_J5_15 dJ5_ensureCapacityInternal_d00df_1 (fun r1 => ?_)
  refine z_arraylength (t := 1) (ty := .byte) C (fun _ => rfl) (by decide) dJ5_ensureCapacityInternal_d00df_4 (fun v2 => ?_)
  refine z_aload_n C dJ5_ensureCapacityInternal_d00df_5 0 rfl ?_
  refine z_getI C zf_J5_22 dJ5_ensureCapacityInternal_d00df_6 (fun v3 => ?_)
  refine z_ishr C dJ5_ensureCapacityInternal_d00df_9 ?_
  refine z_istore_nL C (fun v4 => [(0, .ref a0), (1, .int x1), (2, .int v4)]) dJ5_ensureCapacityInternal_d00df_10 (by decide) (fun _ => rfl) (fun v4 => ?_)
  refine z_iload_n C dJ5_ensureCapacityInternal_d00df_11 1 rfl ?_
  refine z_iload_n C dJ5_ensureCapacityInternal_d00df_12 2 rfl ?_
  refine z_isub C dJ5_ensureCapacityInternal_d00df_13 ?_
  refine z_if_le C 38 dJ5_ensureCapacityInternal_d00df_14 (by decide) ?_ ?_
  · refine z_aload_n C dJ5_ensureCapacityInternal_d00df_17 0 rfl ?_
    refine z_aload_n C dJ5_ensureCapacityInternal_d00df_18 0 rfl ?_
    refine z_getR C zf_J5_15 dJ5_ensureCapacityInternal_d00df_19 (fun r5 => ?_)
    refine z_aload_n C dJ5_ensureCapacityInternal_d00df_22 0 rfl ?_
    refine z_iload_n C dJ5_ensureCapacityInternal_d00df_23 1 rfl ?_
    refine z_cUp C zcu_J5_104 [.int x1] (fun l D tc b0 r h => m_J5_newCapacity_0f7a4 l D tc ro b0 h) dJ5_ensureCapacityInternal_d00df_24 rfl rfl (Nat.le_of_ble_eq_true rfl) (by decide) (by decide) ⟨Nat.zero_le _, Nat.zero_le _⟩ (fun v6 => ?_)
    refine z_aload_n C dJ5_ensureCapacityInternal_d00df_27 0 rfl ?_
    refine z_getI C zf_J5_22 dJ5_ensureCapacityInternal_d00df_28 (fun v7 => ?_)
    refine z_ishl C dJ5_ensureCapacityInternal_d00df_31 ?_
    refine z_chk (fun q8 => ?_)
    refine z_cSr C zs_J5_108 [.ref r5, .int (v6 <<< (v7 &&& 31))] (fun l D tc b0 r h => m_J7_copyOf_9075b l D tc ro b0 h) dJ5_ensureCapacityInternal_d00df_32 rfl rfl (Nat.le_of_ble_eq_true rfl) (by decide) (by decide) q8 (fun r11 h9 z10 => ?_)
    refine z_putR C zp_J5_15 rfl rfl dJ5_ensureCapacityInternal_d00df_35 (fun h12 => ?_)
    exact z_returnA C dJ5_ensureCapacityInternal_d00df_38 q8
  exact z_returnA C dJ5_ensureCapacityInternal_d00df_38 ⟨Nat.zero_le _, Nat.zero_le _⟩
noncomputable def f_J5_isLatin1_aae02 (a0 : Nat) (hp : zHp) : Option Int32 :=
  (zis hp a0 9).bind fun _ => if (1 : Int32) = 0 then (some (0 : Int32)) else (zgI hp a0 9 1).bind fun v1 => if v1 = 0 then (some (1 : Int32)) else some (0 : Int32)
set_option maxHeartbeats 4000000 in
set_option maxRecDepth 100000 in
theorem m_J5_isLatin1_aae02 (l : Launch) (D : va_G) (tc : Nat → ClassId) (ro : Nat → Nat) (b0 : Nat) {a0 : Nat} {hp : zHp} {sz : Nat} {r : Int32} (h : f_J5_isLatin1_aae02 a0 hp = some r) : zis hp a0 9 = some () ∧ zM l yJ5_isLatin1_aae02 cJ5_isLatin1_aae02 1 (some .boolean) 1 0 0 [.ref a0] D tc ro b0 hp sz ((zoP sz hp) r).1 ((zoP sz hp) r).2.1 ((zoP sz hp) r).2.2 := by
  refine ⟨?_, z_start (o := (zoP sz hp)) (lv := [(0, .ref a0)]) h (by decide +kernel) RJ5 rfl rfl (Nat.le_of_ble_eq_true rfl) (fun P C => ?_)⟩
  · unfold f_J5_isLatin1_aae02 at h
    cases hc : zis hp a0 9 with
    | none => rw [hc] at h; cases h
    | some u => rfl
  unfold f_J5_isLatin1_aae02
  refine z_is ?_
  refine z_getCS C zg_J5_18 dJ5_isLatin1_aae02_0 ?_
  refine z_if_eq C 17 dJ5_isLatin1_aae02_3 (by decide) ?_ ?_
  · refine z_iconst C dJ5_isLatin1_aae02_17 zi_0 ?_
    exact z_kreturnP C rfl dJ5_isLatin1_aae02_18
  refine z_aload_n C dJ5_isLatin1_aae02_6 0 rfl ?_
  refine z_getI C zf_J5_22 dJ5_isLatin1_aae02_7 (fun v1 => ?_)
  refine z_if_ne C 17 dJ5_isLatin1_aae02_10 (by decide) ?_ ?_
  · refine z_iconst C dJ5_isLatin1_aae02_13 zi_1 ?_
    refine z_goto C 18 dJ5_isLatin1_aae02_14 (by decide) ?_
    exact z_kreturnP C rfl dJ5_isLatin1_aae02_18
  refine z_iconst C dJ5_isLatin1_aae02_17 zi_0 ?_
  exact z_kreturnP C rfl dJ5_isLatin1_aae02_18
noncomputable def f_J1_canEncode_fc78d (x0 : Int32) (hp : zHp) : Option Int32 :=
  if (255 : Int32) < x0 then (some (0 : Int32)) else some (1 : Int32)
set_option maxHeartbeats 4000000 in
set_option maxRecDepth 100000 in
theorem m_J1_canEncode_fc78d (l : Launch) (D : va_G) (tc : Nat → ClassId) (ro : Nat → Nat) (b0 : Nat) {x0 : Int32} {hp : zHp} {sz : Nat} {r : Int32} (h : f_J1_canEncode_fc78d x0 hp = some r) : zM l yJ1_canEncode_fc78d cJ1_canEncode_fc78d 1 (some .boolean) 1 0 0 [.int x0] D tc ro b0 hp sz ((zoP sz hp) r).1 ((zoP sz hp) r).2.1 ((zoP sz hp) r).2.2 := by
  refine z_start (o := (zoP sz hp)) (lv := [(0, .int x0)]) h (by decide +kernel) RJ1 rfl rfl (Nat.le_of_ble_eq_true rfl) (fun P C => ?_)
  unfold f_J1_canEncode_fc78d
  refine z_iload_n C dJ1_canEncode_fc78d_0 0 rfl ?_
  refine z_sipush C dJ1_canEncode_fc78d_1 zsi_255 ?_
  refine z_icmp_gt C 11 dJ1_canEncode_fc78d_4 (by decide) ?_ ?_
  · refine z_iconst C dJ1_canEncode_fc78d_11 zi_0 ?_
    exact z_kreturnP C rfl dJ1_canEncode_fc78d_12
  refine z_iconst C dJ1_canEncode_fc78d_7 zi_1 ?_
  refine z_goto C 12 dJ1_canEncode_fc78d_8 (by decide) ?_
  exact z_kreturnP C rfl dJ1_canEncode_fc78d_12
noncomputable def j_J5_append_3fe6f_56 (mc ms : Nat) (a0 : Nat) (x1 : Int32) (h : zHp) (sz : Nat) (uc : Nat) (us : Nat) : Option (Nat × zHp × Nat) :=
  (zgR h a0 9 0).bind fun r8 => (zgI h a0 9 3).bind fun v9 => (zpV h a0 9 3 (.int (v9 + (1 : Int32)))).bind fun h10 => none
set_option maxHeartbeats 4000000 in
set_option maxRecDepth 100000 in
theorem wj_J5_append_3fe6f_56 {P : zX} {ro : Nat → Nat} {mc ms : Nat} (C : zC P cJ5_append_3fe6f RJ5 (some (.object "java/lang/AbstractStringBuilder")) 4 mc ms 2 ro) {a0 : Nat} {x1 : Int32} {h : zHp} {sz : Nat} {uc : Nat} {us : Nat}  : zG P zoRA (j_J5_append_3fe6f_56 mc ms a0 x1 h sz uc us) 56 [(0, .ref a0), (1, .int x1)] [] h sz uc us := by
  unfold j_J5_append_3fe6f_56
  refine z_aload_n C dJ5_append_3fe6f_56 0 rfl ?_
  refine z_getR C zf_J5_15 dJ5_append_3fe6f_57 (fun r8 => ?_)
  refine z_aload_n C dJ5_append_3fe6f_60 0 rfl ?_
  refine z_dup C dJ5_append_3fe6f_61 rfl ?_
  refine z_getI C zf_J5_79 dJ5_append_3fe6f_62 (fun v9 => ?_)
  refine z_dup_x1 C dJ5_append_3fe6f_65 rfl rfl ?_
  refine z_iconst C dJ5_append_3fe6f_66 zi_1 ?_
  refine z_iadd C dJ5_append_3fe6f_67 ?_
  refine z_putI C zp_J5_79 dJ5_append_3fe6f_68 (fun h10 => ?_)
  refine z_iload_n C dJ5_append_3fe6f_71 1 rfl ?_
  exact z_none
noncomputable def j_J5_append_3fe6f_45 (mc ms : Nat) (a0 : Nat) (x1 : Int32) (h : zHp) (sz : Nat) (uc : Nat) (us : Nat) : Option (Nat × zHp × Nat) :=
  zchk (uc ≤ mc ∧ us ≤ ms) <| (f_J5_isLatin1_aae02 a0 h).bind fun v7 => if v7 = 0 then (j_J5_append_3fe6f_56 mc ms a0 x1 h sz uc us) else none
set_option maxHeartbeats 4000000 in
set_option maxRecDepth 100000 in
theorem wj_J5_append_3fe6f_45 {P : zX} {ro : Nat → Nat} {mc ms : Nat} (C : zC P cJ5_append_3fe6f RJ5 (some (.object "java/lang/AbstractStringBuilder")) 4 mc ms 2 ro) {a0 : Nat} {x1 : Int32} {h : zHp} {sz : Nat} {uc : Nat} {us : Nat}  : zG P zoRA (j_J5_append_3fe6f_45 mc ms a0 x1 h sz uc us) 45 [(0, .ref a0), (1, .int x1)] [] h sz uc us := by
  unfold j_J5_append_3fe6f_45
  refine z_aload_n C dJ5_append_3fe6f_45 0 rfl ?_
  refine z_chk (fun q6 => ?_)
  refine z_cUp C zcu_J5_83 [] (fun l D tc b0 r h => m_J5_isLatin1_aae02 l D tc ro b0 h) dJ5_append_3fe6f_46 rfl rfl (Nat.le_of_ble_eq_true rfl) (by decide) (by decide) q6 (fun v7 => ?_)
  refine z_if_eq C 56 dJ5_append_3fe6f_49 (by decide) ?_ ?_
  · exact wj_J5_append_3fe6f_56 C
  refine z_aload_n C dJ5_append_3fe6f_52 0 rfl ?_
  exact z_none
noncomputable def f_J5_append_3fe6f (mc ms : Nat) (a0 : Nat) (x1 : Int32) (hp : zHp) (sz : Nat) : Option (Nat × zHp × Nat) :=
  (zis hp a0 9).bind fun _ => (zgI hp a0 9 3).bind fun v1 => zchk (0 + mc ≤ mc ∧ 0 + ms ≤ ms) <| zb2 (f_J5_ensureCapacityInternal_d00df mc ms a0 (v1 + (1 : Int32)) hp sz) fun h3 z4 => (f_J5_isLatin1_aae02 a0 h3).bind fun v5 => if v5 = 0 then (j_J5_append_3fe6f_45 mc ms a0 x1 h3 z4 ((0 + mc)) ((0 + ms))) else (f_J1_canEncode_fc78d x1 h3).bind fun v11 => if v11 = 0 then (j_J5_append_3fe6f_45 mc ms a0 x1 h3 z4 ((0 + mc)) ((0 + ms))) else (zgR h3 a0 9 0).bind fun r12 => (zgI h3 a0 9 3).bind fun v13 => (zpV h3 a0 9 3 (.int (v13 + (1 : Int32)))).bind fun h14 => (zsB h14 r12 v13 (x1.toInt8.toInt32)).bind fun h15 => some (a0, h15, z4)
set_option maxHeartbeats 4000000 in
set_option maxRecDepth 100000 in
theorem m_J5_append_3fe6f (l : Launch) (D : va_G) (tc : Nat → ClassId) (ro : Nat → Nat) (b0 : Nat) {mc ms : Nat} {a0 : Nat} {x1 : Int32} {hp : zHp} {sz : Nat} {r : (Nat × zHp × Nat)} (h : f_J5_append_3fe6f mc ms a0 x1 hp sz = some r) : zis hp a0 9 = some () ∧ zM l yJ5_append_3fe6f cJ5_append_3fe6f 2 (some (.object "java/lang/AbstractStringBuilder")) 4 mc ms [.ref a0, .int x1] D tc ro b0 hp sz (zoRA r).1 (zoRA r).2.1 (zoRA r).2.2 := by
  refine ⟨?_, z_start (o := zoRA) (lv := [(0, .ref a0), (1, .int x1)]) h (by decide +kernel) RJ5 rfl rfl (Nat.le_of_ble_eq_true rfl) (fun P C => ?_)⟩
  · unfold f_J5_append_3fe6f at h
    cases hc : zis hp a0 9 with
    | none => rw [hc] at h; cases h
    | some u => rfl
  unfold f_J5_append_3fe6f
  refine z_is ?_
  refine z_aload_n C dJ5_append_3fe6f_0 0 rfl ?_
  refine z_aload_n C dJ5_append_3fe6f_1 0 rfl ?_
  refine z_getI C zf_J5_79 dJ5_append_3fe6f_2 (fun v1 => ?_)
  refine z_iconst C dJ5_append_3fe6f_5 zi_1 ?_
  refine z_iadd C dJ5_append_3fe6f_6 ?_
  refine z_chk (fun q2 => ?_)
  refine z_cUv C zcu_J5_100 [.int (v1 + (1 : Int32))] (fun l D tc b0 r h => m_J5_ensureCapacityInternal_d00df l D tc ro b0 h) dJ5_append_3fe6f_7 rfl rfl (Nat.le_of_ble_eq_true rfl) (by decide) (by decide) q2 (fun h3 z4 => ?_)
  refine z_aload_n C dJ5_append_3fe6f_10 0 rfl ?_
  refine z_cUp C zcu_J5_83 [] (fun l D tc b0 r h => m_J5_isLatin1_aae02 l D tc ro b0 h) dJ5_append_3fe6f_11 rfl rfl (Nat.le_of_ble_eq_true rfl) (by decide) (by decide) q2 (fun v5 => ?_)
  refine z_if_eq C 45 dJ5_append_3fe6f_14 (by decide) ?_ ?_
  · exact wj_J5_append_3fe6f_45 C
  refine z_iload_n C dJ5_append_3fe6f_17 1 rfl ?_
  refine z_callSp C zs_J5_191 [.int x1] (fun l D tc b0 r h => m_J1_canEncode_fc78d l D tc ro b0 h) dJ5_append_3fe6f_18 rfl rfl (Nat.le_of_ble_eq_true rfl) (by decide) (by decide) q2 (fun v11 => ?_)
  refine z_if_eq C 45 dJ5_append_3fe6f_21 (by decide) ?_ ?_
  · exact wj_J5_append_3fe6f_45 C
  refine z_aload_n C dJ5_append_3fe6f_24 0 rfl ?_
  refine z_getR C zf_J5_15 dJ5_append_3fe6f_25 (fun r12 => ?_)
  refine z_aload_n C dJ5_append_3fe6f_28 0 rfl ?_
  refine z_dup C dJ5_append_3fe6f_29 rfl ?_
  refine z_getI C zf_J5_79 dJ5_append_3fe6f_30 (fun v13 => ?_)
  refine z_dup_x1 C dJ5_append_3fe6f_33 rfl rfl ?_
  refine z_iconst C dJ5_append_3fe6f_34 zi_1 ?_
  refine z_iadd C dJ5_append_3fe6f_35 ?_
  refine z_putI C zp_J5_79 dJ5_append_3fe6f_36 (fun h14 => ?_)
  refine z_iload_n C dJ5_append_3fe6f_39 1 rfl ?_
  refine z_i2b C dJ5_append_3fe6f_40 ?_
  refine z_bastore C dJ5_append_3fe6f_41 (fun h15 => ?_)
  refine z_goto C 75 dJ5_append_3fe6f_42 (by decide) ?_
  refine z_aload_n C dJ5_append_3fe6f_75 0 rfl ?_
  exact z_areturnA C (Or.inl ⟨_, rfl⟩) dJ5_append_3fe6f_76 q2
noncomputable def f_J5_inflateIfNeededFor_a7421 (a0 : Nat) (a1 : Nat) (hp : zHp) : Option Unit :=
  (zis hp a0 9).bind fun _ => if (1 : Int32) = 0 then (some ()) else (zgI hp a0 9 1).bind fun v1 => (f_J0_coder_7d493 a1 hp).bind fun v2 => if v1 = v2 then (some ()) else none
set_option maxHeartbeats 4000000 in
set_option maxRecDepth 100000 in
theorem m_J5_inflateIfNeededFor_a7421 (l : Launch) (D : va_G) (tc : Nat → ClassId) (ro : Nat → Nat) (b0 : Nat) {a0 : Nat} {a1 : Nat} {hp : zHp} {sz : Nat} {r : Unit} (h : f_J5_inflateIfNeededFor_a7421 a0 a1 hp = some r) : zis hp a0 9 = some () ∧ zM l yJ5_inflateIfNeededFor_a7421 cJ5_inflateIfNeededFor_a7421 2 none 2 0 0 [.ref a0, .ref a1] D tc ro b0 hp sz ((zoPU sz hp) r).1 ((zoPU sz hp) r).2.1 ((zoPU sz hp) r).2.2 := by
  refine ⟨?_, z_start (o := (zoPU sz hp)) (lv := [(0, .ref a0), (1, .ref a1)]) h (by decide +kernel) RJ5 rfl rfl (Nat.le_of_ble_eq_true rfl) (fun P C => ?_)⟩
  · unfold f_J5_inflateIfNeededFor_a7421 at h
    cases hc : zis hp a0 9 with
    | none => rw [hc] at h; cases h
    | some u => rfl
  unfold f_J5_inflateIfNeededFor_a7421
  refine z_is ?_
  refine z_getCS C zg_J5_18 dJ5_inflateIfNeededFor_a7421_0 ?_
  refine z_if_eq C 21 dJ5_inflateIfNeededFor_a7421_3 (by decide) ?_ ?_
  · exact z_returnP C dJ5_inflateIfNeededFor_a7421_21
  refine z_aload_n C dJ5_inflateIfNeededFor_a7421_6 0 rfl ?_
  refine z_getI C zf_J5_22 dJ5_inflateIfNeededFor_a7421_7 (fun v1 => ?_)
  refine z_aload_n C dJ5_inflateIfNeededFor_a7421_10 1 rfl ?_
  refine z_callVp C zc_J5_40 [] (fun l D tc b0 r h => m_J0_coder_7d493 l D tc ro b0 h) dJ5_inflateIfNeededFor_a7421_11 rfl rfl (Nat.le_of_ble_eq_true rfl) (by decide) (by decide) ⟨Nat.le_of_ble_eq_true rfl, Nat.le_of_ble_eq_true rfl⟩ (fun v2 => ?_)
  refine z_icmp_eq C 21 dJ5_inflateIfNeededFor_a7421_14 (by decide) ?_ ?_
  · exact z_returnP C dJ5_inflateIfNeededFor_a7421_21
  refine z_aload_n C dJ5_inflateIfNeededFor_a7421_17 0 rfl ?_
  exact z_none
noncomputable def f_J0_getBytes_840e7 (a0 : Nat) (a1 : Nat) (x2 : Int32) (x3 : Int32) (hp : zHp) : Option zHp :=
  (zis hp a0 20).bind fun _ => (f_J0_coder_7d493 a0 hp).bind fun v1 => if v1 = x3 then ((zgR hp a0 20 0).bind fun r5 => (zgR hp a0 20 0).bind fun r6 => (zlen hp 1 r6).bind fun v7 => (zcpB hp r5 (0 : Int32) a1 (x2 <<< (x3 &&& 31)) v7).bind fun h8 => some h8) else (zgR hp a0 20 0).bind fun r2 => (zgR hp a0 20 0).bind fun r3 => (zlen hp 1 r3).bind fun v4 => none
set_option maxHeartbeats 4000000 in
set_option maxRecDepth 100000 in
theorem m_J0_getBytes_840e7 (l : Launch) (D : va_G) (tc : Nat → ClassId) (ro : Nat → Nat) (b0 : Nat) {a0 : Nat} {a1 : Nat} {x2 : Int32} {x3 : Int32} {hp : zHp} {sz : Nat} {r : zHp} (h : f_J0_getBytes_840e7 a0 a1 x2 x3 hp = some r) : zis hp a0 20 = some () ∧ zM l yJ0_getBytes_840e7 cJ0_getBytes_840e7 4 none 2 0 0 [.ref a0, .ref a1, .int x2, .int x3] D tc ro b0 hp sz ((zoV sz) r).1 ((zoV sz) r).2.1 ((zoV sz) r).2.2 := by
  refine ⟨?_, z_start (o := (zoV sz)) (lv := [(0, .ref a0), (1, .ref a1), (2, .int x2), (3, .int x3)]) h (by decide +kernel) RJ0 rfl rfl (Nat.le_of_ble_eq_true rfl) (fun P C => ?_)⟩
  · unfold f_J0_getBytes_840e7 at h
    cases hc : zis hp a0 20 with
    | none => rw [hc] at h; cases h
    | some u => rfl
  unfold f_J0_getBytes_840e7
  refine z_is ?_
  refine z_aload_n C dJ0_getBytes_840e7_0 0 rfl ?_
  refine z_callVp C zc_J0_335 [] (fun l D tc b0 r h => m_J0_coder_7d493 l D tc ro b0 h) dJ0_getBytes_840e7_1 rfl rfl (Nat.le_of_ble_eq_true rfl) (by decide) (by decide) ⟨Nat.le_of_ble_eq_true rfl, Nat.le_of_ble_eq_true rfl⟩ (fun v1 => ?_)
  refine z_iload_n C dJ0_getBytes_840e7_4 3 rfl ?_
  refine z_icmp_ne C 28 dJ0_getBytes_840e7_5 (by decide) ?_ ?_
  · refine z_aload_n C dJ0_getBytes_840e7_8 0 rfl ?_
    refine z_getSR C zf_J0_9 dJ0_getBytes_840e7_9 (fun r5 => ?_)
    refine z_iconst C dJ0_getBytes_840e7_12 zi_0 ?_
    refine z_aload_n C dJ0_getBytes_840e7_13 1 rfl ?_
    refine z_iload_n C dJ0_getBytes_840e7_14 2 rfl ?_
    refine z_iload_n C dJ0_getBytes_840e7_15 3 rfl ?_
    refine z_ishl C dJ0_getBytes_840e7_16 ?_
    refine z_aload_n C dJ0_getBytes_840e7_17 0 rfl ?_
    refine z_getSR C zf_J0_9 dJ0_getBytes_840e7_18 (fun r6 => ?_)
    refine z_arraylength (t := 1) (ty := .byte) C (fun _ => rfl) (by decide) dJ0_getBytes_840e7_21 (fun v7 => ?_)
    refine z_copyB C zy_J0_212 dJ0_getBytes_840e7_22 (Nat.le_of_ble_eq_true rfl) (by decide) (fun h8 => ?_)
    refine z_goto C 43 dJ0_getBytes_840e7_25 (by decide) ?_
    exact z_return C dJ0_getBytes_840e7_43
  refine z_aload_n C dJ0_getBytes_840e7_28 0 rfl ?_
  refine z_getSR C zf_J0_9 dJ0_getBytes_840e7_29 (fun r2 => ?_)
  refine z_iconst C dJ0_getBytes_840e7_32 zi_0 ?_
  refine z_aload_n C dJ0_getBytes_840e7_33 1 rfl ?_
  refine z_iload_n C dJ0_getBytes_840e7_34 2 rfl ?_
  refine z_aload_n C dJ0_getBytes_840e7_35 0 rfl ?_
  refine z_getSR C zf_J0_9 dJ0_getBytes_840e7_36 (fun r3 => ?_)
  refine z_arraylength (t := 1) (ty := .byte) C (fun _ => rfl) (by decide) dJ0_getBytes_840e7_39 (fun v4 => ?_)
  exact z_none
noncomputable def f_J5_putStringAt_47b60 (a0 : Nat) (x1 : Int32) (a2 : Nat) (hp : zHp) : Option zHp :=
  (zis hp a0 9).bind fun _ => (f_J5_inflateIfNeededFor_a7421 a0 a2 hp).bind fun _ => (zgR hp a0 9 0).bind fun r1 => (zgI hp a0 9 1).bind fun v2 => (f_J0_getBytes_840e7 a2 r1 x1 v2 hp).bind fun h3 => some h3
set_option maxHeartbeats 4000000 in
set_option maxRecDepth 100000 in
theorem m_J5_putStringAt_47b60 (l : Launch) (D : va_G) (tc : Nat → ClassId) (ro : Nat → Nat) (b0 : Nat) {a0 : Nat} {x1 : Int32} {a2 : Nat} {hp : zHp} {sz : Nat} {r : zHp} (h : f_J5_putStringAt_47b60 a0 x1 a2 hp = some r) : zis hp a0 9 = some () ∧ zM l yJ5_putStringAt_47b60 cJ5_putStringAt_47b60 3 none 3 0 0 [.ref a0, .int x1, .ref a2] D tc ro b0 hp sz ((zoV sz) r).1 ((zoV sz) r).2.1 ((zoV sz) r).2.2 := by
  refine ⟨?_, z_start (o := (zoV sz)) (lv := [(0, .ref a0), (1, .int x1), (2, .ref a2)]) h (by decide +kernel) RJ5 rfl rfl (Nat.le_of_ble_eq_true rfl) (fun P C => ?_)⟩
  · unfold f_J5_putStringAt_47b60 at h
    cases hc : zis hp a0 9 with
    | none => rw [hc] at h; cases h
    | some u => rfl
  unfold f_J5_putStringAt_47b60
  refine z_is ?_
  refine z_aload_n C dJ5_putStringAt_47b60_0 0 rfl ?_
  refine z_aload_n C dJ5_putStringAt_47b60_1 2 rfl ?_
  refine z_cUu C zcu_J5_397 [.ref a2] (fun l D tc b0 r h => m_J5_inflateIfNeededFor_a7421 l D tc ro b0 h) dJ5_putStringAt_47b60_2 rfl rfl (Nat.le_of_ble_eq_true rfl) (by decide) (by decide) ⟨Nat.le_of_ble_eq_true rfl, Nat.le_of_ble_eq_true rfl⟩ (fun _ => ?_)
  refine z_aload_n C dJ5_putStringAt_47b60_5 2 rfl ?_
  refine z_aload_n C dJ5_putStringAt_47b60_6 0 rfl ?_
  refine z_getR C zf_J5_15 dJ5_putStringAt_47b60_7 (fun r1 => ?_)
  refine z_iload_n C dJ5_putStringAt_47b60_10 1 rfl ?_
  refine z_aload_n C dJ5_putStringAt_47b60_11 0 rfl ?_
  refine z_getI C zf_J5_22 dJ5_putStringAt_47b60_12 (fun v2 => ?_)
  refine z_callVv C zc_J5_399 [.ref r1, .int x1, .int v2] (fun l D tc b0 r h => m_J0_getBytes_840e7 l D tc ro b0 h) dJ5_putStringAt_47b60_15 rfl rfl (Nat.le_of_ble_eq_true rfl) (by decide) (by decide) ⟨Nat.le_of_ble_eq_true rfl, Nat.le_of_ble_eq_true rfl⟩ (fun h3 => ?_)
  exact z_return C dJ5_putStringAt_47b60_18
noncomputable def f_J5_append_cf1ce (mc ms : Nat) (a0 : Nat) (a1 : Nat) (hp : zHp) (sz : Nat) : Option (Nat × zHp × Nat) :=
  (zis hp a0 9).bind fun _ => (f_J0_length_8abf5 a1 hp).bind fun v1 => (zgI hp a0 9 3).bind fun v2 => zchk (0 + mc ≤ mc ∧ 0 + ms ≤ ms) <| zb2 (f_J5_ensureCapacityInternal_d00df mc ms a0 (v2 + v1) hp sz) fun h4 z5 => (zgI h4 a0 9 3).bind fun v6 => (f_J5_putStringAt_47b60 a0 v6 a1 h4).bind fun h7 => (zgI h7 a0 9 3).bind fun v8 => (zpV h7 a0 9 3 (.int (v8 + v1))).bind fun h9 => some (a0, h9, z5)
set_option maxHeartbeats 4000000 in
set_option maxRecDepth 100000 in
theorem m_J5_append_cf1ce (l : Launch) (D : va_G) (tc : Nat → ClassId) (ro : Nat → Nat) (b0 : Nat) {mc ms : Nat} {a0 : Nat} {a1 : Nat} {hp : zHp} {sz : Nat} {r : (Nat × zHp × Nat)} (h : f_J5_append_cf1ce mc ms a0 a1 hp sz = some r) : zis hp a0 9 = some () ∧ zM l yJ5_append_cf1ce cJ5_append_cf1ce 3 (some (.object "java/lang/AbstractStringBuilder")) 4 mc ms [.ref a0, .ref a1] D tc ro b0 hp sz (zoRA r).1 (zoRA r).2.1 (zoRA r).2.2 := by
  refine ⟨?_, z_start (o := zoRA) (lv := [(0, .ref a0), (1, .ref a1)]) h (by decide +kernel) RJ5 rfl rfl (Nat.le_of_ble_eq_true rfl) (fun P C => ?_)⟩
  · unfold f_J5_append_cf1ce at h
    cases hc : zis hp a0 9 with
    | none => rw [hc] at h; cases h
    | some u => rfl
  unfold f_J5_append_cf1ce
  refine z_is ?_
  refine z_aload_n C dJ5_append_cf1ce_0 1 rfl ?_
  refine z_ifnonnull C 9 dJ5_append_cf1ce_1 (by decide) ?_
  refine z_aload_n C dJ5_append_cf1ce_9 1 rfl ?_
  refine z_callVp C zc_J5_32 [] (fun l D tc b0 r h => m_J0_length_8abf5 l D tc ro b0 h) dJ5_append_cf1ce_10 rfl rfl (Nat.le_of_ble_eq_true rfl) (by decide) (by decide) ⟨Nat.zero_le _, Nat.zero_le _⟩ (fun v1 => ?_)
  refine z_istore_n (lv' := [(0, .ref a0), (1, .ref a1), (2, .int v1)]) C dJ5_append_cf1ce_13 (by decide) rfl ?_
  refine z_aload_n C dJ5_append_cf1ce_14 0 rfl ?_
  refine z_aload_n C dJ5_append_cf1ce_15 0 rfl ?_
  refine z_getI C zf_J5_79 dJ5_append_cf1ce_16 (fun v2 => ?_)
  refine z_iload_n C dJ5_append_cf1ce_19 2 rfl ?_
  refine z_iadd C dJ5_append_cf1ce_20 ?_
  refine z_chk (fun q3 => ?_)
  refine z_cUv C zcu_J5_100 [.int (v2 + v1)] (fun l D tc b0 r h => m_J5_ensureCapacityInternal_d00df l D tc ro b0 h) dJ5_append_cf1ce_21 rfl rfl (Nat.le_of_ble_eq_true rfl) (by decide) (by decide) q3 (fun h4 z5 => ?_)
  refine z_aload_n C dJ5_append_cf1ce_24 0 rfl ?_
  refine z_aload_n C dJ5_append_cf1ce_25 0 rfl ?_
  refine z_getI C zf_J5_79 dJ5_append_cf1ce_26 (fun v6 => ?_)
  refine z_aload_n C dJ5_append_cf1ce_29 1 rfl ?_
  refine z_cUn C zcu_J5_208 [.int v6, .ref a1] (fun l D tc b0 r h => m_J5_putStringAt_47b60 l D tc ro b0 h) dJ5_append_cf1ce_30 rfl rfl (Nat.le_of_ble_eq_true rfl) (by decide) (by decide) q3 (fun h7 => ?_)
  refine z_aload_n C dJ5_append_cf1ce_33 0 rfl ?_
  refine z_dup C dJ5_append_cf1ce_34 rfl ?_
  refine z_getI C zf_J5_79 dJ5_append_cf1ce_35 (fun v8 => ?_)
  refine z_iload_n C dJ5_append_cf1ce_38 2 rfl ?_
  refine z_iadd C dJ5_append_cf1ce_39 ?_
  refine z_putI C zp_J5_79 dJ5_append_cf1ce_40 (fun h9 => ?_)
  refine z_aload_n C dJ5_append_cf1ce_43 0 rfl ?_
  exact z_areturnA C (Or.inl ⟨_, rfl⟩) dJ5_append_cf1ce_44 q3
noncomputable def b_J6_stringSize_0f7a4_16 (k27 : Int32 → Option Int32) (k42 : Option Int32) (x0 : Int32) (x1 : Int32) (hp : zHp) (rec : Int32 → Int32 → Option Int32) (x2 : Int32) (x3 : Int32) : Option Int32 :=
  if x3 < (10 : Int32) then (if x2 < x0 then (k27 x3) else zlet ((10 : Int32) * x2) fun v1 => zlet (x3 + (1 : Int32)) fun v2 => rec v1 v2) else k42
noncomputable def l_J6_stringSize_0f7a4_16 (k27 : Int32 → Option Int32) (k42 : Option Int32) (x0 : Int32) (x1 : Int32) (hp : zHp) (n : Nat) : Int32 → Int32 → Option Int32 :=
  Nat.rec (motive := fun _ => Int32 → Int32 → Option Int32) (fun _ _ => none) (fun _ rec => b_J6_stringSize_0f7a4_16 k27 k42 x0 x1 hp rec) n
theorem l_J6_stringSize_0f7a4_16_s (k27 : Int32 → Option Int32) (k42 : Option Int32) (x0 : Int32) (x1 : Int32) (hp : zHp) (n : Nat) (x2 : Int32) (x3 : Int32) : l_J6_stringSize_0f7a4_16 k27 k42 x0 x1 hp (n + 1) x2 x3 = b_J6_stringSize_0f7a4_16 k27 k42 x0 x1 hp (l_J6_stringSize_0f7a4_16 k27 k42 x0 x1 hp n) x2 x3 := rfl
set_option maxHeartbeats 4000000 in
set_option maxRecDepth 100000 in
theorem wl_J6_stringSize_0f7a4_16 {P : zX} {ro : Nat → Nat} {sz : Nat} (C : zC P cJ6_stringSize_0f7a4 RJ6 (some .int) 1 0 0 4 ro) {x0 : Int32} {x1 : Int32} {hp : zHp} {k27 : Int32 → Option Int32} (hk27 : ∀ (x3 : Int32), zG P (zoP sz hp) (k27 x3) 27 [(1, .int x1), (3, .int x3)] [] hp sz 0 0) {k42 : Option Int32} (hk42 : zG P (zoP sz hp) (k42) 42 [(1, .int x1)] [] hp sz 0 0) : ∀ (n : Nat) (x2 : Int32) (x3 : Int32), zG P (zoP sz hp) (l_J6_stringSize_0f7a4_16 k27 k42 x0 x1 hp n x2 x3) 16 [(0, .int x0), (1, .int x1), (2, .int x2), (3, .int x3)] [] hp sz 0 0 := by
  intro n
  induction n with
  | zero =>
    intro x2 x3
    show zG P (zoP sz hp) none _ _ _ _ _ _ _
    exact z_none
  | succ n ih =>
    intro x2 x3
    show zG P (zoP sz hp) (b_J6_stringSize_0f7a4_16 k27 k42 x0 x1 hp (l_J6_stringSize_0f7a4_16 k27 k42 x0 x1 hp n) x2 x3) _ _ _ _ _ _ _
    unfold b_J6_stringSize_0f7a4_16
    refine z_iload_n C dJ6_stringSize_0f7a4_16 3 rfl ?_
    refine z_bipush C dJ6_stringSize_0f7a4_17 zbi_10 ?_
    refine z_icmp_ge C 42 dJ6_stringSize_0f7a4_19 (by decide) ?_ ?_
    · refine z_iload_n C dJ6_stringSize_0f7a4_22 0 rfl ?_
      refine z_iload_n C dJ6_stringSize_0f7a4_23 2 rfl ?_
      refine z_icmp_le C 31 dJ6_stringSize_0f7a4_24 (by decide) ?_ ?_
      · exact z_sub [1, 3] rfl (hk27 _)
      refine z_bipush C dJ6_stringSize_0f7a4_31 zbi_10 ?_
      refine z_iload_n C dJ6_stringSize_0f7a4_33 2 rfl ?_
      refine z_imul C dJ6_stringSize_0f7a4_34 ?_
      refine z_istore_nL C (fun v1 => [(0, .int x0), (1, .int x1), (2, .int v1), (3, .int x3)]) dJ6_stringSize_0f7a4_35 (by decide) (fun _ => rfl) (fun v1 => ?_)
      refine z_iincL C 3 (fun v2 => [(0, .int x0), (1, .int x1), (2, .int v1), (3, .int v2)]) dJ6_stringSize_0f7a4_36 rfl zi_1 (by decide) (fun _ => rfl) (fun v2 => ?_)
      refine z_goto C 16 dJ6_stringSize_0f7a4_39 (by decide) ?_
      exact ih _ _
    exact z_sub [1] rfl (hk42)
noncomputable def j_J6_stringSize_0f7a4_11 (x0 : Int32) (x1 : Int32) (hp : zHp) : Option Int32 :=
  l_J6_stringSize_0f7a4_16 (fun p3 => some (p3 + x1)) (some ((10 : Int32) + x1)) x0 x1 hp 1000000 (-10 : Int32) (1 : Int32)
set_option maxHeartbeats 4000000 in
set_option maxRecDepth 100000 in
theorem wj_J6_stringSize_0f7a4_11 {P : zX} {ro : Nat → Nat} {sz : Nat} (C : zC P cJ6_stringSize_0f7a4 RJ6 (some .int) 1 0 0 4 ro) {x0 : Int32} {x1 : Int32} {hp : zHp}  : zG P (zoP sz hp) (j_J6_stringSize_0f7a4_11 x0 x1 hp) 11 [(0, .int x0), (1, .int x1)] [] hp sz 0 0 := by
  unfold j_J6_stringSize_0f7a4_11
  refine z_bipush C dJ6_stringSize_0f7a4_11 zbi_m10 ?_
  refine z_istore_n (lv' := [(0, .int x0), (1, .int x1), (2, .int (-10 : Int32))]) C dJ6_stringSize_0f7a4_13 (by decide) rfl ?_
  refine z_iconst C dJ6_stringSize_0f7a4_14 zi_1 ?_
  refine z_istore_n (lv' := [(0, .int x0), (1, .int x1), (2, .int (-10 : Int32)), (3, .int (1 : Int32))]) C dJ6_stringSize_0f7a4_15 (by decide) rfl ?_
  refine wl_J6_stringSize_0f7a4_16 C (fun p3 => ?_) ?_ _ _ _
  · refine z_iload_n C dJ6_stringSize_0f7a4_27 1 rfl ?_
    refine z_iload_n C dJ6_stringSize_0f7a4_28 0 rfl ?_
    refine z_iadd C dJ6_stringSize_0f7a4_29 ?_
    exact z_ireturnP C dJ6_stringSize_0f7a4_30
  refine z_bipush C dJ6_stringSize_0f7a4_42 zbi_10 ?_
  refine z_iload_n C dJ6_stringSize_0f7a4_44 0 rfl ?_
  refine z_iadd C dJ6_stringSize_0f7a4_45 ?_
  exact z_ireturnP C dJ6_stringSize_0f7a4_46
noncomputable def f_J6_stringSize_0f7a4 (x0 : Int32) (hp : zHp) : Option Int32 :=
  if x0 < 0 then (j_J6_stringSize_0f7a4_11 x0 (1 : Int32) hp) else zlet (-x0) fun v4 => j_J6_stringSize_0f7a4_11 v4 (0 : Int32) hp
set_option maxHeartbeats 4000000 in
set_option maxRecDepth 100000 in
theorem m_J6_stringSize_0f7a4 (l : Launch) (D : va_G) (tc : Nat → ClassId) (ro : Nat → Nat) (b0 : Nat) {x0 : Int32} {hp : zHp} {sz : Nat} {r : Int32} (h : f_J6_stringSize_0f7a4 x0 hp = some r) : zM l yJ6_stringSize_0f7a4 cJ6_stringSize_0f7a4 4 (some .int) 1 0 0 [.int x0] D tc ro b0 hp sz ((zoP sz hp) r).1 ((zoP sz hp) r).2.1 ((zoP sz hp) r).2.2 := by
  refine z_start (o := (zoP sz hp)) (lv := [(0, .int x0)]) h (by decide +kernel) RJ6 rfl rfl (Nat.le_of_ble_eq_true rfl) (fun P C => ?_)
  unfold f_J6_stringSize_0f7a4
  refine z_iconst C dJ6_stringSize_0f7a4_0 zi_1 ?_
  refine z_istore_n (lv' := [(0, .int x0), (1, .int (1 : Int32))]) C dJ6_stringSize_0f7a4_1 (by decide) rfl ?_
  refine z_iload_n C dJ6_stringSize_0f7a4_2 0 rfl ?_
  refine z_if_lt C 11 dJ6_stringSize_0f7a4_3 (by decide) ?_ ?_
  · exact wj_J6_stringSize_0f7a4_11 C
  refine z_iconst C dJ6_stringSize_0f7a4_6 zi_0 ?_
  refine z_istore_n (lv' := [(0, .int x0), (1, .int (0 : Int32))]) C dJ6_stringSize_0f7a4_7 (by decide) rfl ?_
  refine z_iload_n C dJ6_stringSize_0f7a4_8 0 rfl ?_
  refine z_ineg C dJ6_stringSize_0f7a4_9 ?_
  refine z_istore_nL C (fun v4 => [(0, .int v4), (1, .int (0 : Int32))]) dJ6_stringSize_0f7a4_10 (by decide) (fun _ => rfl) (fun v4 => ?_)
  exact wj_J6_stringSize_0f7a4_11 C
noncomputable def b_J6_getChars_ba4f3_22 (ro : Nat → Nat) (k72 : Int32 → Int32 → zHp → Option (Int32 × zHp)) (a2 : Nat) (x6 : Int32) (rec : Int32 → Int32 → zHp → Option (Int32 × zHp)) (x0 : Int32) (x5 : Int32) (h : zHp) : Option (Int32 × zHp) :=
  if (-100 : Int32) < x0 then (k72 x0 x5 h) else (zdiv x0 (100 : Int32)).bind fun v1 => zlet ((v1 * (100 : Int32)) - x0) fun v2 => zlet (x5 + (-1 : Int32)) fun v3 => (zaI h 1 (ro 30) v2).bind fun v4 => (zsB h a2 v3 v4).bind fun h5 => zlet (v3 + (-1 : Int32)) fun v6 => (zaI h5 1 (ro 31) v2).bind fun v7 => (zsB h5 a2 v6 v7).bind fun h8 => rec v1 v6 h8
noncomputable def l_J6_getChars_ba4f3_22 (ro : Nat → Nat) (k72 : Int32 → Int32 → zHp → Option (Int32 × zHp)) (a2 : Nat) (x6 : Int32) (n : Nat) : Int32 → Int32 → zHp → Option (Int32 × zHp) :=
  Nat.rec (motive := fun _ => Int32 → Int32 → zHp → Option (Int32 × zHp)) (fun _ _ _ => none) (fun _ rec => b_J6_getChars_ba4f3_22 ro k72 a2 x6 rec) n
theorem l_J6_getChars_ba4f3_22_s {ro : Nat → Nat} (k72 : Int32 → Int32 → zHp → Option (Int32 × zHp)) (a2 : Nat) (x6 : Int32) (n : Nat) (x0 : Int32) (x5 : Int32) (h : zHp) : l_J6_getChars_ba4f3_22 ro k72 a2 x6 (n + 1) x0 x5 h = b_J6_getChars_ba4f3_22 ro k72 a2 x6 (l_J6_getChars_ba4f3_22 ro k72 a2 x6 n) x0 x5 h := rfl
set_option maxHeartbeats 4000000 in
set_option maxRecDepth 100000 in
theorem wl_J6_getChars_ba4f3_22 {P : zX} {ro : Nat → Nat} {sz : Nat} (C : zC P cJ6_getChars_ba4f3 RJ6 (some .int) 1 0 0 7 ro) {a2 : Nat} {x6 : Int32} {k72 : Int32 → Int32 → zHp → Option (Int32 × zHp)} (hk72 : ∀ (x0 : Int32) (x5 : Int32) (h : zHp), zG P (zoI sz) (k72 x0 x5 h) 72 [(0, .int x0), (2, .ref a2), (5, .int x5), (6, .int x6)] [] h sz 0 0) : ∀ (n : Nat) (x0 : Int32) (x5 : Int32) (h : zHp), zG P (zoI sz) (l_J6_getChars_ba4f3_22 ro k72 a2 x6 n x0 x5 h) 22 [(0, .int x0), (2, .ref a2), (5, .int x5), (6, .int x6)] [] h sz 0 0 := by
  intro n
  induction n with
  | zero =>
    intro x0 x5 h
    show zG P (zoI sz) none _ _ _ _ _ _ _
    exact z_none
  | succ n ih =>
    intro x0 x5 h
    show zG P (zoI sz) (b_J6_getChars_ba4f3_22 ro k72 a2 x6 (l_J6_getChars_ba4f3_22 ro k72 a2 x6 n) x0 x5 h) _ _ _ _ _ _ _
    unfold b_J6_getChars_ba4f3_22
    refine z_iload_n C dJ6_getChars_ba4f3_22 0 rfl ?_
    refine z_bipush C dJ6_getChars_ba4f3_23 zbi_m100 ?_
    refine z_icmp_gt C 72 dJ6_getChars_ba4f3_25 (by decide) ?_ ?_
    · exact hk72 _ _ _
    refine z_iload_n C dJ6_getChars_ba4f3_28 0 rfl ?_
    refine z_bipush C dJ6_getChars_ba4f3_29 zbi_100 ?_
    refine z_idiv C dJ6_getChars_ba4f3_31 (fun v1 => ?_)
    refine z_istore_n (lv' := [(0, .int x0), (2, .ref a2), (3, .int v1), (5, .int x5), (6, .int x6)]) C dJ6_getChars_ba4f3_32 (by decide) rfl ?_
    refine z_iload_n C dJ6_getChars_ba4f3_33 2 rfl ?_
    refine z_bipush C dJ6_getChars_ba4f3_34 zbi_100 ?_
    refine z_imul C dJ6_getChars_ba4f3_36 ?_
    refine z_iload_n C dJ6_getChars_ba4f3_37 0 rfl ?_
    refine z_isub C dJ6_getChars_ba4f3_38 ?_
    refine z_istoreL C (fun v2 => [(0, .int x0), (2, .ref a2), (3, .int v1), (4, .int v2), (5, .int x5), (6, .int x6)]) dJ6_getChars_ba4f3_39 (by decide) (fun _ => rfl) (fun v2 => ?_)
    refine z_iload_n C dJ6_getChars_ba4f3_41 2 rfl ?_
    refine z_istore_n (lv' := [(0, .int v1), (2, .ref a2), (3, .int v1), (4, .int v2), (5, .int x5), (6, .int x6)]) C dJ6_getChars_ba4f3_42 (by decide) rfl ?_
    refine z_aload_n C dJ6_getChars_ba4f3_43 1 rfl ?_
    refine z_iincL C 4 (fun v3 => [(0, .int v1), (2, .ref a2), (3, .int v1), (4, .int v2), (5, .int v3), (6, .int x6)]) dJ6_getChars_ba4f3_44 rfl zi_m1 (by decide) (fun _ => rfl) (fun v3 => ?_)
    refine z_iload C dJ6_getChars_ba4f3_47 4 rfl ?_
    refine z_getD1 C zg_J6_83 dJ6_getChars_ba4f3_49 ?_
    refine z_iload C dJ6_getChars_ba4f3_52 3 rfl ?_
    refine z_baload C dJ6_getChars_ba4f3_54 (fun v4 => ?_)
    refine z_bastore C dJ6_getChars_ba4f3_55 (fun h5 => ?_)
    refine z_aload_n C dJ6_getChars_ba4f3_56 1 rfl ?_
    refine z_iincL C 4 (fun v6 => [(0, .int v1), (2, .ref a2), (3, .int v1), (4, .int v2), (5, .int v6), (6, .int x6)]) dJ6_getChars_ba4f3_57 rfl zi_m1 (by decide) (fun _ => rfl) (fun v6 => ?_)
    refine z_iload C dJ6_getChars_ba4f3_60 4 rfl ?_
    refine z_getD2 C zg_J6_87 dJ6_getChars_ba4f3_62 ?_
    refine z_iload C dJ6_getChars_ba4f3_65 3 rfl ?_
    refine z_baload C dJ6_getChars_ba4f3_67 (fun v7 => ?_)
    refine z_bastore C dJ6_getChars_ba4f3_68 (fun h8 => ?_)
    refine z_goto C 22 dJ6_getChars_ba4f3_69 (by decide) ?_
    exact z_sub [0, 1, 4, 5] rfl (ih _ _ _)
noncomputable def j_J6_getChars_ba4f3_104 (ro : Nat → Nat) (a2 : Nat) (x5 : Int32) (x6 : Int32) (h : zHp) : Option (Int32 × zHp) :=
  if x6 = 0 then (some (x5, h)) else zlet (x5 + (-1 : Int32)) fun v15 => (zsB h a2 v15 (45 : Int32)).bind fun h16 => some (v15, h16)
set_option maxHeartbeats 4000000 in
set_option maxRecDepth 100000 in
theorem wj_J6_getChars_ba4f3_104 {P : zX} {ro : Nat → Nat} {sz : Nat} (C : zC P cJ6_getChars_ba4f3 RJ6 (some .int) 1 0 0 7 ro) {a2 : Nat} {x5 : Int32} {x6 : Int32} {h : zHp}  : zG P (zoI sz) (j_J6_getChars_ba4f3_104 ro a2 x5 x6 h) 104 [(2, .ref a2), (5, .int x5), (6, .int x6)] [] h sz 0 0 := by
  unfold j_J6_getChars_ba4f3_104
  refine z_iload C dJ6_getChars_ba4f3_104 2 rfl ?_
  refine z_if_eq C 118 dJ6_getChars_ba4f3_106 (by decide) ?_ ?_
  · refine z_iload C dJ6_getChars_ba4f3_118 1 rfl ?_
    exact z_ireturn C dJ6_getChars_ba4f3_120
  refine z_aload_n C dJ6_getChars_ba4f3_109 0 rfl ?_
  refine z_iincL C 1 (fun v15 => [(2, .ref a2), (5, .int v15), (6, .int x6)]) dJ6_getChars_ba4f3_110 rfl zi_m1 (by decide) (fun _ => rfl) (fun v15 => ?_)
  refine z_iload C dJ6_getChars_ba4f3_113 1 rfl ?_
  refine z_bipush C dJ6_getChars_ba4f3_115 zbi_45 ?_
  refine z_bastore C dJ6_getChars_ba4f3_117 (fun h16 => ?_)
  refine z_iload C dJ6_getChars_ba4f3_118 1 rfl ?_
  exact z_ireturn C dJ6_getChars_ba4f3_120
noncomputable def j_J6_getChars_ba4f3_22 (ro : Nat → Nat) (x0 : Int32) (a2 : Nat) (x5 : Int32) (x6 : Int32) (h : zHp) : Option (Int32 × zHp) :=
  l_J6_getChars_ba4f3_22 ro (fun p9 p10 h11 => zlet (p10 + (-1 : Int32)) fun v12 => (zaI h11 1 (ro 30) (-p9)).bind fun v13 => (zsB h11 a2 v12 v13).bind fun h14 => if p9 < (-9 : Int32) then (zlet (v12 + (-1 : Int32)) fun v17 => (zaI h14 1 (ro 31) (-p9)).bind fun v18 => (zsB h14 a2 v17 v18).bind fun h19 => j_J6_getChars_ba4f3_104 ro a2 v17 x6 h19) else j_J6_getChars_ba4f3_104 ro a2 v12 x6 h14) a2 x6 1000000 x0 x5 h
set_option maxHeartbeats 4000000 in
set_option maxRecDepth 100000 in
theorem wj_J6_getChars_ba4f3_22 {P : zX} {ro : Nat → Nat} {sz : Nat} (C : zC P cJ6_getChars_ba4f3 RJ6 (some .int) 1 0 0 7 ro) {x0 : Int32} {a2 : Nat} {x5 : Int32} {x6 : Int32} {h : zHp}  : zG P (zoI sz) (j_J6_getChars_ba4f3_22 ro x0 a2 x5 x6 h) 22 [(0, .int x0), (2, .ref a2), (5, .int x5), (6, .int x6)] [] h sz 0 0 := by
  unfold j_J6_getChars_ba4f3_22
  refine wl_J6_getChars_ba4f3_22 C (fun p9 p10 h11 => ?_) _ _ _ _
  refine z_aload_n C dJ6_getChars_ba4f3_72 1 rfl ?_
  refine z_iincL C 2 (fun v12 => [(0, .int p9), (2, .ref a2), (5, .int v12), (6, .int x6)]) dJ6_getChars_ba4f3_73 rfl zi_m1 (by decide) (fun _ => rfl) (fun v12 => ?_)
  refine z_iload C dJ6_getChars_ba4f3_76 2 rfl ?_
  refine z_getD1 C zg_J6_83 dJ6_getChars_ba4f3_78 ?_
  refine z_iload_n C dJ6_getChars_ba4f3_81 0 rfl ?_
  refine z_ineg C dJ6_getChars_ba4f3_82 ?_
  refine z_baload C dJ6_getChars_ba4f3_83 (fun v13 => ?_)
  refine z_bastore C dJ6_getChars_ba4f3_84 (fun h14 => ?_)
  refine z_iload_n C dJ6_getChars_ba4f3_85 0 rfl ?_
  refine z_bipush C dJ6_getChars_ba4f3_86 zbi_m9 ?_
  refine z_icmp_ge C 104 dJ6_getChars_ba4f3_88 (by decide) ?_ ?_
  · refine z_aload_n C dJ6_getChars_ba4f3_91 1 rfl ?_
    refine z_iincL C 2 (fun v17 => [(0, .int p9), (2, .ref a2), (5, .int v17), (6, .int x6)]) dJ6_getChars_ba4f3_92 rfl zi_m1 (by decide) (fun _ => rfl) (fun v17 => ?_)
    refine z_iload C dJ6_getChars_ba4f3_95 2 rfl ?_
    refine z_getD2 C zg_J6_87 dJ6_getChars_ba4f3_97 ?_
    refine z_iload_n C dJ6_getChars_ba4f3_100 0 rfl ?_
    refine z_ineg C dJ6_getChars_ba4f3_101 ?_
    refine z_baload C dJ6_getChars_ba4f3_102 (fun v18 => ?_)
    refine z_bastore C dJ6_getChars_ba4f3_103 (fun h19 => ?_)
    exact z_sub [1, 2, 3] rfl (wj_J6_getChars_ba4f3_104 C)
  exact z_sub [1, 2, 3] rfl (wj_J6_getChars_ba4f3_104 C)
noncomputable def j_J6_getChars_ba4f3_12 (ro : Nat → Nat) (x0 : Int32) (a2 : Nat) (x5 : Int32) (s0 : Int32) (h : zHp) : Option (Int32 × zHp) :=
  if s0 = 0 then (zlet (-x0) fun v20 => j_J6_getChars_ba4f3_22 ro v20 a2 x5 s0 h) else j_J6_getChars_ba4f3_22 ro x0 a2 x5 s0 h
set_option maxHeartbeats 4000000 in
set_option maxRecDepth 100000 in
theorem wj_J6_getChars_ba4f3_12 {P : zX} {ro : Nat → Nat} {sz : Nat} (C : zC P cJ6_getChars_ba4f3 RJ6 (some .int) 1 0 0 7 ro) {x0 : Int32} {a2 : Nat} {x5 : Int32} {s0 : Int32} {h : zHp}  : zG P (zoI sz) (j_J6_getChars_ba4f3_12 ro x0 a2 x5 s0 h) 12 [(0, .int x0), (2, .ref a2), (5, .int x5)] [.int s0] h sz 0 0 := by
  unfold j_J6_getChars_ba4f3_12
  refine z_istore (lv' := [(0, .int x0), (2, .ref a2), (5, .int x5), (6, .int s0)]) C dJ6_getChars_ba4f3_12 (by decide) rfl ?_
  refine z_iload C dJ6_getChars_ba4f3_14 3 rfl ?_
  refine z_if_ne C 22 dJ6_getChars_ba4f3_16 (by decide) ?_ ?_
  · refine z_iload_n C dJ6_getChars_ba4f3_19 0 rfl ?_
    refine z_ineg C dJ6_getChars_ba4f3_20 ?_
    refine z_istore_nL C (fun v20 => [(0, .int v20), (2, .ref a2), (5, .int x5), (6, .int s0)]) dJ6_getChars_ba4f3_21 (by decide) (fun _ => rfl) (fun v20 => ?_)
    exact wj_J6_getChars_ba4f3_22 C
  exact wj_J6_getChars_ba4f3_22 C
noncomputable def f_J6_getChars_ba4f3 (ro : Nat → Nat) (x0 : Int32) (x1 : Int32) (a2 : Nat) (hp : zHp) : Option (Int32 × zHp) :=
  if x0 < 0 then (j_J6_getChars_ba4f3_12 ro x0 a2 x1 (1 : Int32) hp) else j_J6_getChars_ba4f3_12 ro x0 a2 x1 (0 : Int32) hp
set_option maxHeartbeats 4000000 in
set_option maxRecDepth 100000 in
theorem m_J6_getChars_ba4f3 (l : Launch) (D : va_G) (tc : Nat → ClassId) (ro : Nat → Nat) (b0 : Nat) {x0 : Int32} {x1 : Int32} {a2 : Nat} {hp : zHp} {sz : Nat} {r : (Int32 × zHp)} (h : f_J6_getChars_ba4f3 ro x0 x1 a2 hp = some r) : zM l yJ6_getChars_ba4f3 cJ6_getChars_ba4f3 7 (some .int) 1 0 0 [.int x0, .int x1, .ref a2] D tc ro b0 hp sz ((zoI sz) r).1 ((zoI sz) r).2.1 ((zoI sz) r).2.2 := by
  refine z_start (o := (zoI sz)) (lv := [(0, .int x0), (1, .int x1), (2, .ref a2)]) h (by decide +kernel) RJ6 rfl rfl (Nat.le_of_ble_eq_true rfl) (fun P C => ?_)
  unfold f_J6_getChars_ba4f3
  refine z_iload_n C dJ6_getChars_ba4f3_0 1 rfl ?_
  refine z_istore (lv' := [(0, .int x0), (1, .int x1), (2, .ref a2), (5, .int x1)]) C dJ6_getChars_ba4f3_1 (by decide) rfl ?_
  refine z_iload_n C dJ6_getChars_ba4f3_3 0 rfl ?_
  refine z_if_ge C 11 dJ6_getChars_ba4f3_4 (by decide) ?_ ?_
  · refine z_iconst C dJ6_getChars_ba4f3_7 zi_1 ?_
    refine z_goto C 12 dJ6_getChars_ba4f3_8 (by decide) ?_
    exact z_sub [0, 2, 3] rfl (wj_J6_getChars_ba4f3_12 C)
  refine z_iconst C dJ6_getChars_ba4f3_11 zi_0 ?_
  exact z_sub [0, 2, 3] rfl (wj_J6_getChars_ba4f3_12 C)
noncomputable def j_J5_append_c97b9_48 (ro : Nat → Nat) (mc ms : Nat) (a0 : Nat) (x3 : Int32) (h : zHp) (sz : Nat) (uc : Nat) (us : Nat) : Option (Nat × zHp × Nat) :=
  (zpV h a0 9 3 (.int x3)).bind fun h12 => zchk (uc ≤ mc ∧ us ≤ ms) <| some (a0, h12, sz)
set_option maxHeartbeats 4000000 in
set_option maxRecDepth 100000 in
theorem wj_J5_append_c97b9_48 {P : zX} {ro : Nat → Nat} {mc ms : Nat} (C : zC P cJ5_append_c97b9 RJ5 (some (.object "java/lang/AbstractStringBuilder")) 4 mc ms 4 ro) {a0 : Nat} {x3 : Int32} {h : zHp} {sz : Nat} {uc : Nat} {us : Nat}  : zG P zoRA (j_J5_append_c97b9_48 ro mc ms a0 x3 h sz uc us) 48 [(0, .ref a0), (3, .int x3)] [] h sz uc us := by
  unfold j_J5_append_c97b9_48
  refine z_aload_n C dJ5_append_c97b9_48 0 rfl ?_
  refine z_iload_n C dJ5_append_c97b9_49 1 rfl ?_
  refine z_putI C zp_J5_79 dJ5_append_c97b9_50 (fun h12 => ?_)
  refine z_aload_n C dJ5_append_c97b9_53 0 rfl ?_
  refine z_chk (fun q13 => ?_)
  exact z_areturnA C (Or.inl ⟨_, rfl⟩) dJ5_append_c97b9_54 q13
noncomputable def f_J5_append_c97b9 (ro : Nat → Nat) (mc ms : Nat) (a0 : Nat) (x1 : Int32) (hp : zHp) (sz : Nat) : Option (Nat × zHp × Nat) :=
  (zis hp a0 9).bind fun _ => (zgI hp a0 9 3).bind fun v1 => (f_J6_stringSize_0f7a4 x1 hp).bind fun v2 => zlet (v1 + v2) fun v3 => zchk (0 + mc ≤ mc ∧ 0 + ms ≤ ms) <| zb2 (f_J5_ensureCapacityInternal_d00df mc ms a0 v3 hp sz) fun h5 z6 => (f_J5_isLatin1_aae02 a0 h5).bind fun v7 => if v7 = 0 then ((zgR h5 a0 9 0).bind fun r8 => none) else (zgR h5 a0 9 0).bind fun r9 => zb2 (f_J6_getChars_ba4f3 ro x1 v3 r9 h5) fun v10 h11 => j_J5_append_c97b9_48 ro mc ms a0 v3 h11 z6 ((0 + mc)) ((0 + ms))
set_option maxHeartbeats 4000000 in
set_option maxRecDepth 100000 in
theorem m_J5_append_c97b9 (l : Launch) (D : va_G) (tc : Nat → ClassId) (ro : Nat → Nat) (b0 : Nat) {mc ms : Nat} {a0 : Nat} {x1 : Int32} {hp : zHp} {sz : Nat} {r : (Nat × zHp × Nat)} (h : f_J5_append_c97b9 ro mc ms a0 x1 hp sz = some r) : zis hp a0 9 = some () ∧ zM l yJ5_append_c97b9 cJ5_append_c97b9 4 (some (.object "java/lang/AbstractStringBuilder")) 4 mc ms [.ref a0, .int x1] D tc ro b0 hp sz (zoRA r).1 (zoRA r).2.1 (zoRA r).2.2 := by
  refine ⟨?_, z_start (o := zoRA) (lv := [(0, .ref a0), (1, .int x1)]) h (by decide +kernel) RJ5 rfl rfl (Nat.le_of_ble_eq_true rfl) (fun P C => ?_)⟩
  · unfold f_J5_append_c97b9 at h
    cases hc : zis hp a0 9 with
    | none => rw [hc] at h; cases h
    | some u => rfl
  unfold f_J5_append_c97b9
  refine z_is ?_
  refine z_aload_n C dJ5_append_c97b9_0 0 rfl ?_
  refine z_getI C zf_J5_79 dJ5_append_c97b9_1 (fun v1 => ?_)
  refine z_istore_n (lv' := [(0, .ref a0), (1, .int x1), (2, .int v1)]) C dJ5_append_c97b9_4 (by decide) rfl ?_
  refine z_iload_n C dJ5_append_c97b9_5 2 rfl ?_
  refine z_iload_n C dJ5_append_c97b9_6 1 rfl ?_
  refine z_callSp C zs_J5_245 [.int x1] (fun l D tc b0 r h => m_J6_stringSize_0f7a4 l D tc ro b0 h) dJ5_append_c97b9_7 rfl rfl (Nat.le_of_ble_eq_true rfl) (by decide) (by decide) ⟨Nat.zero_le _, Nat.zero_le _⟩ (fun v2 => ?_)
  refine z_iadd C dJ5_append_c97b9_10 ?_
  refine z_istore_nL C (fun v3 => [(0, .ref a0), (1, .int x1), (2, .int v1), (3, .int v3)]) dJ5_append_c97b9_11 (by decide) (fun _ => rfl) (fun v3 => ?_)
  refine z_aload_n C dJ5_append_c97b9_12 0 rfl ?_
  refine z_iload_n C dJ5_append_c97b9_13 3 rfl ?_
  refine z_chk (fun q4 => ?_)
  refine z_cUv C zcu_J5_100 [.int v3] (fun l D tc b0 r h => m_J5_ensureCapacityInternal_d00df l D tc ro b0 h) dJ5_append_c97b9_14 rfl rfl (Nat.le_of_ble_eq_true rfl) (by decide) (by decide) q4 (fun h5 z6 => ?_)
  refine z_aload_n C dJ5_append_c97b9_17 0 rfl ?_
  refine z_cUp C zcu_J5_83 [] (fun l D tc b0 r h => m_J5_isLatin1_aae02 l D tc ro b0 h) dJ5_append_c97b9_18 rfl rfl (Nat.le_of_ble_eq_true rfl) (by decide) (by decide) q4 (fun v7 => ?_)
  refine z_if_eq C 37 dJ5_append_c97b9_21 (by decide) ?_ ?_
  · refine z_iload_n C dJ5_append_c97b9_37 1 rfl ?_
    refine z_iload_n C dJ5_append_c97b9_38 2 rfl ?_
    refine z_iload_n C dJ5_append_c97b9_39 3 rfl ?_
    refine z_aload_n C dJ5_append_c97b9_40 0 rfl ?_
    refine z_getR C zf_J5_15 dJ5_append_c97b9_41 (fun r8 => ?_)
    exact z_none
  refine z_iload_n C dJ5_append_c97b9_24 1 rfl ?_
  refine z_iload_n C dJ5_append_c97b9_25 3 rfl ?_
  refine z_aload_n C dJ5_append_c97b9_26 0 rfl ?_
  refine z_getR C zf_J5_15 dJ5_append_c97b9_27 (fun r9 => ?_)
  refine z_callSi C zs_J5_248 [.int x1, .int v3, .ref r9] (fun l D tc b0 r h => m_J6_getChars_ba4f3 l D tc ro b0 h) dJ5_append_c97b9_30 rfl rfl (Nat.le_of_ble_eq_true rfl) (by decide) (by decide) q4 (fun v10 h11 => ?_)
  refine z_pop C dJ5_append_c97b9_33 rfl ?_
  refine z_goto C 48 dJ5_append_c97b9_34 (by decide) ?_
  exact z_sub [0, 3] rfl (wj_J5_append_c97b9_48 C)
noncomputable def f_J4_append_cf468 (mc ms : Nat) (a0 : Nat) (x1 : Int32) (hp : zHp) (sz : Nat) : Option (Nat × zHp × Nat) :=
  (zis hp a0 9).bind fun _ => zchk (0 + mc ≤ mc ∧ 0 + ms ≤ ms) <| zb3 (f_J5_append_3fe6f mc ms a0 x1 hp sz) fun r4 h2 z3 => some (a0, h2, z3)
set_option maxHeartbeats 4000000 in
set_option maxRecDepth 100000 in
theorem m_J4_append_cf468 (l : Launch) (D : va_G) (tc : Nat → ClassId) (ro : Nat → Nat) (b0 : Nat) {mc ms : Nat} {a0 : Nat} {x1 : Int32} {hp : zHp} {sz : Nat} {r : (Nat × zHp × Nat)} (h : f_J4_append_cf468 mc ms a0 x1 hp sz = some r) : zis hp a0 9 = some () ∧ zM l yJ4_append_cf468 cJ4_append_cf468 2 (some (.object "java/lang/StringBuilder")) 5 mc ms [.ref a0, .int x1] D tc ro b0 hp sz (zoRA r).1 (zoRA r).2.1 (zoRA r).2.2 := by
  refine ⟨?_, z_start (o := zoRA) (lv := [(0, .ref a0), (1, .int x1)]) h (by decide +kernel) RJ4 rfl rfl (Nat.le_of_ble_eq_true rfl) (fun P C => ?_)⟩
  · unfold f_J4_append_cf468 at h
    cases hc : zis hp a0 9 with
    | none => rw [hc] at h; cases h
    | some u => rfl
  unfold f_J4_append_cf468
  refine z_is ?_
  refine z_aload_n C dJ4_append_cf468_0 0 rfl ?_
  refine z_iload_n C dJ4_append_cf468_1 1 rfl ?_
  refine z_chk (fun q1 => ?_)
  refine z_cSUr C zsu_J4_50 [.int x1] (fun l D tc b0 r h => m_J5_append_3fe6f l D tc ro b0 h) dJ4_append_cf468_2 rfl rfl (Nat.le_of_ble_eq_true rfl) (by decide) (by decide) q1 (fun r4 h2 z3 => ?_)
  refine z_pop C dJ4_append_cf468_5 rfl ?_
  refine z_aload_n C dJ4_append_cf468_6 0 rfl ?_
  exact z_areturnA C (Or.inl ⟨_, rfl⟩) dJ4_append_cf468_7 q1
noncomputable def f_J4_append_15ec4 (mc ms : Nat) (a0 : Nat) (a1 : Nat) (hp : zHp) (sz : Nat) : Option (Nat × zHp × Nat) :=
  (zis hp a0 9).bind fun _ => zchk (0 + mc ≤ mc ∧ 0 + ms ≤ ms) <| zb3 (f_J5_append_cf1ce mc ms a0 a1 hp sz) fun r4 h2 z3 => some (a0, h2, z3)
set_option maxHeartbeats 4000000 in
set_option maxRecDepth 100000 in
theorem m_J4_append_15ec4 (l : Launch) (D : va_G) (tc : Nat → ClassId) (ro : Nat → Nat) (b0 : Nat) {mc ms : Nat} {a0 : Nat} {a1 : Nat} {hp : zHp} {sz : Nat} {r : (Nat × zHp × Nat)} (h : f_J4_append_15ec4 mc ms a0 a1 hp sz = some r) : zis hp a0 9 = some () ∧ zM l yJ4_append_15ec4 cJ4_append_15ec4 2 (some (.object "java/lang/StringBuilder")) 5 mc ms [.ref a0, .ref a1] D tc ro b0 hp sz (zoRA r).1 (zoRA r).2.1 (zoRA r).2.2 := by
  refine ⟨?_, z_start (o := zoRA) (lv := [(0, .ref a0), (1, .ref a1)]) h (by decide +kernel) RJ4 rfl rfl (Nat.le_of_ble_eq_true rfl) (fun P C => ?_)⟩
  · unfold f_J4_append_15ec4 at h
    cases hc : zis hp a0 9 with
    | none => rw [hc] at h; cases h
    | some u => rfl
  unfold f_J4_append_15ec4
  refine z_is ?_
  refine z_aload_n C dJ4_append_15ec4_0 0 rfl ?_
  refine z_aload_n C dJ4_append_15ec4_1 1 rfl ?_
  refine z_chk (fun q1 => ?_)
  refine z_cSUr C zsu_J4_29 [.ref a1] (fun l D tc b0 r h => m_J5_append_cf1ce l D tc ro b0 h) dJ4_append_15ec4_2 rfl rfl (Nat.le_of_ble_eq_true rfl) (by decide) (by decide) q1 (fun r4 h2 z3 => ?_)
  refine z_pop C dJ4_append_15ec4_5 rfl ?_
  refine z_aload_n C dJ4_append_15ec4_6 0 rfl ?_
  exact z_areturnA C (Or.inl ⟨_, rfl⟩) dJ4_append_15ec4_7 q1
noncomputable def f_J4_append_bf812 (ro : Nat → Nat) (mc ms : Nat) (a0 : Nat) (x1 : Int32) (hp : zHp) (sz : Nat) : Option (Nat × zHp × Nat) :=
  (zis hp a0 9).bind fun _ => zchk (0 + mc ≤ mc ∧ 0 + ms ≤ ms) <| zb3 (f_J5_append_c97b9 ro mc ms a0 x1 hp sz) fun r4 h2 z3 => some (a0, h2, z3)
set_option maxHeartbeats 4000000 in
set_option maxRecDepth 100000 in
theorem m_J4_append_bf812 (l : Launch) (D : va_G) (tc : Nat → ClassId) (ro : Nat → Nat) (b0 : Nat) {mc ms : Nat} {a0 : Nat} {x1 : Int32} {hp : zHp} {sz : Nat} {r : (Nat × zHp × Nat)} (h : f_J4_append_bf812 ro mc ms a0 x1 hp sz = some r) : zis hp a0 9 = some () ∧ zM l yJ4_append_bf812 cJ4_append_bf812 2 (some (.object "java/lang/StringBuilder")) 5 mc ms [.ref a0, .int x1] D tc ro b0 hp sz (zoRA r).1 (zoRA r).2.1 (zoRA r).2.2 := by
  refine ⟨?_, z_start (o := zoRA) (lv := [(0, .ref a0), (1, .int x1)]) h (by decide +kernel) RJ4 rfl rfl (Nat.le_of_ble_eq_true rfl) (fun P C => ?_)⟩
  · unfold f_J4_append_bf812 at h
    cases hc : zis hp a0 9 with
    | none => rw [hc] at h; cases h
    | some u => rfl
  unfold f_J4_append_bf812
  refine z_is ?_
  refine z_aload_n C dJ4_append_bf812_0 0 rfl ?_
  refine z_iload_n C dJ4_append_bf812_1 1 rfl ?_
  refine z_chk (fun q1 => ?_)
  refine z_cSUr C zsu_J4_53 [.int x1] (fun l D tc b0 r h => m_J5_append_c97b9 l D tc ro b0 h) dJ4_append_bf812_2 rfl rfl (Nat.le_of_ble_eq_true rfl) (by decide) (by decide) q1 (fun r4 h2 z3 => ?_)
  refine z_pop C dJ4_append_bf812_5 rfl ?_
  refine z_aload_n C dJ4_append_bf812_6 0 rfl ?_
  exact z_areturnA C (Or.inl ⟨_, rfl⟩) dJ4_append_bf812_7 q1
noncomputable def f_J5_length_8abf5 (a0 : Nat) (hp : zHp) : Option Int32 :=
  (zis hp a0 9).bind fun _ => (zgI hp a0 9 3).bind fun v1 => some v1
set_option maxHeartbeats 4000000 in
set_option maxRecDepth 100000 in
theorem m_J5_length_8abf5 (l : Launch) (D : va_G) (tc : Nat → ClassId) (ro : Nat → Nat) (b0 : Nat) {a0 : Nat} {hp : zHp} {sz : Nat} {r : Int32} (h : f_J5_length_8abf5 a0 hp = some r) : zis hp a0 9 = some () ∧ zM l yJ5_length_8abf5 cJ5_length_8abf5 1 (some .int) 1 0 0 [.ref a0] D tc ro b0 hp sz ((zoP sz hp) r).1 ((zoP sz hp) r).2.1 ((zoP sz hp) r).2.2 := by
  refine ⟨?_, z_start (o := (zoP sz hp)) (lv := [(0, .ref a0)]) h (by decide +kernel) RJ5 rfl rfl (Nat.le_of_ble_eq_true rfl) (fun P C => ?_)⟩
  · unfold f_J5_length_8abf5 at h
    cases hc : zis hp a0 9 with
    | none => rw [hc] at h; cases h
    | some u => rfl
  unfold f_J5_length_8abf5
  refine z_is ?_
  refine z_aload_n C dJ5_length_8abf5_0 0 rfl ?_
  refine z_getI C zf_J5_79 dJ5_length_8abf5_1 (fun v1 => ?_)
  exact z_ireturnP C dJ5_length_8abf5_4
noncomputable def f_J4_length_8abf5 (a0 : Nat) (hp : zHp) : Option Int32 :=
  (zis hp a0 9).bind fun _ => (f_J5_length_8abf5 a0 hp).bind fun v1 => some v1
set_option maxHeartbeats 4000000 in
set_option maxRecDepth 100000 in
theorem m_J4_length_8abf5 (l : Launch) (D : va_G) (tc : Nat → ClassId) (ro : Nat → Nat) (b0 : Nat) {a0 : Nat} {hp : zHp} {sz : Nat} {r : Int32} (h : f_J4_length_8abf5 a0 hp = some r) : zis hp a0 9 = some () ∧ zM l yJ4_length_8abf5 cJ4_length_8abf5 1 (some .int) 2 0 0 [.ref a0] D tc ro b0 hp sz ((zoP sz hp) r).1 ((zoP sz hp) r).2.1 ((zoP sz hp) r).2.2 := by
  refine ⟨?_, z_start (o := (zoP sz hp)) (lv := [(0, .ref a0)]) h (by decide +kernel) RJ4 rfl rfl (Nat.le_of_ble_eq_true rfl) (fun P C => ?_)⟩
  · unfold f_J4_length_8abf5 at h
    cases hc : zis hp a0 9 with
    | none => rw [hc] at h; cases h
    | some u => rfl
  unfold f_J4_length_8abf5
  refine z_is ?_
  refine z_aload_n C dJ4_length_8abf5_0 0 rfl ?_
  refine z_cSUp C zsu_J4_343 [] (fun l D tc b0 r h => m_J5_length_8abf5 l D tc ro b0 h) dJ4_length_8abf5_1 rfl rfl (Nat.le_of_ble_eq_true rfl) (by decide) (by decide) ⟨Nat.le_of_ble_eq_true rfl, Nat.le_of_ble_eq_true rfl⟩ (fun v1 => ?_)
  exact z_ireturnP C dJ4_length_8abf5_4
noncomputable def f_J7_copyOfRangeByte_39247 (mc ms : Nat) (a0 : Nat) (x1 : Int32) (x2 : Int32) (hp : zHp) (sz : Nat) : Option (Nat × zHp × Nat) :=
  (f_J7_checkLength_df160 x1 x2 hp).bind fun _ => zlet (x2 - x1) fun v1 => zchk (¬ v1 < 0 ∧ v1.toNatClampNeg ≤ 60000 ∧ 0 + 1 ≤ mc ∧ 0 + v1.toNatClampNeg ≤ ms) <| zlet (zup hp sz (.inl (1, v1.toNatClampNeg, .inl (fun _ => 0)))) fun h3 => (zlen h3 1 a0).bind fun v4 => (zcpB h3 a0 x1 sz (0 : Int32) (zmin (v4 - x1) v1)).bind fun h5 => some (sz, h5, (sz + 1))
set_option maxHeartbeats 4000000 in
set_option maxRecDepth 100000 in
theorem m_J7_copyOfRangeByte_39247 (l : Launch) (D : va_G) (tc : Nat → ClassId) (ro : Nat → Nat) (b0 : Nat) {mc ms : Nat} {a0 : Nat} {x1 : Int32} {x2 : Int32} {hp : zHp} {sz : Nat} {r : (Nat × zHp × Nat)} (h : f_J7_copyOfRangeByte_39247 mc ms a0 x1 x2 hp sz = some r) : zM l yJ7_copyOfRangeByte_39247 cJ7_copyOfRangeByte_39247 5 (some (.array .byte)) 2 mc ms [.ref a0, .int x1, .int x2] D tc ro b0 hp sz (zoRA r).1 (zoRA r).2.1 (zoRA r).2.2 := by
  refine z_start (o := zoRA) (lv := [(0, .ref a0), (1, .int x1), (2, .int x2)]) h (by decide +kernel) RJ7 rfl rfl (Nat.le_of_ble_eq_true rfl) (fun P C => ?_)
  unfold f_J7_copyOfRangeByte_39247
  refine z_iload_n C dJ7_copyOfRangeByte_39247_0 1 rfl ?_
  refine z_iload_n C dJ7_copyOfRangeByte_39247_1 2 rfl ?_
  refine z_callSpu C zs_J7_343 [.int x1, .int x2] (fun l D tc b0 r h => m_J7_checkLength_df160 l D tc ro b0 h) dJ7_copyOfRangeByte_39247_2 rfl rfl (Nat.le_of_ble_eq_true rfl) (by decide) (by decide) ⟨Nat.zero_le _, Nat.zero_le _⟩ (fun _ => ?_)
  refine z_iload_n C dJ7_copyOfRangeByte_39247_5 2 rfl ?_
  refine z_iload_n C dJ7_copyOfRangeByte_39247_6 1 rfl ?_
  refine z_isub C dJ7_copyOfRangeByte_39247_7 ?_
  refine z_istore_nL C (fun v1 => [(0, .ref a0), (1, .int x1), (2, .int x2), (3, .int v1)]) dJ7_copyOfRangeByte_39247_8 (by decide) (fun _ => rfl) (fun v1 => ?_)
  refine z_iload_n C dJ7_copyOfRangeByte_39247_9 3 rfl ?_
  refine z_chk (fun q2 => ?_)
  refine z_newarr (t := 1) (ty := .byte) (A := .inl (fun _ => 0)) C rfl (fun _ => rfl) (by decide) (fun _ _ h => h) (fun _ _ => rfl) zar_byte dJ7_copyOfRangeByte_39247_10 (by decide) q2 (fun h3 => ?_)
  refine z_astore (lv' := [(0, .ref a0), (1, .int x1), (2, .int x2), (3, .int v1), (4, .ref sz)]) C dJ7_copyOfRangeByte_39247_12 (by decide) rfl ?_
  refine z_aload_n C dJ7_copyOfRangeByte_39247_14 0 rfl ?_
  refine z_iload_n C dJ7_copyOfRangeByte_39247_15 1 rfl ?_
  refine z_aload C dJ7_copyOfRangeByte_39247_16 4 rfl ?_
  refine z_iconst C dJ7_copyOfRangeByte_39247_18 zi_0 ?_
  refine z_aload_n C dJ7_copyOfRangeByte_39247_19 0 rfl ?_
  refine z_arraylength (t := 1) (ty := .byte) C (fun _ => rfl) (by decide) dJ7_copyOfRangeByte_39247_20 (fun v4 => ?_)
  refine z_iload_n C dJ7_copyOfRangeByte_39247_21 1 rfl ?_
  refine z_isub C dJ7_copyOfRangeByte_39247_22 ?_
  refine z_iload_n C dJ7_copyOfRangeByte_39247_23 3 rfl ?_
  refine z_mmin C zm_J7_304 dJ7_copyOfRangeByte_39247_24 (Nat.le_of_ble_eq_true rfl) (by decide) ⟨q2.2.2.1, q2.2.2.2⟩ ?_
  refine z_copyB C zy_J7_150 dJ7_copyOfRangeByte_39247_27 (Nat.le_of_ble_eq_true rfl) (by decide) (fun h5 => ?_)
  refine z_aload C dJ7_copyOfRangeByte_39247_30 4 rfl ?_
  exact z_areturnA C (Or.inr ⟨_, rfl⟩) dJ7_copyOfRangeByte_39247_32 ⟨q2.2.2.1, q2.2.2.2⟩
noncomputable def j_J7_copyOfRange_39247_10 (mc ms : Nat) (a0 : Nat) (x1 : Int32) (x2 : Int32) (h : zHp) (sz : Nat) (uc : Nat) (us : Nat) : Option (Nat × zHp × Nat) :=
  zchk (uc + mc ≤ mc ∧ us + ms ≤ ms) <| zb3 (f_J7_copyOfRangeByte_39247 mc ms a0 x1 x2 h sz) fun r4 h2 z3 => some (r4, h2, z3)
set_option maxHeartbeats 4000000 in
set_option maxRecDepth 100000 in
theorem wj_J7_copyOfRange_39247_10 {P : zX} {ro : Nat → Nat} {mc ms : Nat} (C : zC P cJ7_copyOfRange_39247 RJ7 (some (.array .byte)) 3 mc ms 3 ro) {a0 : Nat} {x1 : Int32} {x2 : Int32} {h : zHp} {sz : Nat} {uc : Nat} {us : Nat}  : zG P zoRA (j_J7_copyOfRange_39247_10 mc ms a0 x1 x2 h sz uc us) 10 [(0, .ref a0), (1, .int x1), (2, .int x2)] [] h sz uc us := by
  unfold j_J7_copyOfRange_39247_10
  refine z_aload_n C dJ7_copyOfRange_39247_10 0 rfl ?_
  refine z_iload_n C dJ7_copyOfRange_39247_11 1 rfl ?_
  refine z_iload_n C dJ7_copyOfRange_39247_12 2 rfl ?_
  refine z_chk (fun q1 => ?_)
  refine z_cSr C zs_J7_339 [.ref a0, .int x1, .int x2] (fun l D tc b0 r h => m_J7_copyOfRangeByte_39247 l D tc ro b0 h) dJ7_copyOfRange_39247_13 rfl rfl (Nat.le_of_ble_eq_true rfl) (by decide) (by decide) q1 (fun r4 h2 z3 => ?_)
  exact z_areturnA C (Or.inr ⟨_, rfl⟩) dJ7_copyOfRange_39247_16 q1
noncomputable def f_J7_copyOfRange_39247 (mc ms : Nat) (a0 : Nat) (x1 : Int32) (x2 : Int32) (hp : zHp) (sz : Nat) : Option (Nat × zHp × Nat) :=
  if x1 = 0 then ((zlen hp 1 a0).bind fun v5 => if x2 = v5 then ((zlen hp 1 a0).bind fun v6 => zchk (0 + 1 ≤ mc ∧ 0 + v6.toNatClampNeg ≤ ms) <| (zcln hp a0 sz).bind fun h8 => some (sz, h8, (sz + 1))) else j_J7_copyOfRange_39247_10 mc ms a0 x1 x2 hp sz 0 0) else j_J7_copyOfRange_39247_10 mc ms a0 x1 x2 hp sz 0 0
set_option maxHeartbeats 4000000 in
set_option maxRecDepth 100000 in
theorem m_J7_copyOfRange_39247 (l : Launch) (D : va_G) (tc : Nat → ClassId) (ro : Nat → Nat) (b0 : Nat) {mc ms : Nat} {a0 : Nat} {x1 : Int32} {x2 : Int32} {hp : zHp} {sz : Nat} {r : (Nat × zHp × Nat)} (h : f_J7_copyOfRange_39247 mc ms a0 x1 x2 hp sz = some r) : zM l yJ7_copyOfRange_39247 cJ7_copyOfRange_39247 3 (some (.array .byte)) 3 mc ms [.ref a0, .int x1, .int x2] D tc ro b0 hp sz (zoRA r).1 (zoRA r).2.1 (zoRA r).2.2 := by
  refine z_start (o := zoRA) (lv := [(0, .ref a0), (1, .int x1), (2, .int x2)]) h (by decide +kernel) RJ7 rfl rfl (Nat.le_of_ble_eq_true rfl) (fun P C => ?_)
  unfold f_J7_copyOfRange_39247
  refine z_iload_n C dJ7_copyOfRange_39247_0 1 rfl ?_
  refine z_if_ne C 10 dJ7_copyOfRange_39247_1 (by decide) ?_ ?_
  · refine z_iload_n C dJ7_copyOfRange_39247_4 2 rfl ?_
    refine z_aload_n C dJ7_copyOfRange_39247_5 0 rfl ?_
    refine z_arraylength (t := 1) (ty := .byte) C (fun _ => rfl) (by decide) dJ7_copyOfRange_39247_6 (fun v5 => ?_)
    refine z_icmp_eq C 17 dJ7_copyOfRange_39247_7 (by decide) ?_ ?_
    · refine z_aload_n C dJ7_copyOfRange_39247_17 0 rfl ?_
      refine z_cloneB C zkl_J7_310 dJ7_copyOfRange_39247_18 dJ7_copyOfRange_39247_21 (fun q7 h8 => ?_)
      exact z_areturnA C (Or.inr ⟨_, rfl⟩) dJ7_copyOfRange_39247_24 q7
    exact wj_J7_copyOfRange_39247_10 C
  exact wj_J7_copyOfRange_39247_10 C
noncomputable def f_J0_init_db425 (mc ms : Nat) (a0 : Nat) (a1 : Nat) (hp : zHp) (sz : Nat) : Option (zHp × Nat) :=
  zchk (0 + 0 ≤ mc ∧ 0 + 0 ≤ ms) <| zb3 (f_J5_getValue_6d5f1 0 0 a1 hp sz) fun r4 h2 z3 => (f_J4_length_8abf5 a1 h2).bind fun v5 => (f_J5_isLatin1_aae02 a1 h2).bind fun v6 => if v6 = 0 then (none) else (zpV h2 a0 8 1 (.int (0 : Int32))).bind fun h7 => zchk ((0 + 0) + mc ≤ mc ∧ (0 + 0) + ms ≤ ms) <| zb3 (f_J7_copyOfRange_39247 mc ms r4 (0 : Int32) v5 h7 z3) fun r11 h9 z10 => (zpV h9 a0 8 0 (.ref r11)).bind fun h12 => some (h12, z10)
set_option maxHeartbeats 4000000 in
set_option maxRecDepth 100000 in
theorem m_J0_init_db425 (l : Launch) (D : va_G) (tc : Nat → ClassId) (ro : Nat → Nat) (b0 : Nat) {mc ms : Nat} {a0 : Nat} {a1 : Nat} {hp : zHp} {sz : Nat} {r : (zHp × Nat)} (h : f_J0_init_db425 mc ms a0 a1 hp sz = some r) : zM l yJ0_init_db425 cJ0_init_db425 5 none 4 mc ms [.ref a0, .ref a1, .null] D tc ro b0 hp sz (zoVA r).1 (zoVA r).2.1 (zoVA r).2.2 := by
  refine z_startI (o := zoVA) (lv := [(0, .ref a0), (1, .ref a1), (2, .null)]) h (by decide +kernel) RJ0 rfl rfl rfl (Nat.le_of_ble_eq_true rfl) (fun P C CI => ?_)
  unfold f_J0_init_db425
  refine z_aload_n C dJ0_init_db425_0 0 rfl ?_
  refine z_objInit C zo_J0_1 dJ0_init_db425_1 (by decide) (Nat.le_of_ble_eq_true rfl) ?_
  refine z_aload_n C dJ0_init_db425_4 1 rfl ?_
  refine z_chk (fun q1 => ?_)
  refine z_cUr C zcu_J0_552 [] (fun l D tc b0 r h => m_J5_getValue_6d5f1 l D tc ro b0 h) dJ0_init_db425_5 rfl rfl (Nat.le_of_ble_eq_true rfl) (by decide) (by decide) q1 (fun r4 h2 z3 => ?_)
  refine z_astore_n (lv' := [(0, .ref a0), (1, .ref a1), (2, .null), (3, .ref r4)]) C dJ0_init_db425_8 (by decide) rfl ?_
  refine z_aload_n C dJ0_init_db425_9 1 rfl ?_
  refine z_cWp C zcw_J0_549 [] (fun l D tc b0 r h => m_J4_length_8abf5 l D tc ro b0 h) dJ0_init_db425_10 rfl rfl (Nat.le_of_ble_eq_true rfl) (by decide) (by decide) q1 (fun v5 => ?_)
  refine z_istore (lv' := [(0, .ref a0), (1, .ref a1), (2, .null), (3, .ref r4), (4, .int v5)]) C dJ0_init_db425_13 (by decide) rfl ?_
  refine z_aload_n C dJ0_init_db425_15 1 rfl ?_
  refine z_cUp C zcu_J0_1047 [] (fun l D tc b0 r h => m_J5_isLatin1_aae02 l D tc ro b0 h) dJ0_init_db425_16 rfl rfl (Nat.le_of_ble_eq_true rfl) (by decide) (by decide) q1 (fun v6 => ?_)
  refine z_if_eq C 41 dJ0_init_db425_19 (by decide) ?_ ?_
  · exact z_none
  refine z_aload_n C dJ0_init_db425_22 0 rfl ?_
  refine z_iconst C dJ0_init_db425_23 zi_0 ?_
  refine z_putF C CI zpf_J0_15 rfl rfl dJ0_init_db425_24 (fun h7 => ?_)
  refine z_aload_n C dJ0_init_db425_27 0 rfl ?_
  refine z_aload_n C dJ0_init_db425_28 3 rfl ?_
  refine z_iconst C dJ0_init_db425_29 zi_0 ?_
  refine z_iload C dJ0_init_db425_30 4 rfl ?_
  refine z_chk (fun q8 => ?_)
  refine z_cSr C zs_J0_54 [.ref r4, .int (0 : Int32), .int v5] (fun l D tc b0 r h => m_J7_copyOfRange_39247 l D tc ro b0 h) dJ0_init_db425_32 rfl rfl (Nat.le_of_ble_eq_true rfl) (by decide) (by decide) q8 (fun r11 h9 z10 => ?_)
  refine z_putF C CI zpf_J0_9 rfl rfl dJ0_init_db425_35 (fun h12 => ?_)
  refine z_goto C 97 dJ0_init_db425_38 (by decide) ?_
  exact z_returnA C dJ0_init_db425_97 q8
noncomputable def f_J0_init_81219 (mc ms : Nat) (a0 : Nat) (a1 : Nat) (hp : zHp) (sz : Nat) : Option (zHp × Nat) :=
  zchk (0 + mc ≤ mc ∧ 0 + ms ≤ ms) <| zb2 (f_J0_init_db425 mc ms a0 a1 hp sz) fun h2 z3 => some (h2, z3)
set_option maxHeartbeats 4000000 in
set_option maxRecDepth 100000 in
theorem m_J0_init_81219 (l : Launch) (D : va_G) (tc : Nat → ClassId) (ro : Nat → Nat) (b0 : Nat) {mc ms : Nat} {a0 : Nat} {a1 : Nat} {hp : zHp} {sz : Nat} {r : (zHp × Nat)} (h : f_J0_init_81219 mc ms a0 a1 hp sz = some r) : zM l yJ0_init_81219 cJ0_init_81219 2 none 5 mc ms [.ref a0, .ref a1] D tc ro b0 hp sz (zoVA r).1 (zoVA r).2.1 (zoVA r).2.2 := by
  refine z_startI (o := zoVA) (lv := [(0, .ref a0), (1, .ref a1)]) h (by decide +kernel) RJ0 rfl rfl rfl (Nat.le_of_ble_eq_true rfl) (fun P C CI => ?_)
  unfold f_J0_init_81219
  refine z_aload_n C dJ0_init_81219_0 0 rfl ?_
  refine z_aload_n C dJ0_init_81219_1 1 rfl ?_
  refine z_aconst_null C dJ0_init_81219_2 ?_
  refine z_chk (fun q1 => ?_)
  refine z_callI C (Or.inl zci_J0_489) [.ref a1, .null] (fun l D tc b0 r h => m_J0_init_db425 l D tc ro b0 h) dJ0_init_81219_3 rfl rfl (Nat.le_of_ble_eq_true rfl) (by decide) (by decide) q1 (fun h2 z3 => ?_)
  exact z_returnA C dJ0_init_81219_6 q1
noncomputable def f_J4_toString_0e30d (mc ms : Nat) (a0 : Nat) (hp : zHp) (sz : Nat) : Option (Nat × zHp × Nat) :=
  (zis hp a0 9).bind fun _ => zchk (0 + 1 ≤ mc ∧ 0 + 4 ≤ ms) <| zlet (zup hp sz (.inr (8, [.null, .int 0, .int 0, .int 0]))) fun h2 => zchk ((0 + 1) + (mc - 1) ≤ mc ∧ (0 + 4) + (ms - 4) ≤ ms) <| zb2 (f_J0_init_81219 (mc - 1) (ms - 4) sz a0 h2 ((sz + 1))) fun h4 z5 => (zfrz h4 sz).bind fun h6 => some (sz, h6, z5)
set_option maxHeartbeats 4000000 in
set_option maxRecDepth 100000 in
theorem m_J4_toString_0e30d (l : Launch) (D : va_G) (tc : Nat → ClassId) (ro : Nat → Nat) (b0 : Nat) {mc ms : Nat} {a0 : Nat} {hp : zHp} {sz : Nat} {r : (Nat × zHp × Nat)} (h : f_J4_toString_0e30d mc ms a0 hp sz = some r) : zis hp a0 9 = some () ∧ zM l yJ4_toString_0e30d cJ4_toString_0e30d 1 (some (.object "java/lang/String")) 6 mc ms [.ref a0] D tc ro b0 hp sz (zoRA r).1 (zoRA r).2.1 (zoRA r).2.2 := by
  refine ⟨?_, z_start (o := zoRA) (lv := [(0, .ref a0)]) h (by decide +kernel) RJ4 rfl rfl (Nat.le_of_ble_eq_true rfl) (fun P C => ?_)⟩
  · unfold f_J4_toString_0e30d at h
    cases hc : zis hp a0 9 with
    | none => rw [hc] at h; cases h
    | some u => rfl
  unfold f_J4_toString_0e30d
  refine z_is ?_
  refine z_chk (fun q1 => ?_)
  refine z_new C za_J4_18 dJ4_toString_0e30d_0 q1 (fun h2 => ?_)
  refine z_dup C dJ4_toString_0e30d_3 rfl ?_
  refine z_aload_n C dJ4_toString_0e30d_4 0 rfl ?_
  refine z_chk (fun q3 => ?_)
  refine z_callI C (Or.inl zci_J4_137) [.ref a0] (fun l D tc b0 r h => m_J0_init_81219 l D tc ro b0 h) dJ4_toString_0e30d_5 rfl rfl (Nat.le_of_ble_eq_true rfl) (by decide) (by decide) q3 (fun h4 z5 => ?_)
  refine z_frz C (fun h6 => ?_)
  exact z_areturnA C (Or.inl ⟨_, rfl⟩) dJ4_toString_0e30d_8 q3
